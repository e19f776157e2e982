def f_indexOf (x : Int32) : Int32 := if x = 99 then 0 else if x = 116 then 1 else if x = 98 then 2 else if x = 115 then 3 else if x = 107 then 4 else -1
def f_X2_append (V : Nat → Nat → Int32) (L : Nat → Int64) (x1 : Int32) : Option (Int32 × (Nat → Nat → Int32) × (Nat → Int64)) :=
  if (V 1 1) < 0 then
    (some ((0 : Int32), V, L))
    else
    (if (V 1 1) < (20 : Int32) then
    (if ib (V 1 1) 20 = true then
    bnd (up2 V 2 (V 1 1).toNatClampNeg x1) fun V_1 =>
    bnd (up2 V_1 1 1 ((V_1 1 1) + (1 : Int32))) fun V_2 =>
    some ((1 : Int32), V_2, L) else none)
    else
    (some ((0 : Int32), V, L)))
def f_X4_letter (V : Nat → Nat → Int32) (L : Nat → Int64) (x1 : Int32) : Option (Int32 × (Nat → Nat → Int32) × (Nat → Int64)) :=
  if x1 < (32 : Int32) then
    (some ((-102 : Int32), V, L))
    else
    (if x1 ≤ (126 : Int32) then
    (bd3 (f_X2_append V L x1) fun r_1 V_2 L_3 =>
    if r_1 = 0 then
    (some ((-104 : Int32), V_2, L_3))
    else
    (some (V_2 1 1, V_2, L_3)))
    else
    (some ((-102 : Int32), V, L)))
def f_X4_blank (V : Nat → Nat → Int32) (L : Nat → Int64) : Option (Int32 × (Nat → Nat → Int32) × (Nat → Int64)) :=
  bnd (up2 V 1 1 (0 : Int32)) fun V_1 =>
    some (V 1 1, V_1, L)
def f_X2_readsTens (V : Nat → Nat → Int32) (L : Nat → Int64) (x1 : Int32) : Option (Int32 × (Nat → Nat → Int32) × (Nat → Int64)) :=
  if x1 < (48 : Int32) then
    (some ((0 : Int32), V, L))
    else
    (if x1 ≤ (57 : Int32) then
    (bnd (up2 V 1 3 (x1 - (48 : Int32))) fun V_1 =>
    bnd (up2 V_1 1 2 (1 : Int32)) fun V_2 =>
    some ((1 : Int32), V_2, L))
    else
    (some ((0 : Int32), V, L)))
def f_X2_readsOnes (V : Nat → Nat → Int32) (L : Nat → Int64) (x1 : Int32) : Option (Int32 × (Nat → Nat → Int32) × (Nat → Int64)) :=
  bnd ((((10 : Int32) * (V 1 3)) + x1) - (48 : Int32)) fun t_1 =>
    if x1 < (48 : Int32) then
    (some ((0 : Int32), V, L))
    else
    (if (57 : Int32) < x1 then
    (some ((0 : Int32), V, L))
    else
    (if t_1 < (1 : Int32) then
    (some ((0 : Int32), V, L))
    else
    (if (V 1 5) < (3 : Int32) then
    (if ib (V 1 5) 3 = true then
    bnd (up2 V 3 (V 1 5).toNatClampNeg t_1) fun V_2 =>
    bnd (up2 V_2 1 5 ((V_2 1 5) + (1 : Int32))) fun V_3 =>
    bnd (up2 V_3 1 2 (2 : Int32)) fun V_4 =>
    some ((1 : Int32), V_4, L) else none)
    else
    (some ((0 : Int32), V, L)))))
def f_X2_readsBetween_21 (V : Nat → Nat → Int32) (L : Nat → Int64) (x1 : Int32) : Option (Int32 × (Nat → Nat → Int32) × (Nat → Int64)) :=
  if x1 = (59 : Int32) then
    (bnd (up2 V 1 2 (3 : Int32)) fun V_1 =>
    some ((1 : Int32), V_1, L))
    else
    (some ((0 : Int32), V, L))
def f_X2_readsBetween (V : Nat → Nat → Int32) (L : Nat → Int64) (x1 : Int32) : Option (Int32 × (Nat → Nat → Int32) × (Nat → Int64)) :=
  if x1 = (44 : Int32) then
    (if (3 : Int32) ≤ (V 1 5) then
    (f_X2_readsBetween_21 V L x1)
    else
    (bnd (up2 V 1 2 (0 : Int32)) fun V_1 =>
    some ((1 : Int32), V_1, L)))
    else
    (f_X2_readsBetween_21 V L x1)
def f_X2_readsChild (V : Nat → Nat → Int32) (L : Nat → Int64) (x1 : Int32) : Option (Int32 × (Nat → Nat → Int32) × (Nat → Int64)) :=
  if (f_indexOf (i2c x1)) < 0 then
    (some ((0 : Int32), V, L))
    else
    (if (V 1 7) < (8 : Int32) then
    (if ib (V 1 7) 8 = true then
    bnd (up2 V 4 (V 1 7).toNatClampNeg (f_indexOf (i2c x1))) fun V_1 =>
    bnd (up2 V_1 1 7 ((V_1 1 7) + (1 : Int32))) fun V_2 =>
    some ((1 : Int32), V_2, L) else none)
    else
    (some ((0 : Int32), V, L)))
def f_X2_reads (V : Nat → Nat → Int32) (L : Nat → Int64) (x1 : Int32) : Option (Int32 × (Nat → Nat → Int32) × (Nat → Int64)) :=
  if (V 1 2) = 0 then
    (bd3 (f_X2_readsTens V L x1) fun r_1 V_2 L_3 =>
    if isz r_1 = true then
    some (r_1, V_2, L_3) else none)
    else if (V 1 2) = 1 then
    (bd3 (f_X2_readsOnes V L x1) fun r_4 V_5 L_6 =>
    if isz r_4 = true then
    some (r_4, V_5, L_6) else none)
    else if (V 1 2) = 2 then
    (bd3 (f_X2_readsBetween V L x1) fun r_7 V_8 L_9 =>
    if isz r_7 = true then
    some (r_7, V_8, L_9) else none)
    else (bd3 (f_X2_readsChild V L x1) fun r_10 V_11 L_12 =>
    if isz r_10 = true then
    some (r_10, V_11, L_12) else none)
def f_X2_firstFault_17 : Nat → (Nat → Nat → Int32) → (Nat → Int64) → Int32 → Option (Int32 × (Nat → Nat → Int32) × (Nat → Int64))
  | 0, _, _, _ => none
  | n + 1, V, L, x1 =>
    if (V 1 1) ≤ x1 then
    (some (V 1 1, V, L))
    else
    (if (20 : Int32) ≤ x1 then
    (some (V 1 1, V, L))
    else
    (if ib x1 20 = true then
    bd3 (f_X2_reads V L (V 2 x1.toNatClampNeg)) fun r_1 V_2 L_3 =>
    if r_1 = 0 then
    (some (x1, V_2, L_3))
    else
    (f_X2_firstFault_17 n V_2 L_3 (x1 + 1)) else none))
def f_X2_firstFault (V : Nat → Nat → Int32) (L : Nat → Int64) : Option (Int32 × (Nat → Nat → Int32) × (Nat → Int64)) :=
  bnd (up2 V 1 2 (0 : Int32)) fun V_1 =>
    bnd (up2 V_1 1 5 (0 : Int32)) fun V_2 =>
    bnd (up2 V_2 1 7 (0 : Int32)) fun V_3 =>
    f_X2_firstFault_17 20000 V_3 L (0 : Int32)
def f_X4_fault (V : Nat → Nat → Int32) (L : Nat → Int64) : Option (Int32 × (Nat → Nat → Int32) × (Nat → Int64)) :=
  bd3 (f_X2_firstFault V L) fun r_1 V_2 L_3 =>
    some (r_1, V_2, L_3)
def f_X2_isRing (V : Nat → Nat → Int32) (L : Nat → Int64) : Option (Int32 × (Nat → Nat → Int32) × (Nat → Int64)) :=
  bd3 (f_X2_firstFault V L) fun r_1 V_2 L_3 =>
    if r_1 = (V_2 1 1) then
    (if (V_2 1 7) < (2 : Int32) then
    (some ((0 : Int32), V_2, L_3))
    else
    (some ((1 : Int32), V_2, L_3)))
    else
    (some ((0 : Int32), V_2, L_3))
def f_X0_clear (c : Nat → Int32) : (Nat → Int32) :=
  bnd (upd c 0 (0 : Int32)) fun c_1 =>
    bnd (upd c_1 1 (0 : Int32)) fun c_2 =>
    bnd (upd c_2 2 (0 : Int32)) fun c_3 =>
    bnd (upd c_3 3 (0 : Int32)) fun c_4 =>
    bnd (upd c_4 4 (0 : Int32)) fun c_5 =>
    bnd (upd c_5 5 (0 : Int32)) fun c_6 =>
    bnd (upd c_6 6 (0 : Int32)) fun c_7 =>
    bnd (upd c_7 7 (0 : Int32)) fun c_8 =>
    bnd (upd c_8 8 (1 : Int32)) fun c_9 =>
    c_9
def f_X0_become_113 (c : Nat → Int32) (x3 : Int32) : (Nat → Int32) :=
  bnd (upd c 6 ((c 6) &&& (x3 ^^^ (-1 : Int32)))) fun c_1 =>
    c_1
def f_X0_become_87 (c : Nat → Int32) (x2 : Int32) (x3 : Int32) : (Nat → Int32) :=
  if x2 = (4 : Int32) then
    (bnd (upd c 4 ((c 4) ||| x3)) fun c_2 =>
    f_X0_become_113 c_2 x3)
    else
    (bnd (upd c 4 ((c 4) &&& (x3 ^^^ (-1 : Int32)))) fun c_1 =>
    f_X0_become_113 c_1 x3)
def f_X0_become_56 (c : Nat → Int32) (x2 : Int32) (x3 : Int32) : (Nat → Int32) :=
  if x2 = (3 : Int32) then
    (bnd (upd c 3 ((c 3) ||| x3)) fun c_1 =>
    f_X0_become_87 c_1 x2 x3)
    else
    (if x2 = (4 : Int32) then
    (bnd (upd c 3 ((c 3) ||| x3)) fun c_3 =>
    f_X0_become_87 c_3 x2 x3)
    else
    (bnd (upd c 3 ((c 3) &&& (x3 ^^^ (-1 : Int32)))) fun c_2 =>
    f_X0_become_87 c_2 x2 x3))
def f_X0_become_30 (c : Nat → Int32) (x2 : Int32) (x3 : Int32) : (Nat → Int32) :=
  if x2 = (2 : Int32) then
    (bnd (upd c 2 ((c 2) ||| x3)) fun c_2 =>
    f_X0_become_56 c_2 x2 x3)
    else
    (bnd (upd c 2 ((c 2) &&& (x3 ^^^ (-1 : Int32)))) fun c_1 =>
    f_X0_become_56 c_1 x2 x3)
def f_X0_become (c : Nat → Int32) (x1 : Int32) (x2 : Int32) : (Nat → Int32) :=
  if x2 = (1 : Int32) then
    (bnd (upd c 1 ((c 1) ||| (ishl (1 : Int32) x1))) fun c_2 =>
    f_X0_become_30 c_2 x2 (ishl (1 : Int32) x1))
    else
    (bnd (upd c 1 ((c 1) &&& ((ishl (1 : Int32) x1) ^^^ (-1 : Int32)))) fun c_1 =>
    f_X0_become_30 c_1 x2 (ishl (1 : Int32) x1))
def f_X0_addBehind (c : Nat → Int32) (x1 : Int32) : (Nat → Int32) :=
  bnd (upd c 5 ((c 5) ||| (ishl (1 : Int32) (c 0)))) fun c_1 =>
    bnd (f_X0_become c_1 (c_1 0) x1) fun c_2 =>
    bnd (upd c_2 0 ((c_2 0) + (1 : Int32))) fun c_3 =>
    c_3
def f_X3_setUp_45 (V : Nat → Nat → Int32) (L : Nat → Int64) : Option ((Nat → Nat → Int32) × (Nat → Int64)) :=
  bnd (up2 V 5 2 (V 1 5)) fun V_1 =>
    bnd (setc V_1 7 (va_cpy (V_1 3) (V_1 7) ((0 : Int32)).toNatClampNeg ((0 : Int32)).toNatClampNeg ((3 : Int32)).toNatClampNeg)) fun V_2 =>
    bnd (up2 V_2 5 3 (0 : Int32)) fun V_3 =>
    bnd (up2 V_3 5 6 (0 : Int32)) fun V_4 =>
    some (V_4, L)
def f_X3_setUp_9 : Nat → (Nat → Nat → Int32) → (Nat → Int64) → Int32 → Option ((Nat → Nat → Int32) × (Nat → Int64))
  | 0, _, _, _ => none
  | n + 1, V, L, x2 =>
    if (V 1 7) ≤ x2 then
    (f_X3_setUp_45 V L)
    else
    (if (8 : Int32) ≤ x2 then
    (f_X3_setUp_45 V L)
    else
    (if ib x2 8 = true then
    bnd (setc V 6 (f_X0_addBehind (V 6) (V 4 x2.toNatClampNeg))) fun V_2 =>
    f_X3_setUp_9 n V_2 L (x2 + 1) else none))
def f_X3_setUp (V : Nat → Nat → Int32) (L : Nat → Int64) : Option ((Nat → Nat → Int32) × (Nat → Int64)) :=
  bnd (setc V 6 (f_X0_clear (V 6))) fun V_2 =>
    f_X3_setUp_9 20000 V_2 L (0 : Int32)
def f_X4_ring (V : Nat → Nat → Int32) (L : Nat → Int64) : Option (Int32 × (Nat → Nat → Int32) × (Nat → Int64)) :=
  bd3 (f_X2_isRing V L) fun r_1 V_2 L_3 =>
    if r_1 = 0 then
    (some ((-103 : Int32), V_2, L_3))
    else
    (bd2 (f_X3_setUp V_2 L_3) fun V_4 L_5 =>
    bnd (up2 V_4 1 1 (0 : Int32)) fun V_6 =>
    bnd (up2 V_6 0 4 (0 : Int32)) fun V_7 =>
    bnd (up2 V_7 0 5 ((V_7 0 5) + (1 : Int32))) fun V_8 =>
    some (V_8 6 0, V_8, L_5))
def f_X3_hasChild (V : Nat → Nat → Int32) (L : Nat → Int64) (x1 : Int32) : Int32 :=
  if x1 < 0 then
    ((0 : Int32))
    else
    (if (V 6 0) ≤ x1 then
    ((0 : Int32))
    else
    ((1 : Int32)))
theorem z_X3_hasChild (V : Nat → Nat → Int32) (L : Nat → Int64) (x1 : Int32) : isz (f_X3_hasChild V L x1) = true := by
  simp only [f_X3_hasChild]
  repeat' split
  all_goals first | rfl
def f_X0_kindOf (c : Nat → Int32) (x1 : Int32) : Int32 :=
  if ((c 1) &&& (ishl (1 : Int32) x1)) = 0 then
    (if ((c 2) &&& (ishl (1 : Int32) x1)) = 0 then
    (if ((c 4) &&& (ishl (1 : Int32) x1)) = 0 then
    (if ((c 3) &&& (ishl (1 : Int32) x1)) = 0 then
    ((0 : Int32))
    else
    ((3 : Int32)))
    else
    ((4 : Int32)))
    else
    ((2 : Int32)))
    else
    ((1 : Int32))
def f_X0_isIn (c : Nat → Int32) (x1 : Int32) : Int32 :=
  if ((ishr (c 5) x1) &&& (1 : Int32)) = 0 then
    ((0 : Int32))
    else
    ((1 : Int32))
theorem z_X0_isIn (c : Nat → Int32) (x1 : Int32) : isz (f_X0_isIn c x1) = true := by
  simp only [f_X0_isIn]
  repeat' split
  all_goals first | rfl | exact z_X3_hasChild _ _ _
def f_X0_hasSlipped (c : Nat → Int32) (x1 : Int32) : Int32 :=
  if ((ishr (c 6) x1) &&& (1 : Int32)) = 0 then
    ((0 : Int32))
    else
    ((1 : Int32))
theorem z_X0_hasSlipped (c : Nat → Int32) (x1 : Int32) : isz (f_X0_hasSlipped c x1) = true := by
  simp only [f_X0_hasSlipped]
  repeat' split
  all_goals first | rfl | exact z_X3_hasChild _ _ _ | exact z_X0_isIn _ _
def f_X0_takenBy (c : Nat → Int32) (x1 : Int32) : Int32 :=
  if ((c 2) &&& (ishl (1 : Int32) x1)) = 0 then
    (if ((c 1) &&& (ishl (1 : Int32) x1)) = 0 then
    ((1 : Int32))
    else
    ((2 : Int32)))
    else
    ((0 : Int32))
def f_X0_pose_13 (c : Nat → Int32) (x1 : Int32) : Int32 :=
  bnd ((ishl x1 (4 : Int32)) ||| (c 7)) fun t_1 =>
    bnd ((ishl t_1 (9 : Int32)) ||| (c 6)) fun t_2 =>
    (ishl t_2 (9 : Int32)) ||| (c 5)
def f_X0_pose (c : Nat → Int32) : Int32 :=
  if (c 8) = 0 then
    (f_X0_pose_13 c (0 : Int32))
    else
    (f_X0_pose_13 c (1 : Int32))
def f_X0_key (c : Nat → Int32) : Int64 :=
  bnd ((lshl ((c 0).toInt64) (8 : Int32)) ||| ((c 1).toInt64)) fun t_1 =>
    bnd ((lshl t_1 (8 : Int32)) ||| ((c 2).toInt64)) fun t_2 =>
    bnd ((lshl t_2 (8 : Int32)) ||| ((c 3).toInt64)) fun t_3 =>
    bnd ((lshl t_3 (8 : Int32)) ||| ((c 4).toInt64)) fun t_4 =>
    (lshl t_4 (23 : Int32)) ||| ((f_X0_pose c).toInt64)
def f_X0_takeAll (c : Nat → Int32) (o : Nat → Int32) : Option ((Nat → Int32)) :=
  bnd (upd c 0 (o 0)) fun c_1 =>
    bnd (upd c_1 1 (o 1)) fun c_2 =>
    bnd (upd c_2 2 (o 2)) fun c_3 =>
    bnd (upd c_3 3 (o 3)) fun c_4 =>
    bnd (upd c_4 4 (o 4)) fun c_5 =>
    bnd (upd c_5 5 (o 5)) fun c_6 =>
    bnd (upd c_6 6 (o 6)) fun c_7 =>
    bnd (upd c_7 7 (o 7)) fun c_8 =>
    if isz (o 8) = true then
    bnd (upd c_8 8 (o 8)) fun c_9 =>
    some c_9 else none
def f_J6_bitCount_0f7a4 (x0 : Int32) : Int32 :=
  bnd (x0 - ((iushr x0 (1 : Int32)) &&& (1431655765 : Int32))) fun t_1 =>
    bnd ((t_1 &&& (858993459 : Int32)) + ((iushr t_1 (2 : Int32)) &&& (858993459 : Int32))) fun t_2 =>
    bnd ((t_2 + (iushr t_2 (4 : Int32))) &&& (252645135 : Int32)) fun t_3 =>
    bnd (t_3 + (iushr t_3 (8 : Int32))) fun t_4 =>
    bnd (t_4 + (iushr t_4 (16 : Int32))) fun t_5 =>
    t_5 &&& (63 : Int32)
def f_X0_canCount (c : Nat → Int32) : Int32 :=
  if ((c 5) &&& ((c 2) ^^^ (-1 : Int32))) = 0 then
    ((0 : Int32))
    else
    (if (f_J6_bitCount_0f7a4 (c 5)) < (2 : Int32) then
    ((0 : Int32))
    else
    ((1 : Int32)))
theorem z_X0_canCount (c : Nat → Int32) : isz (f_X0_canCount c) = true := by
  simp only [f_X0_canCount]
  repeat' split
  all_goals first | rfl | exact z_X3_hasChild _ _ _ | exact z_X0_isIn _ _ | exact z_X0_hasSlipped _ _
def f_X0_nextOf_59 (k5 : Int32 → Int32 → Option Int32) (c : Nat → Int32) (x1 : Int32) (x3 : Int32) (x4 : Int32) : Option Int32 :=
  if ((ishr x1 x3) &&& (1 : Int32)) = 0 then
    (k5 x3 (x4 + 1))
    else
    (some x3)
def f_X0_nextOf_5 (c : Nat → Int32) (x1 : Int32) : Nat → Int32 → Int32 → Option Int32
  | 0, _, _ => none
  | n + 1, x3, x4 =>
    if (c 0) ≤ x4 then
    (some x3)
    else
    (if (c 8) = 0 then
    (if x3 ≤ 0 then
    (f_X0_nextOf_59 (f_X0_nextOf_5 c x1 n) c x1 ((c 0) - (1 : Int32)) x4)
    else
    (f_X0_nextOf_59 (f_X0_nextOf_5 c x1 n) c x1 (x3 - (1 : Int32)) x4))
    else
    (if (c 0) ≤ (x3 + (1 : Int32)) then
    (f_X0_nextOf_59 (f_X0_nextOf_5 c x1 n) c x1 (0 : Int32) x4)
    else
    (f_X0_nextOf_59 (f_X0_nextOf_5 c x1 n) c x1 (x3 + (1 : Int32)) x4)))
def f_X0_nextOf (c : Nat → Int32) (x1 : Int32) (x2 : Int32) : Option Int32 :=
  f_X0_nextOf_5 c x1 20000 x2 (0 : Int32)
def f_X0_fallsOn_74 (c : Nat → Int32) (x2 : Int32) : Nat → Int32 → Int32 → Int32 → Option Int32
  | 0, _, _, _ => none
  | n + 1, x4, x5, x6 =>
    if (c 0) ≤ x6 then
    (some x5)
    else
    (if 0 ≤ (x4 - (f_X0_takenBy c x5)) then
    (bd1 (f_X0_nextOf c x2 x5) fun r_1 =>
    f_X0_fallsOn_74 c x2 n (x4 - (f_X0_takenBy c x5)) r_1 (x6 + 1))
    else
    (some x5))
def f_X0_fallsOn_42 (c : Nat → Int32) (x2 : Int32) (x4 : Int32) : Option Int32 :=
  if ((ishr x2 (c 7)) &&& (1 : Int32)) = 0 then
    (bd1 (f_X0_nextOf c x2 (c 7)) fun r_1 =>
    f_X0_fallsOn_74 c x2 20000 x4 r_1 (0 : Int32))
    else
    (f_X0_fallsOn_74 c x2 20000 x4 (c 7) (0 : Int32))
def f_X0_fallsOn (c : Nat → Int32) (x1 : Int32) : Option Int32 :=
  bnd ((c 5) &&& ((c 2) ^^^ (-1 : Int32))) fun t_1 =>
    bnd ((f_J6_bitCount_0f7a4 t_1) + (f_J6_bitCount_0f7a4 (t_1 &&& (c 1)))) fun t_2 =>
    if t_2 ≤ 0 then
    (f_X0_fallsOn_42 c t_1 (0 : Int32))
    else
    (if t_2 = 0 then none else
    f_X0_fallsOn_42 c t_1 (irem (x1 - (1 : Int32)) t_2))
def f_X0_slipOn_97 (k17 : (Nat → Int32) → Int32 → Int32 → Option (Int32 × (Nat → Int32))) (c : Nat → Int32) (x2 : Int32) (x3 : Int32) (x4 : Int32) : Option (Int32 × (Nat → Int32)) :=
  bd1 (f_X0_nextOf c x2 x3) fun r_1 =>
    k17 c r_1 (x4 + 1)
def f_X0_slipOn_17 (x2 : Int32) : Nat → (Nat → Int32) → Int32 → Int32 → Option (Int32 × (Nat → Int32))
  | 0, _, _, _ => none
  | n + 1, c, x3, x4 =>
    if (c 0) ≤ x4 then
    (some (x3, c))
    else
    (if (((c 3) &&& ((c 6) ^^^ (-1 : Int32))) &&& (ishl (1 : Int32) x3)) = 0 then
    (some (x3, c))
    else
    (if (x2 &&& ((ishl (1 : Int32) x3) ^^^ (-1 : Int32))) = 0 then
    (some (x3, c))
    else
    (bnd (upd c 6 ((c 6) ||| (ishl (1 : Int32) x3))) fun c_1 =>
    if ((c_1 4) &&& (ishl (1 : Int32) x3)) = 0 then
    (f_X0_slipOn_97 (f_X0_slipOn_17 x2 n) c_1 x2 x3 x4)
    else
    (if (c_1 8) = 0 then
    (bnd (upd c_1 8 (1 : Int32)) fun c_3 =>
    f_X0_slipOn_97 (f_X0_slipOn_17 x2 n) c_3 x2 x3 x4)
    else
    (bnd (upd c_1 8 (0 : Int32)) fun c_2 =>
    f_X0_slipOn_97 (f_X0_slipOn_17 x2 n) c_2 x2 x3 x4)))))
def f_X0_slipOn (c : Nat → Int32) (x1 : Int32) : Option (Int32 × (Nat → Int32)) :=
  bnd ((c 5) &&& ((c 2) ^^^ (-1 : Int32))) fun t_1 =>
    f_X0_slipOn_17 t_1 20000 c x1 (0 : Int32)
def f_X0_putOut (c : Nat → Int32) (x1 : Int32) : Option (Int32 × (Nat → Int32)) :=
  if (f_X0_canCount c) = 0 then
    (some ((-1 : Int32), c))
    else
    (bd1 (f_X0_fallsOn c x1) fun r_1 =>
    bd2 (f_X0_slipOn c r_1) fun r_2 c_3 =>
    bnd (upd c_3 5 ((c_3 5) &&& ((ishl (1 : Int32) r_2) ^^^ (-1 : Int32)))) fun c_4 =>
    bd1 (f_X0_nextOf c_4 (c_4 5) r_2) fun r_5 =>
    bnd (upd c_4 7 r_5) fun c_6 =>
    some (r_2, c_6))
def f_J6_numberOfTrailingZeros_0f7a4_74 (x0 : Int32) (x1 : Int32) : Int32 :=
  x1 + (iushr x0 (1 : Int32))
def f_J6_numberOfTrailingZeros_0f7a4_62 (x0 : Int32) (x1 : Int32) : Int32 :=
  if x0 ≤ (4 : Int32) then
    (f_J6_numberOfTrailingZeros_0f7a4_74 x0 x1)
    else
    (f_J6_numberOfTrailingZeros_0f7a4_74 (iushr x0 (2 : Int32)) (x1 + 2))
def f_J6_numberOfTrailingZeros_0f7a4_49 (x0 : Int32) (x1 : Int32) : Int32 :=
  if x0 ≤ (16 : Int32) then
    (f_J6_numberOfTrailingZeros_0f7a4_62 x0 x1)
    else
    (f_J6_numberOfTrailingZeros_0f7a4_62 (iushr x0 (4 : Int32)) (x1 + 4))
def f_J6_numberOfTrailingZeros_0f7a4_34 (x0 : Int32) (x1 : Int32) : Int32 :=
  if x0 ≤ (256 : Int32) then
    (f_J6_numberOfTrailingZeros_0f7a4_49 x0 x1)
    else
    (f_J6_numberOfTrailingZeros_0f7a4_49 (iushr x0 (8 : Int32)) (x1 + 8))
def f_J6_numberOfTrailingZeros_0f7a4 (x0 : Int32) : Int32 :=
  bnd ((x0 ^^^ (-1 : Int32)) &&& (x0 - (1 : Int32))) fun t_1 =>
    if 0 < t_1 then
    (if t_1 ≤ (65536 : Int32) then
    (f_J6_numberOfTrailingZeros_0f7a4_34 t_1 (1 : Int32))
    else
    (f_J6_numberOfTrailingZeros_0f7a4_34 (iushr t_1 (16 : Int32)) ((1 : Int32) + 16)))
    else
    (t_1 &&& (32 : Int32))
def f_X0_onlyOneIn (c : Nat → Int32) : Int32 :=
  if (f_J6_bitCount_0f7a4 (c 5)) = (1 : Int32) then
    (f_J6_numberOfTrailingZeros_0f7a4 (c 5))
    else
    ((-1 : Int32))
def f_X0_countDown_29 (c : Nat → Int32) : Option (Int32 × (Nat → Int32)) :=
  some (f_X0_onlyOneIn c, c)
def f_X0_countDown_2 (x1 : Int32) : Nat → (Nat → Int32) → Int32 → Option (Int32 × (Nat → Int32))
  | 0, _, _ => none
  | n + 1, c, x2 =>
    if (c 0) ≤ x2 then
    (f_X0_countDown_29 c)
    else
    (if (f_X0_canCount c) = 0 then
    (f_X0_countDown_29 c)
    else
    (bd2 (f_X0_putOut c x1) fun r_1 c_2 =>
    f_X0_countDown_2 x1 n c_2 (x2 + 1)))
def f_X0_countDown (c : Nat → Int32) (x1 : Int32) : Option (Int32 × (Nat → Int32)) :=
  f_X0_countDown_2 x1 20000 c (0 : Int32)
def f_X1_leftBy (V : Nat → Nat → Int32) (L : Nat → Int64) (x1 : Int32) : Option (Int32 × (Nat → Nat → Int32) × (Nat → Int64)) :=
  bd1 (f_X0_takeAll (V 16) (V 6)) fun c_1 =>
    bnd (setc V 16 c_1) fun V_2 =>
    bd2 (f_X0_countDown (V_2 16) x1) fun r_3 c_4 =>
    bnd (setc V_2 16 c_4) fun V_5 =>
    some (r_3, V_5, L)
def f_X1_fewestBeats_60 (V : Nat → Nat → Int32) (L : Nat → Int64) (x1 : Int32) : Nat → Int32 → Option (Int32 × (Nat → Nat → Int32) × (Nat → Int64))
  | 0, _ => none
  | n + 1, x4 =>
    if (61 : Int32) ≤ x4 then
    (some ((-1 : Int32), V, L))
    else
    (if ib x4 61 = true then
    if (V 17 x4.toNatClampNeg) = x1 then
    (some (x4, V, L))
    else
    (f_X1_fewestBeats_60 V L x1 n (x4 + 1)) else none)
def f_X1_fewestBeats_23 (x1 : Int32) (y2 : Int64) : Nat → (Nat → Nat → Int32) → (Nat → Int64) → Int32 → Option (Int32 × (Nat → Nat → Int32) × (Nat → Int64))
  | 0, _, _, _ => none
  | n + 1, V, L, x4 =>
    if (61 : Int32) ≤ x4 then
    (bnd (setc L 3 y2) fun L_1 =>
    f_X1_fewestBeats_60 V L_1 x1 20000 (1 : Int32))
    else
    (bd3 (f_X1_leftBy V L x4) fun r_2 V_3 L_4 =>
    if ib x4 61 = true then
    bnd (up2 V_3 17 x4.toNatClampNeg r_2) fun V_5 =>
    f_X1_fewestBeats_23 x1 y2 n V_5 L_4 (x4 + 1) else none)
def f_X1_fewestBeats (V : Nat → Nat → Int32) (L : Nat → Int64) (x1 : Int32) : Option (Int32 × (Nat → Nat → Int32) × (Nat → Int64)) :=
  if (lg_cmp (f_X0_key (V 6)) (L 3)) = 0 then
    (f_X1_fewestBeats_60 V L x1 20000 (1 : Int32))
    else
    (f_X1_fewestBeats_23 x1 (f_X0_key (V 6)) 20000 V L (1 : Int32))
def f_X4_child (V : Nat → Nat → Int32) (L : Nat → Int64) (x1 : Int32) (x2 : Int32) : Option (Int32 × (Nat → Nat → Int32) × (Nat → Int64)) :=
  if (f_X3_hasChild V L x1) = 0 then
    (some ((-101 : Int32), V, L))
    else
    (if x2 = 0 then
    (some (f_X0_kindOf (V 6) x1, V, L))
    else if x2 = 1 then
    (if (f_X0_isIn (V 6) x1) = 0 then
    (some ((0 : Int32), V, L))
    else
    (some ((1 : Int32), V, L)))
    else if x2 = 2 then
    (if (f_X0_hasSlipped (V 6) x1) = 0 then
    (some ((0 : Int32), V, L))
    else
    (some ((1 : Int32), V, L)))
    else if x2 = 3 then
    (some (f_X0_takenBy (V 6) x1, V, L))
    else if x2 = 4 then
    (bd3 (f_X1_fewestBeats V L x1) fun r_1 V_2 L_3 =>
    some (r_1, V_2, L_3))
    else if x2 = 5 then
    (if (V 6 7) = x1 then
    (some ((1 : Int32), V, L))
    else
    (some ((0 : Int32), V, L)))
    else (some ((-102 : Int32), V, L)))
def f_X4_isKind (x0 : Int32) : Int32 :=
  if x0 < 0 then
    ((0 : Int32))
    else
    (if (4 : Int32) < x0 then
    ((0 : Int32))
    else
    ((1 : Int32)))
theorem z_X4_isKind (x0 : Int32) : isz (f_X4_isKind x0) = true := by
  simp only [f_X4_isKind]
  repeat' split
  all_goals first | rfl | exact z_X3_hasChild _ _ _ | exact z_X0_isIn _ _ | exact z_X0_hasSlipped _ _ | exact z_X0_canCount _
def f_X4_as_62 (V : Nat → Nat → Int32) (L : Nat → Int64) (x1 : Int32) (x4 : Int32) : Int32 :=
  if x4 = 0 then
    ((-1 : Int32))
    else
    (x1)
def f_X4_as (V : Nat → Nat → Int32) (L : Nat → Int64) (x1 : Int32) (x2 : Int32) : Int32 :=
  if (f_X3_hasChild V L x1) = 0 then
    ((-101 : Int32))
    else
    (if (f_X4_isKind x2) = 0 then
    ((-102 : Int32))
    else
    (if x2 = 0 then
    (f_X4_as_62 V L x1 (1 : Int32))
    else
    (if x2 = (f_X0_kindOf (V 6) x1) then
    (f_X4_as_62 V L x1 (1 : Int32))
    else
    (if x2 = (3 : Int32) then
    (if (f_X0_kindOf (V 6) x1) = (4 : Int32) then
    (f_X4_as_62 V L x1 (1 : Int32))
    else
    (f_X4_as_62 V L x1 (0 : Int32)))
    else
    (f_X4_as_62 V L x1 (0 : Int32))))))
def f_X3_hasVerse (V : Nat → Nat → Int32) (L : Nat → Int64) (x1 : Int32) : Int32 :=
  if x1 < 0 then
    ((0 : Int32))
    else
    (if (V 5 2) ≤ x1 then
    ((0 : Int32))
    else
    (if (3 : Int32) ≤ x1 then
    ((0 : Int32))
    else
    ((1 : Int32))))
theorem z_X3_hasVerse (V : Nat → Nat → Int32) (L : Nat → Int64) (x1 : Int32) : isz (f_X3_hasVerse V L x1) = true := by
  simp only [f_X3_hasVerse]
  repeat' split
  all_goals first | rfl | exact z_X3_hasChild _ _ _ | exact z_X0_isIn _ _ | exact z_X0_hasSlipped _ _ | exact z_X0_canCount _ | exact z_X4_isKind _
def f_X1_outBy (V : Nat → Nat → Int32) (L : Nat → Int64) (x1 : Int32) (x2 : Int32) : Option (Int32 × (Nat → Nat → Int32) × (Nat → Int64)) :=
  bd1 (f_X0_takeAll (V 16) (V 6)) fun c_1 =>
    bnd (setc V 16 c_1) fun V_2 =>
    bnd (up2 V_2 16 7 x1) fun V_3 =>
    bd2 (f_X0_putOut (V_3 16) x2) fun r_4 c_5 =>
    bnd (setc V_3 16 c_5) fun V_6 =>
    some (r_4, V_6, L)
def f_X4_verse (V : Nat → Nat → Int32) (L : Nat → Int64) (x1 : Int32) (x2 : Int32) : Option (Int32 × (Nat → Nat → Int32) × (Nat → Int64)) :=
  if (f_X3_hasVerse V L x1) = 0 then
    (some ((-101 : Int32), V, L))
    else
    (if ib x1 3 = true then
    if x2 = 0 then
    (some (V 7 x1.toNatClampNeg, V, L))
    else if x2 = 1 then
    (bd3 (f_X1_outBy V L (V 6 7) (V 7 x1.toNatClampNeg)) fun r_1 V_2 L_3 =>
    some (r_1, V_2, L_3))
    else if x2 = 2 then
    (bd3 (f_X1_leftBy V L (V 7 x1.toNatClampNeg)) fun r_4 V_5 L_6 =>
    some (r_4, V_5, L_6))
    else (some ((-102 : Int32), V, L)) else none)
def f_X4_say (V : Nat → Nat → Int32) (L : Nat → Int64) (x1 : Int32) : Option (Int32 × (Nat → Nat → Int32) × (Nat → Int64)) :=
  if (f_X3_hasVerse V L x1) = 0 then
    (some ((-101 : Int32), V, L))
    else
    (if (f_X0_canCount (V 6)) = 0 then
    (some ((-103 : Int32), V, L))
    else
    (if (V 5 3) < (999 : Int32) then
    (bnd (up2 V 5 3 ((V 5 3) + (1 : Int32))) fun V_1 =>
    if ib x1 3 = true then
    bd2 (f_X0_putOut (V_1 6) (V_1 7 x1.toNatClampNeg)) fun r_2 c_3 =>
    bnd (setc V_1 6 c_3) fun V_4 =>
    some (r_2, V_4, L) else none)
    else
    (some ((-104 : Int32), V, L))))
def f_X0_howManyIn (c : Nat → Int32) : Int32 :=
  f_J6_bitCount_0f7a4 (c 5)
def f_X4_back (V : Nat → Nat → Int32) (L : Nat → Int64) (x1 : Int32) : Option (Int32 × (Nat → Nat → Int32) × (Nat → Int64)) :=
  if (f_X3_hasChild V L x1) = 0 then
    (some ((-101 : Int32), V, L))
    else
    (if (f_X0_isIn (V 6) x1) = 0 then
    (bnd (up2 V 6 5 ((V 6 5) ||| (ishl (1 : Int32) x1))) fun V_1 =>
    some (f_X0_howManyIn (V_1 6), V_1, L))
    else
    (some ((-103 : Int32), V, L)))
def f_X4_first (V : Nat → Nat → Int32) (L : Nat → Int64) (x1 : Int32) : Option (Int32 × (Nat → Nat → Int32) × (Nat → Int64)) :=
  if (f_X3_hasChild V L x1) = 0 then
    (some ((-101 : Int32), V, L))
    else
    (bnd (up2 V 6 7 x1) fun V_1 =>
    some (V 6 7, V_1, L))
def f_X3_hasRing (V : Nat → Nat → Int32) (L : Nat → Int64) : Int32 :=
  if (V 6 0) ≤ 0 then
    ((0 : Int32))
    else
    ((1 : Int32))
theorem z_X3_hasRing (V : Nat → Nat → Int32) (L : Nat → Int64) : isz (f_X3_hasRing V L) = true := by
  simp only [f_X3_hasRing]
  repeat' split
  all_goals first | rfl | exact z_X3_hasChild _ _ _ | exact z_X0_isIn _ _ | exact z_X0_hasSlipped _ _ | exact z_X0_canCount _ | exact z_X4_isKind _ | exact z_X3_hasVerse _ _ _
def f_X4_turn_43 (V : Nat → Nat → Int32) (L : Nat → Int64) (x1 : Int32) : Option (Int32 × (Nat → Nat → Int32) × (Nat → Int64)) :=
  if x1 = 0 then
    (some ((0 : Int32), V, L))
    else
    (some ((1 : Int32), V, L))
def f_X4_turn (V : Nat → Nat → Int32) (L : Nat → Int64) : Option (Int32 × (Nat → Nat → Int32) × (Nat → Int64)) :=
  if (f_X3_hasRing V L) = 0 then
    (some ((-103 : Int32), V, L))
    else
    (if (V 6 8) = 0 then
    (bnd (up2 V 6 8 (1 : Int32)) fun V_2 =>
    f_X4_turn_43 V_2 L (V 6 8))
    else
    (bnd (up2 V 6 8 (0 : Int32)) fun V_1 =>
    f_X4_turn_43 V_1 L (V 6 8)))
def f_X4_isBeats (x0 : Int32) : Int32 :=
  if x0 < (1 : Int32) then
    ((0 : Int32))
    else
    (if (99 : Int32) < x0 then
    ((0 : Int32))
    else
    ((1 : Int32)))
theorem z_X4_isBeats (x0 : Int32) : isz (f_X4_isBeats x0) = true := by
  simp only [f_X4_isBeats]
  repeat' split
  all_goals first | rfl | exact z_X3_hasChild _ _ _ | exact z_X0_isIn _ _ | exact z_X0_hasSlipped _ _ | exact z_X0_canCount _ | exact z_X4_isKind _ | exact z_X3_hasVerse _ _ _ | exact z_X3_hasRing _ _
def f_X4_beats (V : Nat → Nat → Int32) (L : Nat → Int64) (x1 : Int32) (x2 : Int32) : Option (Int32 × (Nat → Nat → Int32) × (Nat → Int64)) :=
  if (f_X3_hasVerse V L x1) = 0 then
    (some ((-101 : Int32), V, L))
    else
    (if (f_X4_isBeats x2) = 0 then
    (some ((-102 : Int32), V, L))
    else
    (if ib x1 3 = true then
    if ib x1 3 = true then
    bnd (up2 V 7 x1.toNatClampNeg x2) fun V_1 =>
    some (V 7 x1.toNatClampNeg, V_1, L) else none else none))
def f_X4_be (V : Nat → Nat → Int32) (L : Nat → Int64) (x1 : Int32) (x2 : Int32) : Option (Int32 × (Nat → Nat → Int32) × (Nat → Int64)) :=
  if (f_X3_hasChild V L x1) = 0 then
    (some ((-101 : Int32), V, L))
    else
    (if (f_X4_isKind x2) = 0 then
    (some ((-102 : Int32), V, L))
    else
    (bnd (setc V 6 (f_X0_become (V 6) x1 x2)) fun V_2 =>
    some (f_X0_kindOf (V 6) x1, V_2, L)))
def f_X4_last (V : Nat → Nat → Int32) (L : Nat → Int64) (x1 : Int32) : Option (Int32 × (Nat → Nat → Int32) × (Nat → Int64)) :=
  if (f_X4_isBeats x1) = 0 then
    (some ((-102 : Int32), V, L))
    else
    (if (f_X3_hasRing V L) = 0 then
    (some ((-103 : Int32), V, L))
    else
    (bd3 (f_X1_leftBy V L x1) fun r_1 V_2 L_3 =>
    some (r_1, V_2, L_3)))
def f_X1_startsFor_5 (x1 : Int32) (x2 : Int32) : Nat → (Nat → Nat → Int32) → (Nat → Int64) → Int32 → Int32 → Option (Int32 × (Nat → Nat → Int32) × (Nat → Int64))
  | 0, _, _, _, _ => none
  | n + 1, V, L, x3, x4 =>
    if (V 6 0) ≤ x4 then
    (some (x3, V, L))
    else
    (if (f_X0_isIn (V 6) x4) = 0 then
    (f_X1_startsFor_5 x1 x2 n V L x3 (x4 + 1))
    else
    (bd1 (f_X0_takeAll (V 16) (V 6)) fun c_1 =>
    bnd (setc V 16 c_1) fun V_2 =>
    bnd (up2 V_2 16 7 x4) fun V_3 =>
    bd2 (f_X0_countDown (V_3 16) x2) fun r_4 c_5 =>
    bnd (setc V_3 16 c_5) fun V_6 =>
    if r_4 = x1 then
    (f_X1_startsFor_5 x1 x2 n V_6 L (x3 ||| (ishl (1 : Int32) x4)) (x4 + 1))
    else
    (f_X1_startsFor_5 x1 x2 n V_6 L (x3 ||| (0 : Int32)) (x4 + 1))))
def f_X1_startsFor (V : Nat → Nat → Int32) (L : Nat → Int64) (x1 : Int32) (x2 : Int32) : Option (Int32 × (Nat → Nat → Int32) × (Nat → Int64)) :=
  f_X1_startsFor_5 x1 x2 20000 V L (0 : Int32) (0 : Int32)
def f_X4_begin (V : Nat → Nat → Int32) (L : Nat → Int64) (x1 : Int32) (x2 : Int32) : Option (Int32 × (Nat → Nat → Int32) × (Nat → Int64)) :=
  if (f_X3_hasChild V L x1) = 0 then
    (some ((-101 : Int32), V, L))
    else
    (if (f_X4_isBeats x2) = 0 then
    (some ((-102 : Int32), V, L))
    else
    (bd3 (f_X1_startsFor V L x1 x2) fun r_1 V_2 L_3 =>
    some (r_1, V_2, L_3)))
def f_X0_movedUp (x0 : Int32) (x1 : Int32) : Int32 :=
  bnd ((ishl (1 : Int32) x1) - (1 : Int32)) fun t_1 =>
    (x0 &&& t_1) ||| (ishl (x0 &&& (t_1 ^^^ (-1 : Int32))) (1 : Int32))
def f_X0_addAhead_94 (c : Nat → Int32) (x1 : Int32) (x2 : Int32) : (Nat → Int32) :=
  bnd (upd c 0 ((c 0) + (1 : Int32))) fun c_1 =>
    bnd (f_X0_become c_1 x1 x2) fun c_2 =>
    c_2
def f_X0_addAhead (c : Nat → Int32) (x1 : Int32) (x2 : Int32) : (Nat → Int32) :=
  bnd (upd c 1 (f_X0_movedUp (c 1) x1)) fun c_1 =>
    bnd (upd c_1 2 (f_X0_movedUp (c_1 2) x1)) fun c_2 =>
    bnd (upd c_2 3 (f_X0_movedUp (c_2 3) x1)) fun c_3 =>
    bnd (upd c_3 4 (f_X0_movedUp (c_3 4) x1)) fun c_4 =>
    bnd (upd c_4 6 (f_X0_movedUp (c_4 6) x1)) fun c_5 =>
    bnd (upd c_5 5 ((f_X0_movedUp (c_5 5) x1) ||| (ishl (1 : Int32) x1))) fun c_6 =>
    if (c_6 7) < x1 then
    (f_X0_addAhead_94 c_6 x1 x2)
    else
    (bnd (upd c_6 7 ((c_6 7) + (1 : Int32))) fun c_7 =>
    f_X0_addAhead_94 c_7 x1 x2)
def f_X1_placesFor_5 (x1 : Int32) (x2 : Int32) : Nat → (Nat → Nat → Int32) → (Nat → Int64) → Int32 → Int32 → Option (Int32 × (Nat → Nat → Int32) × (Nat → Int64))
  | 0, _, _, _, _ => none
  | n + 1, V, L, x3, x4 =>
    if (V 6 0) < x4 then
    (some (x3, V, L))
    else
    (bd1 (f_X0_takeAll (V 16) (V 6)) fun c_1 =>
    bnd (setc V 16 c_1) fun V_2 =>
    bnd (setc V_2 16 (f_X0_addAhead (V_2 16) x4 x1)) fun V_4 =>
    bd2 (f_X0_countDown (V_4 16) x2) fun r_5 c_6 =>
    bnd (setc V_4 16 c_6) fun V_7 =>
    if r_5 = x4 then
    (f_X1_placesFor_5 x1 x2 n V_7 L (x3 ||| (ishl (1 : Int32) x4)) (x4 + 1))
    else
    (f_X1_placesFor_5 x1 x2 n V_7 L (x3 ||| (0 : Int32)) (x4 + 1)))
def f_X1_placesFor (V : Nat → Nat → Int32) (L : Nat → Int64) (x1 : Int32) (x2 : Int32) : Option (Int32 × (Nat → Nat → Int32) × (Nat → Int64)) :=
  f_X1_placesFor_5 x1 x2 20000 V L (0 : Int32) (0 : Int32)
def f_X4_stand (V : Nat → Nat → Int32) (L : Nat → Int64) (x1 : Int32) (x2 : Int32) : Option (Int32 × (Nat → Nat → Int32) × (Nat → Int64)) :=
  if (f_X4_isKind x1) = 0 then
    (some ((-102 : Int32), V, L))
    else
    (if (f_X4_isBeats x2) = 0 then
    (some ((-102 : Int32), V, L))
    else
    (if (f_X3_hasRing V L) = 0 then
    (some ((-103 : Int32), V, L))
    else
    (bd3 (f_X1_placesFor V L x1 x2) fun r_1 V_2 L_3 =>
    some (r_1, V_2, L_3))))
def f_X0_takePose (c : Nat → Int32) (x1 : Int32) : (Nat → Int32) :=
  bnd (upd c 5 (x1 &&& (511 : Int32))) fun c_1 =>
    bnd (upd c_1 6 ((ishr x1 (9 : Int32)) &&& (511 : Int32))) fun c_2 =>
    bnd (upd c_2 7 ((ishr x1 (18 : Int32)) &&& (15 : Int32))) fun c_3 =>
    if (ishr x1 (22 : Int32)) = 0 then
    (bnd (upd c_3 8 (0 : Int32)) fun c_4 =>
    c_4)
    else
    (bnd (upd c_3 8 (1 : Int32)) fun c_5 =>
    c_5)
def f_X1_worth_16 (rc : (Nat → Nat → Int32) → (Nat → Int64) → Int32 → Int32 → Int32 → Option (Int32 × (Nat → Nat → Int32) × (Nat → Int64))) (V : Nat → Nat → Int32) (L : Nat → Int64) : Option (Int32 × (Nat → Nat → Int32) × (Nat → Int64)) :=
  bnd (up2 V 15 7 (-1 : Int32)) fun V_1 =>
    some ((1 : Int32), V_1, L)
def f_X1_worth_121 (rc : (Nat → Nat → Int32) → (Nat → Int64) → Int32 → Int32 → Int32 → Option (Int32 × (Nat → Nat → Int32) × (Nat → Int64))) (k41 : (Nat → Nat → Int32) → (Nat → Int64) → Int32 → Int32 → Int32 → Option (Int32 × (Nat → Nat → Int32) × (Nat → Int64))) (V : Nat → Nat → Int32) (L : Nat → Int64) (x1 : Int32) (x2 : Int32) (x3 : Int32) (x4 : Int32) (x5 : Int32) (x6 : Int32) (x7 : Int32) (x9 : Int32) : Option (Int32 × (Nat → Nat → Int32) × (Nat → Int64)) :=
  bnd (setc V 16 (f_X0_takePose (V 16) x4)) fun V_2 =>
    if x9 ≤ x5 then
    (k41 V_2 L x5 x6 (x7 + 1))
    else
    (k41 V_2 L x9 x7 (x7 + 1))
def f_X1_worth_151 (rc : (Nat → Nat → Int32) → (Nat → Int64) → Int32 → Int32 → Int32 → Option (Int32 × (Nat → Nat → Int32) × (Nat → Int64))) (V : Nat → Nat → Int32) (L : Nat → Int64) (x5 : Int32) (x6 : Int32) : Option (Int32 × (Nat → Nat → Int32) × (Nat → Int64)) :=
  bnd (up2 V 15 7 x6) fun V_1 =>
    some (x5, V_1, L)
def f_X1_worth_41 (rc : (Nat → Nat → Int32) → (Nat → Int64) → Int32 → Int32 → Int32 → Option (Int32 × (Nat → Nat → Int32) × (Nat → Int64))) (x1 : Int32) (x2 : Int32) (x3 : Int32) (x4 : Int32) : Nat → (Nat → Nat → Int32) → (Nat → Int64) → Int32 → Int32 → Int32 → Option (Int32 × (Nat → Nat → Int32) × (Nat → Int64))
  | 0, _, _, _, _, _ => none
  | n + 1, V, L, x5, x6, x7 =>
    if (3 : Int32) ≤ x7 then
    (f_X1_worth_151 rc V L x5 x6)
    else
    (if (f_X3_hasVerse V L x7) = 0 then
    (f_X1_worth_151 rc V L x5 x6)
    else
    (if (2 : Int32) ≤ x5 then
    (f_X1_worth_151 rc V L x5 x6)
    else
    (if ib x7 3 = true then
    bd2 (f_X0_putOut (V 16) (V 7 x7.toNatClampNeg)) fun r_1 c_2 =>
    bnd (setc V 16 c_2) fun V_3 =>
    if r_1 = x1 then
    (f_X1_worth_121 rc (f_X1_worth_41 rc x1 x2 x3 x4 n) V_3 L x1 x2 x3 x4 x5 x6 x7 (0 : Int32))
    else
    (if r_1 = x2 then
    (f_X1_worth_121 rc (f_X1_worth_41 rc x1 x2 x3 x4 n) V_3 L x1 x2 x3 x4 x5 x6 x7 (2 : Int32))
    else
    (bd3 (rc V_3 L x2 x1 (x3 + (1 : Int32))) fun r_4 V_5 L_6 =>
    f_X1_worth_121 rc (f_X1_worth_41 rc x1 x2 x3 x4 n) V_5 L_6 x1 x2 x3 x4 x5 x6 x7 ((2 : Int32) - r_4))) else none)))
def f_X1_worth_e (rc : (Nat → Nat → Int32) → (Nat → Int64) → Int32 → Int32 → Int32 → Option (Int32 × (Nat → Nat → Int32) × (Nat → Int64))) (V : Nat → Nat → Int32) (L : Nat → Int64) (x1 : Int32) (x2 : Int32) (x3 : Int32) : Option (Int32 × (Nat → Nat → Int32) × (Nat → Int64)) :=
  if (7 : Int32) ≤ x3 then
    (f_X1_worth_16 rc V L)
    else
    (if (f_X0_canCount (V 16)) = 0 then
    (f_X1_worth_16 rc V L)
    else
    (f_X1_worth_41 rc x1 x2 x3 (f_X0_pose (V 16)) 20000 V L (-1 : Int32) (-1 : Int32) (0 : Int32)))
def f_X1_worth : Nat → (Nat → Nat → Int32) → (Nat → Int64) → Int32 → Int32 → Int32 → Option (Int32 × (Nat → Nat → Int32) × (Nat → Int64))
  | 0, _, _, _, _, _ => none
  | d + 1, V, L, x1, x2, x3 => f_X1_worth_e (f_X1_worth d) V L x1 x2 x3
def f_X1_bestFor (V : Nat → Nat → Int32) (L : Nat → Int64) (x1 : Int32) (x2 : Int32) : Option (Int32 × (Nat → Nat → Int32) × (Nat → Int64)) :=
  bd1 (f_X0_takeAll (V 16) (V 6)) fun c_1 =>
    bnd (setc V 16 c_1) fun V_2 =>
    bd3 (f_X1_worth 9 V_2 L x1 x2 (0 : Int32)) fun r_3 V_4 L_5 =>
    some (r_3, V_4, L_5)
def f_X1_verseFor (V : Nat → Nat → Int32) (L : Nat → Int64) (x1 : Int32) (x2 : Int32) : Option (Int32 × (Nat → Nat → Int32) × (Nat → Int64)) :=
  bd1 (f_X0_takeAll (V 16) (V 6)) fun c_1 =>
    bnd (setc V 16 c_1) fun V_2 =>
    bd3 (f_X1_worth 9 V_2 L x1 x2 (0 : Int32)) fun r_3 V_4 L_5 =>
    some (V_4 15 7, V_4, L_5)
def f_X4_game (V : Nat → Nat → Int32) (L : Nat → Int64) (x1 : Int32) (x2 : Int32) (x3 : Int32) : Option (Int32 × (Nat → Nat → Int32) × (Nat → Int64)) :=
  if (f_X3_hasChild V L x1) = 0 then
    (some ((-101 : Int32), V, L))
    else
    (if (f_X3_hasChild V L x2) = 0 then
    (some ((-101 : Int32), V, L))
    else
    (if x1 = x2 then
    (some ((-101 : Int32), V, L))
    else
    (if x3 < 0 then
    (some ((-102 : Int32), V, L))
    else
    (if x3 ≤ (1 : Int32) then
    (if (f_X0_isIn (V 6) x1) = 0 then
    (some ((-103 : Int32), V, L))
    else
    (if (f_X0_isIn (V 6) x2) = 0 then
    (some ((-103 : Int32), V, L))
    else
    (if x3 = 0 then
    (bd3 (f_X1_bestFor V L x1 x2) fun r_4 V_5 L_6 =>
    some (r_4, V_5, L_6))
    else
    (bd3 (f_X1_verseFor V L x1 x2) fun r_1 V_2 L_3 =>
    some (r_1, V_2, L_3)))))
    else
    (some ((-102 : Int32), V, L))))))
def f_X1_shareOut_16 (rc : (Nat → Nat → Int32) → (Nat → Int64) → Int32 → Int32 → Option ((Nat → Nat → Int32) × (Nat → Int64))) (V : Nat → Nat → Int32) (L : Nat → Int64) (x1 : Int32) : Option ((Nat → Nat → Int32) × (Nat → Int64)) :=
  if (f_X0_onlyOneIn (V 16)) < 0 then
    (some (V, L))
    else
    (if (8 : Int32) ≤ (f_X0_onlyOneIn (V 16)) then
    (some (V, L))
    else
    (if ib (f_X0_onlyOneIn (V 16)) 8 = true then
    if ib (f_X0_onlyOneIn (V 16)) 8 = true then
    bnd (up2 V 18 (f_X0_onlyOneIn (V 16)).toNatClampNeg ((V 18 (f_X0_onlyOneIn (V 16)).toNatClampNeg) + x1)) fun V_1 =>
    some (V_1, L) else none else none))
def f_X1_shareOut_59 (rc : (Nat → Nat → Int32) → (Nat → Int64) → Int32 → Int32 → Option ((Nat → Nat → Int32) × (Nat → Int64))) (x1 : Int32) (x2 : Int32) (x3 : Int32) : Nat → (Nat → Nat → Int32) → (Nat → Int64) → Int32 → Option ((Nat → Nat → Int32) × (Nat → Int64))
  | 0, _, _, _ => none
  | n + 1, V, L, x4 =>
    if (3 : Int32) < x4 then
    (some (V, L))
    else
    (bd2 (f_X0_putOut (V 16) x4) fun r_1 c_2 =>
    bnd (setc V 16 c_2) fun V_3 =>
    bd2 (rc V_3 L (x1 / (3 : Int32)) (x2 + (1 : Int32))) fun V_4 L_5 =>
    bnd (setc V_4 16 (f_X0_takePose (V_4 16) x3)) fun V_7 =>
    f_X1_shareOut_59 rc x1 x2 x3 n V_7 L_5 (x4 + 1))
def f_X1_shareOut_e (rc : (Nat → Nat → Int32) → (Nat → Int64) → Int32 → Int32 → Option ((Nat → Nat → Int32) × (Nat → Int64))) (V : Nat → Nat → Int32) (L : Nat → Int64) (x1 : Int32) (x2 : Int32) : Option ((Nat → Nat → Int32) × (Nat → Int64)) :=
  if (7 : Int32) ≤ x2 then
    (f_X1_shareOut_16 rc V L x1)
    else
    (if (f_X0_canCount (V 16)) = 0 then
    (f_X1_shareOut_16 rc V L x1)
    else
    (f_X1_shareOut_59 rc x1 x2 (f_X0_pose (V 16)) 20000 V L (1 : Int32)))
def f_X1_shareOut : Nat → (Nat → Nat → Int32) → (Nat → Int64) → Int32 → Int32 → Option ((Nat → Nat → Int32) × (Nat → Int64))
  | 0, _, _, _, _ => none
  | d + 1, V, L, x1, x2 => f_X1_shareOut_e (f_X1_shareOut d) V L x1 x2
def f_X1_chanceOf_139 (V : Nat → Nat → Int32) (L : Nat → Int64) (x2 : Int32) (x5 : Int32) (x6 : Int32) : Option (Int32 × (Nat → Nat → Int32) × (Nat → Int64)) :=
  if x2 = 0 then
    (some (x6, V, L))
    else
    (some (x5, V, L))
def f_X1_chanceOf_107 (V : Nat → Nat → Int32) (L : Nat → Int64) (x2 : Int32) : Nat → Int32 → Int32 → Int32 → Option (Int32 × (Nat → Nat → Int32) × (Nat → Int64))
  | 0, _, _, _ => none
  | n + 1, x5, x6, x7 =>
    if (7 : Int32) ≤ x7 then
    (f_X1_chanceOf_139 V L x2 x5 x6)
    else
    (if (irem x5 (3 : Int32)) = 0 then
    (f_X1_chanceOf_107 V L x2 n (x5 / (3 : Int32)) (x6 / (3 : Int32)) (x7 + 1))
    else
    (f_X1_chanceOf_139 V L x2 x5 x6))
def f_X1_chanceOf_96 (V : Nat → Nat → Int32) (L : Nat → Int64) (x2 : Int32) : Option (Int32 × (Nat → Nat → Int32) × (Nat → Int64)) :=
  f_X1_chanceOf_107 V L x2 20000 (0 : Int32) (2187 : Int32) (0 : Int32)
def f_X1_chanceOf_74 (V : Nat → Nat → Int32) (L : Nat → Int64) (x1 : Int32) (x2 : Int32) : Option (Int32 × (Nat → Nat → Int32) × (Nat → Int64)) :=
  if x1 < 0 then
    (f_X1_chanceOf_96 V L x2)
    else
    (if (8 : Int32) ≤ x1 then
    (f_X1_chanceOf_96 V L x2)
    else
    (if ib x1 8 = true then
    f_X1_chanceOf_107 V L x2 20000 (V 18 x1.toNatClampNeg) (2187 : Int32) (0 : Int32) else none))
def f_X1_chanceOf_23 (x1 : Int32) (x2 : Int32) (y3 : Int64) : Nat → (Nat → Nat → Int32) → (Nat → Int64) → Int32 → Option (Int32 × (Nat → Nat → Int32) × (Nat → Int64))
  | 0, _, _, _ => none
  | n + 1, V, L, x5 =>
    if (8 : Int32) ≤ x5 then
    (bd1 (f_X0_takeAll (V 16) (V 6)) fun c_1 =>
    bnd (setc V 16 c_1) fun V_2 =>
    bd2 (f_X1_shareOut 9 V_2 L (2187 : Int32) (0 : Int32)) fun V_3 L_4 =>
    bnd (setc L_4 5 y3) fun L_5 =>
    f_X1_chanceOf_74 V_3 L_5 x1 x2)
    else
    (if ib x5 8 = true then
    bnd (up2 V 18 x5.toNatClampNeg (0 : Int32)) fun V_6 =>
    f_X1_chanceOf_23 x1 x2 y3 n V_6 L (x5 + 1) else none)
def f_X1_chanceOf (V : Nat → Nat → Int32) (L : Nat → Int64) (x1 : Int32) (x2 : Int32) : Option (Int32 × (Nat → Nat → Int32) × (Nat → Int64)) :=
  if (lg_cmp (f_X0_key (V 6)) (L 5)) = 0 then
    (f_X1_chanceOf_74 V L x1 x2)
    else
    (f_X1_chanceOf_23 x1 x2 (f_X0_key (V 6)) 20000 V L (0 : Int32))
def f_X4_likely (V : Nat → Nat → Int32) (L : Nat → Int64) (x1 : Int32) (x2 : Int32) : Option (Int32 × (Nat → Nat → Int32) × (Nat → Int64)) :=
  if (f_X3_hasChild V L x1) = 0 then
    (some ((-101 : Int32), V, L))
    else
    (if x2 < 0 then
    (some ((-102 : Int32), V, L))
    else
    (if x2 ≤ (1 : Int32) then
    (if (f_X0_isIn (V 6) x1) = 0 then
    (some ((-103 : Int32), V, L))
    else
    (if x2 = 0 then
    (bd3 (f_X1_chanceOf V L x1 (1 : Int32)) fun r_4 V_5 L_6 =>
    some (r_4, V_5, L_6))
    else
    (bd3 (f_X1_chanceOf V L x1 (0 : Int32)) fun r_1 V_2 L_3 =>
    some (r_1, V_2, L_3))))
    else
    (some ((-102 : Int32), V, L))))
def f_X3_keepSeen (V : Nat → Nat → Int32) (L : Nat → Int64) (x1 : Int32) (x2 : Int32) : Option (Int32 × (Nat → Nat → Int32) × (Nat → Int64)) :=
  if (V 5 6) < 0 then
    (some ((0 : Int32), V, L))
    else
    (if (V 5 6) < (6 : Int32) then
    (if ib (V 5 6) 6 = true then
    bnd (up2 V 8 (V 5 6).toNatClampNeg x1) fun V_1 =>
    if ib (V_1 5 6) 6 = true then
    bnd (up2 V_1 9 (V_1 5 6).toNatClampNeg x2) fun V_2 =>
    bnd (up2 V_2 5 6 ((V_2 5 6) + (1 : Int32))) fun V_3 =>
    some ((1 : Int32), V_3, L) else none else none)
    else
    (some ((0 : Int32), V, L)))
def f_X4_see (V : Nat → Nat → Int32) (L : Nat → Int64) (x1 : Int32) (x2 : Int32) : Option (Int32 × (Nat → Nat → Int32) × (Nat → Int64)) :=
  if (f_X3_hasChild V L x1) = 0 then
    (some ((-101 : Int32), V, L))
    else
    (if (f_X3_hasChild V L x2) = 0 then
    (some ((-101 : Int32), V, L))
    else
    (bd3 (f_X3_keepSeen V L x1 x2) fun r_1 V_2 L_3 =>
    if r_1 = 0 then
    (some ((-104 : Int32), V_2, L_3))
    else
    (some (V_2 5 6, V_2, L_3))))
def f_X4_forget (V : Nat → Nat → Int32) (L : Nat → Int64) : Option (Int32 × (Nat → Nat → Int32) × (Nat → Int64)) :=
  bnd (up2 V 5 6 (0 : Int32)) fun V_1 =>
    some (V 5 6, V_1, L)
def f_X1_lengthBits_24 (k5 : (Nat → Nat → Int32) → (Nat → Int64) → Int32 → Int32 → Option (Int32 × (Nat → Nat → Int32) × (Nat → Int64))) (x2 : Int32) : Nat → (Nat → Nat → Int32) → (Nat → Int64) → Int32 → Int32 → Option (Int32 × (Nat → Nat → Int32) × (Nat → Int64))
  | 0, _, _, _, _ => none
  | n + 1, V, L, x1, x3 =>
    if (24 : Int32) < x3 then
    (k5 V L x1 (x2 + 1))
    else
    (if ib x2 6 = true then
    bd3 (f_X1_outBy V L (V 8 x2.toNatClampNeg) x3) fun r_1 V_2 L_3 =>
    if ib x2 6 = true then
    if r_1 = (V_2 9 x2.toNatClampNeg) then
    (f_X1_lengthBits_24 k5 x2 n V_2 L_3 x1 (x3 + 1))
    else
    (bnd (x1 &&& ((ishl (1 : Int32) (x3 - (1 : Int32))) ^^^ (-1 : Int32))) fun t_4 =>
    f_X1_lengthBits_24 k5 x2 n V_2 L_3 t_4 (x3 + 1)) else none else none)
def f_X1_lengthBits_5 : Nat → (Nat → Nat → Int32) → (Nat → Int64) → Int32 → Int32 → Option (Int32 × (Nat → Nat → Int32) × (Nat → Int64))
  | 0, _, _, _, _ => none
  | n + 1, V, L, x1, x2 =>
    if (V 5 6) ≤ x2 then
    (some (x1, V, L))
    else
    (if (6 : Int32) ≤ x2 then
    (some (x1, V, L))
    else
    (f_X1_lengthBits_24 (f_X1_lengthBits_5 n) x2 20000 V L x1 (1 : Int32)))
def f_X1_lengthBits (V : Nat → Nat → Int32) (L : Nat → Int64) : Option (Int32 × (Nat → Nat → Int32) × (Nat → Int64)) :=
  f_X1_lengthBits_5 20000 V L (16777215 : Int32) (0 : Int32)
def f_X4_lengths (V : Nat → Nat → Int32) (L : Nat → Int64) : Option (Int32 × (Nat → Nat → Int32) × (Nat → Int64)) :=
  if (f_X3_hasRing V L) = 0 then
    (some ((-103 : Int32), V, L))
    else
    (bd3 (f_X1_lengthBits V L) fun r_1 V_2 L_3 =>
    some (r_1, V_2, L_3))
def f_X1_mostLeft_29 (x1 : Int32) (x2 : Int32) : Nat → (Nat → Nat → Int32) → (Nat → Int64) → Int32 → Int32 → Option (Int32 × (Nat → Nat → Int32) × (Nat → Int64))
  | 0, _, _, _, _ => none
  | n + 1, V, L, x3, x4 =>
    if (24 : Int32) < x4 then
    (some (x3, V, L))
    else
    (if ((ishr x2 (x4 - (1 : Int32))) &&& (1 : Int32)) = 0 then
    (f_X1_mostLeft_29 x1 x2 n V L x3 (x4 + 1))
    else
    (bd3 (f_X1_outBy V L x1 x4) fun r_1 V_2 L_3 =>
    if r_1 < 0 then
    (f_X1_mostLeft_29 x1 x2 n V_2 L_3 x3 (x4 + 1))
    else
    (if (8 : Int32) ≤ r_1 then
    (f_X1_mostLeft_29 x1 x2 n V_2 L_3 x3 (x4 + 1))
    else
    (if ib r_1 8 = true then
    if ib r_1 8 = true then
    bnd (up2 V_2 19 r_1.toNatClampNeg ((V_2 19 r_1.toNatClampNeg) + (1 : Int32))) fun V_4 =>
    if ib r_1 8 = true then
    bnd (imax x3 (V_4 19 r_1.toNatClampNeg)) fun t_5 =>
    f_X1_mostLeft_29 x1 x2 n V_4 L_3 t_5 (x4 + 1) else none else none else none))))
def f_X1_mostLeft_2 (x1 : Int32) (x2 : Int32) : Nat → (Nat → Nat → Int32) → (Nat → Int64) → Int32 → Option (Int32 × (Nat → Nat → Int32) × (Nat → Int64))
  | 0, _, _, _ => none
  | n + 1, V, L, x3 =>
    if (8 : Int32) ≤ x3 then
    (f_X1_mostLeft_29 x1 x2 20000 V L (0 : Int32) (1 : Int32))
    else
    (if ib x3 8 = true then
    bnd (up2 V 19 x3.toNatClampNeg (0 : Int32)) fun V_1 =>
    f_X1_mostLeft_2 x1 x2 n V_1 L (x3 + 1) else none)
def f_X1_mostLeft (V : Nat → Nat → Int32) (L : Nat → Int64) (x1 : Int32) (x2 : Int32) : Option (Int32 × (Nat → Nat → Int32) × (Nat → Int64)) :=
  f_X1_mostLeft_2 x1 x2 20000 V L (0 : Int32)
def f_X1_tellingStart_27 (x1 : Int32) : Nat → (Nat → Nat → Int32) → (Nat → Int64) → Int32 → Int32 → Int32 → Option (Int32 × (Nat → Nat → Int32) × (Nat → Int64))
  | 0, _, _, _, _, _ => none
  | n + 1, V, L, x2, x3, x4 =>
    if (V 6 0) ≤ x4 then
    (some (x2, V, L))
    else
    (bd3 (f_X1_mostLeft V L x4 x1) fun r_1 V_2 L_3 =>
    if x3 ≤ r_1 then
    (f_X1_tellingStart_27 x1 n V_2 L_3 x2 x3 (x4 + 1))
    else
    (f_X1_tellingStart_27 x1 n V_2 L_3 x4 r_1 (x4 + 1)))
def f_X1_tellingStart (V : Nat → Nat → Int32) (L : Nat → Int64) (x1 : Int32) : Option (Int32 × (Nat → Nat → Int32) × (Nat → Int64)) :=
  if x1 = 0 then
    (some ((-1 : Int32), V, L))
    else
    (if (f_X0_canCount (V 6)) = 0 then
    (some ((-1 : Int32), V, L))
    else
    (f_X1_tellingStart_27 x1 20000 V L (-1 : Int32) (25 : Int32) (0 : Int32)))
def f_X4_from (V : Nat → Nat → Int32) (L : Nat → Int64) : Option (Int32 × (Nat → Nat → Int32) × (Nat → Int64)) :=
  if (f_X3_hasRing V L) = 0 then
    (some ((-103 : Int32), V, L))
    else
    (bd3 (f_X1_lengthBits V L) fun r_1 V_2 L_3 =>
    bd3 (f_X1_tellingStart V_2 L_3 r_1) fun r_4 V_5 L_6 =>
    some (r_4, V_5, L_6))
def f_X1_beatsDrawn_27 (V : Nat → Nat → Int32) (L : Nat → Int64) (x2 : Int32) : Option Int32 :=
  if (f_X3_hasVerse V L x2) = 0 then
    (some (1 : Int32))
    else
    (if ib x2 3 = true then
    some (V 7 x2.toNatClampNeg) else none)
def f_X1_beatsDrawn (V : Nat → Nat → Int32) (L : Nat → Int64) (x1 : Int32) : Option Int32 :=
  if (V 5 2) ≤ 0 then
    (f_X1_beatsDrawn_27 V L (0 : Int32))
    else
    (if (V 5 2) = 0 then none else
    bnd (irem (x1 / (65536 : Int32)) (V 5 2)) fun t_1 =>
    f_X1_beatsDrawn_27 V L t_1)
def f_X0_allComeBack (c : Nat → Int32) : (Nat → Int32) :=
  bnd (upd c 5 ((ishl (1 : Int32) (c 0)) - (1 : Int32))) fun c_1 =>
    bnd (upd c_1 6 (0 : Int32)) fun c_2 =>
    c_2
def f_X1_playRounds_23 (x1 : Int32) (x3 : Int32) : Nat → (Nat → Nat → Int32) → (Nat → Int64) → Int32 → Int32 → Int32 → Option (Int32 × (Nat → Nat → Int32) × (Nat → Int64))
  | 0, _, _, _, _, _ => none
  | n + 1, V, L, x4, x5, x6 =>
    if x1 ≤ x6 then
    (if x3 = 0 then
    (some (x5, V, L))
    else
    (if x3 = (1 : Int32) then
    (some (V 16 7, V, L))
    else
    (some (x4, V, L))))
    else
    (if (f_X0_canCount (V 16)) = 0 then
    (bnd (setc V 16 (f_X0_allComeBack (V 16))) fun V_2 =>
    f_X1_playRounds_23 x1 x3 n V_2 L x4 (x5 + 1) (x6 + 1))
    else
    (bnd ((lrem (((1103515245 : Int64) * x4.toInt64) + (12345 : Int64)) (2147483648 : Int64)).toInt32) fun t_3 =>
    bd1 (f_X1_beatsDrawn V L t_3) fun r_4 =>
    bd2 (f_X0_putOut (V 16) r_4) fun r_5 c_6 =>
    bnd (setc V 16 c_6) fun V_7 =>
    f_X1_playRounds_23 x1 x3 n V_7 L t_3 x5 (x6 + 1)))
def f_X1_playRounds (V : Nat → Nat → Int32) (L : Nat → Int64) (x1 : Int32) (x2 : Int32) (x3 : Int32) : Option (Int32 × (Nat → Nat → Int32) × (Nat → Int64)) :=
  bd1 (f_X0_takeAll (V 16) (V 6)) fun c_1 =>
    bnd (setc V 16 c_1) fun V_2 =>
    f_X1_playRounds_23 x1 x3 20000 V_2 L x2 (0 : Int32) (0 : Int32)
def f_X4_rounds (V : Nat → Nat → Int32) (L : Nat → Int64) (x1 : Int32) (x2 : Int32) (x3 : Int32) : Option (Int32 × (Nat → Nat → Int32) × (Nat → Int64)) :=
  if x1 < (1 : Int32) then
    (some ((-102 : Int32), V, L))
    else
    (if (60 : Int32) < x1 then
    (some ((-102 : Int32), V, L))
    else
    (if x2 < 0 then
    (some ((-102 : Int32), V, L))
    else
    (if x3 < 0 then
    (some ((-102 : Int32), V, L))
    else
    (if x3 ≤ (2 : Int32) then
    (if (f_X3_hasRing V L) = 0 then
    (some ((-103 : Int32), V, L))
    else
    (bd3 (f_X1_playRounds V L x1 x2 x3) fun r_1 V_2 L_3 =>
    some (r_1, V_2, L_3)))
    else
    (some ((-102 : Int32), V, L))))))
def f_X3_takeAll_10_5 (V : Nat → Nat → Int32) (L : Nat → Int64) : Option ((Nat → Nat → Int32) × (Nat → Int64)) :=
  bd1 (f_X0_takeAll (V 11) (V 6)) fun c_1 =>
    bnd (setc V 11 c_1) fun V_2 =>
    bnd (up2 V_2 10 2 (V_2 5 2)) fun V_3 =>
    bnd (setc V_3 12 (va_cpy (V_3 7) (V_3 12) ((0 : Int32)).toNatClampNeg ((0 : Int32)).toNatClampNeg ((3 : Int32)).toNatClampNeg)) fun V_4 =>
    bnd (up2 V_4 10 3 (V_4 5 3)) fun V_5 =>
    bnd (up2 V_5 10 6 (V_5 5 6)) fun V_6 =>
    bnd (setc V_6 13 (va_cpy (V_6 8) (V_6 13) ((0 : Int32)).toNatClampNeg ((0 : Int32)).toNatClampNeg ((6 : Int32)).toNatClampNeg)) fun V_7 =>
    bnd (setc V_7 14 (va_cpy (V_7 9) (V_7 14) ((0 : Int32)).toNatClampNeg ((0 : Int32)).toNatClampNeg ((6 : Int32)).toNatClampNeg)) fun V_8 =>
    some (V_8, L)
def f_X4_image (V : Nat → Nat → Int32) (L : Nat → Int64) : Option (Int32 × (Nat → Nat → Int32) × (Nat → Int64)) :=
  if (f_X3_hasRing V L) = 0 then
    (some ((-103 : Int32), V, L))
    else
    (bd2 (f_X3_takeAll_10_5 V L) fun V_1 L_2 =>
    bnd (up2 V_1 0 4 (1 : Int32)) fun V_3 =>
    some (V_3 10 3, V_3, L_2))
def f_X3_takeAll_5_10 (V : Nat → Nat → Int32) (L : Nat → Int64) : Option ((Nat → Nat → Int32) × (Nat → Int64)) :=
  bd1 (f_X0_takeAll (V 6) (V 11)) fun c_1 =>
    bnd (setc V 6 c_1) fun V_2 =>
    bnd (up2 V_2 5 2 (V_2 10 2)) fun V_3 =>
    bnd (setc V_3 7 (va_cpy (V_3 12) (V_3 7) ((0 : Int32)).toNatClampNeg ((0 : Int32)).toNatClampNeg ((3 : Int32)).toNatClampNeg)) fun V_4 =>
    bnd (up2 V_4 5 3 (V_4 10 3)) fun V_5 =>
    bnd (up2 V_5 5 6 (V_5 10 6)) fun V_6 =>
    bnd (setc V_6 8 (va_cpy (V_6 13) (V_6 8) ((0 : Int32)).toNatClampNeg ((0 : Int32)).toNatClampNeg ((6 : Int32)).toNatClampNeg)) fun V_7 =>
    bnd (setc V_7 9 (va_cpy (V_7 14) (V_7 9) ((0 : Int32)).toNatClampNeg ((0 : Int32)).toNatClampNeg ((6 : Int32)).toNatClampNeg)) fun V_8 =>
    some (V_8, L)
def f_X4_restore (V : Nat → Nat → Int32) (L : Nat → Int64) : Option (Int32 × (Nat → Nat → Int32) × (Nat → Int64)) :=
  if (V 0 4) = 0 then
    (some ((-103 : Int32), V, L))
    else
    (bd2 (f_X3_takeAll_5_10 V L) fun V_1 L_2 =>
    some (V_1 5 3, V_1, L_2))
def f_X0_takenTogether (c : Nat → Int32) : Int32 :=
  (f_J6_bitCount_0f7a4 ((c 5) &&& ((c 2) ^^^ (-1 : Int32)))) + (f_J6_bitCount_0f7a4 ((c 5) &&& (c 1)))
def f_X4_count (V : Nat → Nat → Int32) (L : Nat → Int64) (x1 : Int32) : Int32 :=
  if x1 = 0 then
    (V 6 0)
    else if x1 = 1 then
    (f_X0_howManyIn (V 6))
    else if x1 = 2 then
    (V 5 2)
    else if x1 = 3 then
    (f_J6_bitCount_0f7a4 (V 6 6))
    else if x1 = 4 then
    (V 6 7)
    else if x1 = 5 then
    (if (V 6 8) = 0 then
    ((0 : Int32))
    else
    ((1 : Int32)))
    else if x1 = 6 then
    (V 5 3)
    else if x1 = 7 then
    (f_X0_takenTogether (V 6))
    else if x1 = 8 then
    (V 5 6)
    else if x1 = 9 then
    (V 1 1)
    else if x1 = 10 then
    (V 0 5)
    else ((-102 : Int32))
def f_X4_digest_27 (k18 : (Nat → Nat → Int32) → (Nat → Int64) → Int64 → Int32 → Option (Int64 × (Nat → Nat → Int32) × (Nat → Int64))) (x3 : Int32) (x4 : Int32) : Nat → (Nat → Nat → Int32) → (Nat → Int64) → Int64 → Int32 → Option (Int64 × (Nat → Nat → Int32) × (Nat → Int64))
  | 0, _, _, _, _ => none
  | n + 1, V, L, y1, x5 =>
    if (5 : Int32) < x5 then
    (bd3 (f_X4_begin V L x4 (7 : Int32)) fun r_1 V_2 L_3 =>
    bnd (((31 : Int64) * y1) + r_1.toInt64) fun t_4 =>
    k18 V_2 L_3 t_4 (x4 + 1))
    else
    (bd3 (f_X4_child V L x4 x5) fun r_5 V_6 L_7 =>
    bnd (((31 : Int64) * y1) + r_5.toInt64) fun t_8 =>
    f_X4_digest_27 k18 x3 x4 n V_6 L_7 t_8 (x5 + 1))
def f_X4_digest_95 (k80 : (Nat → Nat → Int32) → (Nat → Int64) → Int64 → Int32 → Option (Int64 × (Nat → Nat → Int32) × (Nat → Int64))) (x3 : Int32) (x4 : Int32) : Nat → (Nat → Nat → Int32) → (Nat → Int64) → Int64 → Int32 → Option (Int64 × (Nat → Nat → Int32) × (Nat → Int64))
  | 0, _, _, _, _ => none
  | n + 1, V, L, y1, x5 =>
    if (2 : Int32) < x5 then
    (k80 V L y1 (x4 + 1))
    else
    (bd3 (f_X4_verse V L x4 x5) fun r_1 V_2 L_3 =>
    bnd (((31 : Int64) * y1) + r_1.toInt64) fun t_4 =>
    f_X4_digest_95 k80 x3 x4 n V_2 L_3 t_4 (x5 + 1))
def f_X4_digest_373 (V : Nat → Nat → Int32) (L : Nat → Int64) : Nat → Int64 → Int32 → Option (Int64 × (Nat → Nat → Int32) × (Nat → Int64))
  | 0, _, _ => none
  | n + 1, y1, x4 =>
    if (10 : Int32) < x4 then
    (some (y1, V, L))
    else
    (bnd (((31 : Int64) * y1) + ((f_X4_count V L x4).toInt64)) fun t_1 =>
    f_X4_digest_373 V L n t_1 (x4 + 1))
def f_X4_digest_321 (V : Nat → Nat → Int32) (L : Nat → Int64) : Nat → Int64 → Int32 → Option (Int64 × (Nat → Nat → Int32) × (Nat → Int64))
  | 0, _, _ => none
  | n + 1, y1, x4 =>
    if (V 1 1) ≤ x4 then
    (f_X4_digest_373 V L 20000 y1 (0 : Int32))
    else
    (if (20 : Int32) ≤ x4 then
    (f_X4_digest_373 V L 20000 y1 (0 : Int32))
    else
    (if ib x4 20 = true then
    bnd (((31 : Int64) * y1) + ((V 2 x4.toNatClampNeg).toInt64)) fun t_1 =>
    f_X4_digest_321 V L n t_1 (x4 + 1) else none))
def f_X4_digest_261 (x3 : Int32) : Nat → (Nat → Nat → Int32) → (Nat → Int64) → Int64 → Int32 → Option (Int64 × (Nat → Nat → Int32) × (Nat → Int64))
  | 0, _, _, _, _ => none
  | n + 1, V, L, y1, x4 =>
    if x3 ≤ x4 then
    (f_X4_digest_321 V L 20000 y1 (0 : Int32))
    else
    (if (f_X0_isIn (V 6) x4) = 0 then
    (f_X4_digest_261 x3 n V L y1 (x4 + 1))
    else
    (bd3 (f_X4_likely V L x4 (0 : Int32)) fun r_1 V_2 L_3 =>
    bnd (((31 : Int64) * y1) + r_1.toInt64) fun t_4 =>
    bd3 (f_X4_likely V_2 L_3 x4 (1 : Int32)) fun r_5 V_6 L_7 =>
    bnd (((31 : Int64) * t_4) + r_5.toInt64) fun t_8 =>
    f_X4_digest_261 x3 n V_6 L_7 t_8 (x4 + 1)))
def f_X4_digest_190 (V : Nat → Nat → Int32) (L : Nat → Int64) (y1 : Int64) (x3 : Int32) : Option (Int64 × (Nat → Nat → Int32) × (Nat → Int64)) :=
  if (f_X3_hasRing V L) = 0 then
    (f_X4_digest_261 x3 20000 V L y1 (0 : Int32))
    else
    (if (f_X0_isIn (V 6) (0 : Int32)) = 0 then
    (f_X4_digest_261 x3 20000 V L y1 (0 : Int32))
    else
    (if (f_X0_isIn (V 6) (1 : Int32)) = 0 then
    (f_X4_digest_261 x3 20000 V L y1 (0 : Int32))
    else
    (bd3 (f_X4_game V L (0 : Int32) (1 : Int32) (0 : Int32)) fun r_1 V_2 L_3 =>
    bnd (((31 : Int64) * y1) + r_1.toInt64) fun t_4 =>
    bd3 (f_X4_game V_2 L_3 (0 : Int32) (1 : Int32) (1 : Int32)) fun r_5 V_6 L_7 =>
    bnd (((31 : Int64) * t_4) + r_5.toInt64) fun t_8 =>
    f_X4_digest_261 x3 20000 V_6 L_7 t_8 (0 : Int32))))
def f_X4_digest_80 (x3 : Int32) : Nat → (Nat → Nat → Int32) → (Nat → Int64) → Int64 → Int32 → Option (Int64 × (Nat → Nat → Int32) × (Nat → Int64))
  | 0, _, _, _, _ => none
  | n + 1, V, L, y1, x4 =>
    if (V 5 2) ≤ x4 then
    (if (f_X3_hasRing V L) = 0 then
    (f_X4_digest_190 V L y1 x3)
    else
    (bd3 (f_X4_last V L (3 : Int32)) fun r_1 V_2 L_3 =>
    bnd (((31 : Int64) * y1) + r_1.toInt64) fun t_4 =>
    bd3 (f_X4_stand V_2 L_3 (0 : Int32) (5 : Int32)) fun r_5 V_6 L_7 =>
    bnd (((31 : Int64) * t_4) + r_5.toInt64) fun t_8 =>
    bd3 (f_X4_lengths V_6 L_7) fun r_9 V_10 L_11 =>
    bnd (((31 : Int64) * t_8) + r_9.toInt64) fun t_12 =>
    bd3 (f_X4_from V_10 L_11) fun r_13 V_14 L_15 =>
    bnd (((31 : Int64) * t_12) + r_13.toInt64) fun t_16 =>
    f_X4_digest_190 V_14 L_15 t_16 x3))
    else
    (f_X4_digest_95 (f_X4_digest_80 x3 n) x3 x4 20000 V L y1 (0 : Int32))
def f_X4_digest_18 (x3 : Int32) : Nat → (Nat → Nat → Int32) → (Nat → Int64) → Int64 → Int32 → Option (Int64 × (Nat → Nat → Int32) × (Nat → Int64))
  | 0, _, _, _, _ => none
  | n + 1, V, L, y1, x4 =>
    if x3 ≤ x4 then
    (f_X4_digest_80 x3 20000 V L y1 (0 : Int32))
    else
    (f_X4_digest_27 (f_X4_digest_18 x3 n) x3 x4 20000 V L y1 (0 : Int32))
def f_X4_digest (V : Nat → Nat → Int32) (L : Nat → Int64) : Option (Int64 × (Nat → Nat → Int32) × (Nat → Int64)) :=
  f_X4_digest_18 (V 6 0) 20000 V L (1289 : Int64) (0 : Int32)
def f_X5_within (x0 : Int32) (x1 : Int32) (x2 : Int32) : Int32 :=
  if x0 < x1 then
    ((0 : Int32))
    else
    (if x2 < x0 then
    ((0 : Int32))
    else
    ((1 : Int32)))
theorem z_X5_within (x0 : Int32) (x1 : Int32) (x2 : Int32) : isz (f_X5_within x0 x1 x2) = true := by
  simp only [f_X5_within]
  repeat' split
  all_goals first | rfl | exact z_X3_hasChild _ _ _ | exact z_X0_isIn _ _ | exact z_X0_hasSlipped _ _ | exact z_X0_canCount _ | exact z_X4_isKind _ | exact z_X3_hasVerse _ _ _ | exact z_X3_hasRing _ _ | exact z_X4_isBeats _
def f_X5_isIn (x0 : Int32) (x1 : Int32) : Int32 :=
  if ((ishr x0 x1) &&& (1 : Int32)) = (1 : Int32) then
    ((1 : Int32))
    else
    ((0 : Int32))
theorem z_X5_isIn (x0 : Int32) (x1 : Int32) : isz (f_X5_isIn x0 x1) = true := by
  simp only [f_X5_isIn]
  repeat' split
  all_goals first | rfl | exact z_X3_hasChild _ _ _ | exact z_X0_isIn _ _ | exact z_X0_hasSlipped _ _ | exact z_X0_canCount _ | exact z_X4_isKind _ | exact z_X3_hasVerse _ _ _ | exact z_X3_hasRing _ _ | exact z_X4_isBeats _ | exact z_X5_within _ _ _
def f_X5_size_4 (x0 : Int32) : Nat → Int32 → Int32 → Option Int32
  | 0, _, _ => none
  | n + 1, x1, x2 =>
    if (24 : Int32) ≤ x2 then
    (some x1)
    else
    (bnd (x1 + ((ishr x0 x2) &&& (1 : Int32))) fun t_1 =>
    f_X5_size_4 x0 n t_1 (x2 + 1))
def f_X5_size (x0 : Int32) : Option Int32 :=
  f_X5_size_4 x0 20000 (0 : Int32) (0 : Int32)
def f_X5_divisor_4 : Nat → Int32 → Int32 → Option Int32
  | 0, _, _ => none
  | n + 1, x2, x3 =>
    if x3 = 0 then
    (some x2)
    else
    (if x3 = 0 then none else
    f_X5_divisor_4 n x3 (irem x2 x3))
def f_X5_divisor (x0 : Int32) (x1 : Int32) : Option Int32 :=
  f_X5_divisor_4 20000 x0 x1
def f_X5_letter (V : Nat → Nat → Int32) (L : Nat → Int64) (x1 : Int32) : Option (Int32 × (Nat → Nat → Int32) × (Nat → Int64)) :=
  if (f_X5_within x1 (32 : Int32) (126 : Int32)) = 0 then
    (some ((-102 : Int32), V, L))
    else
    (if (V 0 13) = (20 : Int32) then
    (some ((-104 : Int32), V, L))
    else
    (if ib (V 0 13) 20 = true then
    bnd (up2 V 14 (V 0 13).toNatClampNeg (vp_nar .byte (i2b x1))) fun V_1 =>
    bnd (up2 V_1 0 13 ((V_1 0 13) + (1 : Int32))) fun V_2 =>
    some (V_2 0 13, V_2, L) else none))
def f_X5_blank (V : Nat → Nat → Int32) (L : Nat → Int64) : Option (Int32 × (Nat → Nat → Int32) × (Nat → Int64)) :=
  bnd (up2 V 0 13 (0 : Int32)) fun V_1 =>
    some (V 0 13, V_1, L)
def f_X5_kindBy (x0 : Int32) : Int32 :=
  if x0 = 98 then
    ((2 : Int32))
    else if x0 = 99 then
    ((0 : Int32))
    else if x0 = 107 then
    ((4 : Int32))
    else if x0 = 115 then
    ((3 : Int32))
    else if x0 = 116 then
    ((1 : Int32))
    else ((-1 : Int32))
def f_X5_at (V : Nat → Nat → Int32) (L : Nat → Int64) (x1 : Int32) : Option Int32 :=
  if (V 0 13) ≤ x1 then
    (some (0 : Int32))
    else
    (if ib x1 20 = true then
    some (V 14 x1.toNatClampNeg) else none)
def f_X5_isFigure (V : Nat → Nat → Int32) (L : Nat → Int64) (x1 : Int32) (x2 : Int32) : Option Int32 :=
  bd1 (f_X5_at V L x1) fun r_1 =>
    some (f_X5_within (r_1 - (48 : Int32)) x2 (9 : Int32))
def f_X5_readChildren_39 (V : Nat → Nat → Int32) (L : Nat → Int64) (x2 : Int32) : Option (Int32 × (Nat → Nat → Int32) × (Nat → Int64)) :=
  if (V 0 17) ≤ (1 : Int32) then
    (bnd (up2 V 0 15 (0 : Int32)) fun V_1 =>
    some (x2, V_1, L))
    else
    (if x2 = (V 0 13) then
    (bnd (up2 V 0 15 (1 : Int32)) fun V_3 =>
    some (x2, V_3, L))
    else
    (bnd (up2 V 0 15 (0 : Int32)) fun V_2 =>
    some (x2, V_2, L)))
def f_X5_readChildren_2 : Nat → (Nat → Nat → Int32) → (Nat → Int64) → Int32 → Option (Int32 × (Nat → Nat → Int32) × (Nat → Int64))
  | 0, _, _, _ => none
  | n + 1, V, L, x2 =>
    if (8 : Int32) ≤ (V 0 17) then
    (f_X5_readChildren_39 V L x2)
    else
    (bd1 (f_X5_at V L x2) fun r_1 =>
    if (f_X5_kindBy r_1) = (-1 : Int32) then
    (f_X5_readChildren_39 V L x2)
    else
    (bnd (up2 V 0 17 ((V 0 17) + (1 : Int32))) fun V_2 =>
    f_X5_readChildren_2 n V_2 L (x2 + 1)))
def f_X5_readChildren (V : Nat → Nat → Int32) (L : Nat → Int64) (x1 : Int32) : Option (Int32 × (Nat → Nat → Int32) × (Nat → Int64)) :=
  f_X5_readChildren_2 20000 V L x1
def f_X5_read_17 : Nat → (Nat → Nat → Int32) → (Nat → Int64) → Int32 → Option (Int32 × (Nat → Nat → Int32) × (Nat → Int64))
  | 0, _, _, _ => none
  | n + 1, V, L, x1 =>
    if (3 : Int32) ≤ (V 0 16) then
    (some (x1, V, L))
    else
    (bd1 (f_X5_isFigure V L x1 (0 : Int32)) fun r_1 =>
    if r_1 = 0 then
    (some (x1, V, L))
    else
    (bd1 (f_X5_at V L x1) fun r_2 =>
    if r_2 = (48 : Int32) then
    (bd1 (f_X5_isFigure V L (x1 + (1 : Int32)) (1 : Int32)) fun r_10 =>
    if r_10 = 0 then
    (some (x1 + (1 : Int32), V, L))
    else
    (bnd (up2 V 0 16 ((V 0 16) + (1 : Int32))) fun V_11 =>
    bd1 (f_X5_at V_11 L (x1 + 2)) fun r_12 =>
    if r_12 = (59 : Int32) then
    (bd3 (f_X5_readChildren V_11 L ((x1 + 2) + (1 : Int32))) fun r_14 V_15 L_16 =>
    some (r_14, V_15, L_16))
    else
    (if (V_11 0 16) = (3 : Int32) then
    (some (x1 + 2, V_11, L))
    else
    (bd1 (f_X5_at V_11 L (x1 + 2)) fun r_13 =>
    if r_13 = (44 : Int32) then
    (f_X5_read_17 n V_11 L ((x1 + 2) + 1))
    else
    (some (x1 + 2, V_11, L))))))
    else
    (bd1 (f_X5_isFigure V L (x1 + (1 : Int32)) (0 : Int32)) fun r_3 =>
    if r_3 = 0 then
    (some (x1 + (1 : Int32), V, L))
    else
    (bnd (up2 V 0 16 ((V 0 16) + (1 : Int32))) fun V_4 =>
    bd1 (f_X5_at V_4 L (x1 + 2)) fun r_5 =>
    if r_5 = (59 : Int32) then
    (bd3 (f_X5_readChildren V_4 L ((x1 + 2) + (1 : Int32))) fun r_7 V_8 L_9 =>
    some (r_7, V_8, L_9))
    else
    (if (V_4 0 16) = (3 : Int32) then
    (some (x1 + 2, V_4, L))
    else
    (bd1 (f_X5_at V_4 L (x1 + 2)) fun r_6 =>
    if r_6 = (44 : Int32) then
    (f_X5_read_17 n V_4 L ((x1 + 2) + 1))
    else
    (some (x1 + 2, V_4, L))))))))
def f_X5_read (V : Nat → Nat → Int32) (L : Nat → Int64) : Option (Int32 × (Nat → Nat → Int32) × (Nat → Int64)) :=
  bnd (up2 V 0 15 (0 : Int32)) fun V_1 =>
    bnd (up2 V_1 0 16 (0 : Int32)) fun V_2 =>
    bnd (up2 V_2 0 17 (0 : Int32)) fun V_3 =>
    f_X5_read_17 20000 V_3 L (0 : Int32)
def f_X5_fault (V : Nat → Nat → Int32) (L : Nat → Int64) : Option (Int32 × (Nat → Nat → Int32) × (Nat → Int64)) :=
  bd3 (f_X5_read V L) fun r_1 V_2 L_3 =>
    some (r_1, V_2, L_3)
def f_X5_ring_83 : Nat → (Nat → Nat → Int32) → (Nat → Int64) → Int32 → Option (Int32 × (Nat → Nat → Int32) × (Nat → Int64))
  | 0, _, _, _ => none
  | n + 1, V, L, x1 =>
    if (V 0 1) ≤ x1 then
    (bnd (up2 V 0 5 ((ishl (1 : Int32) (V 0 1)) - (1 : Int32))) fun V_1 =>
    bnd (up2 V_1 0 6 (0 : Int32)) fun V_2 =>
    bnd (up2 V_2 0 7 (0 : Int32)) fun V_3 =>
    bnd (up2 V_3 0 8 (1 : Int32)) fun V_4 =>
    bnd (up2 V_4 0 9 (0 : Int32)) fun V_5 =>
    bnd (up2 V_5 0 0 ((V_5 0 0) + (1 : Int32))) fun V_6 =>
    bnd (up2 V_6 0 10 (0 : Int32)) fun V_7 =>
    bnd (up2 V_7 0 13 (0 : Int32)) fun V_8 =>
    some (V_8 0 1, V_8, L))
    else
    (if ib (((3 : Int32) * (V 0 2)) + x1) 20 = true then
    if ib x1 9 = true then
    bnd (up2 V 4 x1.toNatClampNeg (f_X5_kindBy (V 14 (((3 : Int32) * (V 0 2)) + x1).toNatClampNeg))) fun V_9 =>
    f_X5_ring_83 n V_9 L (x1 + 1) else none else none)
def f_X5_ring_33 : Nat → (Nat → Nat → Int32) → (Nat → Int64) → Int32 → Option (Int32 × (Nat → Nat → Int32) × (Nat → Int64))
  | 0, _, _, _ => none
  | n + 1, V, L, x1 =>
    if (V 0 2) ≤ x1 then
    (f_X5_ring_83 20000 V L (0 : Int32))
    else
    (if ib ((3 : Int32) * x1) 20 = true then
    if ib (((3 : Int32) * x1) + (1 : Int32)) 20 = true then
    if ib x1 3 = true then
    bnd (up2 V 3 x1.toNatClampNeg ((((10 : Int32) * ((V 14 ((3 : Int32) * x1).toNatClampNeg) - (48 : Int32))) + (V 14 (((3 : Int32) * x1) + (1 : Int32)).toNatClampNeg)) - (48 : Int32))) fun V_1 =>
    f_X5_ring_33 n V_1 L (x1 + 1) else none else none else none)
def f_X5_ring (V : Nat → Nat → Int32) (L : Nat → Int64) : Option (Int32 × (Nat → Nat → Int32) × (Nat → Int64)) :=
  bd3 (f_X5_read V L) fun r_1 V_2 L_3 =>
    if (V_2 0 15) = 0 then
    (some ((-103 : Int32), V_2, L_3))
    else
    (bnd (up2 V_2 0 2 (V_2 0 16)) fun V_4 =>
    bnd (up2 V_4 0 1 (V_4 0 17)) fun V_5 =>
    f_X5_ring_33 20000 V_5 L_3 (0 : Int32))
def f_X5_isChild (V : Nat → Nat → Int32) (L : Nat → Int64) (x1 : Int32) : Int32 :=
  f_X5_within x1 (0 : Int32) ((V 0 1) - (1 : Int32))
theorem z_X5_isChild (V : Nat → Nat → Int32) (L : Nat → Int64) (x1 : Int32) : isz (f_X5_isChild V L x1) = true := by
  simp only [f_X5_isChild]
  repeat' split
  all_goals first | rfl | exact z_X3_hasChild _ _ _ | exact z_X0_isIn _ _ | exact z_X0_hasSlipped _ _ | exact z_X0_canCount _ | exact z_X4_isKind _ | exact z_X3_hasVerse _ _ _ | exact z_X3_hasRing _ _ | exact z_X4_isBeats _ | exact z_X5_within _ _ _ | exact z_X5_isIn _ _
def f_X5_isVerse (V : Nat → Nat → Int32) (L : Nat → Int64) (x1 : Int32) : Int32 :=
  f_X5_within x1 (0 : Int32) ((V 0 2) - (1 : Int32))
theorem z_X5_isVerse (V : Nat → Nat → Int32) (L : Nat → Int64) (x1 : Int32) : isz (f_X5_isVerse V L x1) = true := by
  simp only [f_X5_isVerse]
  repeat' split
  all_goals first | rfl | exact z_X3_hasChild _ _ _ | exact z_X0_isIn _ _ | exact z_X0_hasSlipped _ _ | exact z_X0_canCount _ | exact z_X4_isKind _ | exact z_X3_hasVerse _ _ _ | exact z_X3_hasRing _ _ | exact z_X4_isBeats _ | exact z_X5_within _ _ _ | exact z_X5_isIn _ _ | exact z_X5_isChild _ _ _
def f_X5_takes (x0 : Int32) : Int32 :=
  if x0 = (1 : Int32) then
    ((2 : Int32))
    else
    (if x0 = (2 : Int32) then
    ((0 : Int32))
    else
    ((1 : Int32)))
def f_X5_isSly (V : Nat → Nat → Int32) (L : Nat → Int64) (x1 : Int32) : Option Int32 :=
  if ib x1 9 = true then
    if (V 4 x1.toNatClampNeg) = (3 : Int32) then
    (some (1 : Int32))
    else
    (if ib x1 9 = true then
    if (V 4 x1.toNatClampNeg) = (4 : Int32) then
    (some (1 : Int32))
    else
    (some (0 : Int32)) else none) else none
def f_X5_beatsIn_4 (V : Nat → Nat → Int32) (L : Nat → Int64) : Nat → Int32 → Int32 → Option Int32
  | 0, _, _ => none
  | n + 1, x1, x2 =>
    if (V 0 1) ≤ x2 then
    (some x1)
    else
    (if (f_X5_isIn (V 0 5) x2) = 0 then
    (f_X5_beatsIn_4 V L n (x1 + (0 : Int32)) (x2 + 1))
    else
    (if ib x2 9 = true then
    bnd (x1 + (f_X5_takes (V 4 x2.toNatClampNeg))) fun t_1 =>
    f_X5_beatsIn_4 V L n t_1 (x2 + 1) else none))
def f_X5_beatsIn (V : Nat → Nat → Int32) (L : Nat → Int64) : Option Int32 :=
  f_X5_beatsIn_4 V L 20000 (0 : Int32) (0 : Int32)
def f_X5_isCount (V : Nat → Nat → Int32) (L : Nat → Int64) : Option Int32 :=
  bd1 (f_X5_size (V 0 5)) fun r_1 =>
    if r_1 ≤ (1 : Int32) then
    (some (0 : Int32))
    else
    (bd1 (f_X5_beatsIn V L) fun r_2 =>
    if r_2 ≤ 0 then
    (some (0 : Int32))
    else
    (some (1 : Int32)))
def f_X5_nextFrom_35 (k5 : Int32 → Int32 → Option Int32) (V : Nat → Nat → Int32) (L : Nat → Int64) (x2 : Int32) (x3 : Int32) : Option Int32 :=
  if (f_X5_isIn (V 0 5) x3) = 0 then
    (k5 x3 (0 : Int32))
    else
    (if x2 = 0 then
    (k5 x3 (1 : Int32))
    else
    (if ib x3 9 = true then
    if (V 4 x3.toNatClampNeg) = (2 : Int32) then
    (k5 x3 (0 : Int32))
    else
    (k5 x3 (1 : Int32)) else none))
def f_X5_nextFrom_5 (V : Nat → Nat → Int32) (L : Nat → Int64) (x2 : Int32) : Nat → Int32 → Int32 → Option Int32
  | 0, _, _ => none
  | n + 1, x3, x4 =>
    if x4 = 0 then
    (if (V 0 8) = 0 then
    (if (V 0 1) = 0 then none else
    bnd (irem (x3 + ((V 0 1) - (1 : Int32))) (V 0 1)) fun t_1 =>
    f_X5_nextFrom_35 (f_X5_nextFrom_5 V L x2 n) V L x2 t_1)
    else
    (if (V 0 1) = 0 then none else
    bnd (irem (x3 + (1 : Int32)) (V 0 1)) fun t_2 =>
    f_X5_nextFrom_35 (f_X5_nextFrom_5 V L x2 n) V L x2 t_2))
    else
    (some x3)
def f_X5_nextFrom (V : Nat → Nat → Int32) (L : Nat → Int64) (x1 : Int32) (x2 : Int32) : Option Int32 :=
  f_X5_nextFrom_5 V L x2 20000 x1 (0 : Int32)
def f_X5_isOther_4 (V : Nat → Nat → Int32) (L : Nat → Int64) (x1 : Int32) : Nat → Int32 → Int32 → Option Int32
  | 0, _, _ => none
  | n + 1, x2, x3 =>
    if (V 0 1) ≤ x3 then
    (if isz x2 = true then
    some x2 else none)
    else
    (if x2 = 0 then
    (if x3 = x1 then
    (f_X5_isOther_4 V L x1 n (0 : Int32) (x3 + 1))
    else
    (if (f_X5_isIn (V 0 5) x3) = 0 then
    (f_X5_isOther_4 V L x1 n (0 : Int32) (x3 + 1))
    else
    (if ib x3 9 = true then
    if (V 4 x3.toNatClampNeg) = (2 : Int32) then
    (f_X5_isOther_4 V L x1 n (0 : Int32) (x3 + 1))
    else
    (f_X5_isOther_4 V L x1 n (1 : Int32) (x3 + 1)) else none)))
    else
    (f_X5_isOther_4 V L x1 n (1 : Int32) (x3 + 1)))
def f_X5_isOther (V : Nat → Nat → Int32) (L : Nat → Int64) (x1 : Int32) : Option Int32 :=
  f_X5_isOther_4 V L x1 20000 (0 : Int32) (0 : Int32)
def f_X5_goCount_70 (k54 : Int32 → Int32 → Option (Int32 × (Nat → Nat → Int32) × (Nat → Int64))) (V : Nat → Nat → Int32) (L : Nat → Int64) (x2 : Int32) (x3 : Int32) : Option (Int32 × (Nat → Nat → Int32) × (Nat → Int64)) :=
  bd1 (f_X5_nextFrom V L x3 (0 : Int32)) fun r_1 =>
    if ib r_1 9 = true then
    bnd (x2 - (f_X5_takes (V 4 r_1.toNatClampNeg))) fun t_2 =>
    k54 t_2 r_1 else none
def f_X5_goCount_164 (k92 : (Nat → Nat → Int32) → (Nat → Int64) → Int32 → Option (Int32 × (Nat → Nat → Int32) × (Nat → Int64))) (V : Nat → Nat → Int32) (L : Nat → Int64) (x3 : Int32) : Option (Int32 × (Nat → Nat → Int32) × (Nat → Int64)) :=
  bd1 (f_X5_nextFrom V L x3 (1 : Int32)) fun r_1 =>
    k92 V L r_1
def f_X5_goCount_174 (V : Nat → Nat → Int32) (L : Nat → Int64) (x3 : Int32) : Option (Int32 × (Nat → Nat → Int32) × (Nat → Int64)) :=
  bnd (up2 V 0 5 ((V 0 5) &&& ((ishl (1 : Int32) x3) ^^^ (-1 : Int32)))) fun V_1 =>
    bd1 (f_X5_nextFrom V_1 L x3 (0 : Int32)) fun r_2 =>
    bnd (up2 V_1 0 7 r_2) fun V_3 =>
    some (x3, V_3, L)
def f_X5_goCount_92 : Nat → (Nat → Nat → Int32) → (Nat → Int64) → Int32 → Option (Int32 × (Nat → Nat → Int32) × (Nat → Int64))
  | 0, _, _, _ => none
  | n + 1, V, L, x3 =>
    bd1 (f_X5_isSly V L x3) fun r_1 =>
    if r_1 = 0 then
    (f_X5_goCount_174 V L x3)
    else
    (if (f_X5_isIn (V 0 6) x3) = 0 then
    (bd1 (f_X5_isOther V L x3) fun r_2 =>
    if r_2 = 0 then
    (f_X5_goCount_174 V L x3)
    else
    (bnd (up2 V 0 6 ((V 0 6) ||| (ishl (1 : Int32) x3))) fun V_3 =>
    if ib x3 9 = true then
    if (V_3 4 x3.toNatClampNeg) = (4 : Int32) then
    (if (V_3 0 8) = 0 then
    (bnd (up2 V_3 0 8 (1 : Int32)) fun V_6 =>
    f_X5_goCount_164 (f_X5_goCount_92 n) V_6 L x3)
    else
    (bnd (up2 V_3 0 8 (0 : Int32)) fun V_5 =>
    f_X5_goCount_164 (f_X5_goCount_92 n) V_5 L x3))
    else
    (if isz (V_3 0 8) = true then
    bnd (up2 V_3 0 8 (V_3 0 8)) fun V_4 =>
    f_X5_goCount_164 (f_X5_goCount_92 n) V_4 L x3 else none) else none))
    else
    (f_X5_goCount_174 V L x3))
def f_X5_goCount_54 (V : Nat → Nat → Int32) (L : Nat → Int64) : Nat → Int32 → Int32 → Option (Int32 × (Nat → Nat → Int32) × (Nat → Int64))
  | 0, _, _ => none
  | n + 1, x2, x3 =>
    if 0 < x2 then
    (f_X5_goCount_70 (f_X5_goCount_54 V L n) V L x2 x3)
    else
    (if ib x3 9 = true then
    if (f_X5_takes (V 4 x3.toNatClampNeg)) = 0 then
    (f_X5_goCount_70 (f_X5_goCount_54 V L n) V L x2 x3)
    else
    (f_X5_goCount_92 20000 V L x3) else none)
def f_X5_goCount_42 (V : Nat → Nat → Int32) (L : Nat → Int64) (x2 : Int32) (x3 : Int32) : Option (Int32 × (Nat → Nat → Int32) × (Nat → Int64)) :=
  if ib x3 9 = true then
    bnd (x2 - (f_X5_takes (V 4 x3.toNatClampNeg))) fun t_1 =>
    f_X5_goCount_54 V L 20000 t_1 x3 else none
def f_X5_goCount (V : Nat → Nat → Int32) (L : Nat → Int64) (x1 : Int32) : Option (Int32 × (Nat → Nat → Int32) × (Nat → Int64)) :=
  bd1 (f_X5_beatsIn V L) fun r_1 =>
    if r_1 = 0 then none else
    bnd ((irem (x1 - (1 : Int32)) r_1) + (1 : Int32)) fun t_2 =>
    if (f_X5_isIn (V 0 5) (V 0 7)) = 0 then
    (bd1 (f_X5_nextFrom V L (V 0 7) (0 : Int32)) fun r_3 =>
    f_X5_goCount_42 V L t_2 r_3)
    else
    (f_X5_goCount_42 V L t_2 (V 0 7))
def f_X5_save (V : Nat → Nat → Int32) (L : Nat → Int64) : Option ((Nat → Nat → Int32) × (Nat → Int64)) :=
  bnd (up2 V 0 18 (V 0 5)) fun V_1 =>
    bnd (up2 V_1 0 19 (V_1 0 6)) fun V_2 =>
    bnd (up2 V_2 0 20 (V_2 0 7)) fun V_3 =>
    if isz (V_3 0 8) = true then
    bnd (up2 V_3 0 21 (V_3 0 8)) fun V_4 =>
    some (V_4, L) else none
def f_X5_load (V : Nat → Nat → Int32) (L : Nat → Int64) : Option ((Nat → Nat → Int32) × (Nat → Int64)) :=
  bnd (up2 V 0 5 (V 0 18)) fun V_1 =>
    bnd (up2 V_1 0 6 (V_1 0 19)) fun V_2 =>
    bnd (up2 V_2 0 7 (V_2 0 20)) fun V_3 =>
    if isz (V_3 0 21) = true then
    bnd (up2 V_3 0 8 (V_3 0 21)) fun V_4 =>
    some (V_4, L) else none
def f_X5_lastNow_20 (V : Nat → Nat → Int32) (L : Nat → Int64) : Nat → Int32 → Int32 → Option (Int32 × (Nat → Nat → Int32) × (Nat → Int64))
  | 0, _, _ => none
  | n + 1, x2, x3 =>
    if (V 0 1) ≤ x3 then
    (bd1 (f_X5_size (V 0 5)) fun r_1 =>
    if r_1 = (1 : Int32) then
    (some (x2, V, L))
    else
    (some ((-1 : Int32), V, L)))
    else
    (if (f_X5_isIn (V 0 5) x3) = 0 then
    (f_X5_lastNow_20 V L n x2 (x3 + 1))
    else
    (f_X5_lastNow_20 V L n x3 (x3 + 1)))
def f_X5_lastNow_0 (x1 : Int32) : Nat → (Nat → Nat → Int32) → (Nat → Int64) → Option (Int32 × (Nat → Nat → Int32) × (Nat → Int64))
  | 0, _, _ => none
  | n + 1, V, L =>
    bd1 (f_X5_isCount V L) fun r_1 =>
    if r_1 = 0 then
    (f_X5_lastNow_20 V L 20000 (-1 : Int32) (0 : Int32))
    else
    (bd3 (f_X5_goCount V L x1) fun r_2 V_3 L_4 =>
    f_X5_lastNow_0 x1 n V_3 L_4)
def f_X5_lastNow (V : Nat → Nat → Int32) (L : Nat → Int64) (x1 : Int32) : Option (Int32 × (Nat → Nat → Int32) × (Nat → Int64)) :=
  f_X5_lastNow_0 x1 20000 V L
def f_X5_lastBy (V : Nat → Nat → Int32) (L : Nat → Int64) (x1 : Int32) : Option (Int32 × (Nat → Nat → Int32) × (Nat → Int64)) :=
  bd2 (f_X5_save V L) fun V_1 L_2 =>
    bd3 (f_X5_lastNow V_1 L_2 x1) fun r_3 V_4 L_5 =>
    bd2 (f_X5_load V_4 L_5) fun V_6 L_7 =>
    some (r_3, V_6, L_7)
def f_X5_outBy (V : Nat → Nat → Int32) (L : Nat → Int64) (x1 : Int32) (x2 : Int32) : Option (Int32 × (Nat → Nat → Int32) × (Nat → Int64)) :=
  bd1 (f_X5_isCount V L) fun r_1 =>
    if r_1 = 0 then
    (some ((-1 : Int32), V, L))
    else
    (bd2 (f_X5_save V L) fun V_2 L_3 =>
    bnd (up2 V_2 0 7 x1) fun V_4 =>
    bd3 (f_X5_goCount V_4 L_3 x2) fun r_5 V_6 L_7 =>
    bd2 (f_X5_load V_6 L_7) fun V_8 L_9 =>
    some (r_5, V_8, L_9))
def f_X5_beatsFor_2 (x1 : Int32) : Nat → (Nat → Nat → Int32) → (Nat → Int64) → Int32 → Option (Int32 × (Nat → Nat → Int32) × (Nat → Int64))
  | 0, _, _, _ => none
  | n + 1, V, L, x2 =>
    if (60 : Int32) < x2 then
    (some ((-1 : Int32), V, L))
    else
    (bd3 (f_X5_lastBy V L x2) fun r_1 V_2 L_3 =>
    if r_1 = x1 then
    (some (x2, V_2, L_3))
    else
    (f_X5_beatsFor_2 x1 n V_2 L_3 (x2 + 1)))
def f_X5_beatsFor (V : Nat → Nat → Int32) (L : Nat → Int64) (x1 : Int32) : Option (Int32 × (Nat → Nat → Int32) × (Nat → Int64)) :=
  f_X5_beatsFor_2 x1 20000 V L (1 : Int32)
def f_X5_childNow (V : Nat → Nat → Int32) (L : Nat → Int64) (x1 : Int32) (x2 : Int32) : Option (Int32 × (Nat → Nat → Int32) × (Nat → Int64)) :=
  if x2 = 0 then
    (if ib x1 9 = true then
    some (V 4 x1.toNatClampNeg, V, L) else none)
    else if x2 = 1 then
    (if (f_X5_isIn (V 0 5) x1) = 0 then
    (some ((0 : Int32), V, L))
    else
    (some ((1 : Int32), V, L)))
    else if x2 = 2 then
    (if (f_X5_isIn (V 0 6) x1) = 0 then
    (some ((0 : Int32), V, L))
    else
    (some ((1 : Int32), V, L)))
    else if x2 = 3 then
    (if ib x1 9 = true then
    some (f_X5_takes (V 4 x1.toNatClampNeg), V, L) else none)
    else if x2 = 4 then
    (bd3 (f_X5_beatsFor V L x1) fun r_1 V_2 L_3 =>
    some (r_1, V_2, L_3))
    else (if (V 0 7) = x1 then
    (some ((1 : Int32), V, L))
    else
    (some ((0 : Int32), V, L)))
def f_X5_child (V : Nat → Nat → Int32) (L : Nat → Int64) (x1 : Int32) (x2 : Int32) : Option (Int32 × (Nat → Nat → Int32) × (Nat → Int64)) :=
  if (f_X5_isChild V L x1) = 0 then
    (some ((-101 : Int32), V, L))
    else
    (if (f_X5_within x2 (0 : Int32) (5 : Int32)) = 0 then
    (some ((-102 : Int32), V, L))
    else
    (bd3 (f_X5_childNow V L x1 x2) fun r_1 V_2 L_3 =>
    some (r_1, V_2, L_3)))
def f_X5_as (V : Nat → Nat → Int32) (L : Nat → Int64) (x1 : Int32) (x2 : Int32) : Option Int32 :=
  if (f_X5_isChild V L x1) = 0 then
    (some (-101 : Int32))
    else
    (if (f_X5_within x2 (0 : Int32) (4 : Int32)) = 0 then
    (some (-102 : Int32))
    else
    (if ib x1 9 = true then
    if x2 = 0 then
    (some x1)
    else
    (if (V 4 x1.toNatClampNeg) = x2 then
    (some x1)
    else
    (if x2 = (3 : Int32) then
    (if (V 4 x1.toNatClampNeg) = (4 : Int32) then
    (some x1)
    else
    (some (-1 : Int32)))
    else
    (some (-1 : Int32)))) else none))
def f_X5_verseNow (V : Nat → Nat → Int32) (L : Nat → Int64) (x1 : Int32) (x2 : Int32) : Option (Int32 × (Nat → Nat → Int32) × (Nat → Int64)) :=
  if x2 = 0 then
    (if ib x1 3 = true then
    some (V 3 x1.toNatClampNeg, V, L) else none)
    else
    (if x2 = (1 : Int32) then
    (if ib x1 3 = true then
    bd3 (f_X5_outBy V L (V 0 7) (V 3 x1.toNatClampNeg)) fun r_4 V_5 L_6 =>
    some (r_4, V_5, L_6) else none)
    else
    (if ib x1 3 = true then
    bd3 (f_X5_lastBy V L (V 3 x1.toNatClampNeg)) fun r_1 V_2 L_3 =>
    some (r_1, V_2, L_3) else none))
def f_X5_verse (V : Nat → Nat → Int32) (L : Nat → Int64) (x1 : Int32) (x2 : Int32) : Option (Int32 × (Nat → Nat → Int32) × (Nat → Int64)) :=
  if (f_X5_isVerse V L x1) = 0 then
    (some ((-101 : Int32), V, L))
    else
    (if (f_X5_within x2 (0 : Int32) (2 : Int32)) = 0 then
    (some ((-102 : Int32), V, L))
    else
    (bd3 (f_X5_verseNow V L x1 x2) fun r_1 V_2 L_3 =>
    some (r_1, V_2, L_3)))
def f_X5_say (V : Nat → Nat → Int32) (L : Nat → Int64) (x1 : Int32) : Option (Int32 × (Nat → Nat → Int32) × (Nat → Int64)) :=
  if (f_X5_isVerse V L x1) = 0 then
    (some ((-101 : Int32), V, L))
    else
    (bd1 (f_X5_isCount V L) fun r_1 =>
    if r_1 = 0 then
    (some ((-103 : Int32), V, L))
    else
    (if (V 0 9) = (999 : Int32) then
    (some ((-104 : Int32), V, L))
    else
    (bnd (up2 V 0 9 ((V 0 9) + (1 : Int32))) fun V_2 =>
    if ib x1 3 = true then
    bd3 (f_X5_goCount V_2 L (V_2 3 x1.toNatClampNeg)) fun r_3 V_4 L_5 =>
    some (r_3, V_4, L_5) else none)))
def f_X5_back (V : Nat → Nat → Int32) (L : Nat → Int64) (x1 : Int32) : Option (Int32 × (Nat → Nat → Int32) × (Nat → Int64)) :=
  if (f_X5_isChild V L x1) = 0 then
    (some ((-101 : Int32), V, L))
    else
    (if (f_X5_isIn (V 0 5) x1) = 0 then
    (bnd (up2 V 0 5 ((V 0 5) ||| (ishl (1 : Int32) x1))) fun V_1 =>
    bd1 (f_X5_size (V_1 0 5)) fun r_2 =>
    some (r_2, V_1, L))
    else
    (some ((-103 : Int32), V, L)))
def f_X5_first (V : Nat → Nat → Int32) (L : Nat → Int64) (x1 : Int32) : Option (Int32 × (Nat → Nat → Int32) × (Nat → Int64)) :=
  if (f_X5_isChild V L x1) = 0 then
    (some ((-101 : Int32), V, L))
    else
    (bnd (up2 V 0 7 x1) fun V_1 =>
    some (V 0 7, V_1, L))
def f_X5_turn_26 (V : Nat → Nat → Int32) (L : Nat → Int64) : Option (Int32 × (Nat → Nat → Int32) × (Nat → Int64)) :=
  if (V 0 8) = 0 then
    (some ((1 : Int32), V, L))
    else
    (some ((0 : Int32), V, L))
def f_X5_turn (V : Nat → Nat → Int32) (L : Nat → Int64) : Option (Int32 × (Nat → Nat → Int32) × (Nat → Int64)) :=
  if (V 0 1) = 0 then
    (some ((-103 : Int32), V, L))
    else
    (if (V 0 8) = 0 then
    (bnd (up2 V 0 8 (1 : Int32)) fun V_2 =>
    f_X5_turn_26 V_2 L)
    else
    (bnd (up2 V 0 8 (0 : Int32)) fun V_1 =>
    f_X5_turn_26 V_1 L))
def f_X5_beats (V : Nat → Nat → Int32) (L : Nat → Int64) (x1 : Int32) (x2 : Int32) : Option (Int32 × (Nat → Nat → Int32) × (Nat → Int64)) :=
  if (f_X5_isVerse V L x1) = 0 then
    (some ((-101 : Int32), V, L))
    else
    (if (f_X5_within x2 (1 : Int32) (99 : Int32)) = 0 then
    (some ((-102 : Int32), V, L))
    else
    (if ib x1 3 = true then
    if ib x1 3 = true then
    bnd (up2 V 3 x1.toNatClampNeg x2) fun V_1 =>
    some (V 3 x1.toNatClampNeg, V_1, L) else none else none))
def f_X5_be (V : Nat → Nat → Int32) (L : Nat → Int64) (x1 : Int32) (x2 : Int32) : Option (Int32 × (Nat → Nat → Int32) × (Nat → Int64)) :=
  if (f_X5_isChild V L x1) = 0 then
    (some ((-101 : Int32), V, L))
    else
    (if (f_X5_within x2 (0 : Int32) (4 : Int32)) = 0 then
    (some ((-102 : Int32), V, L))
    else
    (if ib x1 9 = true then
    if ib x1 9 = true then
    bnd (up2 V 4 x1.toNatClampNeg x2) fun V_1 =>
    bnd (up2 V_1 0 6 ((V_1 0 6) &&& ((ishl (1 : Int32) x1) ^^^ (-1 : Int32)))) fun V_2 =>
    some (V 4 x1.toNatClampNeg, V_2, L) else none else none))
def f_X5_areBeats (x0 : Int32) : Int32 :=
  f_X5_within x0 (1 : Int32) (99 : Int32)
theorem z_X5_areBeats (x0 : Int32) : isz (f_X5_areBeats x0) = true := by
  simp only [f_X5_areBeats]
  repeat' split
  all_goals first | rfl | exact z_X3_hasChild _ _ _ | exact z_X0_isIn _ _ | exact z_X0_hasSlipped _ _ | exact z_X0_canCount _ | exact z_X4_isKind _ | exact z_X3_hasVerse _ _ _ | exact z_X3_hasRing _ _ | exact z_X4_isBeats _ | exact z_X5_within _ _ _ | exact z_X5_isIn _ _ | exact z_X5_isChild _ _ _ | exact z_X5_isVerse _ _ _
def f_X5_last (V : Nat → Nat → Int32) (L : Nat → Int64) (x1 : Int32) : Option (Int32 × (Nat → Nat → Int32) × (Nat → Int64)) :=
  if (f_X5_areBeats x1) = 0 then
    (some ((-102 : Int32), V, L))
    else
    (if (V 0 1) = 0 then
    (some ((-103 : Int32), V, L))
    else
    (bd3 (f_X5_lastBy V L x1) fun r_1 V_2 L_3 =>
    some (r_1, V_2, L_3)))
def f_X5_beginNow_56 (k5 : (Nat → Nat → Int32) → (Nat → Int64) → Int32 → Int32 → Option (Int32 × (Nat → Nat → Int32) × (Nat → Int64))) (V : Nat → Nat → Int32) (L : Nat → Int64) (x1 : Int32) (x2 : Int32) (x3 : Int32) (x4 : Int32) : Option (Int32 × (Nat → Nat → Int32) × (Nat → Int64)) :=
  bd2 (f_X5_load V L) fun V_1 L_2 =>
    k5 V_1 L_2 x3 (x4 + 1)
def f_X5_beginNow_5 (x1 : Int32) (x2 : Int32) : Nat → (Nat → Nat → Int32) → (Nat → Int64) → Int32 → Int32 → Option (Int32 × (Nat → Nat → Int32) × (Nat → Int64))
  | 0, _, _, _, _ => none
  | n + 1, V, L, x3, x4 =>
    if (V 0 1) ≤ x4 then
    (some (x3, V, L))
    else
    (if (f_X5_isIn (V 0 5) x4) = 0 then
    (f_X5_beginNow_5 x1 x2 n V L x3 (x4 + 1))
    else
    (bd2 (f_X5_save V L) fun V_1 L_2 =>
    bnd (up2 V_1 0 7 x4) fun V_3 =>
    bd3 (f_X5_lastNow V_3 L_2 x2) fun r_4 V_5 L_6 =>
    if r_4 = x1 then
    (f_X5_beginNow_56 (f_X5_beginNow_5 x1 x2 n) V_5 L_6 x1 x2 (x3 ||| (ishl (1 : Int32) x4)) x4)
    else
    (f_X5_beginNow_56 (f_X5_beginNow_5 x1 x2 n) V_5 L_6 x1 x2 (x3 ||| (0 : Int32)) x4)))
def f_X5_beginNow (V : Nat → Nat → Int32) (L : Nat → Int64) (x1 : Int32) (x2 : Int32) : Option (Int32 × (Nat → Nat → Int32) × (Nat → Int64)) :=
  f_X5_beginNow_5 x1 x2 20000 V L (0 : Int32) (0 : Int32)
def f_X5_begin (V : Nat → Nat → Int32) (L : Nat → Int64) (x1 : Int32) (x2 : Int32) : Option (Int32 × (Nat → Nat → Int32) × (Nat → Int64)) :=
  if (f_X5_isChild V L x1) = 0 then
    (some ((-101 : Int32), V, L))
    else
    (if (f_X5_areBeats x2) = 0 then
    (some ((-102 : Int32), V, L))
    else
    (bd3 (f_X5_beginNow V L x1 x2) fun r_1 V_2 L_3 =>
    some (r_1, V_2, L_3)))
def f_X5_opened (x0 : Int32) (x1 : Int32) : Int32 :=
  bnd ((ishl (1 : Int32) x1) - (1 : Int32)) fun t_1 =>
    (x0 &&& t_1) ||| (ishl (x0 &&& (t_1 ^^^ (-1 : Int32))) (1 : Int32))
def f_X5_standNow_160 (k5 : (Nat → Nat → Int32) → (Nat → Int64) → Int32 → Int32 → Option (Int32 × (Nat → Nat → Int32) × (Nat → Int64))) (x1 : Int32) (x2 : Int32) (x3 : Int32) (x4 : Int32) : Nat → (Nat → Nat → Int32) → (Nat → Int64) → Int32 → Option (Int32 × (Nat → Nat → Int32) × (Nat → Int64))
  | 0, _, _, _ => none
  | n + 1, V, L, x5 =>
    if (V 0 1) ≤ x5 then
    (bd2 (f_X5_load V L) fun V_1 L_2 =>
    k5 V_1 L_2 x3 (x4 + 1))
    else
    (if ib (x5 + (1 : Int32)) 9 = true then
    if ib x5 9 = true then
    bnd (up2 V 4 x5.toNatClampNeg (V 4 (x5 + (1 : Int32)).toNatClampNeg)) fun V_3 =>
    f_X5_standNow_160 k5 x1 x2 x3 x4 n V_3 L (x5 + 1) else none else none)
def f_X5_standNow_146 (k5 : (Nat → Nat → Int32) → (Nat → Int64) → Int32 → Int32 → Option (Int32 × (Nat → Nat → Int32) × (Nat → Int64))) (V : Nat → Nat → Int32) (L : Nat → Int64) (x1 : Int32) (x2 : Int32) (x3 : Int32) (x4 : Int32) : Option (Int32 × (Nat → Nat → Int32) × (Nat → Int64)) :=
  bnd (up2 V 0 1 ((V 0 1) - (1 : Int32))) fun V_1 =>
    f_X5_standNow_160 k5 x1 x2 x3 x4 20000 V_1 L x4
def f_X5_standNow_115 (k5 : (Nat → Nat → Int32) → (Nat → Int64) → Int32 → Int32 → Option (Int32 × (Nat → Nat → Int32) × (Nat → Int64))) (V : Nat → Nat → Int32) (L : Nat → Int64) (x1 : Int32) (x2 : Int32) (x3 : Int32) (x4 : Int32) : Option (Int32 × (Nat → Nat → Int32) × (Nat → Int64)) :=
  bnd (up2 V 0 1 ((V 0 1) + (1 : Int32))) fun V_1 =>
    bd3 (f_X5_lastNow V_1 L x2) fun r_2 V_3 L_4 =>
    if r_2 = x4 then
    (f_X5_standNow_146 k5 V_3 L_4 x1 x2 (x3 ||| (ishl (1 : Int32) x4)) x4)
    else
    (f_X5_standNow_146 k5 V_3 L_4 x1 x2 (x3 ||| (0 : Int32)) x4)
def f_X5_standNow_24 (k5 : (Nat → Nat → Int32) → (Nat → Int64) → Int32 → Int32 → Option (Int32 × (Nat → Nat → Int32) × (Nat → Int64))) (x1 : Int32) (x2 : Int32) (x3 : Int32) (x4 : Int32) : Nat → (Nat → Nat → Int32) → (Nat → Int64) → Int32 → Option (Int32 × (Nat → Nat → Int32) × (Nat → Int64))
  | 0, _, _, _ => none
  | n + 1, V, L, x5 =>
    if x5 ≤ x4 then
    (if ib x4 9 = true then
    bnd (up2 V 4 x4.toNatClampNeg x1) fun V_1 =>
    bnd (up2 V_1 0 5 ((f_X5_opened (V_1 0 5) x4) ||| (ishl (1 : Int32) x4))) fun V_2 =>
    bnd (up2 V_2 0 6 (f_X5_opened (V_2 0 6) x4)) fun V_3 =>
    if (V_3 0 7) < x4 then
    (bnd (up2 V_3 0 7 ((V_3 0 7) + (0 : Int32))) fun V_4 =>
    f_X5_standNow_115 k5 V_4 L x1 x2 x3 x4)
    else
    (bnd (up2 V_3 0 7 ((V_3 0 7) + (1 : Int32))) fun V_5 =>
    f_X5_standNow_115 k5 V_5 L x1 x2 x3 x4) else none)
    else
    (if ib (x5 - (1 : Int32)) 9 = true then
    if ib x5 9 = true then
    bnd (up2 V 4 x5.toNatClampNeg (V 4 (x5 - (1 : Int32)).toNatClampNeg)) fun V_6 =>
    f_X5_standNow_24 k5 x1 x2 x3 x4 n V_6 L (x5 + (-1)) else none else none)
def f_X5_standNow_5 (x1 : Int32) (x2 : Int32) : Nat → (Nat → Nat → Int32) → (Nat → Int64) → Int32 → Int32 → Option (Int32 × (Nat → Nat → Int32) × (Nat → Int64))
  | 0, _, _, _, _ => none
  | n + 1, V, L, x3, x4 =>
    if (V 0 1) < x4 then
    (some (x3, V, L))
    else
    (bd2 (f_X5_save V L) fun V_1 L_2 =>
    f_X5_standNow_24 (f_X5_standNow_5 x1 x2 n) x1 x2 x3 x4 20000 V_1 L_2 (V_1 0 1))
def f_X5_standNow (V : Nat → Nat → Int32) (L : Nat → Int64) (x1 : Int32) (x2 : Int32) : Option (Int32 × (Nat → Nat → Int32) × (Nat → Int64)) :=
  f_X5_standNow_5 x1 x2 20000 V L (0 : Int32) (0 : Int32)
def f_X5_stand (V : Nat → Nat → Int32) (L : Nat → Int64) (x1 : Int32) (x2 : Int32) : Option (Int32 × (Nat → Nat → Int32) × (Nat → Int64)) :=
  if (f_X5_within x1 (0 : Int32) (4 : Int32)) = 0 then
    (some ((-102 : Int32), V, L))
    else
    (if (f_X5_areBeats x2) = 0 then
    (some ((-102 : Int32), V, L))
    else
    (if (V 0 1) = 0 then
    (some ((-103 : Int32), V, L))
    else
    (bd3 (f_X5_standNow V L x1 x2) fun r_1 V_2 L_3 =>
    some (r_1, V_2, L_3))))
def f_X5_playBy_15 (x1 : Int32) (x3 : Int32) (x4 : Int32) : Nat → (Nat → Nat → Int32) → (Nat → Int64) → Int32 → Int32 → Option (Int32 × (Nat → Nat → Int32) × (Nat → Int64))
  | 0, _, _, _, _ => none
  | n + 1, V, L, x5, x6 =>
    if x6 = (-1 : Int32) then
    (bd1 (f_X5_isCount V L) fun r_3 =>
    if r_3 = 0 then
    (f_X5_playBy_15 x1 x3 x4 n V L x5 (1 : Int32))
    else
    (if (V 0 2) = 0 then none else
    if (x5 / (V 0 2)) = 0 then none else
    if (V 0 2) = 0 then none else
    if ib (irem (x1 / (x5 / (V 0 2))) (V 0 2)) 3 = true then
    bd3 (f_X5_goCount V L (V 3 (irem (x1 / (x5 / (V 0 2))) (V 0 2)).toNatClampNeg)) fun r_4 V_5 L_6 =>
    bnd (up2 V_5 0 23 ((V_5 0 23) + (1 : Int32))) fun V_7 =>
    if r_4 = x4 then
    (f_X5_playBy_15 x1 x3 x4 n V_7 L_6 (x5 / (V 0 2)) (2 : Int32))
    else
    (if r_4 = x3 then
    (f_X5_playBy_15 x1 x3 x4 n V_7 L_6 (x5 / (V 0 2)) (0 : Int32))
    else
    (f_X5_playBy_15 x1 x3 x4 n V_7 L_6 (x5 / (V 0 2)) (-1 : Int32))) else none))
    else
    (bd2 (f_X5_load V L) fun V_1 L_2 =>
    some (x6, V_1, L_2))
def f_X5_playBy (V : Nat → Nat → Int32) (L : Nat → Int64) (x1 : Int32) (x2 : Int32) (x3 : Int32) (x4 : Int32) : Option (Int32 × (Nat → Nat → Int32) × (Nat → Int64)) :=
  bd2 (f_X5_save V L) fun V_1 L_2 =>
    bnd (up2 V_1 0 23 (0 : Int32)) fun V_3 =>
    f_X5_playBy_15 x1 x3 x4 20000 V_3 L_2 x2 (-1 : Int32)
def f_X5_layGame_78 (k28 : (Nat → Nat → Int32) → (Nat → Int64) → Int32 → Option (Int32 × (Nat → Nat → Int32) × (Nat → Int64))) (x1 : Int32) (x2 : Int32) (x3 : Int32) (x4 : Int32) (x5 : Int32) (x6 : Int32) : Nat → (Nat → Nat → Int32) → (Nat → Int64) → Int32 → Option (Int32 × (Nat → Nat → Int32) × (Nat → Int64))
  | 0, _, _, _ => none
  | n + 1, V, L, x7 =>
    if x6 ≤ x7 then
    (k28 V L (x4 + x6))
    else
    (if ib (x4 + x7) 2187 = true then
    bnd (up2 V 22 (x4 + x7).toNatClampNeg x5) fun V_1 =>
    f_X5_layGame_78 k28 x1 x2 x3 x4 x5 x6 n V_1 L (x7 + 1) else none)
def f_X5_layGame_51 (k28 : (Nat → Nat → Int32) → (Nat → Int64) → Int32 → Option (Int32 × (Nat → Nat → Int32) × (Nat → Int64))) (V : Nat → Nat → Int32) (L : Nat → Int64) (x1 : Int32) (x2 : Int32) (x3 : Int32) (x4 : Int32) (x5 : Int32) : Nat → Int32 → Int32 → Option (Int32 × (Nat → Nat → Int32) × (Nat → Int64))
  | 0, _, _ => none
  | n + 1, x6, x7 =>
    if (V 0 23) ≤ x7 then
    (f_X5_layGame_78 k28 x1 x2 x3 x4 x5 x6 20000 V L (0 : Int32))
    else
    (if (V 0 2) = 0 then none else
    f_X5_layGame_51 k28 V L x1 x2 x3 x4 x5 n (x6 / (V 0 2)) (x7 + 1))
def f_X5_layGame_28 (x1 : Int32) (x2 : Int32) (x3 : Int32) : Nat → (Nat → Nat → Int32) → (Nat → Int64) → Int32 → Option (Int32 × (Nat → Nat → Int32) × (Nat → Int64))
  | 0, _, _, _ => none
  | n + 1, V, L, x4 =>
    if x3 ≤ x4 then
    (some (x3, V, L))
    else
    (bd3 (f_X5_playBy V L x4 x3 x1 x2) fun r_1 V_2 L_3 =>
    f_X5_layGame_51 (f_X5_layGame_28 x1 x2 x3 n) V_2 L_3 x1 x2 x3 x4 r_1 20000 x3 (0 : Int32))
def f_X5_layGame_5 (V : Nat → Nat → Int32) (L : Nat → Int64) (x1 : Int32) (x2 : Int32) : Nat → Int32 → Int32 → Option (Int32 × (Nat → Nat → Int32) × (Nat → Int64))
  | 0, _, _ => none
  | n + 1, x3, x4 =>
    if (7 : Int32) ≤ x4 then
    (f_X5_layGame_28 x1 x2 x3 20000 V L (0 : Int32))
    else
    (f_X5_layGame_5 V L x1 x2 n (x3 * (V 0 2)) (x4 + 1))
def f_X5_layGame (V : Nat → Nat → Int32) (L : Nat → Int64) (x1 : Int32) (x2 : Int32) : Option (Int32 × (Nat → Nat → Int32) × (Nat → Int64)) :=
  f_X5_layGame_5 V L x1 x2 20000 (1 : Int32) (0 : Int32)
def f_X5_foldGame_103 (k5 : (Nat → Nat → Int32) → (Nat → Int64) → Int32 → Int32 → Option ((Nat → Nat → Int32) × (Nat → Int64))) (k19 : (Nat → Nat → Int32) → (Nat → Int64) → Int32 → Option ((Nat → Nat → Int32) × (Nat → Int64))) (k42 : Int32 → Int32 → Option ((Nat → Nat → Int32) × (Nat → Int64))) (V : Nat → Nat → Int32) (L : Nat → Int64) (x2 : Int32) (x3 : Int32) (x4 : Int32) (x5 : Int32) (x6 : Int32) (x7 : Int32) (x8 : Int32) : Option ((Nat → Nat → Int32) × (Nat → Int64)) :=
  if x8 = 0 then
    (k42 x5 (x6 + 1))
    else
    (k42 x7 (x6 + 1))
def f_X5_foldGame_42 (k5 : (Nat → Nat → Int32) → (Nat → Int64) → Int32 → Int32 → Option ((Nat → Nat → Int32) × (Nat → Int64))) (k19 : (Nat → Nat → Int32) → (Nat → Int64) → Int32 → Option ((Nat → Nat → Int32) × (Nat → Int64))) (V : Nat → Nat → Int32) (L : Nat → Int64) (x2 : Int32) (x3 : Int32) (x4 : Int32) : Nat → Int32 → Int32 → Option ((Nat → Nat → Int32) × (Nat → Int64))
  | 0, _, _ => none
  | n + 1, x5, x6 =>
    if (V 0 2) ≤ x6 then
    (if ib x4 2187 = true then
    bnd (up2 V 22 x4.toNatClampNeg x5) fun V_1 =>
    k19 V_1 L (x4 + 1) else none)
    else
    (if ib (((V 0 2) * x4) + x6) 2187 = true then
    bnd (V 22 (((V 0 2) * x4) + x6).toNatClampNeg) fun t_2 =>
    if (irem x3 (2 : Int32)) = 0 then
    (if t_2 ≤ x5 then
    (f_X5_foldGame_103 k5 k19 (f_X5_foldGame_42 k5 k19 V L x2 x3 x4 n) V L x2 x3 x4 x5 x6 t_2 (0 : Int32))
    else
    (f_X5_foldGame_103 k5 k19 (f_X5_foldGame_42 k5 k19 V L x2 x3 x4 n) V L x2 x3 x4 x5 x6 t_2 (1 : Int32)))
    else
    (if x5 ≤ t_2 then
    (f_X5_foldGame_103 k5 k19 (f_X5_foldGame_42 k5 k19 V L x2 x3 x4 n) V L x2 x3 x4 x5 x6 t_2 (0 : Int32))
    else
    (f_X5_foldGame_103 k5 k19 (f_X5_foldGame_42 k5 k19 V L x2 x3 x4 n) V L x2 x3 x4 x5 x6 t_2 (1 : Int32))) else none)
def f_X5_foldGame_19 (k5 : (Nat → Nat → Int32) → (Nat → Int64) → Int32 → Int32 → Option ((Nat → Nat → Int32) × (Nat → Int64))) (x2 : Int32) (x3 : Int32) : Nat → (Nat → Nat → Int32) → (Nat → Int64) → Int32 → Option ((Nat → Nat → Int32) × (Nat → Int64))
  | 0, _, _, _ => none
  | n + 1, V, L, x4 =>
    if x2 ≤ x4 then
    (k5 V L x2 (x3 + (-1)))
    else
    (if ib ((V 0 2) * x4) 2187 = true then
    bnd (V 22 ((V 0 2) * x4).toNatClampNeg) fun t_1 =>
    f_X5_foldGame_42 k5 (f_X5_foldGame_19 k5 x2 x3 n) V L x2 x3 x4 20000 t_1 (1 : Int32) else none)
def f_X5_foldGame_5 : Nat → (Nat → Nat → Int32) → (Nat → Int64) → Int32 → Int32 → Option ((Nat → Nat → Int32) × (Nat → Int64))
  | 0, _, _, _, _ => none
  | n + 1, V, L, x2, x3 =>
    if x3 ≤ 0 then
    (some (V, L))
    else
    (if (V 0 2) = 0 then none else
    f_X5_foldGame_19 (f_X5_foldGame_5 n) (x2 / (V 0 2)) x3 20000 V L (0 : Int32))
def f_X5_foldGame (V : Nat → Nat → Int32) (L : Nat → Int64) (x1 : Int32) : Option ((Nat → Nat → Int32) × (Nat → Int64)) :=
  f_X5_foldGame_5 20000 V L x1 (6 : Int32)
def f_X5_gameNow_33 (V : Nat → Nat → Int32) (L : Nat → Int64) (x3 : Int32) : Nat → Int32 → Int32 → Option (Int32 × (Nat → Nat → Int32) × (Nat → Int64))
  | 0, _, _ => none
  | n + 1, x4, x5 =>
    if (V 0 2) ≤ x5 then
    (if x3 = 0 then
    (if ib x4 2187 = true then
    some (V 22 x4.toNatClampNeg, V, L) else none)
    else
    (some (x4, V, L)))
    else
    (if ib x5 2187 = true then
    if ib x4 2187 = true then
    if (V 22 x5.toNatClampNeg) ≤ (V 22 x4.toNatClampNeg) then
    (f_X5_gameNow_33 V L x3 n x4 (x5 + 1))
    else
    (f_X5_gameNow_33 V L x3 n x5 (x5 + 1)) else none else none)
def f_X5_gameNow (V : Nat → Nat → Int32) (L : Nat → Int64) (x1 : Int32) (x2 : Int32) (x3 : Int32) : Option (Int32 × (Nat → Nat → Int32) × (Nat → Int64)) :=
  bd1 (f_X5_isCount V L) fun r_1 =>
    if r_1 = 0 then
    (if x3 = 0 then
    (some ((1 : Int32), V, L))
    else
    (some ((-1 : Int32), V, L)))
    else
    (bd3 (f_X5_layGame V L x1 x2) fun r_2 V_3 L_4 =>
    bd2 (f_X5_foldGame V_3 L_4 r_2) fun V_5 L_6 =>
    f_X5_gameNow_33 V_5 L_6 x3 20000 (0 : Int32) (1 : Int32))
def f_X5_game (V : Nat → Nat → Int32) (L : Nat → Int64) (x1 : Int32) (x2 : Int32) (x3 : Int32) : Option (Int32 × (Nat → Nat → Int32) × (Nat → Int64)) :=
  if (f_X5_isChild V L x1) = 0 then
    (some ((-101 : Int32), V, L))
    else
    (if (f_X5_isChild V L x2) = 0 then
    (some ((-101 : Int32), V, L))
    else
    (if x1 = x2 then
    (some ((-101 : Int32), V, L))
    else
    (if (f_X5_within x3 (0 : Int32) (1 : Int32)) = 0 then
    (some ((-102 : Int32), V, L))
    else
    (if (f_X5_isIn (V 0 5) x1) = 0 then
    (some ((-103 : Int32), V, L))
    else
    (if (f_X5_isIn (V 0 5) x2) = 0 then
    (some ((-103 : Int32), V, L))
    else
    (bd3 (f_X5_gameNow V L x1 x2 x3) fun r_1 V_2 L_3 =>
    some (r_1, V_2, L_3)))))))
def f_X5_setDeep (V : Nat → Nat → Int32) (L : Nat → Int64) (x1 : Int32) : Option ((Nat → Nat → Int32) × (Nat → Int64)) :=
  if ib x1 8 = true then
    bnd (up2 V 0 5 (V 24 x1.toNatClampNeg)) fun V_1 =>
    if ib x1 8 = true then
    bnd (up2 V_1 0 6 (V_1 25 x1.toNatClampNeg)) fun V_2 =>
    if ib x1 8 = true then
    bnd (up2 V_2 0 7 (V_2 26 x1.toNatClampNeg)) fun V_3 =>
    if ib x1 8 = true then
    if (V_3 27 x1.toNatClampNeg) = (1 : Int32) then
    (bnd (up2 V_3 0 8 (1 : Int32)) fun V_5 =>
    some (V_5, L))
    else
    (bnd (up2 V_3 0 8 (0 : Int32)) fun V_4 =>
    some (V_4, L)) else none else none else none else none
def f_X5_putDeep_48 (V : Nat → Nat → Int32) (L : Nat → Int64) (x1 : Int32) (x2 : Int32) : Option ((Nat → Nat → Int32) × (Nat → Int64)) :=
  if ib x1 8 = true then
    bnd (up2 V 28 x1.toNatClampNeg x2) fun V_1 =>
    if ib x1 8 = true then
    bnd (up2 V_1 29 x1.toNatClampNeg (0 : Int32)) fun V_2 =>
    some (V_2, L) else none else none
def f_X5_putDeep (V : Nat → Nat → Int32) (L : Nat → Int64) (x1 : Int32) (x2 : Int32) : Option ((Nat → Nat → Int32) × (Nat → Int64)) :=
  if ib x1 8 = true then
    bnd (up2 V 24 x1.toNatClampNeg (V 0 5)) fun V_1 =>
    if ib x1 8 = true then
    bnd (up2 V_1 25 x1.toNatClampNeg (V_1 0 6)) fun V_2 =>
    if ib x1 8 = true then
    bnd (up2 V_2 26 x1.toNatClampNeg (V_2 0 7)) fun V_3 =>
    if (V_3 0 8) = 0 then
    (if ib x1 8 = true then
    bnd (up2 V_3 27 x1.toNatClampNeg (0 : Int32)) fun V_4 =>
    f_X5_putDeep_48 V_4 L x1 x2 else none)
    else
    (if ib x1 8 = true then
    bnd (up2 V_3 27 x1.toNatClampNeg (1 : Int32)) fun V_5 =>
    f_X5_putDeep_48 V_5 L x1 x2 else none) else none else none else none
def f_X5_layFaces_2 (x1 : Int32) : Nat → (Nat → Nat → Int32) → (Nat → Int64) → Int32 → Option ((Nat → Nat → Int32) × (Nat → Int64))
  | 0, _, _, _ => none
  | n + 1, V, L, x2 =>
    if (3 : Int32) ≤ x2 then
    (some (V, L))
    else
    (bd2 (f_X5_setDeep V L x1) fun V_1 L_2 =>
    bd3 (f_X5_goCount V_1 L_2 (x2 + (1 : Int32))) fun r_3 V_4 L_5 =>
    if ib (((3 : Int32) * x1) + x2) 24 = true then
    bnd (up2 V_4 30 (((3 : Int32) * x1) + x2).toNatClampNeg (V_4 0 5)) fun V_6 =>
    if ib (((3 : Int32) * x1) + x2) 24 = true then
    bnd (up2 V_6 31 (((3 : Int32) * x1) + x2).toNatClampNeg (V_6 0 6)) fun V_7 =>
    if ib (((3 : Int32) * x1) + x2) 24 = true then
    bnd (up2 V_7 32 (((3 : Int32) * x1) + x2).toNatClampNeg (V_7 0 7)) fun V_8 =>
    if (V_8 0 8) = 0 then
    (if ib (((3 : Int32) * x1) + x2) 24 = true then
    bnd (up2 V_8 33 (((3 : Int32) * x1) + x2).toNatClampNeg (0 : Int32)) fun V_9 =>
    f_X5_layFaces_2 x1 n V_9 L_5 (x2 + 1) else none)
    else
    (if ib (((3 : Int32) * x1) + x2) 24 = true then
    bnd (up2 V_8 33 (((3 : Int32) * x1) + x2).toNatClampNeg (1 : Int32)) fun V_10 =>
    f_X5_layFaces_2 x1 n V_10 L_5 (x2 + 1) else none) else none else none else none)
def f_X5_layFaces (V : Nat → Nat → Int32) (L : Nat → Int64) (x1 : Int32) : Option ((Nat → Nat → Int32) × (Nat → Int64)) :=
  f_X5_layFaces_2 x1 20000 V L (0 : Int32)
def f_X5_areAlike (V : Nat → Nat → Int32) (L : Nat → Int64) (x1 : Int32) (x2 : Int32) : Option Int32 :=
  if ib x1 24 = true then
    if ib x2 24 = true then
    if (V 30 x1.toNatClampNeg) = (V 30 x2.toNatClampNeg) then
    (if ib x1 24 = true then
    if ib x2 24 = true then
    if (V 31 x1.toNatClampNeg) = (V 31 x2.toNatClampNeg) then
    (if ib x1 24 = true then
    if ib x2 24 = true then
    if (V 32 x1.toNatClampNeg) = (V 32 x2.toNatClampNeg) then
    (if ib x1 24 = true then
    if ib x2 24 = true then
    if (V 33 x1.toNatClampNeg) = (V 33 x2.toNatClampNeg) then
    (some (1 : Int32))
    else
    (some (0 : Int32)) else none else none)
    else
    (some (0 : Int32)) else none else none)
    else
    (some (0 : Int32)) else none else none)
    else
    (some (0 : Int32)) else none else none
def f_X5_likeFaces_5 (V : Nat → Nat → Int32) (L : Nat → Int64) (x1 : Int32) (x2 : Int32) : Nat → Int32 → Int32 → Option Int32
  | 0, _, _ => none
  | n + 1, x3, x4 =>
    if (3 : Int32) ≤ x4 then
    (some x3)
    else
    (bd1 (f_X5_areAlike V L (((3 : Int32) * x1) + x2) (((3 : Int32) * x1) + x4)) fun r_1 =>
    if r_1 = 0 then
    (f_X5_likeFaces_5 V L x1 x2 n x3 (x4 + 1))
    else
    (if x2 ≤ x4 then
    (f_X5_likeFaces_5 V L x1 x2 n (x3 + 1) (x4 + 1))
    else
    (some (0 : Int32))))
def f_X5_likeFaces (V : Nat → Nat → Int32) (L : Nat → Int64) (x1 : Int32) (x2 : Int32) : Option Int32 :=
  f_X5_likeFaces_5 V L x1 x2 20000 (0 : Int32) (0 : Int32)
def f_X5_endDeep_27 (x2 : Int32) : Nat → (Nat → Nat → Int32) → (Nat → Int64) → Int32 → Option ((Nat → Nat → Int32) × (Nat → Int64))
  | 0, _, _, _ => none
  | n + 1, V, L, x3 =>
    if (V 0 1) ≤ x3 then
    (some (V, L))
    else
    (if ib x3 8 = true then
    if (V 0 5) = (ishl (1 : Int32) x3) then
    (if ib x3 8 = true then
    bnd (up2 V 34 x3.toNatClampNeg ((V 34 x3.toNatClampNeg) + x2)) fun V_2 =>
    f_X5_endDeep_27 x2 n V_2 L (x3 + 1) else none)
    else
    (if ib x3 8 = true then
    bnd (up2 V 34 x3.toNatClampNeg ((V 34 x3.toNatClampNeg) + (0 : Int32))) fun V_1 =>
    f_X5_endDeep_27 x2 n V_1 L (x3 + 1) else none) else none)
def f_X5_endDeep_9 (V : Nat → Nat → Int32) (L : Nat → Int64) : Nat → Int32 → Int32 → Option ((Nat → Nat → Int32) × (Nat → Int64))
  | 0, _, _ => none
  | n + 1, x2, x3 =>
    if (7 : Int32) ≤ x3 then
    (f_X5_endDeep_27 x2 20000 V L (0 : Int32))
    else
    (f_X5_endDeep_9 V L n (x2 * (3 : Int32)) (x3 + 1))
def f_X5_endDeep (V : Nat → Nat → Int32) (L : Nat → Int64) (x1 : Int32) : Option ((Nat → Nat → Int32) × (Nat → Int64)) :=
  if ib x1 8 = true then
    f_X5_endDeep_9 V L 20000 (V 28 x1.toNatClampNeg) x1 else none
def f_X5_enter (V : Nat → Nat → Int32) (L : Nat → Int64) (x1 : Int32) (x2 : Int32) : Option ((Nat → Nat → Int32) × (Nat → Int64)) :=
  bd2 (f_X5_putDeep V L x1 x2) fun V_1 L_2 =>
    bd1 (f_X5_isCount V_1 L_2) fun r_3 =>
    if r_3 = 0 then
    (bd2 (f_X5_endDeep V_1 L_2 x1) fun V_4 L_5 =>
    if ib x1 8 = true then
    bnd (up2 V_4 29 x1.toNatClampNeg (3 : Int32)) fun V_6 =>
    some (V_6, L_5) else none)
    else
    (bd2 (f_X5_layFaces V_1 L_2 x1) fun V_7 L_8 =>
    some (V_7, L_8))
def f_X5_layLikely_134 (k33 : (Nat → Nat → Int32) → (Nat → Int64) → Int32 → Option ((Nat → Nat → Int32) × (Nat → Int64))) (V : Nat → Nat → Int32) (L : Nat → Int64) (x1 : Int32) (x3 : Int32) : Option ((Nat → Nat → Int32) × (Nat → Int64)) :=
  if ib ((x1 + 1) - (1 : Int32)) 8 = true then
    bd2 (f_X5_enter V L (x1 + 1) ((V 28 ((x1 + 1) - (1 : Int32)).toNatClampNeg) * x3)) fun V_1 L_2 =>
    k33 V_1 L_2 (x1 + 1) else none
def f_X5_layLikely_70 (k33 : (Nat → Nat → Int32) → (Nat → Int64) → Int32 → Option ((Nat → Nat → Int32) × (Nat → Int64))) (V : Nat → Nat → Int32) (L : Nat → Int64) (x1 : Int32) (x2 : Int32) (x3 : Int32) : Option ((Nat → Nat → Int32) × (Nat → Int64)) :=
  if x3 ≤ 0 then
    (if x2 < (3 : Int32) then
    (k33 V L x1)
    else
    (k33 V L (x1 + (-1))))
    else
    (if ib (((3 : Int32) * x1) + x2) 24 = true then
    bnd (up2 V 0 5 (V 30 (((3 : Int32) * x1) + x2).toNatClampNeg)) fun V_1 =>
    if ib (((3 : Int32) * x1) + x2) 24 = true then
    bnd (up2 V_1 0 6 (V_1 31 (((3 : Int32) * x1) + x2).toNatClampNeg)) fun V_2 =>
    if ib (((3 : Int32) * x1) + x2) 24 = true then
    bnd (up2 V_2 0 7 (V_2 32 (((3 : Int32) * x1) + x2).toNatClampNeg)) fun V_3 =>
    if ib (((3 : Int32) * x1) + x2) 24 = true then
    if (V_3 33 (((3 : Int32) * x1) + x2).toNatClampNeg) = (1 : Int32) then
    (bnd (up2 V_3 0 8 (1 : Int32)) fun V_5 =>
    f_X5_layLikely_134 k33 V_5 L x1 x3)
    else
    (bnd (up2 V_3 0 8 (0 : Int32)) fun V_4 =>
    f_X5_layLikely_134 k33 V_4 L x1 x3) else none else none else none else none)
def f_X5_layLikely_33 : Nat → (Nat → Nat → Int32) → (Nat → Int64) → Int32 → Option ((Nat → Nat → Int32) × (Nat → Int64))
  | 0, _, _, _ => none
  | n + 1, V, L, x1 =>
    if x1 < 0 then
    (bd2 (f_X5_load V L) fun V_1 L_2 =>
    some (V_1, L_2))
    else
    (if ib x1 8 = true then
    if ib x1 8 = true then
    if ib x1 8 = true then
    bnd (up2 V 29 x1.toNatClampNeg ((V 29 x1.toNatClampNeg) + (1 : Int32))) fun V_3 =>
    if (3 : Int32) ≤ (V 29 x1.toNatClampNeg) then
    (f_X5_layLikely_70 (f_X5_layLikely_33 n) V_3 L x1 (V 29 x1.toNatClampNeg) (0 : Int32))
    else
    (bd1 (f_X5_likeFaces V_3 L x1 (V 29 x1.toNatClampNeg)) fun r_4 =>
    f_X5_layLikely_70 (f_X5_layLikely_33 n) V_3 L x1 (V 29 x1.toNatClampNeg) r_4) else none else none else none)
def f_X5_layLikely_6 : Nat → (Nat → Nat → Int32) → (Nat → Int64) → Int32 → Option ((Nat → Nat → Int32) × (Nat → Int64))
  | 0, _, _, _ => none
  | n + 1, V, L, x1 =>
    if (8 : Int32) ≤ x1 then
    (bd2 (f_X5_enter V L (0 : Int32) (1 : Int32)) fun V_1 L_2 =>
    f_X5_layLikely_33 20000 V_1 L_2 (0 : Int32))
    else
    (if ib x1 8 = true then
    bnd (up2 V 34 x1.toNatClampNeg (0 : Int32)) fun V_3 =>
    f_X5_layLikely_6 n V_3 L (x1 + 1) else none)
def f_X5_layLikely (V : Nat → Nat → Int32) (L : Nat → Int64) : Option ((Nat → Nat → Int32) × (Nat → Int64)) :=
  bd2 (f_X5_save V L) fun V_1 L_2 =>
    f_X5_layLikely_6 20000 V_1 L_2 (0 : Int32)
def f_X5_likelyNow_5 (V : Nat → Nat → Int32) (L : Nat → Int64) (x1 : Int32) (x2 : Int32) : Nat → Int32 → Int32 → Option Int32
  | 0, _, _ => none
  | n + 1, x3, x4 =>
    if (7 : Int32) ≤ x4 then
    (if ib x1 8 = true then
    bd1 (f_X5_divisor (V 34 x1.toNatClampNeg) x3) fun r_1 =>
    if x2 = 0 then
    (if ib x1 8 = true then
    if r_1 = 0 then none else
    some ((V 34 x1.toNatClampNeg) / r_1) else none)
    else
    (if r_1 = 0 then none else
    some (x3 / r_1)) else none)
    else
    (f_X5_likelyNow_5 V L x1 x2 n (x3 * (3 : Int32)) (x4 + 1))
def f_X5_likelyNow (V : Nat → Nat → Int32) (L : Nat → Int64) (x1 : Int32) (x2 : Int32) : Option Int32 :=
  f_X5_likelyNow_5 V L x1 x2 20000 (1 : Int32) (0 : Int32)
def f_X5_likely (V : Nat → Nat → Int32) (L : Nat → Int64) (x1 : Int32) (x2 : Int32) : Option (Int32 × (Nat → Nat → Int32) × (Nat → Int64)) :=
  if (f_X5_isChild V L x1) = 0 then
    (some ((-101 : Int32), V, L))
    else
    (if (f_X5_within x2 (0 : Int32) (1 : Int32)) = 0 then
    (some ((-102 : Int32), V, L))
    else
    (if (f_X5_isIn (V 0 5) x1) = 0 then
    (some ((-103 : Int32), V, L))
    else
    (bd2 (f_X5_layLikely V L) fun V_1 L_2 =>
    bd1 (f_X5_likelyNow V_1 L_2 x1 x2) fun r_3 =>
    some (r_3, V_1, L_2))))
def f_X5_see (V : Nat → Nat → Int32) (L : Nat → Int64) (x1 : Int32) (x2 : Int32) : Option (Int32 × (Nat → Nat → Int32) × (Nat → Int64)) :=
  if (f_X5_isChild V L x1) = 0 then
    (some ((-101 : Int32), V, L))
    else
    (if (f_X5_isChild V L x2) = 0 then
    (some ((-101 : Int32), V, L))
    else
    (if (V 0 10) = (6 : Int32) then
    (some ((-104 : Int32), V, L))
    else
    (if ib (V 0 10) 6 = true then
    bnd (up2 V 11 (V 0 10).toNatClampNeg x1) fun V_1 =>
    if ib (V_1 0 10) 6 = true then
    bnd (up2 V_1 12 (V_1 0 10).toNatClampNeg x2) fun V_2 =>
    bnd (up2 V_2 0 10 ((V_2 0 10) + (1 : Int32))) fun V_3 =>
    some (V_3 0 10, V_3, L) else none else none)))
def f_X5_forget (V : Nat → Nat → Int32) (L : Nat → Int64) : Option (Int32 × (Nat → Nat → Int32) × (Nat → Int64)) :=
  bnd (up2 V 0 10 (0 : Int32)) fun V_1 =>
    some (V 0 10, V_1, L)
def f_X5_lengthsNow_15 (k4 : (Nat → Nat → Int32) → (Nat → Int64) → Int32 → Int32 → Option (Int32 × (Nat → Nat → Int32) × (Nat → Int64))) (x1 : Int32) (x2 : Int32) : Nat → (Nat → Nat → Int32) → (Nat → Int64) → Int32 → Int32 → Option (Int32 × (Nat → Nat → Int32) × (Nat → Int64))
  | 0, _, _, _, _ => none
  | n + 1, V, L, x3, x4 =>
    if (V 0 10) ≤ x4 then
    (if x3 = 0 then
    (k4 V L (x1 ||| (0 : Int32)) (x2 + 1))
    else
    (bnd (x1 ||| (ishl (1 : Int32) (x2 - (1 : Int32)))) fun t_1 =>
    k4 V L t_1 (x2 + 1)))
    else
    (if x3 = 0 then
    (f_X5_lengthsNow_15 k4 x1 x2 n V L (0 : Int32) (x4 + 1))
    else
    (if ib x4 6 = true then
    bd3 (f_X5_outBy V L (V 11 x4.toNatClampNeg) x2) fun r_2 V_3 L_4 =>
    if ib x4 6 = true then
    if r_2 = (V_3 12 x4.toNatClampNeg) then
    (f_X5_lengthsNow_15 k4 x1 x2 n V_3 L_4 (1 : Int32) (x4 + 1))
    else
    (f_X5_lengthsNow_15 k4 x1 x2 n V_3 L_4 (0 : Int32) (x4 + 1)) else none else none))
def f_X5_lengthsNow_4 : Nat → (Nat → Nat → Int32) → (Nat → Int64) → Int32 → Int32 → Option (Int32 × (Nat → Nat → Int32) × (Nat → Int64))
  | 0, _, _, _, _ => none
  | n + 1, V, L, x1, x2 =>
    if (24 : Int32) < x2 then
    (some (x1, V, L))
    else
    (f_X5_lengthsNow_15 (f_X5_lengthsNow_4 n) x1 x2 20000 V L (1 : Int32) (0 : Int32))
def f_X5_lengthsNow (V : Nat → Nat → Int32) (L : Nat → Int64) : Option (Int32 × (Nat → Nat → Int32) × (Nat → Int64)) :=
  f_X5_lengthsNow_4 20000 V L (0 : Int32) (1 : Int32)
def f_X5_lengths (V : Nat → Nat → Int32) (L : Nat → Int64) : Option (Int32 × (Nat → Nat → Int32) × (Nat → Int64)) :=
  if (V 0 1) = 0 then
    (some ((-103 : Int32), V, L))
    else
    (bd3 (f_X5_lengthsNow V L) fun r_1 V_2 L_3 =>
    some (r_1, V_2, L_3))
def f_X5_worstFrom_26 (x1 : Int32) (x2 : Int32) : Nat → (Nat → Nat → Int32) → (Nat → Int64) → Int32 → Int32 → Option (Int32 × (Nat → Nat → Int32) × (Nat → Int64))
  | 0, _, _, _, _ => none
  | n + 1, V, L, x3, x4 =>
    if (24 : Int32) < x4 then
    (some (x3, V, L))
    else
    (if (f_X5_isIn x2 (x4 - (1 : Int32))) = 0 then
    (f_X5_worstFrom_26 x1 x2 n V L x3 (x4 + 1))
    else
    (bd3 (f_X5_outBy V L x1 x4) fun r_1 V_2 L_3 =>
    if ib r_1 8 = true then
    if ib r_1 8 = true then
    bnd (up2 V_2 35 r_1.toNatClampNeg ((V_2 35 r_1.toNatClampNeg) + (1 : Int32))) fun V_4 =>
    if ib r_1 8 = true then
    if (V_4 35 r_1.toNatClampNeg) ≤ x3 then
    (f_X5_worstFrom_26 x1 x2 n V_4 L_3 x3 (x4 + 1))
    else
    (if ib r_1 8 = true then
    f_X5_worstFrom_26 x1 x2 n V_4 L_3 (V_4 35 r_1.toNatClampNeg) (x4 + 1) else none) else none else none else none))
def f_X5_worstFrom_2 (x1 : Int32) (x2 : Int32) : Nat → (Nat → Nat → Int32) → (Nat → Int64) → Int32 → Option (Int32 × (Nat → Nat → Int32) × (Nat → Int64))
  | 0, _, _, _ => none
  | n + 1, V, L, x3 =>
    if (8 : Int32) ≤ x3 then
    (f_X5_worstFrom_26 x1 x2 20000 V L (0 : Int32) (1 : Int32))
    else
    (if ib x3 8 = true then
    bnd (up2 V 35 x3.toNatClampNeg (0 : Int32)) fun V_1 =>
    f_X5_worstFrom_2 x1 x2 n V_1 L (x3 + 1) else none)
def f_X5_worstFrom (V : Nat → Nat → Int32) (L : Nat → Int64) (x1 : Int32) (x2 : Int32) : Option (Int32 × (Nat → Nat → Int32) × (Nat → Int64)) :=
  f_X5_worstFrom_2 x1 x2 20000 V L (0 : Int32)
def f_X5_fromNow_56 (k14 : (Nat → Nat → Int32) → (Nat → Int64) → Int32 → Int32 → Int32 → Option (Int32 × (Nat → Nat → Int32) × (Nat → Int64))) (V : Nat → Nat → Int32) (L : Nat → Int64) (x1 : Int32) (x2 : Int32) (x3 : Int32) (x4 : Int32) (x5 : Int32) : Option (Int32 × (Nat → Nat → Int32) × (Nat → Int64)) :=
  if x3 ≤ x5 then
    (k14 V L x2 x3 (x4 + 1))
    else
    (k14 V L x2 x5 (x4 + 1))
def f_X5_fromNow_14 (x1 : Int32) : Nat → (Nat → Nat → Int32) → (Nat → Int64) → Int32 → Int32 → Int32 → Option (Int32 × (Nat → Nat → Int32) × (Nat → Int64))
  | 0, _, _, _, _, _ => none
  | n + 1, V, L, x2, x3, x4 =>
    if (V 0 1) ≤ x4 then
    (some (x2, V, L))
    else
    (if x1 = 0 then
    (some (x2, V, L))
    else
    (bd1 (f_X5_isCount V L) fun r_1 =>
    if r_1 = 0 then
    (some (x2, V, L))
    else
    (bd3 (f_X5_worstFrom V L x4 x1) fun r_2 V_3 L_4 =>
    if x3 ≤ r_2 then
    (f_X5_fromNow_56 (f_X5_fromNow_14 x1 n) V_3 L_4 x1 x2 x3 x4 r_2)
    else
    (f_X5_fromNow_56 (f_X5_fromNow_14 x1 n) V_3 L_4 x1 x4 x3 x4 r_2))))
def f_X5_fromNow (V : Nat → Nat → Int32) (L : Nat → Int64) : Option (Int32 × (Nat → Nat → Int32) × (Nat → Int64)) :=
  bd3 (f_X5_lengthsNow V L) fun r_1 V_2 L_3 =>
    f_X5_fromNow_14 r_1 20000 V_2 L_3 (-1 : Int32) (268435456 : Int32) (0 : Int32)
def f_X5_from (V : Nat → Nat → Int32) (L : Nat → Int64) : Option (Int32 × (Nat → Nat → Int32) × (Nat → Int64)) :=
  if (V 0 1) = 0 then
    (some ((-103 : Int32), V, L))
    else
    (bd3 (f_X5_fromNow V L) fun r_1 V_2 L_3 =>
    some (r_1, V_2, L_3))
def f_X5_draw (V : Nat → Nat → Int32) (L : Nat → Int64) (x1 : Int32) : Option (Int32 × (Nat → Nat → Int32) × (Nat → Int64)) :=
  bnd (setc L 36 ((((1103515245 : Int64) * (L 36)) + (12345 : Int64)) &&& (2147483647 : Int64))) fun L_1 =>
    if x1.toInt64 = 0 then none else
    some ((lrem ((L_1 36) / (65536 : Int64)) x1.toInt64).toInt32, V, L_1)
def f_X5_roundsNow_104 (V : Nat → Nat → Int32) (L : Nat → Int64) (x5 : Int32) : Option (Int32 × (Nat → Nat → Int32) × (Nat → Int64)) :=
  bd2 (f_X5_load V L) fun V_1 L_2 =>
    some (x5, V_1, L_2)
def f_X5_roundsNow_16 (x1 : Int32) (x3 : Int32) : Nat → (Nat → Nat → Int32) → (Nat → Int64) → Int32 → Int32 → Option (Int32 × (Nat → Nat → Int32) × (Nat → Int64))
  | 0, _, _, _, _ => none
  | n + 1, V, L, x4, x5 =>
    if x1 ≤ x5 then
    (if x3 = 0 then
    (f_X5_roundsNow_104 V L x4)
    else
    (if x3 = (1 : Int32) then
    (f_X5_roundsNow_104 V L (V 0 7))
    else
    (f_X5_roundsNow_104 V L ((L 36).toInt32))))
    else
    (bd1 (f_X5_isCount V L) fun r_1 =>
    if r_1 = 0 then
    (bnd (up2 V 0 5 ((ishl (1 : Int32) (V 0 1)) - (1 : Int32))) fun V_2 =>
    bnd (up2 V_2 0 6 (0 : Int32)) fun V_3 =>
    f_X5_roundsNow_16 x1 x3 n V_3 L (x4 + 1) (x5 + 1))
    else
    (bd3 (f_X5_draw V L (V 0 2)) fun r_4 V_5 L_6 =>
    if ib r_4 3 = true then
    bd3 (f_X5_goCount V_5 L_6 (V_5 3 r_4.toNatClampNeg)) fun r_7 V_8 L_9 =>
    f_X5_roundsNow_16 x1 x3 n V_8 L_9 x4 (x5 + 1) else none))
def f_X5_roundsNow (V : Nat → Nat → Int32) (L : Nat → Int64) (x1 : Int32) (x2 : Int32) (x3 : Int32) : Option (Int32 × (Nat → Nat → Int32) × (Nat → Int64)) :=
  bd2 (f_X5_save V L) fun V_1 L_2 =>
    bnd (setc L_2 36 x2.toInt64) fun L_3 =>
    f_X5_roundsNow_16 x1 x3 20000 V_1 L_3 (0 : Int32) (0 : Int32)
def f_X5_rounds (V : Nat → Nat → Int32) (L : Nat → Int64) (x1 : Int32) (x2 : Int32) (x3 : Int32) : Option (Int32 × (Nat → Nat → Int32) × (Nat → Int64)) :=
  if (f_X5_within x1 (1 : Int32) (60 : Int32)) = 0 then
    (some ((-102 : Int32), V, L))
    else
    (if x2 < 0 then
    (some ((-102 : Int32), V, L))
    else
    (if (f_X5_within x3 (0 : Int32) (2 : Int32)) = 0 then
    (some ((-102 : Int32), V, L))
    else
    (if (V 0 1) = 0 then
    (some ((-103 : Int32), V, L))
    else
    (bd3 (f_X5_roundsNow V L x1 x2 x3) fun r_1 V_2 L_3 =>
    some (r_1, V_2, L_3)))))
def f_X5_image_124 : Nat → (Nat → Nat → Int32) → (Nat → Int64) → Int32 → Option (Int32 × (Nat → Nat → Int32) × (Nat → Int64))
  | 0, _, _, _ => none
  | n + 1, V, L, x1 =>
    if (6 : Int32) ≤ x1 then
    (some (V 0 9, V, L))
    else
    (if ib x1 6 = true then
    if ib x1 6 = true then
    bnd (up2 V 47 x1.toNatClampNeg (V 11 x1.toNatClampNeg)) fun V_1 =>
    if ib x1 6 = true then
    if ib x1 6 = true then
    bnd (up2 V_1 48 x1.toNatClampNeg (V_1 12 x1.toNatClampNeg)) fun V_2 =>
    f_X5_image_124 n V_2 L (x1 + 1) else none else none else none else none)
def f_X5_image_99 : Nat → (Nat → Nat → Int32) → (Nat → Int64) → Int32 → Option (Int32 × (Nat → Nat → Int32) × (Nat → Int64))
  | 0, _, _, _ => none
  | n + 1, V, L, x1 =>
    if (3 : Int32) ≤ x1 then
    (f_X5_image_124 20000 V L (0 : Int32))
    else
    (if ib x1 3 = true then
    if ib x1 3 = true then
    bnd (up2 V 46 x1.toNatClampNeg (V 3 x1.toNatClampNeg)) fun V_1 =>
    f_X5_image_99 n V_1 L (x1 + 1) else none else none)
def f_X5_image_73 : Nat → (Nat → Nat → Int32) → (Nat → Int64) → Int32 → Option (Int32 × (Nat → Nat → Int32) × (Nat → Int64))
  | 0, _, _, _ => none
  | n + 1, V, L, x1 =>
    if (8 : Int32) ≤ x1 then
    (f_X5_image_99 20000 V L (0 : Int32))
    else
    (if ib x1 9 = true then
    if ib x1 8 = true then
    bnd (up2 V 45 x1.toNatClampNeg (V 4 x1.toNatClampNeg)) fun V_1 =>
    f_X5_image_73 n V_1 L (x1 + 1) else none else none)
def f_X5_image (V : Nat → Nat → Int32) (L : Nat → Int64) : Option (Int32 × (Nat → Nat → Int32) × (Nat → Int64)) :=
  if (V 0 1) = 0 then
    (some ((-103 : Int32), V, L))
    else
    (bnd (up2 V 0 37 (1 : Int32)) fun V_1 =>
    bnd (up2 V_1 0 38 (V_1 0 0)) fun V_2 =>
    bnd (up2 V_2 0 39 (V_2 0 5)) fun V_3 =>
    bnd (up2 V_3 0 40 (V_3 0 6)) fun V_4 =>
    bnd (up2 V_4 0 41 (V_4 0 7)) fun V_5 =>
    if isz (V_5 0 8) = true then
    bnd (up2 V_5 0 42 (V_5 0 8)) fun V_6 =>
    bnd (up2 V_6 0 43 (V_6 0 9)) fun V_7 =>
    bnd (up2 V_7 0 44 (V_7 0 10)) fun V_8 =>
    f_X5_image_73 20000 V_8 L (0 : Int32) else none)
def f_X5_restore_122 : Nat → (Nat → Nat → Int32) → (Nat → Int64) → Int32 → Option (Int32 × (Nat → Nat → Int32) × (Nat → Int64))
  | 0, _, _, _ => none
  | n + 1, V, L, x1 =>
    if (6 : Int32) ≤ x1 then
    (some (V 0 9, V, L))
    else
    (if ib x1 6 = true then
    if ib x1 6 = true then
    bnd (up2 V 11 x1.toNatClampNeg (V 47 x1.toNatClampNeg)) fun V_1 =>
    if ib x1 6 = true then
    if ib x1 6 = true then
    bnd (up2 V_1 12 x1.toNatClampNeg (V_1 48 x1.toNatClampNeg)) fun V_2 =>
    f_X5_restore_122 n V_2 L (x1 + 1) else none else none else none else none)
def f_X5_restore_97 : Nat → (Nat → Nat → Int32) → (Nat → Int64) → Int32 → Option (Int32 × (Nat → Nat → Int32) × (Nat → Int64))
  | 0, _, _, _ => none
  | n + 1, V, L, x1 =>
    if (3 : Int32) ≤ x1 then
    (f_X5_restore_122 20000 V L (0 : Int32))
    else
    (if ib x1 3 = true then
    if ib x1 3 = true then
    bnd (up2 V 3 x1.toNatClampNeg (V 46 x1.toNatClampNeg)) fun V_1 =>
    f_X5_restore_97 n V_1 L (x1 + 1) else none else none)
def f_X5_restore_71 : Nat → (Nat → Nat → Int32) → (Nat → Int64) → Int32 → Option (Int32 × (Nat → Nat → Int32) × (Nat → Int64))
  | 0, _, _, _ => none
  | n + 1, V, L, x1 =>
    if (8 : Int32) ≤ x1 then
    (f_X5_restore_97 20000 V L (0 : Int32))
    else
    (if ib x1 8 = true then
    if ib x1 9 = true then
    bnd (up2 V 4 x1.toNatClampNeg (V 45 x1.toNatClampNeg)) fun V_1 =>
    f_X5_restore_71 n V_1 L (x1 + 1) else none else none)
def f_X5_restore (V : Nat → Nat → Int32) (L : Nat → Int64) : Option (Int32 × (Nat → Nat → Int32) × (Nat → Int64)) :=
  if (V 0 37) = 0 then
    (some ((-103 : Int32), V, L))
    else
    (if (V 0 38) = (V 0 0) then
    (bnd (up2 V 0 5 (V 0 39)) fun V_1 =>
    bnd (up2 V_1 0 6 (V_1 0 40)) fun V_2 =>
    bnd (up2 V_2 0 7 (V_2 0 41)) fun V_3 =>
    if isz (V_3 0 42) = true then
    bnd (up2 V_3 0 8 (V_3 0 42)) fun V_4 =>
    bnd (up2 V_4 0 9 (V_4 0 43)) fun V_5 =>
    bnd (up2 V_5 0 10 (V_5 0 44)) fun V_6 =>
    f_X5_restore_71 20000 V_6 L (0 : Int32) else none)
    else
    (some ((-103 : Int32), V, L)))
def f_X5_howMany (V : Nat → Nat → Int32) (L : Nat → Int64) (x1 : Int32) : Option Int32 :=
  if x1 = 0 then
    (some (V 0 1))
    else if x1 = 1 then
    (bd1 (f_X5_size (V 0 5)) fun r_1 =>
    some r_1)
    else if x1 = 2 then
    (some (V 0 2))
    else if x1 = 3 then
    (bd1 (f_X5_size (V 0 6)) fun r_2 =>
    some r_2)
    else if x1 = 4 then
    (some (V 0 7))
    else if x1 = 5 then
    (if (V 0 8) = 0 then
    (some (0 : Int32))
    else
    (some (1 : Int32)))
    else if x1 = 6 then
    (some (V 0 9))
    else if x1 = 7 then
    (bd1 (f_X5_beatsIn V L) fun r_3 =>
    some r_3)
    else if x1 = 8 then
    (some (V 0 10))
    else if x1 = 9 then
    (some (V 0 13))
    else if x1 = 10 then
    (some (V 0 0))
    else (some (-102 : Int32))
def f_X5_count (V : Nat → Nat → Int32) (L : Nat → Int64) (x1 : Int32) : Option Int32 :=
  bd1 (f_X5_howMany V L x1) fun r_1 =>
    some r_1
def f_X5_mix (V : Nat → Nat → Int32) (L : Nat → Int64) (y1 : Int64) : Option ((Nat → Nat → Int32) × (Nat → Int64)) :=
  bnd (setc L 49 (((31 : Int64) * (L 49)) + y1)) fun L_1 =>
    some (V, L_1)
def f_X5_mixRing_91 : Nat → (Nat → Nat → Int32) → (Nat → Int64) → Int32 → Option ((Nat → Nat → Int32) × (Nat → Int64))
  | 0, _, _, _ => none
  | n + 1, V, L, x1 =>
    if (V 0 1) ≤ x1 then
    (some (V, L))
    else
    (if (f_X5_isIn (V 0 5) x1) = 0 then
    (f_X5_mixRing_91 n V L (x1 + 1))
    else
    (bd1 (f_X5_likelyNow V L x1 (0 : Int32)) fun r_1 =>
    bd2 (f_X5_mix V L r_1.toInt64) fun V_2 L_3 =>
    bd1 (f_X5_likelyNow V_2 L_3 x1 (1 : Int32)) fun r_4 =>
    bd2 (f_X5_mix V_2 L_3 r_4.toInt64) fun V_5 L_6 =>
    f_X5_mixRing_91 n V_5 L_6 (x1 + 1)))
def f_X5_mixRing_85 (V : Nat → Nat → Int32) (L : Nat → Int64) : Option ((Nat → Nat → Int32) × (Nat → Int64)) :=
  bd2 (f_X5_layLikely V L) fun V_1 L_2 =>
    f_X5_mixRing_91 20000 V_1 L_2 (0 : Int32)
def f_X5_mixRing (V : Nat → Nat → Int32) (L : Nat → Int64) : Option ((Nat → Nat → Int32) × (Nat → Int64)) :=
  bd3 (f_X5_lastBy V L (3 : Int32)) fun r_1 V_2 L_3 =>
    bd2 (f_X5_mix V_2 L_3 r_1.toInt64) fun V_4 L_5 =>
    bd3 (f_X5_standNow V_4 L_5 (0 : Int32) (5 : Int32)) fun r_6 V_7 L_8 =>
    bd2 (f_X5_mix V_7 L_8 r_6.toInt64) fun V_9 L_10 =>
    bd3 (f_X5_lengthsNow V_9 L_10) fun r_11 V_12 L_13 =>
    bd2 (f_X5_mix V_12 L_13 r_11.toInt64) fun V_14 L_15 =>
    bd3 (f_X5_fromNow V_14 L_15) fun r_16 V_17 L_18 =>
    bd2 (f_X5_mix V_17 L_18 r_16.toInt64) fun V_19 L_20 =>
    if (f_X5_isIn (V_19 0 5) (0 : Int32)) = 0 then
    (f_X5_mixRing_85 V_19 L_20)
    else
    (if (f_X5_isIn (V_19 0 5) (1 : Int32)) = 0 then
    (f_X5_mixRing_85 V_19 L_20)
    else
    (bd3 (f_X5_gameNow V_19 L_20 (0 : Int32) (1 : Int32) (0 : Int32)) fun r_21 V_22 L_23 =>
    bd2 (f_X5_mix V_22 L_23 r_21.toInt64) fun V_24 L_25 =>
    bd3 (f_X5_gameNow V_24 L_25 (0 : Int32) (1 : Int32) (1 : Int32)) fun r_26 V_27 L_28 =>
    bd2 (f_X5_mix V_27 L_28 r_26.toInt64) fun V_29 L_30 =>
    f_X5_mixRing_85 V_29 L_30))
def f_X5_digest_19 (k9 : (Nat → Nat → Int32) → (Nat → Int64) → Int32 → Option (Int64 × (Nat → Nat → Int32) × (Nat → Int64))) (x1 : Int32) : Nat → (Nat → Nat → Int32) → (Nat → Int64) → Int32 → Option (Int64 × (Nat → Nat → Int32) × (Nat → Int64))
  | 0, _, _, _ => none
  | n + 1, V, L, x2 =>
    if (6 : Int32) ≤ x2 then
    (bd3 (f_X5_beginNow V L x1 (7 : Int32)) fun r_1 V_2 L_3 =>
    bd2 (f_X5_mix V_2 L_3 r_1.toInt64) fun V_4 L_5 =>
    k9 V_4 L_5 (x1 + 1))
    else
    (bd3 (f_X5_childNow V L x1 x2) fun r_6 V_7 L_8 =>
    bd2 (f_X5_mix V_7 L_8 r_6.toInt64) fun V_9 L_10 =>
    f_X5_digest_19 k9 x1 n V_9 L_10 (x2 + 1))
def f_X5_digest_72 (k62 : (Nat → Nat → Int32) → (Nat → Int64) → Int32 → Option (Int64 × (Nat → Nat → Int32) × (Nat → Int64))) (x1 : Int32) : Nat → (Nat → Nat → Int32) → (Nat → Int64) → Int32 → Option (Int64 × (Nat → Nat → Int32) × (Nat → Int64))
  | 0, _, _, _ => none
  | n + 1, V, L, x2 =>
    if (3 : Int32) ≤ x2 then
    (k62 V L (x1 + 1))
    else
    (bd3 (f_X5_verseNow V L x1 x2) fun r_1 V_2 L_3 =>
    bd2 (f_X5_mix V_2 L_3 r_1.toInt64) fun V_4 L_5 =>
    f_X5_digest_72 k62 x1 n V_4 L_5 (x2 + 1))
def f_X5_digest_140 : Nat → (Nat → Nat → Int32) → (Nat → Int64) → Int32 → Option (Int64 × (Nat → Nat → Int32) × (Nat → Int64))
  | 0, _, _, _ => none
  | n + 1, V, L, x1 =>
    if (11 : Int32) ≤ x1 then
    (some (L 49, V, L))
    else
    (bd1 (f_X5_howMany V L x1) fun r_1 =>
    bd2 (f_X5_mix V L r_1.toInt64) fun V_2 L_3 =>
    f_X5_digest_140 n V_2 L_3 (x1 + 1))
def f_X5_digest_113 : Nat → (Nat → Nat → Int32) → (Nat → Int64) → Int32 → Option (Int64 × (Nat → Nat → Int32) × (Nat → Int64))
  | 0, _, _, _ => none
  | n + 1, V, L, x1 =>
    if (V 0 13) ≤ x1 then
    (f_X5_digest_140 20000 V L (0 : Int32))
    else
    (if ib x1 20 = true then
    bd2 (f_X5_mix V L ((V 14 x1.toNatClampNeg).toInt64)) fun V_1 L_2 =>
    f_X5_digest_113 n V_1 L_2 (x1 + 1) else none)
def f_X5_digest_62 : Nat → (Nat → Nat → Int32) → (Nat → Int64) → Int32 → Option (Int64 × (Nat → Nat → Int32) × (Nat → Int64))
  | 0, _, _, _ => none
  | n + 1, V, L, x1 =>
    if (V 0 2) ≤ x1 then
    (if (V 0 1) ≤ 0 then
    (f_X5_digest_113 20000 V L (0 : Int32))
    else
    (bd2 (f_X5_mixRing V L) fun V_1 L_2 =>
    f_X5_digest_113 20000 V_1 L_2 (0 : Int32)))
    else
    (f_X5_digest_72 (f_X5_digest_62 n) x1 20000 V L (0 : Int32))
def f_X5_digest_9 : Nat → (Nat → Nat → Int32) → (Nat → Int64) → Int32 → Option (Int64 × (Nat → Nat → Int32) × (Nat → Int64))
  | 0, _, _, _ => none
  | n + 1, V, L, x1 =>
    if (V 0 1) ≤ x1 then
    (f_X5_digest_62 20000 V L (0 : Int32))
    else
    (f_X5_digest_19 (f_X5_digest_9 n) x1 20000 V L (0 : Int32))
def f_X5_digest (V : Nat → Nat → Int32) (L : Nat → Int64) : Option (Int64 × (Nat → Nat → Int32) × (Nat → Int64)) :=
  bnd (setc L 49 (1289 : Int64)) fun L_1 =>
    f_X5_digest_9 20000 V L_1 (0 : Int32)
def f_J1_canEncode_9a6ad (x0 : Int32) : Int32 :=
  if x0 < 0 then
    ((0 : Int32))
    else
    (if (255 : Int32) < x0 then
    ((0 : Int32))
    else
    ((1 : Int32)))
theorem z_J1_canEncode_9a6ad (x0 : Int32) : isz (f_J1_canEncode_9a6ad x0) = true := by
  simp only [f_J1_canEncode_9a6ad]
  repeat' split
  all_goals first | rfl | exact z_X3_hasChild _ _ _ | exact z_X0_isIn _ _ | exact z_X0_hasSlipped _ _ | exact z_X0_canCount _ | exact z_X4_isKind _ | exact z_X3_hasVerse _ _ _ | exact z_X3_hasRing _ _ | exact z_X4_isBeats _ | exact z_X5_within _ _ _ | exact z_X5_isIn _ _ | exact z_X5_isChild _ _ _ | exact z_X5_isVerse _ _ _ | exact z_X5_areBeats _
