theorem bi_31 : (Int8.ofInt (31)).toInt32 = (31 : Int32) := by decide
theorem inc_6 (v : Int32) : v + Int32.ofInt (6) = v + (6 : Int32) := by rw [show Int32.ofInt (6) = (6 : Int32) from by decide]
def fL_law_L23 (L : Nat) (xs : Nat → Int32) : Nat → Int32 → St → Option (Int32 × St)
  | 0, _, _ => none
  | n + 1, v4, s =>
    if ((Int32.ofNat L) - (6 : Int32)) < v4 then
    (some (1, s))
  else
    (if inA v4 L then
    (if ((xs v4.toNatClampNeg) &&& (31 : Int32)) = (0 : Int32) then
    (if inA (v4 + (1 : Int32)) L then
    (if inA (v4 + (2 : Int32)) L then
    (if inA (v4 + (3 : Int32)) L then
    (if inA (v4 + (4 : Int32)) L then
    (if inA (v4 + (5 : Int32)) L then
    (bd (fX11_feed (xs (v4 + (1 : Int32)).toNatClampNeg) (xs (v4 + (2 : Int32)).toNatClampNeg) (xs (v4 + (3 : Int32)).toNatClampNeg) (xs (v4 + (4 : Int32)).toNatClampNeg) (xs (v4 + (5 : Int32)).toNatClampNeg) s) (fun y_1 s_1 =>
    if inA (v4 + (1 : Int32)) L then
    (if inA (v4 + (2 : Int32)) L then
    (if inA (v4 + (3 : Int32)) L then
    (if inA (v4 + (4 : Int32)) L then
    (if inA (v4 + (5 : Int32)) L then
    (bd (fX12_feed (xs (v4 + (1 : Int32)).toNatClampNeg) (xs (v4 + (2 : Int32)).toNatClampNeg) (xs (v4 + (3 : Int32)).toNatClampNeg) (xs (v4 + (4 : Int32)).toNatClampNeg) (xs (v4 + (5 : Int32)).toNatClampNeg) s_1) (fun y_2 s_2 =>
    if y_1 = y_2 then
    (fL_law_L23 L xs n (v4 + (6 : Int32)) s_2)
  else
    (none))) else none) else none) else none) else none) else none)) else none) else none) else none) else none) else none)
  else
    (if ((xs v4.toNatClampNeg) &&& (31 : Int32)) = (1 : Int32) then
    (if inA (v4 + (1 : Int32)) L then
    (bd (fL_land (xs (v4 + (1 : Int32)).toNatClampNeg) s) (fun y_3 s_3 =>
    if inA (v4 + (1 : Int32)) L then
    (bd (fX12_land (xs (v4 + (1 : Int32)).toNatClampNeg) s_3) (fun y_4 s_4 =>
    bd (fX12_thrown s_4) (fun y_5 s_5 =>
    if y_5 = y_3 then
    (if y_3 = 0 then
    (if inA (0 : Int32) 1 then
    (if (lg_cmp (Int32.toInt64 (s_5 111 (0 : Int32).toNatClampNeg)) (Int32.toInt64 y_4)) = 0 then
    (fL_law_L23 L xs n (v4 + (6 : Int32)) s_5)
  else
    (none)) else none)
  else
    (fL_law_L23 L xs n (v4 + (6 : Int32)) s_5))
  else
    (none)))) else none)) else none)
  else
    (if ((xs v4.toNatClampNeg) &&& (31 : Int32)) = (2 : Int32) then
    (bd (fX11_fault s) (fun y_6 s_6 =>
    bd (fX12_fault s_6) (fun y_7 s_7 =>
    if y_6 = y_7 then
    (fL_law_L23 L xs n (v4 + (6 : Int32)) s_7)
  else
    (none))))
  else
    (if ((xs v4.toNatClampNeg) &&& (31 : Int32)) = (3 : Int32) then
    (if inA (v4 + (1 : Int32)) L then
    (bd (fL_count (xs (v4 + (1 : Int32)).toNatClampNeg) s) (fun y_8 s_8 =>
    if inA (v4 + (1 : Int32)) L then
    (bd (fX12_count (xs (v4 + (1 : Int32)).toNatClampNeg) s_8) (fun y_9 s_9 =>
    bd (fX12_thrown s_9) (fun y_10 s_10 =>
    if y_10 = y_8 then
    (if y_8 = 0 then
    (if inA (0 : Int32) 1 then
    (if (lg_cmp (Int32.toInt64 (s_10 111 (0 : Int32).toNatClampNeg)) (Int32.toInt64 y_9)) = 0 then
    (fL_law_L23 L xs n (v4 + (6 : Int32)) s_10)
  else
    (none)) else none)
  else
    (fL_law_L23 L xs n (v4 + (6 : Int32)) s_10))
  else
    (none)))) else none)) else none)
  else
    (if ((xs v4.toNatClampNeg) &&& (31 : Int32)) = (4 : Int32) then
    (if inA (v4 + (1 : Int32)) L then
    (if inA (v4 + (2 : Int32)) L then
    (bd (fL_person (xs (v4 + (1 : Int32)).toNatClampNeg) (xs (v4 + (2 : Int32)).toNatClampNeg) s) (fun y_11 s_11 =>
    if inA (v4 + (1 : Int32)) L then
    (if inA (v4 + (2 : Int32)) L then
    (bd (fX12_person (xs (v4 + (1 : Int32)).toNatClampNeg) (xs (v4 + (2 : Int32)).toNatClampNeg) s_11) (fun y_12 s_12 =>
    bd (fX12_thrown s_12) (fun y_13 s_13 =>
    if y_13 = y_11 then
    (if y_11 = 0 then
    (if inA (0 : Int32) 1 then
    (if (lg_cmp (Int32.toInt64 (s_13 111 (0 : Int32).toNatClampNeg)) (Int32.toInt64 y_12)) = 0 then
    (fL_law_L23 L xs n (v4 + (6 : Int32)) s_13)
  else
    (none)) else none)
  else
    (fL_law_L23 L xs n (v4 + (6 : Int32)) s_13))
  else
    (none)))) else none) else none)) else none) else none)
  else
    (if ((xs v4.toNatClampNeg) &&& (31 : Int32)) = (5 : Int32) then
    (if inA (v4 + (1 : Int32)) L then
    (if inA (v4 + (2 : Int32)) L then
    (bd (fL_sky (xs (v4 + (1 : Int32)).toNatClampNeg) (xs (v4 + (2 : Int32)).toNatClampNeg) s) (fun y_14 s_14 =>
    if inA (v4 + (1 : Int32)) L then
    (if inA (v4 + (2 : Int32)) L then
    (bd (fX12_sky (xs (v4 + (1 : Int32)).toNatClampNeg) (xs (v4 + (2 : Int32)).toNatClampNeg) s_14) (fun y_15 s_15 =>
    bd (fX12_thrown s_15) (fun y_16 s_16 =>
    if y_16 = y_14 then
    (if y_14 = 0 then
    (if inA (0 : Int32) 1 then
    (if (lg_cmp (Int32.toInt64 (s_16 111 (0 : Int32).toNatClampNeg)) (Int32.toInt64 y_15)) = 0 then
    (fL_law_L23 L xs n (v4 + (6 : Int32)) s_16)
  else
    (none)) else none)
  else
    (fL_law_L23 L xs n (v4 + (6 : Int32)) s_16))
  else
    (none)))) else none) else none)) else none) else none)
  else
    (if ((xs v4.toNatClampNeg) &&& (31 : Int32)) = (6 : Int32) then
    (if inA (v4 + (1 : Int32)) L then
    (if inA (v4 + (2 : Int32)) L then
    (bd (fL_weather (xs (v4 + (1 : Int32)).toNatClampNeg) (xs (v4 + (2 : Int32)).toNatClampNeg) s) (fun y_17 s_17 =>
    if inA (v4 + (1 : Int32)) L then
    (if inA (v4 + (2 : Int32)) L then
    (bd (fX12_weather (xs (v4 + (1 : Int32)).toNatClampNeg) (xs (v4 + (2 : Int32)).toNatClampNeg) s_17) (fun y_18 s_18 =>
    bd (fX12_thrown s_18) (fun y_19 s_19 =>
    if y_19 = y_17 then
    (if y_17 = 0 then
    (if inA (0 : Int32) 1 then
    (if (lg_cmp (Int32.toInt64 (s_19 111 (0 : Int32).toNatClampNeg)) (Int32.toInt64 y_18)) = 0 then
    (fL_law_L23 L xs n (v4 + (6 : Int32)) s_19)
  else
    (none)) else none)
  else
    (fL_law_L23 L xs n (v4 + (6 : Int32)) s_19))
  else
    (none)))) else none) else none)) else none) else none)
  else
    (if ((xs v4.toNatClampNeg) &&& (31 : Int32)) = (7 : Int32) then
    (if inA (v4 + (1 : Int32)) L then
    (if inA (v4 + (2 : Int32)) L then
    (bd (fL_field (xs (v4 + (1 : Int32)).toNatClampNeg) (xs (v4 + (2 : Int32)).toNatClampNeg) s) (fun y_20 s_20 =>
    if inA (v4 + (1 : Int32)) L then
    (if inA (v4 + (2 : Int32)) L then
    (bd (fX12_field (xs (v4 + (1 : Int32)).toNatClampNeg) (xs (v4 + (2 : Int32)).toNatClampNeg) s_20) (fun y_21 s_21 =>
    bd (fX12_thrown s_21) (fun y_22 s_22 =>
    if y_22 = y_20 then
    (if y_20 = 0 then
    (if inA (0 : Int32) 1 then
    (if (lg_cmp (Int32.toInt64 (s_22 111 (0 : Int32).toNatClampNeg)) (Int32.toInt64 y_21)) = 0 then
    (fL_law_L23 L xs n (v4 + (6 : Int32)) s_22)
  else
    (none)) else none)
  else
    (fL_law_L23 L xs n (v4 + (6 : Int32)) s_22))
  else
    (none)))) else none) else none)) else none) else none)
  else
    (if ((xs v4.toNatClampNeg) &&& (31 : Int32)) = (8 : Int32) then
    (if inA (v4 + (1 : Int32)) L then
    (if inA (v4 + (2 : Int32)) L then
    (bd (fL_front (xs (v4 + (1 : Int32)).toNatClampNeg) (xs (v4 + (2 : Int32)).toNatClampNeg) s) (fun y_23 s_23 =>
    if inA (v4 + (1 : Int32)) L then
    (if inA (v4 + (2 : Int32)) L then
    (bd (fX12_front (xs (v4 + (1 : Int32)).toNatClampNeg) (xs (v4 + (2 : Int32)).toNatClampNeg) s_23) (fun y_24 s_24 =>
    bd (fX12_thrown s_24) (fun y_25 s_25 =>
    if y_25 = y_23 then
    (if y_23 = 0 then
    (if inA (0 : Int32) 1 then
    (if (lg_cmp (Int32.toInt64 (s_25 111 (0 : Int32).toNatClampNeg)) (Int32.toInt64 y_24)) = 0 then
    (fL_law_L23 L xs n (v4 + (6 : Int32)) s_25)
  else
    (none)) else none)
  else
    (fL_law_L23 L xs n (v4 + (6 : Int32)) s_25))
  else
    (none)))) else none) else none)) else none) else none)
  else
    (if ((xs v4.toNatClampNeg) &&& (31 : Int32)) = (9 : Int32) then
    (if inA (v4 + (1 : Int32)) L then
    (if inA (v4 + (2 : Int32)) L then
    (bd (fL_kin (xs (v4 + (1 : Int32)).toNatClampNeg) (xs (v4 + (2 : Int32)).toNatClampNeg) s) (fun y_26 s_26 =>
    if inA (v4 + (1 : Int32)) L then
    (if inA (v4 + (2 : Int32)) L then
    (bd (fX12_kin (xs (v4 + (1 : Int32)).toNatClampNeg) (xs (v4 + (2 : Int32)).toNatClampNeg) s_26) (fun y_27 s_27 =>
    bd (fX12_thrown s_27) (fun y_28 s_28 =>
    if y_28 = y_26 then
    (if y_26 = 0 then
    (if inA (0 : Int32) 1 then
    (if (lg_cmp (Int32.toInt64 (s_28 111 (0 : Int32).toNatClampNeg)) (Int32.toInt64 y_27)) = 0 then
    (fL_law_L23 L xs n (v4 + (6 : Int32)) s_28)
  else
    (none)) else none)
  else
    (fL_law_L23 L xs n (v4 + (6 : Int32)) s_28))
  else
    (none)))) else none) else none)) else none) else none)
  else
    (if ((xs v4.toNatClampNeg) &&& (31 : Int32)) = (10 : Int32) then
    (if inA (v4 + (1 : Int32)) L then
    (if inA (v4 + (2 : Int32)) L then
    (bd (fL_go (xs (v4 + (1 : Int32)).toNatClampNeg) (xs (v4 + (2 : Int32)).toNatClampNeg) s) (fun y_29 s_29 =>
    if inA (v4 + (1 : Int32)) L then
    (if inA (v4 + (2 : Int32)) L then
    (bd (fX12_go (xs (v4 + (1 : Int32)).toNatClampNeg) (xs (v4 + (2 : Int32)).toNatClampNeg) s_29) (fun y_30 s_30 =>
    bd (fX12_thrown s_30) (fun y_31 s_31 =>
    if y_31 = y_29 then
    (if y_29 = 0 then
    (if inA (0 : Int32) 1 then
    (if (lg_cmp (Int32.toInt64 (s_31 111 (0 : Int32).toNatClampNeg)) (Int32.toInt64 y_30)) = 0 then
    (fL_law_L23 L xs n (v4 + (6 : Int32)) s_31)
  else
    (none)) else none)
  else
    (fL_law_L23 L xs n (v4 + (6 : Int32)) s_31))
  else
    (none)))) else none) else none)) else none) else none)
  else
    (if ((xs v4.toNatClampNeg) &&& (31 : Int32)) = (11 : Int32) then
    (if inA (v4 + (1 : Int32)) L then
    (if inA (v4 + (2 : Int32)) L then
    (bd (fL_wed (xs (v4 + (1 : Int32)).toNatClampNeg) (xs (v4 + (2 : Int32)).toNatClampNeg) s) (fun y_32 s_32 =>
    if inA (v4 + (1 : Int32)) L then
    (if inA (v4 + (2 : Int32)) L then
    (bd (fX12_wed (xs (v4 + (1 : Int32)).toNatClampNeg) (xs (v4 + (2 : Int32)).toNatClampNeg) s_32) (fun y_33 s_33 =>
    bd (fX12_thrown s_33) (fun y_34 s_34 =>
    if y_34 = y_32 then
    (if y_32 = 0 then
    (if inA (0 : Int32) 1 then
    (if y_33 = 0 then
    (if (lg_cmp (Int32.toInt64 (s_34 111 (0 : Int32).toNatClampNeg)) (0 : Int64)) = 0 then
    (fL_law_L23 L xs n (v4 + (6 : Int32)) s_34)
  else
    (none))
  else
    (if (lg_cmp (Int32.toInt64 (s_34 111 (0 : Int32).toNatClampNeg)) (1 : Int64)) = 0 then
    (fL_law_L23 L xs n (v4 + (6 : Int32)) s_34)
  else
    (none))) else none)
  else
    (fL_law_L23 L xs n (v4 + (6 : Int32)) s_34))
  else
    (none)))) else none) else none)) else none) else none)
  else
    (if ((xs v4.toNatClampNeg) &&& (31 : Int32)) = (12 : Int32) then
    (if inA (v4 + (1 : Int32)) L then
    (bd (fL_die (xs (v4 + (1 : Int32)).toNatClampNeg) s) (fun y_35 s_35 =>
    if inA (v4 + (1 : Int32)) L then
    (bd (fX12_die (xs (v4 + (1 : Int32)).toNatClampNeg) s_35) (fun y_36 s_36 =>
    bd (fX12_thrown s_36) (fun y_37 s_37 =>
    if y_37 = y_35 then
    (if y_35 = 0 then
    (if inA (0 : Int32) 1 then
    (if (lg_cmp (Int32.toInt64 (s_37 111 (0 : Int32).toNatClampNeg)) (Int32.toInt64 y_36)) = 0 then
    (fL_law_L23 L xs n (v4 + (6 : Int32)) s_37)
  else
    (none)) else none)
  else
    (fL_law_L23 L xs n (v4 + (6 : Int32)) s_37))
  else
    (none)))) else none)) else none)
  else
    (if ((xs v4.toNatClampNeg) &&& (31 : Int32)) = (13 : Int32) then
    (if inA (v4 + (1 : Int32)) L then
    (if inA (v4 + (2 : Int32)) L then
    (if inA (v4 + (3 : Int32)) L then
    (if inA (v4 + (4 : Int32)) L then
    (bd (fL_pawn (xs (v4 + (1 : Int32)).toNatClampNeg) (xs (v4 + (2 : Int32)).toNatClampNeg) (xs (v4 + (3 : Int32)).toNatClampNeg) (xs (v4 + (4 : Int32)).toNatClampNeg) s) (fun y_38 s_38 =>
    if inA (v4 + (1 : Int32)) L then
    (if inA (v4 + (2 : Int32)) L then
    (if inA (v4 + (3 : Int32)) L then
    (if inA (v4 + (4 : Int32)) L then
    (bd (fX12_pawn (xs (v4 + (1 : Int32)).toNatClampNeg) (xs (v4 + (2 : Int32)).toNatClampNeg) (xs (v4 + (3 : Int32)).toNatClampNeg) (xs (v4 + (4 : Int32)).toNatClampNeg) s_38) (fun y_39 s_39 =>
    bd (fX12_thrown s_39) (fun y_40 s_40 =>
    if y_40 = y_38 then
    (if y_38 = 0 then
    (if inA (0 : Int32) 1 then
    (if (lg_cmp (Int32.toInt64 (s_40 111 (0 : Int32).toNatClampNeg)) (Int32.toInt64 y_39)) = 0 then
    (fL_law_L23 L xs n (v4 + (6 : Int32)) s_40)
  else
    (none)) else none)
  else
    (fL_law_L23 L xs n (v4 + (6 : Int32)) s_40))
  else
    (none)))) else none) else none) else none) else none)) else none) else none) else none) else none)
  else
    (if ((xs v4.toNatClampNeg) &&& (31 : Int32)) = (14 : Int32) then
    (if inA (v4 + (1 : Int32)) L then
    (bd (fX11_days (xs (v4 + (1 : Int32)).toNatClampNeg) s) (fun y_41 s_41 =>
    if inA (v4 + (1 : Int32)) L then
    (bd (fX12_days (xs (v4 + (1 : Int32)).toNatClampNeg) s_41) (fun y_42 s_42 =>
    if y_41 = y_42 then
    (fL_law_L23 L xs n (v4 + (6 : Int32)) s_42)
  else
    (none))) else none)) else none)
  else
    (if ((xs v4.toNatClampNeg) &&& (31 : Int32)) = (15 : Int32) then
    (bd (fX11_undo s) (fun y_43 s_43 =>
    bd (fX12_undo s_43) (fun y_44 s_44 =>
    if y_43 = y_44 then
    (fL_law_L23 L xs n (v4 + (6 : Int32)) s_44)
  else
    (none))))
  else
    (if ((xs v4.toNatClampNeg) &&& (31 : Int32)) = (16 : Int32) then
    (if inA (v4 + (1 : Int32)) L then
    (if inA (v4 + (2 : Int32)) L then
    (if inA (v4 + (3 : Int32)) L then
    (bd (fL_heir (xs (v4 + (1 : Int32)).toNatClampNeg) (xs (v4 + (2 : Int32)).toNatClampNeg) (xs (v4 + (3 : Int32)).toNatClampNeg) s) (fun y_45 s_45 =>
    if inA (v4 + (1 : Int32)) L then
    (if inA (v4 + (2 : Int32)) L then
    (if inA (v4 + (3 : Int32)) L then
    (bd (fX12_heir (xs (v4 + (1 : Int32)).toNatClampNeg) (xs (v4 + (2 : Int32)).toNatClampNeg) (xs (v4 + (3 : Int32)).toNatClampNeg) s_45) (fun y_46 s_46 =>
    bd (fX12_thrown s_46) (fun y_47 s_47 =>
    if y_47 = y_45 then
    (if y_45 = 0 then
    (if inA (0 : Int32) 1 then
    (if (lg_cmp (Int32.toInt64 (s_47 111 (0 : Int32).toNatClampNeg)) (Int32.toInt64 y_46)) = 0 then
    (fL_law_L23 L xs n (v4 + (6 : Int32)) s_47)
  else
    (none)) else none)
  else
    (fL_law_L23 L xs n (v4 + (6 : Int32)) s_47))
  else
    (none)))) else none) else none) else none)) else none) else none) else none)
  else
    (if ((xs v4.toNatClampNeg) &&& (31 : Int32)) = (17 : Int32) then
    (bd (fX11_failing s) (fun y_48 s_48 =>
    bd (fX12_failing s_48) (fun y_49 s_49 =>
    if y_48 = y_49 then
    (fL_law_L23 L xs n (v4 + (6 : Int32)) s_49)
  else
    (none))))
  else
    (if ((xs v4.toNatClampNeg) &&& (31 : Int32)) = (18 : Int32) then
    (if inA (v4 + (1 : Int32)) L then
    (bd (fL_contested (xs (v4 + (1 : Int32)).toNatClampNeg) s) (fun y_50 s_50 =>
    if inA (v4 + (1 : Int32)) L then
    (bd (fX12_contested (xs (v4 + (1 : Int32)).toNatClampNeg) s_50) (fun y_51 s_51 =>
    bd (fX12_thrown s_51) (fun y_52 s_52 =>
    if y_52 = y_50 then
    (if y_50 = 0 then
    (if inA (0 : Int32) 1 then
    (if (lg_cmp (Int32.toInt64 (s_52 111 (0 : Int32).toNatClampNeg)) (Int32.toInt64 y_51)) = 0 then
    (fL_law_L23 L xs n (v4 + (6 : Int32)) s_52)
  else
    (none)) else none)
  else
    (fL_law_L23 L xs n (v4 + (6 : Int32)) s_52))
  else
    (none)))) else none)) else none)
  else
    (if ((xs v4.toNatClampNeg) &&& (31 : Int32)) = (19 : Int32) then
    (if inA (v4 + (1 : Int32)) L then
    (if inA (v4 + (2 : Int32)) L then
    (if inA (v4 + (3 : Int32)) L then
    (bd (fL_deaths (xs (v4 + (1 : Int32)).toNatClampNeg) (xs (v4 + (2 : Int32)).toNatClampNeg) (xs (v4 + (3 : Int32)).toNatClampNeg) s) (fun y_53 s_53 =>
    if inA (v4 + (1 : Int32)) L then
    (if inA (v4 + (2 : Int32)) L then
    (if inA (v4 + (3 : Int32)) L then
    (bd (fX12_deaths (xs (v4 + (1 : Int32)).toNatClampNeg) (xs (v4 + (2 : Int32)).toNatClampNeg) (xs (v4 + (3 : Int32)).toNatClampNeg) s_53) (fun y_54 s_54 =>
    bd (fX12_thrown s_54) (fun y_55 s_55 =>
    if y_55 = y_53 then
    (if y_53 = 0 then
    (if inA (0 : Int32) 1 then
    (if (lg_cmp (Int32.toInt64 (s_55 111 (0 : Int32).toNatClampNeg)) (Int32.toInt64 y_54)) = 0 then
    (fL_law_L23 L xs n (v4 + (6 : Int32)) s_55)
  else
    (none)) else none)
  else
    (fL_law_L23 L xs n (v4 + (6 : Int32)) s_55))
  else
    (none)))) else none) else none) else none)) else none) else none) else none)
  else
    (if ((xs v4.toNatClampNeg) &&& (31 : Int32)) = (20 : Int32) then
    (if inA (v4 + (1 : Int32)) L then
    (bd (fL_death (xs (v4 + (1 : Int32)).toNatClampNeg) s) (fun y_56 s_56 =>
    if inA (v4 + (1 : Int32)) L then
    (bd (fX12_death (xs (v4 + (1 : Int32)).toNatClampNeg) s_56) (fun y_57 s_57 =>
    bd (fX12_thrown s_57) (fun y_58 s_58 =>
    if y_58 = y_56 then
    (if y_56 = 0 then
    (if inA (0 : Int32) 1 then
    (if (lg_cmp (Int32.toInt64 (s_58 111 (0 : Int32).toNatClampNeg)) (Int32.toInt64 y_57)) = 0 then
    (fL_law_L23 L xs n (v4 + (6 : Int32)) s_58)
  else
    (none)) else none)
  else
    (fL_law_L23 L xs n (v4 + (6 : Int32)) s_58))
  else
    (none)))) else none)) else none)
  else
    (if ((xs v4.toNatClampNeg) &&& (31 : Int32)) = (21 : Int32) then
    (bd (fX11_arrange s) (fun y_59 s_59 =>
    bd (fX12_arrange s_59) (fun y_60 s_60 =>
    if y_59 = y_60 then
    (fL_law_L23 L xs n (v4 + (6 : Int32)) s_60)
  else
    (none))))
  else
    (if ((xs v4.toNatClampNeg) &&& (31 : Int32)) = (22 : Int32) then
    (if inA (v4 + (1 : Int32)) L then
    (bd (fL_post (xs (v4 + (1 : Int32)).toNatClampNeg) s) (fun y_61 s_61 =>
    if inA (v4 + (1 : Int32)) L then
    (bd (fX12_post (xs (v4 + (1 : Int32)).toNatClampNeg) s_61) (fun y_62 s_62 =>
    bd (fX12_thrown s_62) (fun y_63 s_63 =>
    if y_63 = y_61 then
    (if y_61 = 0 then
    (if inA (0 : Int32) 1 then
    (if (lg_cmp (Int32.toInt64 (s_63 111 (0 : Int32).toNatClampNeg)) (Int32.toInt64 y_62)) = 0 then
    (fL_law_L23 L xs n (v4 + (6 : Int32)) s_63)
  else
    (none)) else none)
  else
    (fL_law_L23 L xs n (v4 + (6 : Int32)) s_63))
  else
    (none)))) else none)) else none)
  else
    (if ((xs v4.toNatClampNeg) &&& (31 : Int32)) = (23 : Int32) then
    (bd (fX11_seatings s) (fun y_64 s_64 =>
    bd (fX12_seatings s_64) (fun y_65 s_65 =>
    if y_64 = y_65 then
    (fL_law_L23 L xs n (v4 + (6 : Int32)) s_65)
  else
    (none))))
  else
    (if ((xs v4.toNatClampNeg) &&& (31 : Int32)) = (24 : Int32) then
    (if inA (v4 + (1 : Int32)) L then
    (bd (fL_seat (xs (v4 + (1 : Int32)).toNatClampNeg) s) (fun y_66 s_66 =>
    if inA (v4 + (1 : Int32)) L then
    (bd (fX12_seat (xs (v4 + (1 : Int32)).toNatClampNeg) s_66) (fun y_67 s_67 =>
    bd (fX12_thrown s_67) (fun y_68 s_68 =>
    if y_68 = y_66 then
    (if y_66 = 0 then
    (if inA (0 : Int32) 1 then
    (if (lg_cmp (Int32.toInt64 (s_68 111 (0 : Int32).toNatClampNeg)) (Int32.toInt64 y_67)) = 0 then
    (fL_law_L23 L xs n (v4 + (6 : Int32)) s_68)
  else
    (none)) else none)
  else
    (fL_law_L23 L xs n (v4 + (6 : Int32)) s_68))
  else
    (none)))) else none)) else none)
  else
    (if ((xs v4.toNatClampNeg) &&& (31 : Int32)) = (25 : Int32) then
    (if inA (v4 + (1 : Int32)) L then
    (if inA (v4 + (2 : Int32)) L then
    (bd (fL_see (xs (v4 + (1 : Int32)).toNatClampNeg) (xs (v4 + (2 : Int32)).toNatClampNeg) s) (fun y_69 s_69 =>
    if inA (v4 + (1 : Int32)) L then
    (if inA (v4 + (2 : Int32)) L then
    (bd (fX12_see (xs (v4 + (1 : Int32)).toNatClampNeg) (xs (v4 + (2 : Int32)).toNatClampNeg) s_69) (fun y_70 s_70 =>
    bd (fX12_thrown s_70) (fun y_71 s_71 =>
    if y_71 = y_69 then
    (if y_69 = 0 then
    (if inA (0 : Int32) 1 then
    (if (lg_cmp (Int32.toInt64 (s_71 111 (0 : Int32).toNatClampNeg)) (Int32.toInt64 y_70)) = 0 then
    (fL_law_L23 L xs n (v4 + (6 : Int32)) s_71)
  else
    (none)) else none)
  else
    (fL_law_L23 L xs n (v4 + (6 : Int32)) s_71))
  else
    (none)))) else none) else none)) else none) else none)
  else
    (if ((xs v4.toNatClampNeg) &&& (31 : Int32)) = (26 : Int32) then
    (bd (fX11_forget s) (fun y_72 s_72 =>
    bd (fX12_forget s_72) (fun y_73 s_73 =>
    if y_72 = y_73 then
    (fL_law_L23 L xs n (v4 + (6 : Int32)) s_73)
  else
    (none))))
  else
    (if ((xs v4.toNatClampNeg) &&& (31 : Int32)) = (27 : Int32) then
    (if inA (v4 + (1 : Int32)) L then
    (bd (fL_fits (xs (v4 + (1 : Int32)).toNatClampNeg) s) (fun y_74 s_74 =>
    if inA (v4 + (1 : Int32)) L then
    (bd (fX12_fits (xs (v4 + (1 : Int32)).toNatClampNeg) s_74) (fun y_75 s_75 =>
    bd (fX12_thrown s_75) (fun y_76 s_76 =>
    if y_76 = y_74 then
    (if y_74 = 0 then
    (if inA (0 : Int32) 1 then
    (if (lg_cmp (Int32.toInt64 (s_76 111 (0 : Int32).toNatClampNeg)) (Int32.toInt64 y_75)) = 0 then
    (fL_law_L23 L xs n (v4 + (6 : Int32)) s_76)
  else
    (none)) else none)
  else
    (fL_law_L23 L xs n (v4 + (6 : Int32)) s_76))
  else
    (none)))) else none)) else none)
  else
    (if ((xs v4.toNatClampNeg) &&& (31 : Int32)) = (28 : Int32) then
    (if inA (v4 + (1 : Int32)) L then
    (if inA (v4 + (2 : Int32)) L then
    (if inA (v4 + (3 : Int32)) L then
    (bd (fL_suitors (xs (v4 + (1 : Int32)).toNatClampNeg) (xs (v4 + (2 : Int32)).toNatClampNeg) (xs (v4 + (3 : Int32)).toNatClampNeg) s) (fun y_77 s_77 =>
    if inA (v4 + (1 : Int32)) L then
    (if inA (v4 + (2 : Int32)) L then
    (if inA (v4 + (3 : Int32)) L then
    (bd (fX12_suitors (xs (v4 + (1 : Int32)).toNatClampNeg) (xs (v4 + (2 : Int32)).toNatClampNeg) (xs (v4 + (3 : Int32)).toNatClampNeg) s_77) (fun y_78 s_78 =>
    bd (fX12_thrown s_78) (fun y_79 s_79 =>
    if y_79 = y_77 then
    (if y_77 = 0 then
    (if inA (0 : Int32) 1 then
    (if (lg_cmp (Int32.toInt64 (s_79 111 (0 : Int32).toNatClampNeg)) (Int32.toInt64 y_78)) = 0 then
    (fL_law_L23 L xs n (v4 + (6 : Int32)) s_79)
  else
    (none)) else none)
  else
    (fL_law_L23 L xs n (v4 + (6 : Int32)) s_79))
  else
    (none)))) else none) else none) else none)) else none) else none) else none)
  else
    (if ((xs v4.toNatClampNeg) &&& (31 : Int32)) = (29 : Int32) then
    (if inA (v4 + (1 : Int32)) L then
    (if inA (v4 + (2 : Int32)) L then
    (if inA (v4 + (3 : Int32)) L then
    (bd (fL_century (xs (v4 + (1 : Int32)).toNatClampNeg) (xs (v4 + (2 : Int32)).toNatClampNeg) (xs (v4 + (3 : Int32)).toNatClampNeg) s) (fun y_80 s_80 =>
    if inA (v4 + (1 : Int32)) L then
    (if inA (v4 + (2 : Int32)) L then
    (if inA (v4 + (3 : Int32)) L then
    (bd (fX12_century (xs (v4 + (1 : Int32)).toNatClampNeg) (xs (v4 + (2 : Int32)).toNatClampNeg) (xs (v4 + (3 : Int32)).toNatClampNeg) s_80) (fun y_81 s_81 =>
    bd (fX12_thrown s_81) (fun y_82 s_82 =>
    if y_82 = y_80 then
    (if y_80 = 0 then
    (if inA (0 : Int32) 1 then
    (if (lg_cmp (Int32.toInt64 (s_82 111 (0 : Int32).toNatClampNeg)) (Int32.toInt64 y_81)) = 0 then
    (fL_law_L23 L xs n (v4 + (6 : Int32)) s_82)
  else
    (none)) else none)
  else
    (fL_law_L23 L xs n (v4 + (6 : Int32)) s_82))
  else
    (none)))) else none) else none) else none)) else none) else none) else none)
  else
    (if ((xs v4.toNatClampNeg) &&& (31 : Int32)) = (30 : Int32) then
    (bd (fX11_image s) (fun y_83 s_83 =>
    bd (fX12_image s_83) (fun y_84 s_84 =>
    fL_law_L23 L xs n (v4 + (6 : Int32)) s_84)))
  else
    (if ((xs v4.toNatClampNeg) &&& (31 : Int32)) = (31 : Int32) then
    (bd (fX11_restore s) (fun y_85 s_85 =>
    bd (fX12_restore s_85) (fun y_86 s_86 =>
    if y_85 = y_86 then
    (fL_law_L23 L xs n (v4 + (6 : Int32)) s_86)
  else
    (none))))
  else
    (fL_law_L23 L xs n (v4 + (6 : Int32)) s))))))))))))))))))))))))))))))))) else none)
set_option maxRecDepth 100000 in
set_option maxHeartbeats 40000000 in
theorem tL_law_L23 (X : KX) (QF : Int32 → St → State → Prop) (hC : Ctx X RL cL_law FULL 1700 200000) (hN : X_nL X = 7) (hst : (X_l X).stackTraces = false) {b L : Nat} {xs : Nat → Int32} (hX : XS X b L xs)
    (hend : ∀ (x : Nat) (s : St) (pc : Nat) (ls : List (Nat × Value)), x ≤ 200000 → decode cL_law pc = .ok (.ireturn, 1) → Zr X QF x s pc ls [.int (1 : Int32)] (some ((1 : Int32), s))) :
    ∀ (n : Nat) (v4 : Int32) (s : St) (x : Nat), x + 8 * n ≤ 200000 → Zr X QF x s 23 [(0, .ref b), (1, .ref (X_ad X 0)), (2, .ref (X_ad X 69)), (3, .ref (X_ad X 111)), (4, .int v4)] [] (fL_law_L23 L xs n v4 s) := by
  intro n
  induction n with
  | zero =>
    intro v4 s x hx
    exact zr_none
  | succ n ih =>
    intro v4 s x hx
    rw [fL_law_L23]
    refine zr_iload (pc := 23) 4 hC dL_law_23 rfl ?_
    refine zr_aload_n (pc := 25) (i := 0) 0 hC dL_law_25 rfl rfl ?_
    refine zr_scl (pc := 26) hC hX dL_law_26 ?_
    refine zr_bipush (pc := 27) (v := (6 : Int32)) hC dL_law_27 bi_6 ?_
    refine zr_isub (pc := 29) hC dL_law_29 ?_
    refine zr_icmp_gt (pc := 30) (tgt := 1869) hC dL_law_30 (by decide) (fun c_ => ?_) (fun c_ => ?_)
    · refine zr_iconst (pc := 1869) (v := (1 : Int32)) hC dL_law_1869 ic_1 ?_
      exact hend x _ 1870 _ (by omega) dL_law_1870
    · refine zr_aload_n (pc := 33) (i := 0) 0 hC dL_law_33 rfl rfl ?_
      refine zr_iload (pc := 34) 4 hC dL_law_34 rfl ?_
      refine zr_scd (pc := 36) hC hX dL_law_36 ?_
      refine zr_bipush (pc := 37) (v := (31 : Int32)) hC dL_law_37 bi_31 ?_
      refine zr_iand (pc := 39) hC dL_law_39 ?_
      refine zr_tcase (pc := 40) (v := (0 : Int32)) (off := 144) (tgt := 184) hC dL_law_40 (by decide) (by decide) (by decide) (by decide) ?_ (fun e0 => ?_)
      · refine zr_aload_n (pc := 184) (i := 1) 1 hC dL_law_184 rfl rfl ?_
        refine zr_aload_n (pc := 185) (i := 0) 0 hC dL_law_185 rfl rfl ?_
        refine zr_iload (pc := 186) 4 hC dL_law_186 rfl ?_
        refine zr_iconst (pc := 188) (v := (1 : Int32)) hC dL_law_188 ic_1 ?_
        refine zr_iadd (pc := 189) hC dL_law_189 ?_
        refine zr_scd (pc := 190) hC hX dL_law_190 ?_
        refine zr_aload_n (pc := 191) (i := 0) 0 hC dL_law_191 rfl rfl ?_
        refine zr_iload (pc := 192) 4 hC dL_law_192 rfl ?_
        refine zr_iconst (pc := 194) (v := (2 : Int32)) hC dL_law_194 ic_2 ?_
        refine zr_iadd (pc := 195) hC dL_law_195 ?_
        refine zr_scd (pc := 196) hC hX dL_law_196 ?_
        refine zr_aload_n (pc := 197) (i := 0) 0 hC dL_law_197 rfl rfl ?_
        refine zr_iload (pc := 198) 4 hC dL_law_198 rfl ?_
        refine zr_iconst (pc := 200) (v := (3 : Int32)) hC dL_law_200 ic_3 ?_
        refine zr_iadd (pc := 201) hC dL_law_201 ?_
        refine zr_scd (pc := 202) hC hX dL_law_202 ?_
        refine zr_aload_n (pc := 203) (i := 0) 0 hC dL_law_203 rfl rfl ?_
        refine zr_iload (pc := 204) 4 hC dL_law_204 rfl ?_
        refine zr_iconst (pc := 206) (v := (4 : Int32)) hC dL_law_206 ic_4 ?_
        refine zr_iadd (pc := 207) hC dL_law_207 ?_
        refine zr_scd (pc := 208) hC hX dL_law_208 ?_
        refine zr_aload_n (pc := 209) (i := 0) 0 hC dL_law_209 rfl rfl ?_
        refine zr_iload (pc := 210) 4 hC dL_law_210 rfl ?_
        refine zr_iconst (pc := 212) (v := (5 : Int32)) hC dL_law_212 ic_5 ?_
        refine zr_iadd (pc := 213) hC dL_law_213 ?_
        refine zr_scd (pc := 214) hC hX dL_law_214 ?_
        refine zr_callV (pc := 215) (As := fun ad => [.int (xs (v4 + (1 : Int32)).toNatClampNeg), .int (xs (v4 + (2 : Int32)).toNatClampNeg), .int (xs (v4 + (3 : Int32)).toNatClampNeg), .int (xs (v4 + (4 : Int32)).toNatClampNeg), .int (xs (v4 + (5 : Int32)).toNatClampNeg)]) (st1 := []) hC (by omega) (kX11_feed _ (xs (v4 + (1 : Int32)).toNatClampNeg) (xs (v4 + (2 : Int32)).toNatClampNeg) (xs (v4 + (3 : Int32)).toNatClampNeg) (xs (v4 + (4 : Int32)).toNatClampNeg) (xs (v4 + (5 : Int32)).toNatClampNeg) _) (Nat.le_of_ble_eq_true rfl) mc_yX11_feed m_428 m_429 m_430 mem_0 lay_0 rfl rfl rfl rfl (Nat.le_of_ble_eq_true rfl) dL_law_215 (fun y_1 s_1 => ?_)
        refine zr_aload_n (pc := 218) (i := 2) 2 hC dL_law_218 rfl rfl ?_
        refine zr_aload_n (pc := 219) (i := 0) 0 hC dL_law_219 rfl rfl ?_
        refine zr_iload (pc := 220) 4 hC dL_law_220 rfl ?_
        refine zr_iconst (pc := 222) (v := (1 : Int32)) hC dL_law_222 ic_1 ?_
        refine zr_iadd (pc := 223) hC dL_law_223 ?_
        refine zr_scd (pc := 224) hC hX dL_law_224 ?_
        refine zr_aload_n (pc := 225) (i := 0) 0 hC dL_law_225 rfl rfl ?_
        refine zr_iload (pc := 226) 4 hC dL_law_226 rfl ?_
        refine zr_iconst (pc := 228) (v := (2 : Int32)) hC dL_law_228 ic_2 ?_
        refine zr_iadd (pc := 229) hC dL_law_229 ?_
        refine zr_scd (pc := 230) hC hX dL_law_230 ?_
        refine zr_aload_n (pc := 231) (i := 0) 0 hC dL_law_231 rfl rfl ?_
        refine zr_iload (pc := 232) 4 hC dL_law_232 rfl ?_
        refine zr_iconst (pc := 234) (v := (3 : Int32)) hC dL_law_234 ic_3 ?_
        refine zr_iadd (pc := 235) hC dL_law_235 ?_
        refine zr_scd (pc := 236) hC hX dL_law_236 ?_
        refine zr_aload_n (pc := 237) (i := 0) 0 hC dL_law_237 rfl rfl ?_
        refine zr_iload (pc := 238) 4 hC dL_law_238 rfl ?_
        refine zr_iconst (pc := 240) (v := (4 : Int32)) hC dL_law_240 ic_4 ?_
        refine zr_iadd (pc := 241) hC dL_law_241 ?_
        refine zr_scd (pc := 242) hC hX dL_law_242 ?_
        refine zr_aload_n (pc := 243) (i := 0) 0 hC dL_law_243 rfl rfl ?_
        refine zr_iload (pc := 244) 4 hC dL_law_244 rfl ?_
        refine zr_iconst (pc := 246) (v := (5 : Int32)) hC dL_law_246 ic_5 ?_
        refine zr_iadd (pc := 247) hC dL_law_247 ?_
        refine zr_scd (pc := 248) hC hX dL_law_248 ?_
        refine zr_callV (pc := 249) (As := fun ad => [.int (xs (v4 + (1 : Int32)).toNatClampNeg), .int (xs (v4 + (2 : Int32)).toNatClampNeg), .int (xs (v4 + (3 : Int32)).toNatClampNeg), .int (xs (v4 + (4 : Int32)).toNatClampNeg), .int (xs (v4 + (5 : Int32)).toNatClampNeg)]) (st1 := [.int y_1]) hC (by omega) (kX12_feed _ (xs (v4 + (1 : Int32)).toNatClampNeg) (xs (v4 + (2 : Int32)).toNatClampNeg) (xs (v4 + (3 : Int32)).toNatClampNeg) (xs (v4 + (4 : Int32)).toNatClampNeg) (xs (v4 + (5 : Int32)).toNatClampNeg) _) (Nat.le_of_ble_eq_true rfl) mc_yX12_feed m_1598 m_1599 m_1600 mem_69 lay_69 rfl rfl rfl rfl (Nat.le_of_ble_eq_true rfl) dL_law_249 (fun y_2 s_2 => ?_)
        refine zr_icmp_eq (pc := 252) (tgt := 1863) hC dL_law_252 (by decide) (fun c_ => ?_) (fun c_ => ?_)
        · refine zr_iinc (pc := 1863) (q := 4) (ls' := [(4, _), (0, _), (1, _), (2, _), (3, _)]) hC dL_law_1863 rfl (inc_6 _) (nlt hN (Nat.le_of_ble_eq_true rfl)) rfl ?_
          refine zr_goto (pc := 1866) (tgt := 23) hC dL_law_1866 (by decide) ?_
          refine zr_sub (ls' := [(0, _), (1, _), (2, _), (3, _), (4, _)]) [1, 2, 3, 4, 0] rfl ?_
          refine zr_widen (x' := x + 8) (by omega) ?_
          exact ih (v4 + (6 : Int32)) s_2 (x + 8) (by omega)
        · refine zr_iconst (pc := 255) (v := (0 : Int32)) hC dL_law_255 ic_0 ?_
          exact zr_none
      refine zr_tcase (pc := 40) (v := (1 : Int32)) (off := 217) (tgt := 257) hC dL_law_40 (by decide) (by decide) (by decide) (by decide) ?_ (fun e1 => ?_)
      · refine zr_aload_n (pc := 257) (i := 1) 1 hC dL_law_257 rfl rfl ?_
        refine zr_aload_n (pc := 258) (i := 0) 0 hC dL_law_258 rfl rfl ?_
        refine zr_iload (pc := 259) 4 hC dL_law_259 rfl ?_
        refine zr_iconst (pc := 261) (v := (1 : Int32)) hC dL_law_261 ic_1 ?_
        refine zr_iadd (pc := 262) hC dL_law_262 ?_
        refine zr_scd (pc := 263) hC hX dL_law_263 ?_
        refine zr_aload_n (pc := 264) (i := 3) 3 hC dL_law_264 rfl rfl ?_
        refine zr_callW (pc := 265) (xm' := 1) (n := 3) (As := fun ad => [.ref (ad 0), .int (xs (v4 + (1 : Int32)).toNatClampNeg), .ref (ad 111)]) (st1 := []) hC (by omega) (kL_land _ hst (xs (v4 + (1 : Int32)).toNatClampNeg) _) (Nat.le_of_ble_eq_true rfl) mw_630 m_0 (Nat.le_of_ble_eq_true rfl) ⟨by decide, by decide, by decide +kernel⟩ m_628 m_629 rfl rfl (Nat.le_of_ble_eq_true rfl) dL_law_265 (fun y_3 s_3 => ?_)
        refine zr_istore (pc := 268) (ls' := [(5, _), (0, _), (1, _), (2, _), (3, _), (4, _)]) hC dL_law_268 (nlt hN (Nat.le_of_ble_eq_true rfl)) rfl ?_
        refine zr_aload_n (pc := 270) (i := 2) 3 hC dL_law_270 rfl rfl ?_
        refine zr_aload_n (pc := 271) (i := 0) 1 hC dL_law_271 rfl rfl ?_
        refine zr_iload (pc := 272) 5 hC dL_law_272 rfl ?_
        refine zr_iconst (pc := 274) (v := (1 : Int32)) hC dL_law_274 ic_1 ?_
        refine zr_iadd (pc := 275) hC dL_law_275 ?_
        refine zr_scd (pc := 276) hC hX dL_law_276 ?_
        refine zr_callV (pc := 277) (As := fun ad => [.int (xs (v4 + (1 : Int32)).toNatClampNeg)]) (st1 := []) hC (by omega) (kX12_land _ (xs (v4 + (1 : Int32)).toNatClampNeg) _) (Nat.le_of_ble_eq_true rfl) mc_yX12_land m_1602 m_1603 m_1604 mem_69 lay_69 rfl rfl rfl rfl (Nat.le_of_ble_eq_true rfl) dL_law_277 (fun y_4 s_4 => ?_)
        refine zr_istore (pc := 280) (ls' := [(6, _), (5, _), (0, _), (1, _), (2, _), (3, _), (4, _)]) hC dL_law_280 (nlt hN (Nat.le_of_ble_eq_true rfl)) rfl ?_
        refine zr_aload_n (pc := 282) (i := 2) 4 hC dL_law_282 rfl rfl ?_
        refine zr_callV (pc := 283) (As := fun ad => []) (st1 := []) hC (by omega) (kX12_thrown _  _) (Nat.le_of_ble_eq_true rfl) mc_yX12_thrown m_1594 m_1595 m_1596 mem_69 lay_69 rfl rfl rfl rfl (Nat.le_of_ble_eq_true rfl) dL_law_283 (fun y_5 s_5 => ?_)
        refine zr_iload (pc := 286) 1 hC dL_law_286 rfl ?_
        refine zr_icmp_eq (pc := 288) (tgt := 293) hC dL_law_288 (by decide) (fun c_ => ?_) (fun c_ => ?_)
        · refine zr_iload (pc := 293) 1 hC dL_law_293 rfl ?_
          refine zr_if_ne (pc := 295) (tgt := 310) hC dL_law_295 (by decide) (fun c_ => ?_) (fun c_ => ?_)
          · refine zr_aload_n (pc := 298) (i := 3) 5 hC dL_law_298 rfl rfl ?_
            refine zr_iconst (pc := 299) (v := (0 : Int32)) hC dL_law_299 ic_0 ?_
            refine zr_lald (pc := 300) hC mem_111 lay_111 dL_law_300 ?_
            refine zr_iload (pc := 301) 0 hC dL_law_301 rfl ?_
            refine zr_i2l (pc := 303) hC dL_law_303 ?_
            refine zr_lcmp (pc := 304) hC dL_law_304 ?_
            refine zr_if_eq (pc := 305) (tgt := 310) hC dL_law_305 (by decide) (fun c_ => ?_) (fun c_ => ?_)
            · refine zr_goto (pc := 310) (tgt := 1863) hC dL_law_310 (by decide) ?_
              refine zr_iinc (pc := 1863) (q := 6) (ls' := [(4, _), (6, _), (5, _), (0, _), (1, _), (2, _), (3, _)]) hC dL_law_1863 rfl (inc_6 _) (nlt hN (Nat.le_of_ble_eq_true rfl)) rfl ?_
              refine zr_goto (pc := 1866) (tgt := 23) hC dL_law_1866 (by decide) ?_
              refine zr_sub (ls' := [(0, _), (1, _), (2, _), (3, _), (4, _)]) [3, 4, 5, 6, 0] rfl ?_
              refine zr_widen (x' := x + 8) (by omega) ?_
              exact ih (v4 + (6 : Int32)) s_5 (x + 8) (by omega)
            · refine zr_iconst (pc := 308) (v := (0 : Int32)) hC dL_law_308 ic_0 ?_
              exact zr_none
          · refine zr_goto (pc := 310) (tgt := 1863) hC dL_law_310 (by decide) ?_
            refine zr_iinc (pc := 1863) (q := 6) (ls' := [(4, _), (6, _), (5, _), (0, _), (1, _), (2, _), (3, _)]) hC dL_law_1863 rfl (inc_6 _) (nlt hN (Nat.le_of_ble_eq_true rfl)) rfl ?_
            refine zr_goto (pc := 1866) (tgt := 23) hC dL_law_1866 (by decide) ?_
            refine zr_sub (ls' := [(0, _), (1, _), (2, _), (3, _), (4, _)]) [3, 4, 5, 6, 0] rfl ?_
            refine zr_widen (x' := x + 8) (by omega) ?_
            exact ih (v4 + (6 : Int32)) s_5 (x + 8) (by omega)
        · refine zr_iconst (pc := 291) (v := (0 : Int32)) hC dL_law_291 ic_0 ?_
          exact zr_none
      refine zr_tcase (pc := 40) (v := (2 : Int32)) (off := 273) (tgt := 313) hC dL_law_40 (by decide) (by decide) (by decide) (by decide) ?_ (fun e2 => ?_)
      · refine zr_aload_n (pc := 313) (i := 1) 1 hC dL_law_313 rfl rfl ?_
        refine zr_callV (pc := 314) (As := fun ad => []) (st1 := []) hC (by omega) (kX11_fault _  _) (Nat.le_of_ble_eq_true rfl) mc_yX11_fault m_436 m_437 m_438 mem_0 lay_0 rfl rfl rfl rfl (Nat.le_of_ble_eq_true rfl) dL_law_314 (fun y_6 s_6 => ?_)
        refine zr_aload_n (pc := 317) (i := 2) 2 hC dL_law_317 rfl rfl ?_
        refine zr_callV (pc := 318) (As := fun ad => []) (st1 := [.int y_6]) hC (by omega) (kX12_fault _  _) (Nat.le_of_ble_eq_true rfl) mc_yX12_fault m_1735 m_1736 m_1737 mem_69 lay_69 rfl rfl rfl rfl (Nat.le_of_ble_eq_true rfl) dL_law_318 (fun y_7 s_7 => ?_)
        refine zr_icmp_eq (pc := 321) (tgt := 1863) hC dL_law_321 (by decide) (fun c_ => ?_) (fun c_ => ?_)
        · refine zr_iinc (pc := 1863) (q := 4) (ls' := [(4, _), (0, _), (1, _), (2, _), (3, _)]) hC dL_law_1863 rfl (inc_6 _) (nlt hN (Nat.le_of_ble_eq_true rfl)) rfl ?_
          refine zr_goto (pc := 1866) (tgt := 23) hC dL_law_1866 (by decide) ?_
          refine zr_sub (ls' := [(0, _), (1, _), (2, _), (3, _), (4, _)]) [1, 2, 3, 4, 0] rfl ?_
          refine zr_widen (x' := x + 8) (by omega) ?_
          exact ih (v4 + (6 : Int32)) s_7 (x + 8) (by omega)
        · refine zr_iconst (pc := 324) (v := (0 : Int32)) hC dL_law_324 ic_0 ?_
          exact zr_none
      refine zr_tcase (pc := 40) (v := (3 : Int32)) (off := 286) (tgt := 326) hC dL_law_40 (by decide) (by decide) (by decide) (by decide) ?_ (fun e3 => ?_)
      · refine zr_aload_n (pc := 326) (i := 1) 1 hC dL_law_326 rfl rfl ?_
        refine zr_aload_n (pc := 327) (i := 0) 0 hC dL_law_327 rfl rfl ?_
        refine zr_iload (pc := 328) 4 hC dL_law_328 rfl ?_
        refine zr_iconst (pc := 330) (v := (1 : Int32)) hC dL_law_330 ic_1 ?_
        refine zr_iadd (pc := 331) hC dL_law_331 ?_
        refine zr_scd (pc := 332) hC hX dL_law_332 ?_
        refine zr_aload_n (pc := 333) (i := 3) 3 hC dL_law_333 rfl rfl ?_
        refine zr_callW (pc := 334) (xm' := 1) (n := 3) (As := fun ad => [.ref (ad 0), .int (xs (v4 + (1 : Int32)).toNatClampNeg), .ref (ad 111)]) (st1 := []) hC (by omega) (kL_count _ hst (xs (v4 + (1 : Int32)).toNatClampNeg) _) (Nat.le_of_ble_eq_true rfl) mw_980 m_0 (Nat.le_of_ble_eq_true rfl) ⟨by decide, by decide, by decide +kernel⟩ m_978 m_979 rfl rfl (Nat.le_of_ble_eq_true rfl) dL_law_334 (fun y_8 s_8 => ?_)
        refine zr_istore (pc := 337) (ls' := [(5, _), (0, _), (1, _), (2, _), (3, _), (4, _)]) hC dL_law_337 (nlt hN (Nat.le_of_ble_eq_true rfl)) rfl ?_
        refine zr_aload_n (pc := 339) (i := 2) 3 hC dL_law_339 rfl rfl ?_
        refine zr_aload_n (pc := 340) (i := 0) 1 hC dL_law_340 rfl rfl ?_
        refine zr_iload (pc := 341) 5 hC dL_law_341 rfl ?_
        refine zr_iconst (pc := 343) (v := (1 : Int32)) hC dL_law_343 ic_1 ?_
        refine zr_iadd (pc := 344) hC dL_law_344 ?_
        refine zr_scd (pc := 345) hC hX dL_law_345 ?_
        refine zr_callV (pc := 346) (As := fun ad => [.int (xs (v4 + (1 : Int32)).toNatClampNeg)]) (st1 := []) hC (by omega) (kX12_count _ (xs (v4 + (1 : Int32)).toNatClampNeg) _) (Nat.le_of_ble_eq_true rfl) mc_yX12_count m_1739 m_1740 m_1741 mem_69 lay_69 rfl rfl rfl rfl (Nat.le_of_ble_eq_true rfl) dL_law_346 (fun y_9 s_9 => ?_)
        refine zr_istore (pc := 349) (ls' := [(6, _), (5, _), (0, _), (1, _), (2, _), (3, _), (4, _)]) hC dL_law_349 (nlt hN (Nat.le_of_ble_eq_true rfl)) rfl ?_
        refine zr_aload_n (pc := 351) (i := 2) 4 hC dL_law_351 rfl rfl ?_
        refine zr_callV (pc := 352) (As := fun ad => []) (st1 := []) hC (by omega) (kX12_thrown _  _) (Nat.le_of_ble_eq_true rfl) mc_yX12_thrown m_1594 m_1595 m_1596 mem_69 lay_69 rfl rfl rfl rfl (Nat.le_of_ble_eq_true rfl) dL_law_352 (fun y_10 s_10 => ?_)
        refine zr_iload (pc := 355) 1 hC dL_law_355 rfl ?_
        refine zr_icmp_eq (pc := 357) (tgt := 362) hC dL_law_357 (by decide) (fun c_ => ?_) (fun c_ => ?_)
        · refine zr_iload (pc := 362) 1 hC dL_law_362 rfl ?_
          refine zr_if_ne (pc := 364) (tgt := 379) hC dL_law_364 (by decide) (fun c_ => ?_) (fun c_ => ?_)
          · refine zr_aload_n (pc := 367) (i := 3) 5 hC dL_law_367 rfl rfl ?_
            refine zr_iconst (pc := 368) (v := (0 : Int32)) hC dL_law_368 ic_0 ?_
            refine zr_lald (pc := 369) hC mem_111 lay_111 dL_law_369 ?_
            refine zr_iload (pc := 370) 0 hC dL_law_370 rfl ?_
            refine zr_i2l (pc := 372) hC dL_law_372 ?_
            refine zr_lcmp (pc := 373) hC dL_law_373 ?_
            refine zr_if_eq (pc := 374) (tgt := 379) hC dL_law_374 (by decide) (fun c_ => ?_) (fun c_ => ?_)
            · refine zr_goto (pc := 379) (tgt := 1863) hC dL_law_379 (by decide) ?_
              refine zr_iinc (pc := 1863) (q := 6) (ls' := [(4, _), (6, _), (5, _), (0, _), (1, _), (2, _), (3, _)]) hC dL_law_1863 rfl (inc_6 _) (nlt hN (Nat.le_of_ble_eq_true rfl)) rfl ?_
              refine zr_goto (pc := 1866) (tgt := 23) hC dL_law_1866 (by decide) ?_
              refine zr_sub (ls' := [(0, _), (1, _), (2, _), (3, _), (4, _)]) [3, 4, 5, 6, 0] rfl ?_
              refine zr_widen (x' := x + 8) (by omega) ?_
              exact ih (v4 + (6 : Int32)) s_10 (x + 8) (by omega)
            · refine zr_iconst (pc := 377) (v := (0 : Int32)) hC dL_law_377 ic_0 ?_
              exact zr_none
          · refine zr_goto (pc := 379) (tgt := 1863) hC dL_law_379 (by decide) ?_
            refine zr_iinc (pc := 1863) (q := 6) (ls' := [(4, _), (6, _), (5, _), (0, _), (1, _), (2, _), (3, _)]) hC dL_law_1863 rfl (inc_6 _) (nlt hN (Nat.le_of_ble_eq_true rfl)) rfl ?_
            refine zr_goto (pc := 1866) (tgt := 23) hC dL_law_1866 (by decide) ?_
            refine zr_sub (ls' := [(0, _), (1, _), (2, _), (3, _), (4, _)]) [3, 4, 5, 6, 0] rfl ?_
            refine zr_widen (x' := x + 8) (by omega) ?_
            exact ih (v4 + (6 : Int32)) s_10 (x + 8) (by omega)
        · refine zr_iconst (pc := 360) (v := (0 : Int32)) hC dL_law_360 ic_0 ?_
          exact zr_none
      refine zr_tcase (pc := 40) (v := (4 : Int32)) (off := 342) (tgt := 382) hC dL_law_40 (by decide) (by decide) (by decide) (by decide) ?_ (fun e4 => ?_)
      · refine zr_aload_n (pc := 382) (i := 1) 1 hC dL_law_382 rfl rfl ?_
        refine zr_aload_n (pc := 383) (i := 0) 0 hC dL_law_383 rfl rfl ?_
        refine zr_iload (pc := 384) 4 hC dL_law_384 rfl ?_
        refine zr_iconst (pc := 386) (v := (1 : Int32)) hC dL_law_386 ic_1 ?_
        refine zr_iadd (pc := 387) hC dL_law_387 ?_
        refine zr_scd (pc := 388) hC hX dL_law_388 ?_
        refine zr_aload_n (pc := 389) (i := 0) 0 hC dL_law_389 rfl rfl ?_
        refine zr_iload (pc := 390) 4 hC dL_law_390 rfl ?_
        refine zr_iconst (pc := 392) (v := (2 : Int32)) hC dL_law_392 ic_2 ?_
        refine zr_iadd (pc := 393) hC dL_law_393 ?_
        refine zr_scd (pc := 394) hC hX dL_law_394 ?_
        refine zr_aload_n (pc := 395) (i := 3) 3 hC dL_law_395 rfl rfl ?_
        refine zr_callW (pc := 396) (xm' := 2) (n := 4) (As := fun ad => [.ref (ad 0), .int (xs (v4 + (1 : Int32)).toNatClampNeg), .int (xs (v4 + (2 : Int32)).toNatClampNeg), .ref (ad 111)]) (st1 := []) hC (by omega) (kL_person _ hst (xs (v4 + (1 : Int32)).toNatClampNeg) (xs (v4 + (2 : Int32)).toNatClampNeg) _) (Nat.le_of_ble_eq_true rfl) mw_1008 m_0 (Nat.le_of_ble_eq_true rfl) ⟨by decide, by decide, by decide +kernel⟩ m_1006 m_1007 rfl rfl (Nat.le_of_ble_eq_true rfl) dL_law_396 (fun y_11 s_11 => ?_)
        refine zr_istore (pc := 399) (ls' := [(5, _), (0, _), (1, _), (2, _), (3, _), (4, _)]) hC dL_law_399 (nlt hN (Nat.le_of_ble_eq_true rfl)) rfl ?_
        refine zr_aload_n (pc := 401) (i := 2) 3 hC dL_law_401 rfl rfl ?_
        refine zr_aload_n (pc := 402) (i := 0) 1 hC dL_law_402 rfl rfl ?_
        refine zr_iload (pc := 403) 5 hC dL_law_403 rfl ?_
        refine zr_iconst (pc := 405) (v := (1 : Int32)) hC dL_law_405 ic_1 ?_
        refine zr_iadd (pc := 406) hC dL_law_406 ?_
        refine zr_scd (pc := 407) hC hX dL_law_407 ?_
        refine zr_aload_n (pc := 408) (i := 0) 1 hC dL_law_408 rfl rfl ?_
        refine zr_iload (pc := 409) 5 hC dL_law_409 rfl ?_
        refine zr_iconst (pc := 411) (v := (2 : Int32)) hC dL_law_411 ic_2 ?_
        refine zr_iadd (pc := 412) hC dL_law_412 ?_
        refine zr_scd (pc := 413) hC hX dL_law_413 ?_
        refine zr_callV (pc := 414) (As := fun ad => [.int (xs (v4 + (1 : Int32)).toNatClampNeg), .int (xs (v4 + (2 : Int32)).toNatClampNeg)]) (st1 := []) hC (by omega) (kX12_person _ (xs (v4 + (1 : Int32)).toNatClampNeg) (xs (v4 + (2 : Int32)).toNatClampNeg) _) (Nat.le_of_ble_eq_true rfl) mc_yX12_person m_1758 m_1759 m_1760 mem_69 lay_69 rfl rfl rfl rfl (Nat.le_of_ble_eq_true rfl) dL_law_414 (fun y_12 s_12 => ?_)
        refine zr_istore (pc := 417) (ls' := [(6, _), (5, _), (0, _), (1, _), (2, _), (3, _), (4, _)]) hC dL_law_417 (nlt hN (Nat.le_of_ble_eq_true rfl)) rfl ?_
        refine zr_aload_n (pc := 419) (i := 2) 4 hC dL_law_419 rfl rfl ?_
        refine zr_callV (pc := 420) (As := fun ad => []) (st1 := []) hC (by omega) (kX12_thrown _  _) (Nat.le_of_ble_eq_true rfl) mc_yX12_thrown m_1594 m_1595 m_1596 mem_69 lay_69 rfl rfl rfl rfl (Nat.le_of_ble_eq_true rfl) dL_law_420 (fun y_13 s_13 => ?_)
        refine zr_iload (pc := 423) 1 hC dL_law_423 rfl ?_
        refine zr_icmp_eq (pc := 425) (tgt := 430) hC dL_law_425 (by decide) (fun c_ => ?_) (fun c_ => ?_)
        · refine zr_iload (pc := 430) 1 hC dL_law_430 rfl ?_
          refine zr_if_ne (pc := 432) (tgt := 447) hC dL_law_432 (by decide) (fun c_ => ?_) (fun c_ => ?_)
          · refine zr_aload_n (pc := 435) (i := 3) 5 hC dL_law_435 rfl rfl ?_
            refine zr_iconst (pc := 436) (v := (0 : Int32)) hC dL_law_436 ic_0 ?_
            refine zr_lald (pc := 437) hC mem_111 lay_111 dL_law_437 ?_
            refine zr_iload (pc := 438) 0 hC dL_law_438 rfl ?_
            refine zr_i2l (pc := 440) hC dL_law_440 ?_
            refine zr_lcmp (pc := 441) hC dL_law_441 ?_
            refine zr_if_eq (pc := 442) (tgt := 447) hC dL_law_442 (by decide) (fun c_ => ?_) (fun c_ => ?_)
            · refine zr_goto (pc := 447) (tgt := 1863) hC dL_law_447 (by decide) ?_
              refine zr_iinc (pc := 1863) (q := 6) (ls' := [(4, _), (6, _), (5, _), (0, _), (1, _), (2, _), (3, _)]) hC dL_law_1863 rfl (inc_6 _) (nlt hN (Nat.le_of_ble_eq_true rfl)) rfl ?_
              refine zr_goto (pc := 1866) (tgt := 23) hC dL_law_1866 (by decide) ?_
              refine zr_sub (ls' := [(0, _), (1, _), (2, _), (3, _), (4, _)]) [3, 4, 5, 6, 0] rfl ?_
              refine zr_widen (x' := x + 8) (by omega) ?_
              exact ih (v4 + (6 : Int32)) s_13 (x + 8) (by omega)
            · refine zr_iconst (pc := 445) (v := (0 : Int32)) hC dL_law_445 ic_0 ?_
              exact zr_none
          · refine zr_goto (pc := 447) (tgt := 1863) hC dL_law_447 (by decide) ?_
            refine zr_iinc (pc := 1863) (q := 6) (ls' := [(4, _), (6, _), (5, _), (0, _), (1, _), (2, _), (3, _)]) hC dL_law_1863 rfl (inc_6 _) (nlt hN (Nat.le_of_ble_eq_true rfl)) rfl ?_
            refine zr_goto (pc := 1866) (tgt := 23) hC dL_law_1866 (by decide) ?_
            refine zr_sub (ls' := [(0, _), (1, _), (2, _), (3, _), (4, _)]) [3, 4, 5, 6, 0] rfl ?_
            refine zr_widen (x' := x + 8) (by omega) ?_
            exact ih (v4 + (6 : Int32)) s_13 (x + 8) (by omega)
        · refine zr_iconst (pc := 428) (v := (0 : Int32)) hC dL_law_428 ic_0 ?_
          exact zr_none
      refine zr_tcase (pc := 40) (v := (5 : Int32)) (off := 410) (tgt := 450) hC dL_law_40 (by decide) (by decide) (by decide) (by decide) ?_ (fun e5 => ?_)
      · refine zr_aload_n (pc := 450) (i := 1) 1 hC dL_law_450 rfl rfl ?_
        refine zr_aload_n (pc := 451) (i := 0) 0 hC dL_law_451 rfl rfl ?_
        refine zr_iload (pc := 452) 4 hC dL_law_452 rfl ?_
        refine zr_iconst (pc := 454) (v := (1 : Int32)) hC dL_law_454 ic_1 ?_
        refine zr_iadd (pc := 455) hC dL_law_455 ?_
        refine zr_scd (pc := 456) hC hX dL_law_456 ?_
        refine zr_aload_n (pc := 457) (i := 0) 0 hC dL_law_457 rfl rfl ?_
        refine zr_iload (pc := 458) 4 hC dL_law_458 rfl ?_
        refine zr_iconst (pc := 460) (v := (2 : Int32)) hC dL_law_460 ic_2 ?_
        refine zr_iadd (pc := 461) hC dL_law_461 ?_
        refine zr_scd (pc := 462) hC hX dL_law_462 ?_
        refine zr_aload_n (pc := 463) (i := 3) 3 hC dL_law_463 rfl rfl ?_
        refine zr_callW (pc := 464) (xm' := 2) (n := 4) (As := fun ad => [.ref (ad 0), .int (xs (v4 + (1 : Int32)).toNatClampNeg), .int (xs (v4 + (2 : Int32)).toNatClampNeg), .ref (ad 111)]) (st1 := []) hC (by omega) (kL_sky _ hst (xs (v4 + (1 : Int32)).toNatClampNeg) (xs (v4 + (2 : Int32)).toNatClampNeg) _) (Nat.le_of_ble_eq_true rfl) mw_1025 m_0 (Nat.le_of_ble_eq_true rfl) ⟨by decide, by decide, by decide +kernel⟩ m_1023 m_1024 rfl rfl (Nat.le_of_ble_eq_true rfl) dL_law_464 (fun y_14 s_14 => ?_)
        refine zr_istore (pc := 467) (ls' := [(5, _), (0, _), (1, _), (2, _), (3, _), (4, _)]) hC dL_law_467 (nlt hN (Nat.le_of_ble_eq_true rfl)) rfl ?_
        refine zr_aload_n (pc := 469) (i := 2) 3 hC dL_law_469 rfl rfl ?_
        refine zr_aload_n (pc := 470) (i := 0) 1 hC dL_law_470 rfl rfl ?_
        refine zr_iload (pc := 471) 5 hC dL_law_471 rfl ?_
        refine zr_iconst (pc := 473) (v := (1 : Int32)) hC dL_law_473 ic_1 ?_
        refine zr_iadd (pc := 474) hC dL_law_474 ?_
        refine zr_scd (pc := 475) hC hX dL_law_475 ?_
        refine zr_aload_n (pc := 476) (i := 0) 1 hC dL_law_476 rfl rfl ?_
        refine zr_iload (pc := 477) 5 hC dL_law_477 rfl ?_
        refine zr_iconst (pc := 479) (v := (2 : Int32)) hC dL_law_479 ic_2 ?_
        refine zr_iadd (pc := 480) hC dL_law_480 ?_
        refine zr_scd (pc := 481) hC hX dL_law_481 ?_
        refine zr_callV (pc := 482) (As := fun ad => [.int (xs (v4 + (1 : Int32)).toNatClampNeg), .int (xs (v4 + (2 : Int32)).toNatClampNeg)]) (st1 := []) hC (by omega) (kX12_sky _ (xs (v4 + (1 : Int32)).toNatClampNeg) (xs (v4 + (2 : Int32)).toNatClampNeg) _) (Nat.le_of_ble_eq_true rfl) mc_yX12_sky m_1773 m_1774 m_1775 mem_69 lay_69 rfl rfl rfl rfl (Nat.le_of_ble_eq_true rfl) dL_law_482 (fun y_15 s_15 => ?_)
        refine zr_istore (pc := 485) (ls' := [(6, _), (5, _), (0, _), (1, _), (2, _), (3, _), (4, _)]) hC dL_law_485 (nlt hN (Nat.le_of_ble_eq_true rfl)) rfl ?_
        refine zr_aload_n (pc := 487) (i := 2) 4 hC dL_law_487 rfl rfl ?_
        refine zr_callV (pc := 488) (As := fun ad => []) (st1 := []) hC (by omega) (kX12_thrown _  _) (Nat.le_of_ble_eq_true rfl) mc_yX12_thrown m_1594 m_1595 m_1596 mem_69 lay_69 rfl rfl rfl rfl (Nat.le_of_ble_eq_true rfl) dL_law_488 (fun y_16 s_16 => ?_)
        refine zr_iload (pc := 491) 1 hC dL_law_491 rfl ?_
        refine zr_icmp_eq (pc := 493) (tgt := 498) hC dL_law_493 (by decide) (fun c_ => ?_) (fun c_ => ?_)
        · refine zr_iload (pc := 498) 1 hC dL_law_498 rfl ?_
          refine zr_if_ne (pc := 500) (tgt := 515) hC dL_law_500 (by decide) (fun c_ => ?_) (fun c_ => ?_)
          · refine zr_aload_n (pc := 503) (i := 3) 5 hC dL_law_503 rfl rfl ?_
            refine zr_iconst (pc := 504) (v := (0 : Int32)) hC dL_law_504 ic_0 ?_
            refine zr_lald (pc := 505) hC mem_111 lay_111 dL_law_505 ?_
            refine zr_iload (pc := 506) 0 hC dL_law_506 rfl ?_
            refine zr_i2l (pc := 508) hC dL_law_508 ?_
            refine zr_lcmp (pc := 509) hC dL_law_509 ?_
            refine zr_if_eq (pc := 510) (tgt := 515) hC dL_law_510 (by decide) (fun c_ => ?_) (fun c_ => ?_)
            · refine zr_goto (pc := 515) (tgt := 1863) hC dL_law_515 (by decide) ?_
              refine zr_iinc (pc := 1863) (q := 6) (ls' := [(4, _), (6, _), (5, _), (0, _), (1, _), (2, _), (3, _)]) hC dL_law_1863 rfl (inc_6 _) (nlt hN (Nat.le_of_ble_eq_true rfl)) rfl ?_
              refine zr_goto (pc := 1866) (tgt := 23) hC dL_law_1866 (by decide) ?_
              refine zr_sub (ls' := [(0, _), (1, _), (2, _), (3, _), (4, _)]) [3, 4, 5, 6, 0] rfl ?_
              refine zr_widen (x' := x + 8) (by omega) ?_
              exact ih (v4 + (6 : Int32)) s_16 (x + 8) (by omega)
            · refine zr_iconst (pc := 513) (v := (0 : Int32)) hC dL_law_513 ic_0 ?_
              exact zr_none
          · refine zr_goto (pc := 515) (tgt := 1863) hC dL_law_515 (by decide) ?_
            refine zr_iinc (pc := 1863) (q := 6) (ls' := [(4, _), (6, _), (5, _), (0, _), (1, _), (2, _), (3, _)]) hC dL_law_1863 rfl (inc_6 _) (nlt hN (Nat.le_of_ble_eq_true rfl)) rfl ?_
            refine zr_goto (pc := 1866) (tgt := 23) hC dL_law_1866 (by decide) ?_
            refine zr_sub (ls' := [(0, _), (1, _), (2, _), (3, _), (4, _)]) [3, 4, 5, 6, 0] rfl ?_
            refine zr_widen (x' := x + 8) (by omega) ?_
            exact ih (v4 + (6 : Int32)) s_16 (x + 8) (by omega)
        · refine zr_iconst (pc := 496) (v := (0 : Int32)) hC dL_law_496 ic_0 ?_
          exact zr_none
      refine zr_tcase (pc := 40) (v := (6 : Int32)) (off := 478) (tgt := 518) hC dL_law_40 (by decide) (by decide) (by decide) (by decide) ?_ (fun e6 => ?_)
      · refine zr_aload_n (pc := 518) (i := 1) 1 hC dL_law_518 rfl rfl ?_
        refine zr_aload_n (pc := 519) (i := 0) 0 hC dL_law_519 rfl rfl ?_
        refine zr_iload (pc := 520) 4 hC dL_law_520 rfl ?_
        refine zr_iconst (pc := 522) (v := (1 : Int32)) hC dL_law_522 ic_1 ?_
        refine zr_iadd (pc := 523) hC dL_law_523 ?_
        refine zr_scd (pc := 524) hC hX dL_law_524 ?_
        refine zr_aload_n (pc := 525) (i := 0) 0 hC dL_law_525 rfl rfl ?_
        refine zr_iload (pc := 526) 4 hC dL_law_526 rfl ?_
        refine zr_iconst (pc := 528) (v := (2 : Int32)) hC dL_law_528 ic_2 ?_
        refine zr_iadd (pc := 529) hC dL_law_529 ?_
        refine zr_scd (pc := 530) hC hX dL_law_530 ?_
        refine zr_aload_n (pc := 531) (i := 3) 3 hC dL_law_531 rfl rfl ?_
        refine zr_callW (pc := 532) (xm' := 1) (n := 4) (As := fun ad => [.ref (ad 0), .int (xs (v4 + (1 : Int32)).toNatClampNeg), .int (xs (v4 + (2 : Int32)).toNatClampNeg), .ref (ad 111)]) (st1 := []) hC (by omega) (kL_weather _ hst (xs (v4 + (1 : Int32)).toNatClampNeg) (xs (v4 + (2 : Int32)).toNatClampNeg) _) (Nat.le_of_ble_eq_true rfl) mw_1036 m_0 (Nat.le_of_ble_eq_true rfl) ⟨by decide, by decide, by decide +kernel⟩ m_1034 m_1035 rfl rfl (Nat.le_of_ble_eq_true rfl) dL_law_532 (fun y_17 s_17 => ?_)
        refine zr_istore (pc := 535) (ls' := [(5, _), (0, _), (1, _), (2, _), (3, _), (4, _)]) hC dL_law_535 (nlt hN (Nat.le_of_ble_eq_true rfl)) rfl ?_
        refine zr_aload_n (pc := 537) (i := 2) 3 hC dL_law_537 rfl rfl ?_
        refine zr_aload_n (pc := 538) (i := 0) 1 hC dL_law_538 rfl rfl ?_
        refine zr_iload (pc := 539) 5 hC dL_law_539 rfl ?_
        refine zr_iconst (pc := 541) (v := (1 : Int32)) hC dL_law_541 ic_1 ?_
        refine zr_iadd (pc := 542) hC dL_law_542 ?_
        refine zr_scd (pc := 543) hC hX dL_law_543 ?_
        refine zr_aload_n (pc := 544) (i := 0) 1 hC dL_law_544 rfl rfl ?_
        refine zr_iload (pc := 545) 5 hC dL_law_545 rfl ?_
        refine zr_iconst (pc := 547) (v := (2 : Int32)) hC dL_law_547 ic_2 ?_
        refine zr_iadd (pc := 548) hC dL_law_548 ?_
        refine zr_scd (pc := 549) hC hX dL_law_549 ?_
        refine zr_callV (pc := 550) (As := fun ad => [.int (xs (v4 + (1 : Int32)).toNatClampNeg), .int (xs (v4 + (2 : Int32)).toNatClampNeg)]) (st1 := []) hC (by omega) (kX12_weather _ (xs (v4 + (1 : Int32)).toNatClampNeg) (xs (v4 + (2 : Int32)).toNatClampNeg) _) (Nat.le_of_ble_eq_true rfl) mc_yX12_weather m_1781 m_1782 m_1783 mem_69 lay_69 rfl rfl rfl rfl (Nat.le_of_ble_eq_true rfl) dL_law_550 (fun y_18 s_18 => ?_)
        refine zr_istore (pc := 553) (ls' := [(6, _), (5, _), (0, _), (1, _), (2, _), (3, _), (4, _)]) hC dL_law_553 (nlt hN (Nat.le_of_ble_eq_true rfl)) rfl ?_
        refine zr_aload_n (pc := 555) (i := 2) 4 hC dL_law_555 rfl rfl ?_
        refine zr_callV (pc := 556) (As := fun ad => []) (st1 := []) hC (by omega) (kX12_thrown _  _) (Nat.le_of_ble_eq_true rfl) mc_yX12_thrown m_1594 m_1595 m_1596 mem_69 lay_69 rfl rfl rfl rfl (Nat.le_of_ble_eq_true rfl) dL_law_556 (fun y_19 s_19 => ?_)
        refine zr_iload (pc := 559) 1 hC dL_law_559 rfl ?_
        refine zr_icmp_eq (pc := 561) (tgt := 566) hC dL_law_561 (by decide) (fun c_ => ?_) (fun c_ => ?_)
        · refine zr_iload (pc := 566) 1 hC dL_law_566 rfl ?_
          refine zr_if_ne (pc := 568) (tgt := 583) hC dL_law_568 (by decide) (fun c_ => ?_) (fun c_ => ?_)
          · refine zr_aload_n (pc := 571) (i := 3) 5 hC dL_law_571 rfl rfl ?_
            refine zr_iconst (pc := 572) (v := (0 : Int32)) hC dL_law_572 ic_0 ?_
            refine zr_lald (pc := 573) hC mem_111 lay_111 dL_law_573 ?_
            refine zr_iload (pc := 574) 0 hC dL_law_574 rfl ?_
            refine zr_i2l (pc := 576) hC dL_law_576 ?_
            refine zr_lcmp (pc := 577) hC dL_law_577 ?_
            refine zr_if_eq (pc := 578) (tgt := 583) hC dL_law_578 (by decide) (fun c_ => ?_) (fun c_ => ?_)
            · refine zr_goto (pc := 583) (tgt := 1863) hC dL_law_583 (by decide) ?_
              refine zr_iinc (pc := 1863) (q := 6) (ls' := [(4, _), (6, _), (5, _), (0, _), (1, _), (2, _), (3, _)]) hC dL_law_1863 rfl (inc_6 _) (nlt hN (Nat.le_of_ble_eq_true rfl)) rfl ?_
              refine zr_goto (pc := 1866) (tgt := 23) hC dL_law_1866 (by decide) ?_
              refine zr_sub (ls' := [(0, _), (1, _), (2, _), (3, _), (4, _)]) [3, 4, 5, 6, 0] rfl ?_
              refine zr_widen (x' := x + 8) (by omega) ?_
              exact ih (v4 + (6 : Int32)) s_19 (x + 8) (by omega)
            · refine zr_iconst (pc := 581) (v := (0 : Int32)) hC dL_law_581 ic_0 ?_
              exact zr_none
          · refine zr_goto (pc := 583) (tgt := 1863) hC dL_law_583 (by decide) ?_
            refine zr_iinc (pc := 1863) (q := 6) (ls' := [(4, _), (6, _), (5, _), (0, _), (1, _), (2, _), (3, _)]) hC dL_law_1863 rfl (inc_6 _) (nlt hN (Nat.le_of_ble_eq_true rfl)) rfl ?_
            refine zr_goto (pc := 1866) (tgt := 23) hC dL_law_1866 (by decide) ?_
            refine zr_sub (ls' := [(0, _), (1, _), (2, _), (3, _), (4, _)]) [3, 4, 5, 6, 0] rfl ?_
            refine zr_widen (x' := x + 8) (by omega) ?_
            exact ih (v4 + (6 : Int32)) s_19 (x + 8) (by omega)
        · refine zr_iconst (pc := 564) (v := (0 : Int32)) hC dL_law_564 ic_0 ?_
          exact zr_none
      refine zr_tcase (pc := 40) (v := (7 : Int32)) (off := 546) (tgt := 586) hC dL_law_40 (by decide) (by decide) (by decide) (by decide) ?_ (fun e7 => ?_)
      · refine zr_aload_n (pc := 586) (i := 1) 1 hC dL_law_586 rfl rfl ?_
        refine zr_aload_n (pc := 587) (i := 0) 0 hC dL_law_587 rfl rfl ?_
        refine zr_iload (pc := 588) 4 hC dL_law_588 rfl ?_
        refine zr_iconst (pc := 590) (v := (1 : Int32)) hC dL_law_590 ic_1 ?_
        refine zr_iadd (pc := 591) hC dL_law_591 ?_
        refine zr_scd (pc := 592) hC hX dL_law_592 ?_
        refine zr_aload_n (pc := 593) (i := 0) 0 hC dL_law_593 rfl rfl ?_
        refine zr_iload (pc := 594) 4 hC dL_law_594 rfl ?_
        refine zr_iconst (pc := 596) (v := (2 : Int32)) hC dL_law_596 ic_2 ?_
        refine zr_iadd (pc := 597) hC dL_law_597 ?_
        refine zr_scd (pc := 598) hC hX dL_law_598 ?_
        refine zr_aload_n (pc := 599) (i := 3) 3 hC dL_law_599 rfl rfl ?_
        refine zr_callW (pc := 600) (xm' := 1) (n := 4) (As := fun ad => [.ref (ad 0), .int (xs (v4 + (1 : Int32)).toNatClampNeg), .int (xs (v4 + (2 : Int32)).toNatClampNeg), .ref (ad 111)]) (st1 := []) hC (by omega) (kL_field _ hst (xs (v4 + (1 : Int32)).toNatClampNeg) (xs (v4 + (2 : Int32)).toNatClampNeg) _) (Nat.le_of_ble_eq_true rfl) mw_1062 m_0 (Nat.le_of_ble_eq_true rfl) ⟨by decide, by decide, by decide +kernel⟩ m_1060 m_1061 rfl rfl (Nat.le_of_ble_eq_true rfl) dL_law_600 (fun y_20 s_20 => ?_)
        refine zr_istore (pc := 603) (ls' := [(5, _), (0, _), (1, _), (2, _), (3, _), (4, _)]) hC dL_law_603 (nlt hN (Nat.le_of_ble_eq_true rfl)) rfl ?_
        refine zr_aload_n (pc := 605) (i := 2) 3 hC dL_law_605 rfl rfl ?_
        refine zr_aload_n (pc := 606) (i := 0) 1 hC dL_law_606 rfl rfl ?_
        refine zr_iload (pc := 607) 5 hC dL_law_607 rfl ?_
        refine zr_iconst (pc := 609) (v := (1 : Int32)) hC dL_law_609 ic_1 ?_
        refine zr_iadd (pc := 610) hC dL_law_610 ?_
        refine zr_scd (pc := 611) hC hX dL_law_611 ?_
        refine zr_aload_n (pc := 612) (i := 0) 1 hC dL_law_612 rfl rfl ?_
        refine zr_iload (pc := 613) 5 hC dL_law_613 rfl ?_
        refine zr_iconst (pc := 615) (v := (2 : Int32)) hC dL_law_615 ic_2 ?_
        refine zr_iadd (pc := 616) hC dL_law_616 ?_
        refine zr_scd (pc := 617) hC hX dL_law_617 ?_
        refine zr_callV (pc := 618) (As := fun ad => [.int (xs (v4 + (1 : Int32)).toNatClampNeg), .int (xs (v4 + (2 : Int32)).toNatClampNeg)]) (st1 := []) hC (by omega) (kX12_field _ (xs (v4 + (1 : Int32)).toNatClampNeg) (xs (v4 + (2 : Int32)).toNatClampNeg) _) (Nat.le_of_ble_eq_true rfl) mc_yX12_field m_1799 m_1800 m_1801 mem_69 lay_69 rfl rfl rfl rfl (Nat.le_of_ble_eq_true rfl) dL_law_618 (fun y_21 s_21 => ?_)
        refine zr_istore (pc := 621) (ls' := [(6, _), (5, _), (0, _), (1, _), (2, _), (3, _), (4, _)]) hC dL_law_621 (nlt hN (Nat.le_of_ble_eq_true rfl)) rfl ?_
        refine zr_aload_n (pc := 623) (i := 2) 4 hC dL_law_623 rfl rfl ?_
        refine zr_callV (pc := 624) (As := fun ad => []) (st1 := []) hC (by omega) (kX12_thrown _  _) (Nat.le_of_ble_eq_true rfl) mc_yX12_thrown m_1594 m_1595 m_1596 mem_69 lay_69 rfl rfl rfl rfl (Nat.le_of_ble_eq_true rfl) dL_law_624 (fun y_22 s_22 => ?_)
        refine zr_iload (pc := 627) 1 hC dL_law_627 rfl ?_
        refine zr_icmp_eq (pc := 629) (tgt := 634) hC dL_law_629 (by decide) (fun c_ => ?_) (fun c_ => ?_)
        · refine zr_iload (pc := 634) 1 hC dL_law_634 rfl ?_
          refine zr_if_ne (pc := 636) (tgt := 651) hC dL_law_636 (by decide) (fun c_ => ?_) (fun c_ => ?_)
          · refine zr_aload_n (pc := 639) (i := 3) 5 hC dL_law_639 rfl rfl ?_
            refine zr_iconst (pc := 640) (v := (0 : Int32)) hC dL_law_640 ic_0 ?_
            refine zr_lald (pc := 641) hC mem_111 lay_111 dL_law_641 ?_
            refine zr_iload (pc := 642) 0 hC dL_law_642 rfl ?_
            refine zr_i2l (pc := 644) hC dL_law_644 ?_
            refine zr_lcmp (pc := 645) hC dL_law_645 ?_
            refine zr_if_eq (pc := 646) (tgt := 651) hC dL_law_646 (by decide) (fun c_ => ?_) (fun c_ => ?_)
            · refine zr_goto (pc := 651) (tgt := 1863) hC dL_law_651 (by decide) ?_
              refine zr_iinc (pc := 1863) (q := 6) (ls' := [(4, _), (6, _), (5, _), (0, _), (1, _), (2, _), (3, _)]) hC dL_law_1863 rfl (inc_6 _) (nlt hN (Nat.le_of_ble_eq_true rfl)) rfl ?_
              refine zr_goto (pc := 1866) (tgt := 23) hC dL_law_1866 (by decide) ?_
              refine zr_sub (ls' := [(0, _), (1, _), (2, _), (3, _), (4, _)]) [3, 4, 5, 6, 0] rfl ?_
              refine zr_widen (x' := x + 8) (by omega) ?_
              exact ih (v4 + (6 : Int32)) s_22 (x + 8) (by omega)
            · refine zr_iconst (pc := 649) (v := (0 : Int32)) hC dL_law_649 ic_0 ?_
              exact zr_none
          · refine zr_goto (pc := 651) (tgt := 1863) hC dL_law_651 (by decide) ?_
            refine zr_iinc (pc := 1863) (q := 6) (ls' := [(4, _), (6, _), (5, _), (0, _), (1, _), (2, _), (3, _)]) hC dL_law_1863 rfl (inc_6 _) (nlt hN (Nat.le_of_ble_eq_true rfl)) rfl ?_
            refine zr_goto (pc := 1866) (tgt := 23) hC dL_law_1866 (by decide) ?_
            refine zr_sub (ls' := [(0, _), (1, _), (2, _), (3, _), (4, _)]) [3, 4, 5, 6, 0] rfl ?_
            refine zr_widen (x' := x + 8) (by omega) ?_
            exact ih (v4 + (6 : Int32)) s_22 (x + 8) (by omega)
        · refine zr_iconst (pc := 632) (v := (0 : Int32)) hC dL_law_632 ic_0 ?_
          exact zr_none
      refine zr_tcase (pc := 40) (v := (8 : Int32)) (off := 614) (tgt := 654) hC dL_law_40 (by decide) (by decide) (by decide) (by decide) ?_ (fun e8 => ?_)
      · refine zr_aload_n (pc := 654) (i := 1) 1 hC dL_law_654 rfl rfl ?_
        refine zr_aload_n (pc := 655) (i := 0) 0 hC dL_law_655 rfl rfl ?_
        refine zr_iload (pc := 656) 4 hC dL_law_656 rfl ?_
        refine zr_iconst (pc := 658) (v := (1 : Int32)) hC dL_law_658 ic_1 ?_
        refine zr_iadd (pc := 659) hC dL_law_659 ?_
        refine zr_scd (pc := 660) hC hX dL_law_660 ?_
        refine zr_aload_n (pc := 661) (i := 0) 0 hC dL_law_661 rfl rfl ?_
        refine zr_iload (pc := 662) 4 hC dL_law_662 rfl ?_
        refine zr_iconst (pc := 664) (v := (2 : Int32)) hC dL_law_664 ic_2 ?_
        refine zr_iadd (pc := 665) hC dL_law_665 ?_
        refine zr_scd (pc := 666) hC hX dL_law_666 ?_
        refine zr_aload_n (pc := 667) (i := 3) 3 hC dL_law_667 rfl rfl ?_
        refine zr_callW (pc := 668) (xm' := 3) (n := 4) (As := fun ad => [.ref (ad 0), .int (xs (v4 + (1 : Int32)).toNatClampNeg), .int (xs (v4 + (2 : Int32)).toNatClampNeg), .ref (ad 111)]) (st1 := []) hC (by omega) (kL_front _ hst (xs (v4 + (1 : Int32)).toNatClampNeg) (xs (v4 + (2 : Int32)).toNatClampNeg) _) (Nat.le_of_ble_eq_true rfl) mw_1071 m_0 (Nat.le_of_ble_eq_true rfl) ⟨by decide, by decide, by decide +kernel⟩ m_1069 m_1070 rfl rfl (Nat.le_of_ble_eq_true rfl) dL_law_668 (fun y_23 s_23 => ?_)
        refine zr_istore (pc := 671) (ls' := [(5, _), (0, _), (1, _), (2, _), (3, _), (4, _)]) hC dL_law_671 (nlt hN (Nat.le_of_ble_eq_true rfl)) rfl ?_
        refine zr_aload_n (pc := 673) (i := 2) 3 hC dL_law_673 rfl rfl ?_
        refine zr_aload_n (pc := 674) (i := 0) 1 hC dL_law_674 rfl rfl ?_
        refine zr_iload (pc := 675) 5 hC dL_law_675 rfl ?_
        refine zr_iconst (pc := 677) (v := (1 : Int32)) hC dL_law_677 ic_1 ?_
        refine zr_iadd (pc := 678) hC dL_law_678 ?_
        refine zr_scd (pc := 679) hC hX dL_law_679 ?_
        refine zr_aload_n (pc := 680) (i := 0) 1 hC dL_law_680 rfl rfl ?_
        refine zr_iload (pc := 681) 5 hC dL_law_681 rfl ?_
        refine zr_iconst (pc := 683) (v := (2 : Int32)) hC dL_law_683 ic_2 ?_
        refine zr_iadd (pc := 684) hC dL_law_684 ?_
        refine zr_scd (pc := 685) hC hX dL_law_685 ?_
        refine zr_callV (pc := 686) (As := fun ad => [.int (xs (v4 + (1 : Int32)).toNatClampNeg), .int (xs (v4 + (2 : Int32)).toNatClampNeg)]) (st1 := []) hC (by omega) (kX12_front _ (xs (v4 + (1 : Int32)).toNatClampNeg) (xs (v4 + (2 : Int32)).toNatClampNeg) _) (Nat.le_of_ble_eq_true rfl) mc_yX12_front m_1803 m_1804 m_1805 mem_69 lay_69 rfl rfl rfl rfl (Nat.le_of_ble_eq_true rfl) dL_law_686 (fun y_24 s_24 => ?_)
        refine zr_istore (pc := 689) (ls' := [(6, _), (5, _), (0, _), (1, _), (2, _), (3, _), (4, _)]) hC dL_law_689 (nlt hN (Nat.le_of_ble_eq_true rfl)) rfl ?_
        refine zr_aload_n (pc := 691) (i := 2) 4 hC dL_law_691 rfl rfl ?_
        refine zr_callV (pc := 692) (As := fun ad => []) (st1 := []) hC (by omega) (kX12_thrown _  _) (Nat.le_of_ble_eq_true rfl) mc_yX12_thrown m_1594 m_1595 m_1596 mem_69 lay_69 rfl rfl rfl rfl (Nat.le_of_ble_eq_true rfl) dL_law_692 (fun y_25 s_25 => ?_)
        refine zr_iload (pc := 695) 1 hC dL_law_695 rfl ?_
        refine zr_icmp_eq (pc := 697) (tgt := 702) hC dL_law_697 (by decide) (fun c_ => ?_) (fun c_ => ?_)
        · refine zr_iload (pc := 702) 1 hC dL_law_702 rfl ?_
          refine zr_if_ne (pc := 704) (tgt := 719) hC dL_law_704 (by decide) (fun c_ => ?_) (fun c_ => ?_)
          · refine zr_aload_n (pc := 707) (i := 3) 5 hC dL_law_707 rfl rfl ?_
            refine zr_iconst (pc := 708) (v := (0 : Int32)) hC dL_law_708 ic_0 ?_
            refine zr_lald (pc := 709) hC mem_111 lay_111 dL_law_709 ?_
            refine zr_iload (pc := 710) 0 hC dL_law_710 rfl ?_
            refine zr_i2l (pc := 712) hC dL_law_712 ?_
            refine zr_lcmp (pc := 713) hC dL_law_713 ?_
            refine zr_if_eq (pc := 714) (tgt := 719) hC dL_law_714 (by decide) (fun c_ => ?_) (fun c_ => ?_)
            · refine zr_goto (pc := 719) (tgt := 1863) hC dL_law_719 (by decide) ?_
              refine zr_iinc (pc := 1863) (q := 6) (ls' := [(4, _), (6, _), (5, _), (0, _), (1, _), (2, _), (3, _)]) hC dL_law_1863 rfl (inc_6 _) (nlt hN (Nat.le_of_ble_eq_true rfl)) rfl ?_
              refine zr_goto (pc := 1866) (tgt := 23) hC dL_law_1866 (by decide) ?_
              refine zr_sub (ls' := [(0, _), (1, _), (2, _), (3, _), (4, _)]) [3, 4, 5, 6, 0] rfl ?_
              refine zr_widen (x' := x + 8) (by omega) ?_
              exact ih (v4 + (6 : Int32)) s_25 (x + 8) (by omega)
            · refine zr_iconst (pc := 717) (v := (0 : Int32)) hC dL_law_717 ic_0 ?_
              exact zr_none
          · refine zr_goto (pc := 719) (tgt := 1863) hC dL_law_719 (by decide) ?_
            refine zr_iinc (pc := 1863) (q := 6) (ls' := [(4, _), (6, _), (5, _), (0, _), (1, _), (2, _), (3, _)]) hC dL_law_1863 rfl (inc_6 _) (nlt hN (Nat.le_of_ble_eq_true rfl)) rfl ?_
            refine zr_goto (pc := 1866) (tgt := 23) hC dL_law_1866 (by decide) ?_
            refine zr_sub (ls' := [(0, _), (1, _), (2, _), (3, _), (4, _)]) [3, 4, 5, 6, 0] rfl ?_
            refine zr_widen (x' := x + 8) (by omega) ?_
            exact ih (v4 + (6 : Int32)) s_25 (x + 8) (by omega)
        · refine zr_iconst (pc := 700) (v := (0 : Int32)) hC dL_law_700 ic_0 ?_
          exact zr_none
      refine zr_tcase (pc := 40) (v := (9 : Int32)) (off := 682) (tgt := 722) hC dL_law_40 (by decide) (by decide) (by decide) (by decide) ?_ (fun e9 => ?_)
      · refine zr_aload_n (pc := 722) (i := 1) 1 hC dL_law_722 rfl rfl ?_
        refine zr_aload_n (pc := 723) (i := 0) 0 hC dL_law_723 rfl rfl ?_
        refine zr_iload (pc := 724) 4 hC dL_law_724 rfl ?_
        refine zr_iconst (pc := 726) (v := (1 : Int32)) hC dL_law_726 ic_1 ?_
        refine zr_iadd (pc := 727) hC dL_law_727 ?_
        refine zr_scd (pc := 728) hC hX dL_law_728 ?_
        refine zr_aload_n (pc := 729) (i := 0) 0 hC dL_law_729 rfl rfl ?_
        refine zr_iload (pc := 730) 4 hC dL_law_730 rfl ?_
        refine zr_iconst (pc := 732) (v := (2 : Int32)) hC dL_law_732 ic_2 ?_
        refine zr_iadd (pc := 733) hC dL_law_733 ?_
        refine zr_scd (pc := 734) hC hX dL_law_734 ?_
        refine zr_aload_n (pc := 735) (i := 3) 3 hC dL_law_735 rfl rfl ?_
        refine zr_callW (pc := 736) (xm' := 2) (n := 4) (As := fun ad => [.ref (ad 0), .int (xs (v4 + (1 : Int32)).toNatClampNeg), .int (xs (v4 + (2 : Int32)).toNatClampNeg), .ref (ad 111)]) (st1 := []) hC (by omega) (kL_kin _ hst (xs (v4 + (1 : Int32)).toNatClampNeg) (xs (v4 + (2 : Int32)).toNatClampNeg) _) (Nat.le_of_ble_eq_true rfl) mw_1083 m_0 (Nat.le_of_ble_eq_true rfl) ⟨by decide, by decide, by decide +kernel⟩ m_1081 m_1082 rfl rfl (Nat.le_of_ble_eq_true rfl) dL_law_736 (fun y_26 s_26 => ?_)
        refine zr_istore (pc := 739) (ls' := [(5, _), (0, _), (1, _), (2, _), (3, _), (4, _)]) hC dL_law_739 (nlt hN (Nat.le_of_ble_eq_true rfl)) rfl ?_
        refine zr_aload_n (pc := 741) (i := 2) 3 hC dL_law_741 rfl rfl ?_
        refine zr_aload_n (pc := 742) (i := 0) 1 hC dL_law_742 rfl rfl ?_
        refine zr_iload (pc := 743) 5 hC dL_law_743 rfl ?_
        refine zr_iconst (pc := 745) (v := (1 : Int32)) hC dL_law_745 ic_1 ?_
        refine zr_iadd (pc := 746) hC dL_law_746 ?_
        refine zr_scd (pc := 747) hC hX dL_law_747 ?_
        refine zr_aload_n (pc := 748) (i := 0) 1 hC dL_law_748 rfl rfl ?_
        refine zr_iload (pc := 749) 5 hC dL_law_749 rfl ?_
        refine zr_iconst (pc := 751) (v := (2 : Int32)) hC dL_law_751 ic_2 ?_
        refine zr_iadd (pc := 752) hC dL_law_752 ?_
        refine zr_scd (pc := 753) hC hX dL_law_753 ?_
        refine zr_callV (pc := 754) (As := fun ad => [.int (xs (v4 + (1 : Int32)).toNatClampNeg), .int (xs (v4 + (2 : Int32)).toNatClampNeg)]) (st1 := []) hC (by omega) (kX12_kin _ (xs (v4 + (1 : Int32)).toNatClampNeg) (xs (v4 + (2 : Int32)).toNatClampNeg) _) (Nat.le_of_ble_eq_true rfl) mc_yX12_kin m_1816 m_1817 m_1818 mem_69 lay_69 rfl rfl rfl rfl (Nat.le_of_ble_eq_true rfl) dL_law_754 (fun y_27 s_27 => ?_)
        refine zr_istore (pc := 757) (ls' := [(6, _), (5, _), (0, _), (1, _), (2, _), (3, _), (4, _)]) hC dL_law_757 (nlt hN (Nat.le_of_ble_eq_true rfl)) rfl ?_
        refine zr_aload_n (pc := 759) (i := 2) 4 hC dL_law_759 rfl rfl ?_
        refine zr_callV (pc := 760) (As := fun ad => []) (st1 := []) hC (by omega) (kX12_thrown _  _) (Nat.le_of_ble_eq_true rfl) mc_yX12_thrown m_1594 m_1595 m_1596 mem_69 lay_69 rfl rfl rfl rfl (Nat.le_of_ble_eq_true rfl) dL_law_760 (fun y_28 s_28 => ?_)
        refine zr_iload (pc := 763) 1 hC dL_law_763 rfl ?_
        refine zr_icmp_eq (pc := 765) (tgt := 770) hC dL_law_765 (by decide) (fun c_ => ?_) (fun c_ => ?_)
        · refine zr_iload (pc := 770) 1 hC dL_law_770 rfl ?_
          refine zr_if_ne (pc := 772) (tgt := 787) hC dL_law_772 (by decide) (fun c_ => ?_) (fun c_ => ?_)
          · refine zr_aload_n (pc := 775) (i := 3) 5 hC dL_law_775 rfl rfl ?_
            refine zr_iconst (pc := 776) (v := (0 : Int32)) hC dL_law_776 ic_0 ?_
            refine zr_lald (pc := 777) hC mem_111 lay_111 dL_law_777 ?_
            refine zr_iload (pc := 778) 0 hC dL_law_778 rfl ?_
            refine zr_i2l (pc := 780) hC dL_law_780 ?_
            refine zr_lcmp (pc := 781) hC dL_law_781 ?_
            refine zr_if_eq (pc := 782) (tgt := 787) hC dL_law_782 (by decide) (fun c_ => ?_) (fun c_ => ?_)
            · refine zr_goto (pc := 787) (tgt := 1863) hC dL_law_787 (by decide) ?_
              refine zr_iinc (pc := 1863) (q := 6) (ls' := [(4, _), (6, _), (5, _), (0, _), (1, _), (2, _), (3, _)]) hC dL_law_1863 rfl (inc_6 _) (nlt hN (Nat.le_of_ble_eq_true rfl)) rfl ?_
              refine zr_goto (pc := 1866) (tgt := 23) hC dL_law_1866 (by decide) ?_
              refine zr_sub (ls' := [(0, _), (1, _), (2, _), (3, _), (4, _)]) [3, 4, 5, 6, 0] rfl ?_
              refine zr_widen (x' := x + 8) (by omega) ?_
              exact ih (v4 + (6 : Int32)) s_28 (x + 8) (by omega)
            · refine zr_iconst (pc := 785) (v := (0 : Int32)) hC dL_law_785 ic_0 ?_
              exact zr_none
          · refine zr_goto (pc := 787) (tgt := 1863) hC dL_law_787 (by decide) ?_
            refine zr_iinc (pc := 1863) (q := 6) (ls' := [(4, _), (6, _), (5, _), (0, _), (1, _), (2, _), (3, _)]) hC dL_law_1863 rfl (inc_6 _) (nlt hN (Nat.le_of_ble_eq_true rfl)) rfl ?_
            refine zr_goto (pc := 1866) (tgt := 23) hC dL_law_1866 (by decide) ?_
            refine zr_sub (ls' := [(0, _), (1, _), (2, _), (3, _), (4, _)]) [3, 4, 5, 6, 0] rfl ?_
            refine zr_widen (x' := x + 8) (by omega) ?_
            exact ih (v4 + (6 : Int32)) s_28 (x + 8) (by omega)
        · refine zr_iconst (pc := 768) (v := (0 : Int32)) hC dL_law_768 ic_0 ?_
          exact zr_none
      refine zr_tcase (pc := 40) (v := (10 : Int32)) (off := 750) (tgt := 790) hC dL_law_40 (by decide) (by decide) (by decide) (by decide) ?_ (fun e10 => ?_)
      · refine zr_aload_n (pc := 790) (i := 1) 1 hC dL_law_790 rfl rfl ?_
        refine zr_aload_n (pc := 791) (i := 0) 0 hC dL_law_791 rfl rfl ?_
        refine zr_iload (pc := 792) 4 hC dL_law_792 rfl ?_
        refine zr_iconst (pc := 794) (v := (1 : Int32)) hC dL_law_794 ic_1 ?_
        refine zr_iadd (pc := 795) hC dL_law_795 ?_
        refine zr_scd (pc := 796) hC hX dL_law_796 ?_
        refine zr_aload_n (pc := 797) (i := 0) 0 hC dL_law_797 rfl rfl ?_
        refine zr_iload (pc := 798) 4 hC dL_law_798 rfl ?_
        refine zr_iconst (pc := 800) (v := (2 : Int32)) hC dL_law_800 ic_2 ?_
        refine zr_iadd (pc := 801) hC dL_law_801 ?_
        refine zr_scd (pc := 802) hC hX dL_law_802 ?_
        refine zr_aload_n (pc := 803) (i := 3) 3 hC dL_law_803 rfl rfl ?_
        refine zr_callW (pc := 804) (xm' := 1) (n := 4) (As := fun ad => [.ref (ad 0), .int (xs (v4 + (1 : Int32)).toNatClampNeg), .int (xs (v4 + (2 : Int32)).toNatClampNeg), .ref (ad 111)]) (st1 := []) hC (by omega) (kL_go _ hst (xs (v4 + (1 : Int32)).toNatClampNeg) (xs (v4 + (2 : Int32)).toNatClampNeg) _) (Nat.le_of_ble_eq_true rfl) mw_1102 m_0 (Nat.le_of_ble_eq_true rfl) ⟨by decide, by decide, by decide +kernel⟩ m_1100 m_1101 rfl rfl (Nat.le_of_ble_eq_true rfl) dL_law_804 (fun y_29 s_29 => ?_)
        refine zr_istore (pc := 807) (ls' := [(5, _), (0, _), (1, _), (2, _), (3, _), (4, _)]) hC dL_law_807 (nlt hN (Nat.le_of_ble_eq_true rfl)) rfl ?_
        refine zr_aload_n (pc := 809) (i := 2) 3 hC dL_law_809 rfl rfl ?_
        refine zr_aload_n (pc := 810) (i := 0) 1 hC dL_law_810 rfl rfl ?_
        refine zr_iload (pc := 811) 5 hC dL_law_811 rfl ?_
        refine zr_iconst (pc := 813) (v := (1 : Int32)) hC dL_law_813 ic_1 ?_
        refine zr_iadd (pc := 814) hC dL_law_814 ?_
        refine zr_scd (pc := 815) hC hX dL_law_815 ?_
        refine zr_aload_n (pc := 816) (i := 0) 1 hC dL_law_816 rfl rfl ?_
        refine zr_iload (pc := 817) 5 hC dL_law_817 rfl ?_
        refine zr_iconst (pc := 819) (v := (2 : Int32)) hC dL_law_819 ic_2 ?_
        refine zr_iadd (pc := 820) hC dL_law_820 ?_
        refine zr_scd (pc := 821) hC hX dL_law_821 ?_
        refine zr_callV (pc := 822) (As := fun ad => [.int (xs (v4 + (1 : Int32)).toNatClampNeg), .int (xs (v4 + (2 : Int32)).toNatClampNeg)]) (st1 := []) hC (by omega) (kX12_go _ (xs (v4 + (1 : Int32)).toNatClampNeg) (xs (v4 + (2 : Int32)).toNatClampNeg) _) (Nat.le_of_ble_eq_true rfl) mc_yX12_go m_1824 m_1825 m_1826 mem_69 lay_69 rfl rfl rfl rfl (Nat.le_of_ble_eq_true rfl) dL_law_822 (fun y_30 s_30 => ?_)
        refine zr_istore (pc := 825) (ls' := [(6, _), (5, _), (0, _), (1, _), (2, _), (3, _), (4, _)]) hC dL_law_825 (nlt hN (Nat.le_of_ble_eq_true rfl)) rfl ?_
        refine zr_aload_n (pc := 827) (i := 2) 4 hC dL_law_827 rfl rfl ?_
        refine zr_callV (pc := 828) (As := fun ad => []) (st1 := []) hC (by omega) (kX12_thrown _  _) (Nat.le_of_ble_eq_true rfl) mc_yX12_thrown m_1594 m_1595 m_1596 mem_69 lay_69 rfl rfl rfl rfl (Nat.le_of_ble_eq_true rfl) dL_law_828 (fun y_31 s_31 => ?_)
        refine zr_iload (pc := 831) 1 hC dL_law_831 rfl ?_
        refine zr_icmp_eq (pc := 833) (tgt := 838) hC dL_law_833 (by decide) (fun c_ => ?_) (fun c_ => ?_)
        · refine zr_iload (pc := 838) 1 hC dL_law_838 rfl ?_
          refine zr_if_ne (pc := 840) (tgt := 855) hC dL_law_840 (by decide) (fun c_ => ?_) (fun c_ => ?_)
          · refine zr_aload_n (pc := 843) (i := 3) 5 hC dL_law_843 rfl rfl ?_
            refine zr_iconst (pc := 844) (v := (0 : Int32)) hC dL_law_844 ic_0 ?_
            refine zr_lald (pc := 845) hC mem_111 lay_111 dL_law_845 ?_
            refine zr_iload (pc := 846) 0 hC dL_law_846 rfl ?_
            refine zr_i2l (pc := 848) hC dL_law_848 ?_
            refine zr_lcmp (pc := 849) hC dL_law_849 ?_
            refine zr_if_eq (pc := 850) (tgt := 855) hC dL_law_850 (by decide) (fun c_ => ?_) (fun c_ => ?_)
            · refine zr_goto (pc := 855) (tgt := 1863) hC dL_law_855 (by decide) ?_
              refine zr_iinc (pc := 1863) (q := 6) (ls' := [(4, _), (6, _), (5, _), (0, _), (1, _), (2, _), (3, _)]) hC dL_law_1863 rfl (inc_6 _) (nlt hN (Nat.le_of_ble_eq_true rfl)) rfl ?_
              refine zr_goto (pc := 1866) (tgt := 23) hC dL_law_1866 (by decide) ?_
              refine zr_sub (ls' := [(0, _), (1, _), (2, _), (3, _), (4, _)]) [3, 4, 5, 6, 0] rfl ?_
              refine zr_widen (x' := x + 8) (by omega) ?_
              exact ih (v4 + (6 : Int32)) s_31 (x + 8) (by omega)
            · refine zr_iconst (pc := 853) (v := (0 : Int32)) hC dL_law_853 ic_0 ?_
              exact zr_none
          · refine zr_goto (pc := 855) (tgt := 1863) hC dL_law_855 (by decide) ?_
            refine zr_iinc (pc := 1863) (q := 6) (ls' := [(4, _), (6, _), (5, _), (0, _), (1, _), (2, _), (3, _)]) hC dL_law_1863 rfl (inc_6 _) (nlt hN (Nat.le_of_ble_eq_true rfl)) rfl ?_
            refine zr_goto (pc := 1866) (tgt := 23) hC dL_law_1866 (by decide) ?_
            refine zr_sub (ls' := [(0, _), (1, _), (2, _), (3, _), (4, _)]) [3, 4, 5, 6, 0] rfl ?_
            refine zr_widen (x' := x + 8) (by omega) ?_
            exact ih (v4 + (6 : Int32)) s_31 (x + 8) (by omega)
        · refine zr_iconst (pc := 836) (v := (0 : Int32)) hC dL_law_836 ic_0 ?_
          exact zr_none
      refine zr_tcase (pc := 40) (v := (11 : Int32)) (off := 818) (tgt := 858) hC dL_law_40 (by decide) (by decide) (by decide) (by decide) ?_ (fun e11 => ?_)
      · refine zr_aload_n (pc := 858) (i := 1) 1 hC dL_law_858 rfl rfl ?_
        refine zr_aload_n (pc := 859) (i := 0) 0 hC dL_law_859 rfl rfl ?_
        refine zr_iload (pc := 860) 4 hC dL_law_860 rfl ?_
        refine zr_iconst (pc := 862) (v := (1 : Int32)) hC dL_law_862 ic_1 ?_
        refine zr_iadd (pc := 863) hC dL_law_863 ?_
        refine zr_scd (pc := 864) hC hX dL_law_864 ?_
        refine zr_aload_n (pc := 865) (i := 0) 0 hC dL_law_865 rfl rfl ?_
        refine zr_iload (pc := 866) 4 hC dL_law_866 rfl ?_
        refine zr_iconst (pc := 868) (v := (2 : Int32)) hC dL_law_868 ic_2 ?_
        refine zr_iadd (pc := 869) hC dL_law_869 ?_
        refine zr_scd (pc := 870) hC hX dL_law_870 ?_
        refine zr_aload_n (pc := 871) (i := 3) 3 hC dL_law_871 rfl rfl ?_
        refine zr_callW (pc := 872) (xm' := 2) (n := 4) (As := fun ad => [.ref (ad 0), .int (xs (v4 + (1 : Int32)).toNatClampNeg), .int (xs (v4 + (2 : Int32)).toNatClampNeg), .ref (ad 111)]) (st1 := []) hC (by omega) (kL_wed _ hst (xs (v4 + (1 : Int32)).toNatClampNeg) (xs (v4 + (2 : Int32)).toNatClampNeg) _) (Nat.le_of_ble_eq_true rfl) mw_1110 m_0 (Nat.le_of_ble_eq_true rfl) ⟨by decide, by decide, by decide +kernel⟩ m_1108 m_1109 rfl rfl (Nat.le_of_ble_eq_true rfl) dL_law_872 (fun y_32 s_32 => ?_)
        refine zr_istore (pc := 875) (ls' := [(5, _), (0, _), (1, _), (2, _), (3, _), (4, _)]) hC dL_law_875 (nlt hN (Nat.le_of_ble_eq_true rfl)) rfl ?_
        refine zr_aload_n (pc := 877) (i := 2) 3 hC dL_law_877 rfl rfl ?_
        refine zr_aload_n (pc := 878) (i := 0) 1 hC dL_law_878 rfl rfl ?_
        refine zr_iload (pc := 879) 5 hC dL_law_879 rfl ?_
        refine zr_iconst (pc := 881) (v := (1 : Int32)) hC dL_law_881 ic_1 ?_
        refine zr_iadd (pc := 882) hC dL_law_882 ?_
        refine zr_scd (pc := 883) hC hX dL_law_883 ?_
        refine zr_aload_n (pc := 884) (i := 0) 1 hC dL_law_884 rfl rfl ?_
        refine zr_iload (pc := 885) 5 hC dL_law_885 rfl ?_
        refine zr_iconst (pc := 887) (v := (2 : Int32)) hC dL_law_887 ic_2 ?_
        refine zr_iadd (pc := 888) hC dL_law_888 ?_
        refine zr_scd (pc := 889) hC hX dL_law_889 ?_
        refine zr_callV (pc := 890) (As := fun ad => [.int (xs (v4 + (1 : Int32)).toNatClampNeg), .int (xs (v4 + (2 : Int32)).toNatClampNeg)]) (st1 := []) hC (by omega) (kX12_wed _ (xs (v4 + (1 : Int32)).toNatClampNeg) (xs (v4 + (2 : Int32)).toNatClampNeg) _) (Nat.le_of_ble_eq_true rfl) mc_yX12_wed m_1840 m_1841 m_1842 mem_69 lay_69 rfl rfl rfl rfl (Nat.le_of_ble_eq_true rfl) dL_law_890 (fun y_33 s_33 => ?_)
        refine zr_istore (pc := 893) (ls' := [(6, _), (5, _), (0, _), (1, _), (2, _), (3, _), (4, _)]) hC dL_law_893 (nlt hN (Nat.le_of_ble_eq_true rfl)) rfl ?_
        refine zr_aload_n (pc := 895) (i := 2) 4 hC dL_law_895 rfl rfl ?_
        refine zr_callV (pc := 896) (As := fun ad => []) (st1 := []) hC (by omega) (kX12_thrown _  _) (Nat.le_of_ble_eq_true rfl) mc_yX12_thrown m_1594 m_1595 m_1596 mem_69 lay_69 rfl rfl rfl rfl (Nat.le_of_ble_eq_true rfl) dL_law_896 (fun y_34 s_34 => ?_)
        refine zr_iload (pc := 899) 1 hC dL_law_899 rfl ?_
        refine zr_icmp_eq (pc := 901) (tgt := 906) hC dL_law_901 (by decide) (fun c_ => ?_) (fun c_ => ?_)
        · refine zr_iload (pc := 906) 1 hC dL_law_906 rfl ?_
          refine zr_if_ne (pc := 908) (tgt := 930) hC dL_law_908 (by decide) (fun c_ => ?_) (fun c_ => ?_)
          · refine zr_aload_n (pc := 911) (i := 3) 5 hC dL_law_911 rfl rfl ?_
            refine zr_iconst (pc := 912) (v := (0 : Int32)) hC dL_law_912 ic_0 ?_
            refine zr_lald (pc := 913) hC mem_111 lay_111 dL_law_913 ?_
            refine zr_iload (pc := 914) 0 hC dL_law_914 rfl ?_
            refine zr_if_eq (pc := 916) (tgt := 923) hC dL_law_916 (by decide) (fun c_ => ?_) (fun c_ => ?_)
            · refine zr_lconst (pc := 923) (v := (0 : Int64)) hC dL_law_923 rfl ?_
              refine zr_lcmp (pc := 924) hC dL_law_924 ?_
              refine zr_if_eq (pc := 925) (tgt := 930) hC dL_law_925 (by decide) (fun c_ => ?_) (fun c_ => ?_)
              · refine zr_goto (pc := 930) (tgt := 1863) hC dL_law_930 (by decide) ?_
                refine zr_iinc (pc := 1863) (q := 6) (ls' := [(4, _), (6, _), (5, _), (0, _), (1, _), (2, _), (3, _)]) hC dL_law_1863 rfl (inc_6 _) (nlt hN (Nat.le_of_ble_eq_true rfl)) rfl ?_
                refine zr_goto (pc := 1866) (tgt := 23) hC dL_law_1866 (by decide) ?_
                refine zr_sub (ls' := [(0, _), (1, _), (2, _), (3, _), (4, _)]) [3, 4, 5, 6, 0] rfl ?_
                refine zr_widen (x' := x + 8) (by omega) ?_
                exact ih (v4 + (6 : Int32)) s_34 (x + 8) (by omega)
              · refine zr_iconst (pc := 928) (v := (0 : Int32)) hC dL_law_928 ic_0 ?_
                exact zr_none
            · refine zr_lconst (pc := 919) (v := (1 : Int64)) hC dL_law_919 rfl ?_
              refine zr_goto (pc := 920) (tgt := 924) hC dL_law_920 (by decide) ?_
              refine zr_lcmp (pc := 924) hC dL_law_924 ?_
              refine zr_if_eq (pc := 925) (tgt := 930) hC dL_law_925 (by decide) (fun c_ => ?_) (fun c_ => ?_)
              · refine zr_goto (pc := 930) (tgt := 1863) hC dL_law_930 (by decide) ?_
                refine zr_iinc (pc := 1863) (q := 6) (ls' := [(4, _), (6, _), (5, _), (0, _), (1, _), (2, _), (3, _)]) hC dL_law_1863 rfl (inc_6 _) (nlt hN (Nat.le_of_ble_eq_true rfl)) rfl ?_
                refine zr_goto (pc := 1866) (tgt := 23) hC dL_law_1866 (by decide) ?_
                refine zr_sub (ls' := [(0, _), (1, _), (2, _), (3, _), (4, _)]) [3, 4, 5, 6, 0] rfl ?_
                refine zr_widen (x' := x + 8) (by omega) ?_
                exact ih (v4 + (6 : Int32)) s_34 (x + 8) (by omega)
              · refine zr_iconst (pc := 928) (v := (0 : Int32)) hC dL_law_928 ic_0 ?_
                exact zr_none
          · refine zr_goto (pc := 930) (tgt := 1863) hC dL_law_930 (by decide) ?_
            refine zr_iinc (pc := 1863) (q := 6) (ls' := [(4, _), (6, _), (5, _), (0, _), (1, _), (2, _), (3, _)]) hC dL_law_1863 rfl (inc_6 _) (nlt hN (Nat.le_of_ble_eq_true rfl)) rfl ?_
            refine zr_goto (pc := 1866) (tgt := 23) hC dL_law_1866 (by decide) ?_
            refine zr_sub (ls' := [(0, _), (1, _), (2, _), (3, _), (4, _)]) [3, 4, 5, 6, 0] rfl ?_
            refine zr_widen (x' := x + 8) (by omega) ?_
            exact ih (v4 + (6 : Int32)) s_34 (x + 8) (by omega)
        · refine zr_iconst (pc := 904) (v := (0 : Int32)) hC dL_law_904 ic_0 ?_
          exact zr_none
      refine zr_tcase (pc := 40) (v := (12 : Int32)) (off := 893) (tgt := 933) hC dL_law_40 (by decide) (by decide) (by decide) (by decide) ?_ (fun e12 => ?_)
      · refine zr_aload_n (pc := 933) (i := 1) 1 hC dL_law_933 rfl rfl ?_
        refine zr_aload_n (pc := 934) (i := 0) 0 hC dL_law_934 rfl rfl ?_
        refine zr_iload (pc := 935) 4 hC dL_law_935 rfl ?_
        refine zr_iconst (pc := 937) (v := (1 : Int32)) hC dL_law_937 ic_1 ?_
        refine zr_iadd (pc := 938) hC dL_law_938 ?_
        refine zr_scd (pc := 939) hC hX dL_law_939 ?_
        refine zr_aload_n (pc := 940) (i := 3) 3 hC dL_law_940 rfl rfl ?_
        refine zr_callW (pc := 941) (xm' := 1) (n := 3) (As := fun ad => [.ref (ad 0), .int (xs (v4 + (1 : Int32)).toNatClampNeg), .ref (ad 111)]) (st1 := []) hC (by omega) (kL_die _ hst (xs (v4 + (1 : Int32)).toNatClampNeg) _) (Nat.le_of_ble_eq_true rfl) mw_1127 m_0 (Nat.le_of_ble_eq_true rfl) ⟨by decide, by decide, by decide +kernel⟩ m_1125 m_1126 rfl rfl (Nat.le_of_ble_eq_true rfl) dL_law_941 (fun y_35 s_35 => ?_)
        refine zr_istore (pc := 944) (ls' := [(5, _), (0, _), (1, _), (2, _), (3, _), (4, _)]) hC dL_law_944 (nlt hN (Nat.le_of_ble_eq_true rfl)) rfl ?_
        refine zr_aload_n (pc := 946) (i := 2) 3 hC dL_law_946 rfl rfl ?_
        refine zr_aload_n (pc := 947) (i := 0) 1 hC dL_law_947 rfl rfl ?_
        refine zr_iload (pc := 948) 5 hC dL_law_948 rfl ?_
        refine zr_iconst (pc := 950) (v := (1 : Int32)) hC dL_law_950 ic_1 ?_
        refine zr_iadd (pc := 951) hC dL_law_951 ?_
        refine zr_scd (pc := 952) hC hX dL_law_952 ?_
        refine zr_callV (pc := 953) (As := fun ad => [.int (xs (v4 + (1 : Int32)).toNatClampNeg)]) (st1 := []) hC (by omega) (kX12_die _ (xs (v4 + (1 : Int32)).toNatClampNeg) _) (Nat.le_of_ble_eq_true rfl) mc_yX12_die m_1852 m_1853 m_1854 mem_69 lay_69 rfl rfl rfl rfl (Nat.le_of_ble_eq_true rfl) dL_law_953 (fun y_36 s_36 => ?_)
        refine zr_istore (pc := 956) (ls' := [(6, _), (5, _), (0, _), (1, _), (2, _), (3, _), (4, _)]) hC dL_law_956 (nlt hN (Nat.le_of_ble_eq_true rfl)) rfl ?_
        refine zr_aload_n (pc := 958) (i := 2) 4 hC dL_law_958 rfl rfl ?_
        refine zr_callV (pc := 959) (As := fun ad => []) (st1 := []) hC (by omega) (kX12_thrown _  _) (Nat.le_of_ble_eq_true rfl) mc_yX12_thrown m_1594 m_1595 m_1596 mem_69 lay_69 rfl rfl rfl rfl (Nat.le_of_ble_eq_true rfl) dL_law_959 (fun y_37 s_37 => ?_)
        refine zr_iload (pc := 962) 1 hC dL_law_962 rfl ?_
        refine zr_icmp_eq (pc := 964) (tgt := 969) hC dL_law_964 (by decide) (fun c_ => ?_) (fun c_ => ?_)
        · refine zr_iload (pc := 969) 1 hC dL_law_969 rfl ?_
          refine zr_if_ne (pc := 971) (tgt := 986) hC dL_law_971 (by decide) (fun c_ => ?_) (fun c_ => ?_)
          · refine zr_aload_n (pc := 974) (i := 3) 5 hC dL_law_974 rfl rfl ?_
            refine zr_iconst (pc := 975) (v := (0 : Int32)) hC dL_law_975 ic_0 ?_
            refine zr_lald (pc := 976) hC mem_111 lay_111 dL_law_976 ?_
            refine zr_iload (pc := 977) 0 hC dL_law_977 rfl ?_
            refine zr_i2l (pc := 979) hC dL_law_979 ?_
            refine zr_lcmp (pc := 980) hC dL_law_980 ?_
            refine zr_if_eq (pc := 981) (tgt := 986) hC dL_law_981 (by decide) (fun c_ => ?_) (fun c_ => ?_)
            · refine zr_goto (pc := 986) (tgt := 1863) hC dL_law_986 (by decide) ?_
              refine zr_iinc (pc := 1863) (q := 6) (ls' := [(4, _), (6, _), (5, _), (0, _), (1, _), (2, _), (3, _)]) hC dL_law_1863 rfl (inc_6 _) (nlt hN (Nat.le_of_ble_eq_true rfl)) rfl ?_
              refine zr_goto (pc := 1866) (tgt := 23) hC dL_law_1866 (by decide) ?_
              refine zr_sub (ls' := [(0, _), (1, _), (2, _), (3, _), (4, _)]) [3, 4, 5, 6, 0] rfl ?_
              refine zr_widen (x' := x + 8) (by omega) ?_
              exact ih (v4 + (6 : Int32)) s_37 (x + 8) (by omega)
            · refine zr_iconst (pc := 984) (v := (0 : Int32)) hC dL_law_984 ic_0 ?_
              exact zr_none
          · refine zr_goto (pc := 986) (tgt := 1863) hC dL_law_986 (by decide) ?_
            refine zr_iinc (pc := 1863) (q := 6) (ls' := [(4, _), (6, _), (5, _), (0, _), (1, _), (2, _), (3, _)]) hC dL_law_1863 rfl (inc_6 _) (nlt hN (Nat.le_of_ble_eq_true rfl)) rfl ?_
            refine zr_goto (pc := 1866) (tgt := 23) hC dL_law_1866 (by decide) ?_
            refine zr_sub (ls' := [(0, _), (1, _), (2, _), (3, _), (4, _)]) [3, 4, 5, 6, 0] rfl ?_
            refine zr_widen (x' := x + 8) (by omega) ?_
            exact ih (v4 + (6 : Int32)) s_37 (x + 8) (by omega)
        · refine zr_iconst (pc := 967) (v := (0 : Int32)) hC dL_law_967 ic_0 ?_
          exact zr_none
      refine zr_tcase (pc := 40) (v := (13 : Int32)) (off := 949) (tgt := 989) hC dL_law_40 (by decide) (by decide) (by decide) (by decide) ?_ (fun e13 => ?_)
      · refine zr_aload_n (pc := 989) (i := 1) 1 hC dL_law_989 rfl rfl ?_
        refine zr_aload_n (pc := 990) (i := 0) 0 hC dL_law_990 rfl rfl ?_
        refine zr_iload (pc := 991) 4 hC dL_law_991 rfl ?_
        refine zr_iconst (pc := 993) (v := (1 : Int32)) hC dL_law_993 ic_1 ?_
        refine zr_iadd (pc := 994) hC dL_law_994 ?_
        refine zr_scd (pc := 995) hC hX dL_law_995 ?_
        refine zr_aload_n (pc := 996) (i := 0) 0 hC dL_law_996 rfl rfl ?_
        refine zr_iload (pc := 997) 4 hC dL_law_997 rfl ?_
        refine zr_iconst (pc := 999) (v := (2 : Int32)) hC dL_law_999 ic_2 ?_
        refine zr_iadd (pc := 1000) hC dL_law_1000 ?_
        refine zr_scd (pc := 1001) hC hX dL_law_1001 ?_
        refine zr_aload_n (pc := 1002) (i := 0) 0 hC dL_law_1002 rfl rfl ?_
        refine zr_iload (pc := 1003) 4 hC dL_law_1003 rfl ?_
        refine zr_iconst (pc := 1005) (v := (3 : Int32)) hC dL_law_1005 ic_3 ?_
        refine zr_iadd (pc := 1006) hC dL_law_1006 ?_
        refine zr_scd (pc := 1007) hC hX dL_law_1007 ?_
        refine zr_aload_n (pc := 1008) (i := 0) 0 hC dL_law_1008 rfl rfl ?_
        refine zr_iload (pc := 1009) 4 hC dL_law_1009 rfl ?_
        refine zr_iconst (pc := 1011) (v := (4 : Int32)) hC dL_law_1011 ic_4 ?_
        refine zr_iadd (pc := 1012) hC dL_law_1012 ?_
        refine zr_scd (pc := 1013) hC hX dL_law_1013 ?_
        refine zr_aload_n (pc := 1014) (i := 3) 3 hC dL_law_1014 rfl rfl ?_
        refine zr_callW (pc := 1015) (xm' := 3) (n := 6) (As := fun ad => [.ref (ad 0), .int (xs (v4 + (1 : Int32)).toNatClampNeg), .int (xs (v4 + (2 : Int32)).toNatClampNeg), .int (xs (v4 + (3 : Int32)).toNatClampNeg), .int (xs (v4 + (4 : Int32)).toNatClampNeg), .ref (ad 111)]) (st1 := []) hC (by omega) (kL_pawn _ hst (xs (v4 + (1 : Int32)).toNatClampNeg) (xs (v4 + (2 : Int32)).toNatClampNeg) (xs (v4 + (3 : Int32)).toNatClampNeg) (xs (v4 + (4 : Int32)).toNatClampNeg) _) (Nat.le_of_ble_eq_true rfl) mw_1214 m_0 (Nat.le_of_ble_eq_true rfl) ⟨by decide, by decide, by decide +kernel⟩ m_1212 m_1213 rfl rfl (Nat.le_of_ble_eq_true rfl) dL_law_1015 (fun y_38 s_38 => ?_)
        refine zr_istore (pc := 1018) (ls' := [(5, _), (0, _), (1, _), (2, _), (3, _), (4, _)]) hC dL_law_1018 (nlt hN (Nat.le_of_ble_eq_true rfl)) rfl ?_
        refine zr_aload_n (pc := 1020) (i := 2) 3 hC dL_law_1020 rfl rfl ?_
        refine zr_aload_n (pc := 1021) (i := 0) 1 hC dL_law_1021 rfl rfl ?_
        refine zr_iload (pc := 1022) 5 hC dL_law_1022 rfl ?_
        refine zr_iconst (pc := 1024) (v := (1 : Int32)) hC dL_law_1024 ic_1 ?_
        refine zr_iadd (pc := 1025) hC dL_law_1025 ?_
        refine zr_scd (pc := 1026) hC hX dL_law_1026 ?_
        refine zr_aload_n (pc := 1027) (i := 0) 1 hC dL_law_1027 rfl rfl ?_
        refine zr_iload (pc := 1028) 5 hC dL_law_1028 rfl ?_
        refine zr_iconst (pc := 1030) (v := (2 : Int32)) hC dL_law_1030 ic_2 ?_
        refine zr_iadd (pc := 1031) hC dL_law_1031 ?_
        refine zr_scd (pc := 1032) hC hX dL_law_1032 ?_
        refine zr_aload_n (pc := 1033) (i := 0) 1 hC dL_law_1033 rfl rfl ?_
        refine zr_iload (pc := 1034) 5 hC dL_law_1034 rfl ?_
        refine zr_iconst (pc := 1036) (v := (3 : Int32)) hC dL_law_1036 ic_3 ?_
        refine zr_iadd (pc := 1037) hC dL_law_1037 ?_
        refine zr_scd (pc := 1038) hC hX dL_law_1038 ?_
        refine zr_aload_n (pc := 1039) (i := 0) 1 hC dL_law_1039 rfl rfl ?_
        refine zr_iload (pc := 1040) 5 hC dL_law_1040 rfl ?_
        refine zr_iconst (pc := 1042) (v := (4 : Int32)) hC dL_law_1042 ic_4 ?_
        refine zr_iadd (pc := 1043) hC dL_law_1043 ?_
        refine zr_scd (pc := 1044) hC hX dL_law_1044 ?_
        refine zr_callV (pc := 1045) (As := fun ad => [.int (xs (v4 + (1 : Int32)).toNatClampNeg), .int (xs (v4 + (2 : Int32)).toNatClampNeg), .int (xs (v4 + (3 : Int32)).toNatClampNeg), .int (xs (v4 + (4 : Int32)).toNatClampNeg)]) (st1 := []) hC (by omega) (kX12_pawn _ (xs (v4 + (1 : Int32)).toNatClampNeg) (xs (v4 + (2 : Int32)).toNatClampNeg) (xs (v4 + (3 : Int32)).toNatClampNeg) (xs (v4 + (4 : Int32)).toNatClampNeg) _) (Nat.le_of_ble_eq_true rfl) mc_yX12_pawn m_1888 m_1889 m_1890 mem_69 lay_69 rfl rfl rfl rfl (Nat.le_of_ble_eq_true rfl) dL_law_1045 (fun y_39 s_39 => ?_)
        refine zr_istore (pc := 1048) (ls' := [(6, _), (5, _), (0, _), (1, _), (2, _), (3, _), (4, _)]) hC dL_law_1048 (nlt hN (Nat.le_of_ble_eq_true rfl)) rfl ?_
        refine zr_aload_n (pc := 1050) (i := 2) 4 hC dL_law_1050 rfl rfl ?_
        refine zr_callV (pc := 1051) (As := fun ad => []) (st1 := []) hC (by omega) (kX12_thrown _  _) (Nat.le_of_ble_eq_true rfl) mc_yX12_thrown m_1594 m_1595 m_1596 mem_69 lay_69 rfl rfl rfl rfl (Nat.le_of_ble_eq_true rfl) dL_law_1051 (fun y_40 s_40 => ?_)
        refine zr_iload (pc := 1054) 1 hC dL_law_1054 rfl ?_
        refine zr_icmp_eq (pc := 1056) (tgt := 1061) hC dL_law_1056 (by decide) (fun c_ => ?_) (fun c_ => ?_)
        · refine zr_iload (pc := 1061) 1 hC dL_law_1061 rfl ?_
          refine zr_if_ne (pc := 1063) (tgt := 1078) hC dL_law_1063 (by decide) (fun c_ => ?_) (fun c_ => ?_)
          · refine zr_aload_n (pc := 1066) (i := 3) 5 hC dL_law_1066 rfl rfl ?_
            refine zr_iconst (pc := 1067) (v := (0 : Int32)) hC dL_law_1067 ic_0 ?_
            refine zr_lald (pc := 1068) hC mem_111 lay_111 dL_law_1068 ?_
            refine zr_iload (pc := 1069) 0 hC dL_law_1069 rfl ?_
            refine zr_i2l (pc := 1071) hC dL_law_1071 ?_
            refine zr_lcmp (pc := 1072) hC dL_law_1072 ?_
            refine zr_if_eq (pc := 1073) (tgt := 1078) hC dL_law_1073 (by decide) (fun c_ => ?_) (fun c_ => ?_)
            · refine zr_goto (pc := 1078) (tgt := 1863) hC dL_law_1078 (by decide) ?_
              refine zr_iinc (pc := 1863) (q := 6) (ls' := [(4, _), (6, _), (5, _), (0, _), (1, _), (2, _), (3, _)]) hC dL_law_1863 rfl (inc_6 _) (nlt hN (Nat.le_of_ble_eq_true rfl)) rfl ?_
              refine zr_goto (pc := 1866) (tgt := 23) hC dL_law_1866 (by decide) ?_
              refine zr_sub (ls' := [(0, _), (1, _), (2, _), (3, _), (4, _)]) [3, 4, 5, 6, 0] rfl ?_
              refine zr_widen (x' := x + 8) (by omega) ?_
              exact ih (v4 + (6 : Int32)) s_40 (x + 8) (by omega)
            · refine zr_iconst (pc := 1076) (v := (0 : Int32)) hC dL_law_1076 ic_0 ?_
              exact zr_none
          · refine zr_goto (pc := 1078) (tgt := 1863) hC dL_law_1078 (by decide) ?_
            refine zr_iinc (pc := 1863) (q := 6) (ls' := [(4, _), (6, _), (5, _), (0, _), (1, _), (2, _), (3, _)]) hC dL_law_1863 rfl (inc_6 _) (nlt hN (Nat.le_of_ble_eq_true rfl)) rfl ?_
            refine zr_goto (pc := 1866) (tgt := 23) hC dL_law_1866 (by decide) ?_
            refine zr_sub (ls' := [(0, _), (1, _), (2, _), (3, _), (4, _)]) [3, 4, 5, 6, 0] rfl ?_
            refine zr_widen (x' := x + 8) (by omega) ?_
            exact ih (v4 + (6 : Int32)) s_40 (x + 8) (by omega)
        · refine zr_iconst (pc := 1059) (v := (0 : Int32)) hC dL_law_1059 ic_0 ?_
          exact zr_none
      refine zr_tcase (pc := 40) (v := (14 : Int32)) (off := 1041) (tgt := 1081) hC dL_law_40 (by decide) (by decide) (by decide) (by decide) ?_ (fun e14 => ?_)
      · refine zr_aload_n (pc := 1081) (i := 1) 1 hC dL_law_1081 rfl rfl ?_
        refine zr_aload_n (pc := 1082) (i := 0) 0 hC dL_law_1082 rfl rfl ?_
        refine zr_iload (pc := 1083) 4 hC dL_law_1083 rfl ?_
        refine zr_iconst (pc := 1085) (v := (1 : Int32)) hC dL_law_1085 ic_1 ?_
        refine zr_iadd (pc := 1086) hC dL_law_1086 ?_
        refine zr_scd (pc := 1087) hC hX dL_law_1087 ?_
        refine zr_callV (pc := 1088) (As := fun ad => [.int (xs (v4 + (1 : Int32)).toNatClampNeg)]) (st1 := []) hC (by omega) (kX11_days _ (xs (v4 + (1 : Int32)).toNatClampNeg) _) (Nat.le_of_ble_eq_true rfl) mc_yX11_days m_440 m_441 m_442 mem_0 lay_0 rfl rfl rfl rfl (Nat.le_of_ble_eq_true rfl) dL_law_1088 (fun y_41 s_41 => ?_)
        refine zr_aload_n (pc := 1091) (i := 2) 2 hC dL_law_1091 rfl rfl ?_
        refine zr_aload_n (pc := 1092) (i := 0) 0 hC dL_law_1092 rfl rfl ?_
        refine zr_iload (pc := 1093) 4 hC dL_law_1093 rfl ?_
        refine zr_iconst (pc := 1095) (v := (1 : Int32)) hC dL_law_1095 ic_1 ?_
        refine zr_iadd (pc := 1096) hC dL_law_1096 ?_
        refine zr_scd (pc := 1097) hC hX dL_law_1097 ?_
        refine zr_callV (pc := 1098) (As := fun ad => [.int (xs (v4 + (1 : Int32)).toNatClampNeg)]) (st1 := [.int y_41]) hC (by omega) (kX12_days _ (xs (v4 + (1 : Int32)).toNatClampNeg) _) (Nat.le_of_ble_eq_true rfl) mc_yX12_days m_1892 m_1893 m_1894 mem_69 lay_69 rfl rfl rfl rfl (Nat.le_of_ble_eq_true rfl) dL_law_1098 (fun y_42 s_42 => ?_)
        refine zr_icmp_eq (pc := 1101) (tgt := 1863) hC dL_law_1101 (by decide) (fun c_ => ?_) (fun c_ => ?_)
        · refine zr_iinc (pc := 1863) (q := 4) (ls' := [(4, _), (0, _), (1, _), (2, _), (3, _)]) hC dL_law_1863 rfl (inc_6 _) (nlt hN (Nat.le_of_ble_eq_true rfl)) rfl ?_
          refine zr_goto (pc := 1866) (tgt := 23) hC dL_law_1866 (by decide) ?_
          refine zr_sub (ls' := [(0, _), (1, _), (2, _), (3, _), (4, _)]) [1, 2, 3, 4, 0] rfl ?_
          refine zr_widen (x' := x + 8) (by omega) ?_
          exact ih (v4 + (6 : Int32)) s_42 (x + 8) (by omega)
        · refine zr_iconst (pc := 1104) (v := (0 : Int32)) hC dL_law_1104 ic_0 ?_
          exact zr_none
      refine zr_tcase (pc := 40) (v := (15 : Int32)) (off := 1066) (tgt := 1106) hC dL_law_40 (by decide) (by decide) (by decide) (by decide) ?_ (fun e15 => ?_)
      · refine zr_aload_n (pc := 1106) (i := 1) 1 hC dL_law_1106 rfl rfl ?_
        refine zr_callV (pc := 1107) (As := fun ad => []) (st1 := []) hC (by omega) (kX11_undo _  _) (Nat.le_of_ble_eq_true rfl) mc_yX11_undo m_507 m_508 m_509 mem_0 lay_0 rfl rfl rfl rfl (Nat.le_of_ble_eq_true rfl) dL_law_1107 (fun y_43 s_43 => ?_)
        refine zr_aload_n (pc := 1110) (i := 2) 2 hC dL_law_1110 rfl rfl ?_
        refine zr_callV (pc := 1111) (As := fun ad => []) (st1 := [.int y_43]) hC (by omega) (kX12_undo _  _) (Nat.le_of_ble_eq_true rfl) mc_yX12_undo m_1901 m_1902 m_1903 mem_69 lay_69 rfl rfl rfl rfl (Nat.le_of_ble_eq_true rfl) dL_law_1111 (fun y_44 s_44 => ?_)
        refine zr_icmp_eq (pc := 1114) (tgt := 1863) hC dL_law_1114 (by decide) (fun c_ => ?_) (fun c_ => ?_)
        · refine zr_iinc (pc := 1863) (q := 4) (ls' := [(4, _), (0, _), (1, _), (2, _), (3, _)]) hC dL_law_1863 rfl (inc_6 _) (nlt hN (Nat.le_of_ble_eq_true rfl)) rfl ?_
          refine zr_goto (pc := 1866) (tgt := 23) hC dL_law_1866 (by decide) ?_
          refine zr_sub (ls' := [(0, _), (1, _), (2, _), (3, _), (4, _)]) [1, 2, 3, 4, 0] rfl ?_
          refine zr_widen (x' := x + 8) (by omega) ?_
          exact ih (v4 + (6 : Int32)) s_44 (x + 8) (by omega)
        · refine zr_iconst (pc := 1117) (v := (0 : Int32)) hC dL_law_1117 ic_0 ?_
          exact zr_none
      refine zr_tcase (pc := 40) (v := (16 : Int32)) (off := 1079) (tgt := 1119) hC dL_law_40 (by decide) (by decide) (by decide) (by decide) ?_ (fun e16 => ?_)
      · refine zr_aload_n (pc := 1119) (i := 1) 1 hC dL_law_1119 rfl rfl ?_
        refine zr_aload_n (pc := 1120) (i := 0) 0 hC dL_law_1120 rfl rfl ?_
        refine zr_iload (pc := 1121) 4 hC dL_law_1121 rfl ?_
        refine zr_iconst (pc := 1123) (v := (1 : Int32)) hC dL_law_1123 ic_1 ?_
        refine zr_iadd (pc := 1124) hC dL_law_1124 ?_
        refine zr_scd (pc := 1125) hC hX dL_law_1125 ?_
        refine zr_aload_n (pc := 1126) (i := 0) 0 hC dL_law_1126 rfl rfl ?_
        refine zr_iload (pc := 1127) 4 hC dL_law_1127 rfl ?_
        refine zr_iconst (pc := 1129) (v := (2 : Int32)) hC dL_law_1129 ic_2 ?_
        refine zr_iadd (pc := 1130) hC dL_law_1130 ?_
        refine zr_scd (pc := 1131) hC hX dL_law_1131 ?_
        refine zr_aload_n (pc := 1132) (i := 0) 0 hC dL_law_1132 rfl rfl ?_
        refine zr_iload (pc := 1133) 4 hC dL_law_1133 rfl ?_
        refine zr_iconst (pc := 1135) (v := (3 : Int32)) hC dL_law_1135 ic_3 ?_
        refine zr_iadd (pc := 1136) hC dL_law_1136 ?_
        refine zr_scd (pc := 1137) hC hX dL_law_1137 ?_
        refine zr_aload_n (pc := 1138) (i := 3) 3 hC dL_law_1138 rfl rfl ?_
        refine zr_callW (pc := 1139) (xm' := 4) (n := 5) (As := fun ad => [.ref (ad 0), .int (xs (v4 + (1 : Int32)).toNatClampNeg), .int (xs (v4 + (2 : Int32)).toNatClampNeg), .int (xs (v4 + (3 : Int32)).toNatClampNeg), .ref (ad 111)]) (st1 := []) hC (by omega) (kL_heir _ hst (xs (v4 + (1 : Int32)).toNatClampNeg) (xs (v4 + (2 : Int32)).toNatClampNeg) (xs (v4 + (3 : Int32)).toNatClampNeg) _) (Nat.le_of_ble_eq_true rfl) mw_1222 m_0 (Nat.le_of_ble_eq_true rfl) ⟨by decide, by decide, by decide +kernel⟩ m_1220 m_1221 rfl rfl (Nat.le_of_ble_eq_true rfl) dL_law_1139 (fun y_45 s_45 => ?_)
        refine zr_istore (pc := 1142) (ls' := [(5, _), (0, _), (1, _), (2, _), (3, _), (4, _)]) hC dL_law_1142 (nlt hN (Nat.le_of_ble_eq_true rfl)) rfl ?_
        refine zr_aload_n (pc := 1144) (i := 2) 3 hC dL_law_1144 rfl rfl ?_
        refine zr_aload_n (pc := 1145) (i := 0) 1 hC dL_law_1145 rfl rfl ?_
        refine zr_iload (pc := 1146) 5 hC dL_law_1146 rfl ?_
        refine zr_iconst (pc := 1148) (v := (1 : Int32)) hC dL_law_1148 ic_1 ?_
        refine zr_iadd (pc := 1149) hC dL_law_1149 ?_
        refine zr_scd (pc := 1150) hC hX dL_law_1150 ?_
        refine zr_aload_n (pc := 1151) (i := 0) 1 hC dL_law_1151 rfl rfl ?_
        refine zr_iload (pc := 1152) 5 hC dL_law_1152 rfl ?_
        refine zr_iconst (pc := 1154) (v := (2 : Int32)) hC dL_law_1154 ic_2 ?_
        refine zr_iadd (pc := 1155) hC dL_law_1155 ?_
        refine zr_scd (pc := 1156) hC hX dL_law_1156 ?_
        refine zr_aload_n (pc := 1157) (i := 0) 1 hC dL_law_1157 rfl rfl ?_
        refine zr_iload (pc := 1158) 5 hC dL_law_1158 rfl ?_
        refine zr_iconst (pc := 1160) (v := (3 : Int32)) hC dL_law_1160 ic_3 ?_
        refine zr_iadd (pc := 1161) hC dL_law_1161 ?_
        refine zr_scd (pc := 1162) hC hX dL_law_1162 ?_
        refine zr_callV (pc := 1163) (As := fun ad => [.int (xs (v4 + (1 : Int32)).toNatClampNeg), .int (xs (v4 + (2 : Int32)).toNatClampNeg), .int (xs (v4 + (3 : Int32)).toNatClampNeg)]) (st1 := []) hC (by omega) (kX12_heir _ (xs (v4 + (1 : Int32)).toNatClampNeg) (xs (v4 + (2 : Int32)).toNatClampNeg) (xs (v4 + (3 : Int32)).toNatClampNeg) _) (Nat.le_of_ble_eq_true rfl) mc_yX12_heir m_1909 m_1910 m_1911 mem_69 lay_69 rfl rfl rfl rfl (Nat.le_of_ble_eq_true rfl) dL_law_1163 (fun y_46 s_46 => ?_)
        refine zr_istore (pc := 1166) (ls' := [(6, _), (5, _), (0, _), (1, _), (2, _), (3, _), (4, _)]) hC dL_law_1166 (nlt hN (Nat.le_of_ble_eq_true rfl)) rfl ?_
        refine zr_aload_n (pc := 1168) (i := 2) 4 hC dL_law_1168 rfl rfl ?_
        refine zr_callV (pc := 1169) (As := fun ad => []) (st1 := []) hC (by omega) (kX12_thrown _  _) (Nat.le_of_ble_eq_true rfl) mc_yX12_thrown m_1594 m_1595 m_1596 mem_69 lay_69 rfl rfl rfl rfl (Nat.le_of_ble_eq_true rfl) dL_law_1169 (fun y_47 s_47 => ?_)
        refine zr_iload (pc := 1172) 1 hC dL_law_1172 rfl ?_
        refine zr_icmp_eq (pc := 1174) (tgt := 1179) hC dL_law_1174 (by decide) (fun c_ => ?_) (fun c_ => ?_)
        · refine zr_iload (pc := 1179) 1 hC dL_law_1179 rfl ?_
          refine zr_if_ne (pc := 1181) (tgt := 1196) hC dL_law_1181 (by decide) (fun c_ => ?_) (fun c_ => ?_)
          · refine zr_aload_n (pc := 1184) (i := 3) 5 hC dL_law_1184 rfl rfl ?_
            refine zr_iconst (pc := 1185) (v := (0 : Int32)) hC dL_law_1185 ic_0 ?_
            refine zr_lald (pc := 1186) hC mem_111 lay_111 dL_law_1186 ?_
            refine zr_iload (pc := 1187) 0 hC dL_law_1187 rfl ?_
            refine zr_i2l (pc := 1189) hC dL_law_1189 ?_
            refine zr_lcmp (pc := 1190) hC dL_law_1190 ?_
            refine zr_if_eq (pc := 1191) (tgt := 1196) hC dL_law_1191 (by decide) (fun c_ => ?_) (fun c_ => ?_)
            · refine zr_goto (pc := 1196) (tgt := 1863) hC dL_law_1196 (by decide) ?_
              refine zr_iinc (pc := 1863) (q := 6) (ls' := [(4, _), (6, _), (5, _), (0, _), (1, _), (2, _), (3, _)]) hC dL_law_1863 rfl (inc_6 _) (nlt hN (Nat.le_of_ble_eq_true rfl)) rfl ?_
              refine zr_goto (pc := 1866) (tgt := 23) hC dL_law_1866 (by decide) ?_
              refine zr_sub (ls' := [(0, _), (1, _), (2, _), (3, _), (4, _)]) [3, 4, 5, 6, 0] rfl ?_
              refine zr_widen (x' := x + 8) (by omega) ?_
              exact ih (v4 + (6 : Int32)) s_47 (x + 8) (by omega)
            · refine zr_iconst (pc := 1194) (v := (0 : Int32)) hC dL_law_1194 ic_0 ?_
              exact zr_none
          · refine zr_goto (pc := 1196) (tgt := 1863) hC dL_law_1196 (by decide) ?_
            refine zr_iinc (pc := 1863) (q := 6) (ls' := [(4, _), (6, _), (5, _), (0, _), (1, _), (2, _), (3, _)]) hC dL_law_1863 rfl (inc_6 _) (nlt hN (Nat.le_of_ble_eq_true rfl)) rfl ?_
            refine zr_goto (pc := 1866) (tgt := 23) hC dL_law_1866 (by decide) ?_
            refine zr_sub (ls' := [(0, _), (1, _), (2, _), (3, _), (4, _)]) [3, 4, 5, 6, 0] rfl ?_
            refine zr_widen (x' := x + 8) (by omega) ?_
            exact ih (v4 + (6 : Int32)) s_47 (x + 8) (by omega)
        · refine zr_iconst (pc := 1177) (v := (0 : Int32)) hC dL_law_1177 ic_0 ?_
          exact zr_none
      refine zr_tcase (pc := 40) (v := (17 : Int32)) (off := 1159) (tgt := 1199) hC dL_law_40 (by decide) (by decide) (by decide) (by decide) ?_ (fun e17 => ?_)
      · refine zr_aload_n (pc := 1199) (i := 1) 1 hC dL_law_1199 rfl rfl ?_
        refine zr_callV (pc := 1200) (As := fun ad => []) (st1 := []) hC (by omega) (kX11_failing _  _) (Nat.le_of_ble_eq_true rfl) mc_yX11_failing m_519 m_520 m_521 mem_0 lay_0 rfl rfl rfl rfl (Nat.le_of_ble_eq_true rfl) dL_law_1200 (fun y_48 s_48 => ?_)
        refine zr_aload_n (pc := 1203) (i := 2) 2 hC dL_law_1203 rfl rfl ?_
        refine zr_callV (pc := 1204) (As := fun ad => []) (st1 := [.int y_48]) hC (by omega) (kX12_failing _  _) (Nat.le_of_ble_eq_true rfl) mc_yX12_failing m_1913 m_1914 m_1915 mem_69 lay_69 rfl rfl rfl rfl (Nat.le_of_ble_eq_true rfl) dL_law_1204 (fun y_49 s_49 => ?_)
        refine zr_icmp_eq (pc := 1207) (tgt := 1863) hC dL_law_1207 (by decide) (fun c_ => ?_) (fun c_ => ?_)
        · refine zr_iinc (pc := 1863) (q := 4) (ls' := [(4, _), (0, _), (1, _), (2, _), (3, _)]) hC dL_law_1863 rfl (inc_6 _) (nlt hN (Nat.le_of_ble_eq_true rfl)) rfl ?_
          refine zr_goto (pc := 1866) (tgt := 23) hC dL_law_1866 (by decide) ?_
          refine zr_sub (ls' := [(0, _), (1, _), (2, _), (3, _), (4, _)]) [1, 2, 3, 4, 0] rfl ?_
          refine zr_widen (x' := x + 8) (by omega) ?_
          exact ih (v4 + (6 : Int32)) s_49 (x + 8) (by omega)
        · refine zr_iconst (pc := 1210) (v := (0 : Int32)) hC dL_law_1210 ic_0 ?_
          exact zr_none
      refine zr_tcase (pc := 40) (v := (18 : Int32)) (off := 1172) (tgt := 1212) hC dL_law_40 (by decide) (by decide) (by decide) (by decide) ?_ (fun e18 => ?_)
      · refine zr_aload_n (pc := 1212) (i := 1) 1 hC dL_law_1212 rfl rfl ?_
        refine zr_aload_n (pc := 1213) (i := 0) 0 hC dL_law_1213 rfl rfl ?_
        refine zr_iload (pc := 1214) 4 hC dL_law_1214 rfl ?_
        refine zr_iconst (pc := 1216) (v := (1 : Int32)) hC dL_law_1216 ic_1 ?_
        refine zr_iadd (pc := 1217) hC dL_law_1217 ?_
        refine zr_scd (pc := 1218) hC hX dL_law_1218 ?_
        refine zr_aload_n (pc := 1219) (i := 3) 3 hC dL_law_1219 rfl rfl ?_
        refine zr_callW (pc := 1220) (xm' := 1) (n := 3) (As := fun ad => [.ref (ad 0), .int (xs (v4 + (1 : Int32)).toNatClampNeg), .ref (ad 111)]) (st1 := []) hC (by omega) (kL_contested _ hst (xs (v4 + (1 : Int32)).toNatClampNeg) _) (Nat.le_of_ble_eq_true rfl) mw_1237 m_0 (Nat.le_of_ble_eq_true rfl) ⟨by decide, by decide, by decide +kernel⟩ m_1235 m_1236 rfl rfl (Nat.le_of_ble_eq_true rfl) dL_law_1220 (fun y_50 s_50 => ?_)
        refine zr_istore (pc := 1223) (ls' := [(5, _), (0, _), (1, _), (2, _), (3, _), (4, _)]) hC dL_law_1223 (nlt hN (Nat.le_of_ble_eq_true rfl)) rfl ?_
        refine zr_aload_n (pc := 1225) (i := 2) 3 hC dL_law_1225 rfl rfl ?_
        refine zr_aload_n (pc := 1226) (i := 0) 1 hC dL_law_1226 rfl rfl ?_
        refine zr_iload (pc := 1227) 5 hC dL_law_1227 rfl ?_
        refine zr_iconst (pc := 1229) (v := (1 : Int32)) hC dL_law_1229 ic_1 ?_
        refine zr_iadd (pc := 1230) hC dL_law_1230 ?_
        refine zr_scd (pc := 1231) hC hX dL_law_1231 ?_
        refine zr_callV (pc := 1232) (As := fun ad => [.int (xs (v4 + (1 : Int32)).toNatClampNeg)]) (st1 := []) hC (by omega) (kX12_contested _ (xs (v4 + (1 : Int32)).toNatClampNeg) _) (Nat.le_of_ble_eq_true rfl) mc_yX12_contested m_1917 m_1918 m_1919 mem_69 lay_69 rfl rfl rfl rfl (Nat.le_of_ble_eq_true rfl) dL_law_1232 (fun y_51 s_51 => ?_)
        refine zr_istore (pc := 1235) (ls' := [(6, _), (5, _), (0, _), (1, _), (2, _), (3, _), (4, _)]) hC dL_law_1235 (nlt hN (Nat.le_of_ble_eq_true rfl)) rfl ?_
        refine zr_aload_n (pc := 1237) (i := 2) 4 hC dL_law_1237 rfl rfl ?_
        refine zr_callV (pc := 1238) (As := fun ad => []) (st1 := []) hC (by omega) (kX12_thrown _  _) (Nat.le_of_ble_eq_true rfl) mc_yX12_thrown m_1594 m_1595 m_1596 mem_69 lay_69 rfl rfl rfl rfl (Nat.le_of_ble_eq_true rfl) dL_law_1238 (fun y_52 s_52 => ?_)
        refine zr_iload (pc := 1241) 1 hC dL_law_1241 rfl ?_
        refine zr_icmp_eq (pc := 1243) (tgt := 1248) hC dL_law_1243 (by decide) (fun c_ => ?_) (fun c_ => ?_)
        · refine zr_iload (pc := 1248) 1 hC dL_law_1248 rfl ?_
          refine zr_if_ne (pc := 1250) (tgt := 1265) hC dL_law_1250 (by decide) (fun c_ => ?_) (fun c_ => ?_)
          · refine zr_aload_n (pc := 1253) (i := 3) 5 hC dL_law_1253 rfl rfl ?_
            refine zr_iconst (pc := 1254) (v := (0 : Int32)) hC dL_law_1254 ic_0 ?_
            refine zr_lald (pc := 1255) hC mem_111 lay_111 dL_law_1255 ?_
            refine zr_iload (pc := 1256) 0 hC dL_law_1256 rfl ?_
            refine zr_i2l (pc := 1258) hC dL_law_1258 ?_
            refine zr_lcmp (pc := 1259) hC dL_law_1259 ?_
            refine zr_if_eq (pc := 1260) (tgt := 1265) hC dL_law_1260 (by decide) (fun c_ => ?_) (fun c_ => ?_)
            · refine zr_goto (pc := 1265) (tgt := 1863) hC dL_law_1265 (by decide) ?_
              refine zr_iinc (pc := 1863) (q := 6) (ls' := [(4, _), (6, _), (5, _), (0, _), (1, _), (2, _), (3, _)]) hC dL_law_1863 rfl (inc_6 _) (nlt hN (Nat.le_of_ble_eq_true rfl)) rfl ?_
              refine zr_goto (pc := 1866) (tgt := 23) hC dL_law_1866 (by decide) ?_
              refine zr_sub (ls' := [(0, _), (1, _), (2, _), (3, _), (4, _)]) [3, 4, 5, 6, 0] rfl ?_
              refine zr_widen (x' := x + 8) (by omega) ?_
              exact ih (v4 + (6 : Int32)) s_52 (x + 8) (by omega)
            · refine zr_iconst (pc := 1263) (v := (0 : Int32)) hC dL_law_1263 ic_0 ?_
              exact zr_none
          · refine zr_goto (pc := 1265) (tgt := 1863) hC dL_law_1265 (by decide) ?_
            refine zr_iinc (pc := 1863) (q := 6) (ls' := [(4, _), (6, _), (5, _), (0, _), (1, _), (2, _), (3, _)]) hC dL_law_1863 rfl (inc_6 _) (nlt hN (Nat.le_of_ble_eq_true rfl)) rfl ?_
            refine zr_goto (pc := 1866) (tgt := 23) hC dL_law_1866 (by decide) ?_
            refine zr_sub (ls' := [(0, _), (1, _), (2, _), (3, _), (4, _)]) [3, 4, 5, 6, 0] rfl ?_
            refine zr_widen (x' := x + 8) (by omega) ?_
            exact ih (v4 + (6 : Int32)) s_52 (x + 8) (by omega)
        · refine zr_iconst (pc := 1246) (v := (0 : Int32)) hC dL_law_1246 ic_0 ?_
          exact zr_none
      refine zr_tcase (pc := 40) (v := (19 : Int32)) (off := 1228) (tgt := 1268) hC dL_law_40 (by decide) (by decide) (by decide) (by decide) ?_ (fun e19 => ?_)
      · refine zr_aload_n (pc := 1268) (i := 1) 1 hC dL_law_1268 rfl rfl ?_
        refine zr_aload_n (pc := 1269) (i := 0) 0 hC dL_law_1269 rfl rfl ?_
        refine zr_iload (pc := 1270) 4 hC dL_law_1270 rfl ?_
        refine zr_iconst (pc := 1272) (v := (1 : Int32)) hC dL_law_1272 ic_1 ?_
        refine zr_iadd (pc := 1273) hC dL_law_1273 ?_
        refine zr_scd (pc := 1274) hC hX dL_law_1274 ?_
        refine zr_aload_n (pc := 1275) (i := 0) 0 hC dL_law_1275 rfl rfl ?_
        refine zr_iload (pc := 1276) 4 hC dL_law_1276 rfl ?_
        refine zr_iconst (pc := 1278) (v := (2 : Int32)) hC dL_law_1278 ic_2 ?_
        refine zr_iadd (pc := 1279) hC dL_law_1279 ?_
        refine zr_scd (pc := 1280) hC hX dL_law_1280 ?_
        refine zr_aload_n (pc := 1281) (i := 0) 0 hC dL_law_1281 rfl rfl ?_
        refine zr_iload (pc := 1282) 4 hC dL_law_1282 rfl ?_
        refine zr_iconst (pc := 1284) (v := (3 : Int32)) hC dL_law_1284 ic_3 ?_
        refine zr_iadd (pc := 1285) hC dL_law_1285 ?_
        refine zr_scd (pc := 1286) hC hX dL_law_1286 ?_
        refine zr_aload_n (pc := 1287) (i := 3) 3 hC dL_law_1287 rfl rfl ?_
        refine zr_callW (pc := 1288) (xm' := 3) (n := 5) (As := fun ad => [.ref (ad 0), .int (xs (v4 + (1 : Int32)).toNatClampNeg), .int (xs (v4 + (2 : Int32)).toNatClampNeg), .int (xs (v4 + (3 : Int32)).toNatClampNeg), .ref (ad 111)]) (st1 := []) hC (by omega) (kL_deaths _ hst (xs (v4 + (1 : Int32)).toNatClampNeg) (xs (v4 + (2 : Int32)).toNatClampNeg) (xs (v4 + (3 : Int32)).toNatClampNeg) _) (Nat.le_of_ble_eq_true rfl) mw_1250 m_0 (Nat.le_of_ble_eq_true rfl) ⟨by decide, by decide, by decide +kernel⟩ m_1248 m_1249 rfl rfl (Nat.le_of_ble_eq_true rfl) dL_law_1288 (fun y_53 s_53 => ?_)
        refine zr_istore (pc := 1291) (ls' := [(5, _), (0, _), (1, _), (2, _), (3, _), (4, _)]) hC dL_law_1291 (nlt hN (Nat.le_of_ble_eq_true rfl)) rfl ?_
        refine zr_aload_n (pc := 1293) (i := 2) 3 hC dL_law_1293 rfl rfl ?_
        refine zr_aload_n (pc := 1294) (i := 0) 1 hC dL_law_1294 rfl rfl ?_
        refine zr_iload (pc := 1295) 5 hC dL_law_1295 rfl ?_
        refine zr_iconst (pc := 1297) (v := (1 : Int32)) hC dL_law_1297 ic_1 ?_
        refine zr_iadd (pc := 1298) hC dL_law_1298 ?_
        refine zr_scd (pc := 1299) hC hX dL_law_1299 ?_
        refine zr_aload_n (pc := 1300) (i := 0) 1 hC dL_law_1300 rfl rfl ?_
        refine zr_iload (pc := 1301) 5 hC dL_law_1301 rfl ?_
        refine zr_iconst (pc := 1303) (v := (2 : Int32)) hC dL_law_1303 ic_2 ?_
        refine zr_iadd (pc := 1304) hC dL_law_1304 ?_
        refine zr_scd (pc := 1305) hC hX dL_law_1305 ?_
        refine zr_aload_n (pc := 1306) (i := 0) 1 hC dL_law_1306 rfl rfl ?_
        refine zr_iload (pc := 1307) 5 hC dL_law_1307 rfl ?_
        refine zr_iconst (pc := 1309) (v := (3 : Int32)) hC dL_law_1309 ic_3 ?_
        refine zr_iadd (pc := 1310) hC dL_law_1310 ?_
        refine zr_scd (pc := 1311) hC hX dL_law_1311 ?_
        refine zr_callV (pc := 1312) (As := fun ad => [.int (xs (v4 + (1 : Int32)).toNatClampNeg), .int (xs (v4 + (2 : Int32)).toNatClampNeg), .int (xs (v4 + (3 : Int32)).toNatClampNeg)]) (st1 := []) hC (by omega) (kX12_deaths _ (xs (v4 + (1 : Int32)).toNatClampNeg) (xs (v4 + (2 : Int32)).toNatClampNeg) (xs (v4 + (3 : Int32)).toNatClampNeg) _) (Nat.le_of_ble_eq_true rfl) mc_yX12_deaths m_1921 m_1922 m_1923 mem_69 lay_69 rfl rfl rfl rfl (Nat.le_of_ble_eq_true rfl) dL_law_1312 (fun y_54 s_54 => ?_)
        refine zr_istore (pc := 1315) (ls' := [(6, _), (5, _), (0, _), (1, _), (2, _), (3, _), (4, _)]) hC dL_law_1315 (nlt hN (Nat.le_of_ble_eq_true rfl)) rfl ?_
        refine zr_aload_n (pc := 1317) (i := 2) 4 hC dL_law_1317 rfl rfl ?_
        refine zr_callV (pc := 1318) (As := fun ad => []) (st1 := []) hC (by omega) (kX12_thrown _  _) (Nat.le_of_ble_eq_true rfl) mc_yX12_thrown m_1594 m_1595 m_1596 mem_69 lay_69 rfl rfl rfl rfl (Nat.le_of_ble_eq_true rfl) dL_law_1318 (fun y_55 s_55 => ?_)
        refine zr_iload (pc := 1321) 1 hC dL_law_1321 rfl ?_
        refine zr_icmp_eq (pc := 1323) (tgt := 1328) hC dL_law_1323 (by decide) (fun c_ => ?_) (fun c_ => ?_)
        · refine zr_iload (pc := 1328) 1 hC dL_law_1328 rfl ?_
          refine zr_if_ne (pc := 1330) (tgt := 1345) hC dL_law_1330 (by decide) (fun c_ => ?_) (fun c_ => ?_)
          · refine zr_aload_n (pc := 1333) (i := 3) 5 hC dL_law_1333 rfl rfl ?_
            refine zr_iconst (pc := 1334) (v := (0 : Int32)) hC dL_law_1334 ic_0 ?_
            refine zr_lald (pc := 1335) hC mem_111 lay_111 dL_law_1335 ?_
            refine zr_iload (pc := 1336) 0 hC dL_law_1336 rfl ?_
            refine zr_i2l (pc := 1338) hC dL_law_1338 ?_
            refine zr_lcmp (pc := 1339) hC dL_law_1339 ?_
            refine zr_if_eq (pc := 1340) (tgt := 1345) hC dL_law_1340 (by decide) (fun c_ => ?_) (fun c_ => ?_)
            · refine zr_goto (pc := 1345) (tgt := 1863) hC dL_law_1345 (by decide) ?_
              refine zr_iinc (pc := 1863) (q := 6) (ls' := [(4, _), (6, _), (5, _), (0, _), (1, _), (2, _), (3, _)]) hC dL_law_1863 rfl (inc_6 _) (nlt hN (Nat.le_of_ble_eq_true rfl)) rfl ?_
              refine zr_goto (pc := 1866) (tgt := 23) hC dL_law_1866 (by decide) ?_
              refine zr_sub (ls' := [(0, _), (1, _), (2, _), (3, _), (4, _)]) [3, 4, 5, 6, 0] rfl ?_
              refine zr_widen (x' := x + 8) (by omega) ?_
              exact ih (v4 + (6 : Int32)) s_55 (x + 8) (by omega)
            · refine zr_iconst (pc := 1343) (v := (0 : Int32)) hC dL_law_1343 ic_0 ?_
              exact zr_none
          · refine zr_goto (pc := 1345) (tgt := 1863) hC dL_law_1345 (by decide) ?_
            refine zr_iinc (pc := 1863) (q := 6) (ls' := [(4, _), (6, _), (5, _), (0, _), (1, _), (2, _), (3, _)]) hC dL_law_1863 rfl (inc_6 _) (nlt hN (Nat.le_of_ble_eq_true rfl)) rfl ?_
            refine zr_goto (pc := 1866) (tgt := 23) hC dL_law_1866 (by decide) ?_
            refine zr_sub (ls' := [(0, _), (1, _), (2, _), (3, _), (4, _)]) [3, 4, 5, 6, 0] rfl ?_
            refine zr_widen (x' := x + 8) (by omega) ?_
            exact ih (v4 + (6 : Int32)) s_55 (x + 8) (by omega)
        · refine zr_iconst (pc := 1326) (v := (0 : Int32)) hC dL_law_1326 ic_0 ?_
          exact zr_none
      refine zr_tcase (pc := 40) (v := (20 : Int32)) (off := 1308) (tgt := 1348) hC dL_law_40 (by decide) (by decide) (by decide) (by decide) ?_ (fun e20 => ?_)
      · refine zr_aload_n (pc := 1348) (i := 1) 1 hC dL_law_1348 rfl rfl ?_
        refine zr_aload_n (pc := 1349) (i := 0) 0 hC dL_law_1349 rfl rfl ?_
        refine zr_iload (pc := 1350) 4 hC dL_law_1350 rfl ?_
        refine zr_iconst (pc := 1352) (v := (1 : Int32)) hC dL_law_1352 ic_1 ?_
        refine zr_iadd (pc := 1353) hC dL_law_1353 ?_
        refine zr_scd (pc := 1354) hC hX dL_law_1354 ?_
        refine zr_aload_n (pc := 1355) (i := 3) 3 hC dL_law_1355 rfl rfl ?_
        refine zr_callW (pc := 1356) (xm' := 1) (n := 3) (As := fun ad => [.ref (ad 0), .int (xs (v4 + (1 : Int32)).toNatClampNeg), .ref (ad 111)]) (st1 := []) hC (by omega) (kL_death _ hst (xs (v4 + (1 : Int32)).toNatClampNeg) _) (Nat.le_of_ble_eq_true rfl) mw_1278 m_0 (Nat.le_of_ble_eq_true rfl) ⟨by decide, by decide, by decide +kernel⟩ m_1276 m_1277 rfl rfl (Nat.le_of_ble_eq_true rfl) dL_law_1356 (fun y_56 s_56 => ?_)
        refine zr_istore (pc := 1359) (ls' := [(5, _), (0, _), (1, _), (2, _), (3, _), (4, _)]) hC dL_law_1359 (nlt hN (Nat.le_of_ble_eq_true rfl)) rfl ?_
        refine zr_aload_n (pc := 1361) (i := 2) 3 hC dL_law_1361 rfl rfl ?_
        refine zr_aload_n (pc := 1362) (i := 0) 1 hC dL_law_1362 rfl rfl ?_
        refine zr_iload (pc := 1363) 5 hC dL_law_1363 rfl ?_
        refine zr_iconst (pc := 1365) (v := (1 : Int32)) hC dL_law_1365 ic_1 ?_
        refine zr_iadd (pc := 1366) hC dL_law_1366 ?_
        refine zr_scd (pc := 1367) hC hX dL_law_1367 ?_
        refine zr_callV (pc := 1368) (As := fun ad => [.int (xs (v4 + (1 : Int32)).toNatClampNeg)]) (st1 := []) hC (by omega) (kX12_death _ (xs (v4 + (1 : Int32)).toNatClampNeg) _) (Nat.le_of_ble_eq_true rfl) mc_yX12_death m_1930 m_1931 m_1932 mem_69 lay_69 rfl rfl rfl rfl (Nat.le_of_ble_eq_true rfl) dL_law_1368 (fun y_57 s_57 => ?_)
        refine zr_istore (pc := 1371) (ls' := [(6, _), (5, _), (0, _), (1, _), (2, _), (3, _), (4, _)]) hC dL_law_1371 (nlt hN (Nat.le_of_ble_eq_true rfl)) rfl ?_
        refine zr_aload_n (pc := 1373) (i := 2) 4 hC dL_law_1373 rfl rfl ?_
        refine zr_callV (pc := 1374) (As := fun ad => []) (st1 := []) hC (by omega) (kX12_thrown _  _) (Nat.le_of_ble_eq_true rfl) mc_yX12_thrown m_1594 m_1595 m_1596 mem_69 lay_69 rfl rfl rfl rfl (Nat.le_of_ble_eq_true rfl) dL_law_1374 (fun y_58 s_58 => ?_)
        refine zr_iload (pc := 1377) 1 hC dL_law_1377 rfl ?_
        refine zr_icmp_eq (pc := 1379) (tgt := 1384) hC dL_law_1379 (by decide) (fun c_ => ?_) (fun c_ => ?_)
        · refine zr_iload (pc := 1384) 1 hC dL_law_1384 rfl ?_
          refine zr_if_ne (pc := 1386) (tgt := 1401) hC dL_law_1386 (by decide) (fun c_ => ?_) (fun c_ => ?_)
          · refine zr_aload_n (pc := 1389) (i := 3) 5 hC dL_law_1389 rfl rfl ?_
            refine zr_iconst (pc := 1390) (v := (0 : Int32)) hC dL_law_1390 ic_0 ?_
            refine zr_lald (pc := 1391) hC mem_111 lay_111 dL_law_1391 ?_
            refine zr_iload (pc := 1392) 0 hC dL_law_1392 rfl ?_
            refine zr_i2l (pc := 1394) hC dL_law_1394 ?_
            refine zr_lcmp (pc := 1395) hC dL_law_1395 ?_
            refine zr_if_eq (pc := 1396) (tgt := 1401) hC dL_law_1396 (by decide) (fun c_ => ?_) (fun c_ => ?_)
            · refine zr_goto (pc := 1401) (tgt := 1863) hC dL_law_1401 (by decide) ?_
              refine zr_iinc (pc := 1863) (q := 6) (ls' := [(4, _), (6, _), (5, _), (0, _), (1, _), (2, _), (3, _)]) hC dL_law_1863 rfl (inc_6 _) (nlt hN (Nat.le_of_ble_eq_true rfl)) rfl ?_
              refine zr_goto (pc := 1866) (tgt := 23) hC dL_law_1866 (by decide) ?_
              refine zr_sub (ls' := [(0, _), (1, _), (2, _), (3, _), (4, _)]) [3, 4, 5, 6, 0] rfl ?_
              refine zr_widen (x' := x + 8) (by omega) ?_
              exact ih (v4 + (6 : Int32)) s_58 (x + 8) (by omega)
            · refine zr_iconst (pc := 1399) (v := (0 : Int32)) hC dL_law_1399 ic_0 ?_
              exact zr_none
          · refine zr_goto (pc := 1401) (tgt := 1863) hC dL_law_1401 (by decide) ?_
            refine zr_iinc (pc := 1863) (q := 6) (ls' := [(4, _), (6, _), (5, _), (0, _), (1, _), (2, _), (3, _)]) hC dL_law_1863 rfl (inc_6 _) (nlt hN (Nat.le_of_ble_eq_true rfl)) rfl ?_
            refine zr_goto (pc := 1866) (tgt := 23) hC dL_law_1866 (by decide) ?_
            refine zr_sub (ls' := [(0, _), (1, _), (2, _), (3, _), (4, _)]) [3, 4, 5, 6, 0] rfl ?_
            refine zr_widen (x' := x + 8) (by omega) ?_
            exact ih (v4 + (6 : Int32)) s_58 (x + 8) (by omega)
        · refine zr_iconst (pc := 1382) (v := (0 : Int32)) hC dL_law_1382 ic_0 ?_
          exact zr_none
      refine zr_tcase (pc := 40) (v := (21 : Int32)) (off := 1364) (tgt := 1404) hC dL_law_40 (by decide) (by decide) (by decide) (by decide) ?_ (fun e21 => ?_)
      · refine zr_aload_n (pc := 1404) (i := 1) 1 hC dL_law_1404 rfl rfl ?_
        refine zr_callV (pc := 1405) (As := fun ad => []) (st1 := []) hC (by omega) (kX11_arrange _  _) (Nat.le_of_ble_eq_true rfl) mc_yX11_arrange m_541 m_542 m_543 mem_0 lay_0 rfl rfl rfl rfl (Nat.le_of_ble_eq_true rfl) dL_law_1405 (fun y_59 s_59 => ?_)
        refine zr_aload_n (pc := 1408) (i := 2) 2 hC dL_law_1408 rfl rfl ?_
        refine zr_callV (pc := 1409) (As := fun ad => []) (st1 := [.int y_59]) hC (by omega) (kX12_arrange _  _) (Nat.le_of_ble_eq_true rfl) mc_yX12_arrange m_1934 m_1935 m_1936 mem_69 lay_69 rfl rfl rfl rfl (Nat.le_of_ble_eq_true rfl) dL_law_1409 (fun y_60 s_60 => ?_)
        refine zr_icmp_eq (pc := 1412) (tgt := 1863) hC dL_law_1412 (by decide) (fun c_ => ?_) (fun c_ => ?_)
        · refine zr_iinc (pc := 1863) (q := 4) (ls' := [(4, _), (0, _), (1, _), (2, _), (3, _)]) hC dL_law_1863 rfl (inc_6 _) (nlt hN (Nat.le_of_ble_eq_true rfl)) rfl ?_
          refine zr_goto (pc := 1866) (tgt := 23) hC dL_law_1866 (by decide) ?_
          refine zr_sub (ls' := [(0, _), (1, _), (2, _), (3, _), (4, _)]) [1, 2, 3, 4, 0] rfl ?_
          refine zr_widen (x' := x + 8) (by omega) ?_
          exact ih (v4 + (6 : Int32)) s_60 (x + 8) (by omega)
        · refine zr_iconst (pc := 1415) (v := (0 : Int32)) hC dL_law_1415 ic_0 ?_
          exact zr_none
      refine zr_tcase (pc := 40) (v := (22 : Int32)) (off := 1377) (tgt := 1417) hC dL_law_40 (by decide) (by decide) (by decide) (by decide) ?_ (fun e22 => ?_)
      · refine zr_aload_n (pc := 1417) (i := 1) 1 hC dL_law_1417 rfl rfl ?_
        refine zr_aload_n (pc := 1418) (i := 0) 0 hC dL_law_1418 rfl rfl ?_
        refine zr_iload (pc := 1419) 4 hC dL_law_1419 rfl ?_
        refine zr_iconst (pc := 1421) (v := (1 : Int32)) hC dL_law_1421 ic_1 ?_
        refine zr_iadd (pc := 1422) hC dL_law_1422 ?_
        refine zr_scd (pc := 1423) hC hX dL_law_1423 ?_
        refine zr_aload_n (pc := 1424) (i := 3) 3 hC dL_law_1424 rfl rfl ?_
        refine zr_callW (pc := 1425) (xm' := 2) (n := 3) (As := fun ad => [.ref (ad 0), .int (xs (v4 + (1 : Int32)).toNatClampNeg), .ref (ad 111)]) (st1 := []) hC (by omega) (kL_post _ hst (xs (v4 + (1 : Int32)).toNatClampNeg) _) (Nat.le_of_ble_eq_true rfl) mw_1285 m_0 (Nat.le_of_ble_eq_true rfl) ⟨by decide, by decide, by decide +kernel⟩ m_1283 m_1284 rfl rfl (Nat.le_of_ble_eq_true rfl) dL_law_1425 (fun y_61 s_61 => ?_)
        refine zr_istore (pc := 1428) (ls' := [(5, _), (0, _), (1, _), (2, _), (3, _), (4, _)]) hC dL_law_1428 (nlt hN (Nat.le_of_ble_eq_true rfl)) rfl ?_
        refine zr_aload_n (pc := 1430) (i := 2) 3 hC dL_law_1430 rfl rfl ?_
        refine zr_aload_n (pc := 1431) (i := 0) 1 hC dL_law_1431 rfl rfl ?_
        refine zr_iload (pc := 1432) 5 hC dL_law_1432 rfl ?_
        refine zr_iconst (pc := 1434) (v := (1 : Int32)) hC dL_law_1434 ic_1 ?_
        refine zr_iadd (pc := 1435) hC dL_law_1435 ?_
        refine zr_scd (pc := 1436) hC hX dL_law_1436 ?_
        refine zr_callV (pc := 1437) (As := fun ad => [.int (xs (v4 + (1 : Int32)).toNatClampNeg)]) (st1 := []) hC (by omega) (kX12_post _ (xs (v4 + (1 : Int32)).toNatClampNeg) _) (Nat.le_of_ble_eq_true rfl) mc_yX12_post m_1942 m_1943 m_1944 mem_69 lay_69 rfl rfl rfl rfl (Nat.le_of_ble_eq_true rfl) dL_law_1437 (fun y_62 s_62 => ?_)
        refine zr_istore (pc := 1440) (ls' := [(6, _), (5, _), (0, _), (1, _), (2, _), (3, _), (4, _)]) hC dL_law_1440 (nlt hN (Nat.le_of_ble_eq_true rfl)) rfl ?_
        refine zr_aload_n (pc := 1442) (i := 2) 4 hC dL_law_1442 rfl rfl ?_
        refine zr_callV (pc := 1443) (As := fun ad => []) (st1 := []) hC (by omega) (kX12_thrown _  _) (Nat.le_of_ble_eq_true rfl) mc_yX12_thrown m_1594 m_1595 m_1596 mem_69 lay_69 rfl rfl rfl rfl (Nat.le_of_ble_eq_true rfl) dL_law_1443 (fun y_63 s_63 => ?_)
        refine zr_iload (pc := 1446) 1 hC dL_law_1446 rfl ?_
        refine zr_icmp_eq (pc := 1448) (tgt := 1453) hC dL_law_1448 (by decide) (fun c_ => ?_) (fun c_ => ?_)
        · refine zr_iload (pc := 1453) 1 hC dL_law_1453 rfl ?_
          refine zr_if_ne (pc := 1455) (tgt := 1470) hC dL_law_1455 (by decide) (fun c_ => ?_) (fun c_ => ?_)
          · refine zr_aload_n (pc := 1458) (i := 3) 5 hC dL_law_1458 rfl rfl ?_
            refine zr_iconst (pc := 1459) (v := (0 : Int32)) hC dL_law_1459 ic_0 ?_
            refine zr_lald (pc := 1460) hC mem_111 lay_111 dL_law_1460 ?_
            refine zr_iload (pc := 1461) 0 hC dL_law_1461 rfl ?_
            refine zr_i2l (pc := 1463) hC dL_law_1463 ?_
            refine zr_lcmp (pc := 1464) hC dL_law_1464 ?_
            refine zr_if_eq (pc := 1465) (tgt := 1470) hC dL_law_1465 (by decide) (fun c_ => ?_) (fun c_ => ?_)
            · refine zr_goto (pc := 1470) (tgt := 1863) hC dL_law_1470 (by decide) ?_
              refine zr_iinc (pc := 1863) (q := 6) (ls' := [(4, _), (6, _), (5, _), (0, _), (1, _), (2, _), (3, _)]) hC dL_law_1863 rfl (inc_6 _) (nlt hN (Nat.le_of_ble_eq_true rfl)) rfl ?_
              refine zr_goto (pc := 1866) (tgt := 23) hC dL_law_1866 (by decide) ?_
              refine zr_sub (ls' := [(0, _), (1, _), (2, _), (3, _), (4, _)]) [3, 4, 5, 6, 0] rfl ?_
              refine zr_widen (x' := x + 8) (by omega) ?_
              exact ih (v4 + (6 : Int32)) s_63 (x + 8) (by omega)
            · refine zr_iconst (pc := 1468) (v := (0 : Int32)) hC dL_law_1468 ic_0 ?_
              exact zr_none
          · refine zr_goto (pc := 1470) (tgt := 1863) hC dL_law_1470 (by decide) ?_
            refine zr_iinc (pc := 1863) (q := 6) (ls' := [(4, _), (6, _), (5, _), (0, _), (1, _), (2, _), (3, _)]) hC dL_law_1863 rfl (inc_6 _) (nlt hN (Nat.le_of_ble_eq_true rfl)) rfl ?_
            refine zr_goto (pc := 1866) (tgt := 23) hC dL_law_1866 (by decide) ?_
            refine zr_sub (ls' := [(0, _), (1, _), (2, _), (3, _), (4, _)]) [3, 4, 5, 6, 0] rfl ?_
            refine zr_widen (x' := x + 8) (by omega) ?_
            exact ih (v4 + (6 : Int32)) s_63 (x + 8) (by omega)
        · refine zr_iconst (pc := 1451) (v := (0 : Int32)) hC dL_law_1451 ic_0 ?_
          exact zr_none
      refine zr_tcase (pc := 40) (v := (23 : Int32)) (off := 1433) (tgt := 1473) hC dL_law_40 (by decide) (by decide) (by decide) (by decide) ?_ (fun e23 => ?_)
      · refine zr_aload_n (pc := 1473) (i := 1) 1 hC dL_law_1473 rfl rfl ?_
        refine zr_callV (pc := 1474) (As := fun ad => []) (st1 := []) hC (by omega) (kX11_seatings _  _) (Nat.le_of_ble_eq_true rfl) mc_yX11_seatings m_575 m_576 m_577 mem_0 lay_0 rfl rfl rfl rfl (Nat.le_of_ble_eq_true rfl) dL_law_1474 (fun y_64 s_64 => ?_)
        refine zr_aload_n (pc := 1477) (i := 2) 2 hC dL_law_1477 rfl rfl ?_
        refine zr_callV (pc := 1478) (As := fun ad => []) (st1 := [.int y_64]) hC (by omega) (kX12_seatings _  _) (Nat.le_of_ble_eq_true rfl) mc_yX12_seatings m_1946 m_1947 m_1948 mem_69 lay_69 rfl rfl rfl rfl (Nat.le_of_ble_eq_true rfl) dL_law_1478 (fun y_65 s_65 => ?_)
        refine zr_icmp_eq (pc := 1481) (tgt := 1863) hC dL_law_1481 (by decide) (fun c_ => ?_) (fun c_ => ?_)
        · refine zr_iinc (pc := 1863) (q := 4) (ls' := [(4, _), (0, _), (1, _), (2, _), (3, _)]) hC dL_law_1863 rfl (inc_6 _) (nlt hN (Nat.le_of_ble_eq_true rfl)) rfl ?_
          refine zr_goto (pc := 1866) (tgt := 23) hC dL_law_1866 (by decide) ?_
          refine zr_sub (ls' := [(0, _), (1, _), (2, _), (3, _), (4, _)]) [1, 2, 3, 4, 0] rfl ?_
          refine zr_widen (x' := x + 8) (by omega) ?_
          exact ih (v4 + (6 : Int32)) s_65 (x + 8) (by omega)
        · refine zr_iconst (pc := 1484) (v := (0 : Int32)) hC dL_law_1484 ic_0 ?_
          exact zr_none
      refine zr_tcase (pc := 40) (v := (24 : Int32)) (off := 1446) (tgt := 1486) hC dL_law_40 (by decide) (by decide) (by decide) (by decide) ?_ (fun e24 => ?_)
      · refine zr_aload_n (pc := 1486) (i := 1) 1 hC dL_law_1486 rfl rfl ?_
        refine zr_aload_n (pc := 1487) (i := 0) 0 hC dL_law_1487 rfl rfl ?_
        refine zr_iload (pc := 1488) 4 hC dL_law_1488 rfl ?_
        refine zr_iconst (pc := 1490) (v := (1 : Int32)) hC dL_law_1490 ic_1 ?_
        refine zr_iadd (pc := 1491) hC dL_law_1491 ?_
        refine zr_scd (pc := 1492) hC hX dL_law_1492 ?_
        refine zr_aload_n (pc := 1493) (i := 3) 3 hC dL_law_1493 rfl rfl ?_
        refine zr_callW (pc := 1494) (xm' := 1) (n := 3) (As := fun ad => [.ref (ad 0), .int (xs (v4 + (1 : Int32)).toNatClampNeg), .ref (ad 111)]) (st1 := []) hC (by omega) (kL_seat _ hst (xs (v4 + (1 : Int32)).toNatClampNeg) _) (Nat.le_of_ble_eq_true rfl) mw_1292 m_0 (Nat.le_of_ble_eq_true rfl) ⟨by decide, by decide, by decide +kernel⟩ m_1290 m_1291 rfl rfl (Nat.le_of_ble_eq_true rfl) dL_law_1494 (fun y_66 s_66 => ?_)
        refine zr_istore (pc := 1497) (ls' := [(5, _), (0, _), (1, _), (2, _), (3, _), (4, _)]) hC dL_law_1497 (nlt hN (Nat.le_of_ble_eq_true rfl)) rfl ?_
        refine zr_aload_n (pc := 1499) (i := 2) 3 hC dL_law_1499 rfl rfl ?_
        refine zr_aload_n (pc := 1500) (i := 0) 1 hC dL_law_1500 rfl rfl ?_
        refine zr_iload (pc := 1501) 5 hC dL_law_1501 rfl ?_
        refine zr_iconst (pc := 1503) (v := (1 : Int32)) hC dL_law_1503 ic_1 ?_
        refine zr_iadd (pc := 1504) hC dL_law_1504 ?_
        refine zr_scd (pc := 1505) hC hX dL_law_1505 ?_
        refine zr_callV (pc := 1506) (As := fun ad => [.int (xs (v4 + (1 : Int32)).toNatClampNeg)]) (st1 := []) hC (by omega) (kX12_seat _ (xs (v4 + (1 : Int32)).toNatClampNeg) _) (Nat.le_of_ble_eq_true rfl) mc_yX12_seat m_1955 m_1956 m_1957 mem_69 lay_69 rfl rfl rfl rfl (Nat.le_of_ble_eq_true rfl) dL_law_1506 (fun y_67 s_67 => ?_)
        refine zr_istore (pc := 1509) (ls' := [(6, _), (5, _), (0, _), (1, _), (2, _), (3, _), (4, _)]) hC dL_law_1509 (nlt hN (Nat.le_of_ble_eq_true rfl)) rfl ?_
        refine zr_aload_n (pc := 1511) (i := 2) 4 hC dL_law_1511 rfl rfl ?_
        refine zr_callV (pc := 1512) (As := fun ad => []) (st1 := []) hC (by omega) (kX12_thrown _  _) (Nat.le_of_ble_eq_true rfl) mc_yX12_thrown m_1594 m_1595 m_1596 mem_69 lay_69 rfl rfl rfl rfl (Nat.le_of_ble_eq_true rfl) dL_law_1512 (fun y_68 s_68 => ?_)
        refine zr_iload (pc := 1515) 1 hC dL_law_1515 rfl ?_
        refine zr_icmp_eq (pc := 1517) (tgt := 1522) hC dL_law_1517 (by decide) (fun c_ => ?_) (fun c_ => ?_)
        · refine zr_iload (pc := 1522) 1 hC dL_law_1522 rfl ?_
          refine zr_if_ne (pc := 1524) (tgt := 1539) hC dL_law_1524 (by decide) (fun c_ => ?_) (fun c_ => ?_)
          · refine zr_aload_n (pc := 1527) (i := 3) 5 hC dL_law_1527 rfl rfl ?_
            refine zr_iconst (pc := 1528) (v := (0 : Int32)) hC dL_law_1528 ic_0 ?_
            refine zr_lald (pc := 1529) hC mem_111 lay_111 dL_law_1529 ?_
            refine zr_iload (pc := 1530) 0 hC dL_law_1530 rfl ?_
            refine zr_i2l (pc := 1532) hC dL_law_1532 ?_
            refine zr_lcmp (pc := 1533) hC dL_law_1533 ?_
            refine zr_if_eq (pc := 1534) (tgt := 1539) hC dL_law_1534 (by decide) (fun c_ => ?_) (fun c_ => ?_)
            · refine zr_goto (pc := 1539) (tgt := 1863) hC dL_law_1539 (by decide) ?_
              refine zr_iinc (pc := 1863) (q := 6) (ls' := [(4, _), (6, _), (5, _), (0, _), (1, _), (2, _), (3, _)]) hC dL_law_1863 rfl (inc_6 _) (nlt hN (Nat.le_of_ble_eq_true rfl)) rfl ?_
              refine zr_goto (pc := 1866) (tgt := 23) hC dL_law_1866 (by decide) ?_
              refine zr_sub (ls' := [(0, _), (1, _), (2, _), (3, _), (4, _)]) [3, 4, 5, 6, 0] rfl ?_
              refine zr_widen (x' := x + 8) (by omega) ?_
              exact ih (v4 + (6 : Int32)) s_68 (x + 8) (by omega)
            · refine zr_iconst (pc := 1537) (v := (0 : Int32)) hC dL_law_1537 ic_0 ?_
              exact zr_none
          · refine zr_goto (pc := 1539) (tgt := 1863) hC dL_law_1539 (by decide) ?_
            refine zr_iinc (pc := 1863) (q := 6) (ls' := [(4, _), (6, _), (5, _), (0, _), (1, _), (2, _), (3, _)]) hC dL_law_1863 rfl (inc_6 _) (nlt hN (Nat.le_of_ble_eq_true rfl)) rfl ?_
            refine zr_goto (pc := 1866) (tgt := 23) hC dL_law_1866 (by decide) ?_
            refine zr_sub (ls' := [(0, _), (1, _), (2, _), (3, _), (4, _)]) [3, 4, 5, 6, 0] rfl ?_
            refine zr_widen (x' := x + 8) (by omega) ?_
            exact ih (v4 + (6 : Int32)) s_68 (x + 8) (by omega)
        · refine zr_iconst (pc := 1520) (v := (0 : Int32)) hC dL_law_1520 ic_0 ?_
          exact zr_none
      refine zr_tcase (pc := 40) (v := (25 : Int32)) (off := 1502) (tgt := 1542) hC dL_law_40 (by decide) (by decide) (by decide) (by decide) ?_ (fun e25 => ?_)
      · refine zr_aload_n (pc := 1542) (i := 1) 1 hC dL_law_1542 rfl rfl ?_
        refine zr_aload_n (pc := 1543) (i := 0) 0 hC dL_law_1543 rfl rfl ?_
        refine zr_iload (pc := 1544) 4 hC dL_law_1544 rfl ?_
        refine zr_iconst (pc := 1546) (v := (1 : Int32)) hC dL_law_1546 ic_1 ?_
        refine zr_iadd (pc := 1547) hC dL_law_1547 ?_
        refine zr_scd (pc := 1548) hC hX dL_law_1548 ?_
        refine zr_aload_n (pc := 1549) (i := 0) 0 hC dL_law_1549 rfl rfl ?_
        refine zr_iload (pc := 1550) 4 hC dL_law_1550 rfl ?_
        refine zr_iconst (pc := 1552) (v := (2 : Int32)) hC dL_law_1552 ic_2 ?_
        refine zr_iadd (pc := 1553) hC dL_law_1553 ?_
        refine zr_scd (pc := 1554) hC hX dL_law_1554 ?_
        refine zr_aload_n (pc := 1555) (i := 3) 3 hC dL_law_1555 rfl rfl ?_
        refine zr_callW (pc := 1556) (xm' := 1) (n := 4) (As := fun ad => [.ref (ad 0), .int (xs (v4 + (1 : Int32)).toNatClampNeg), .int (xs (v4 + (2 : Int32)).toNatClampNeg), .ref (ad 111)]) (st1 := []) hC (by omega) (kL_see _ hst (xs (v4 + (1 : Int32)).toNatClampNeg) (xs (v4 + (2 : Int32)).toNatClampNeg) _) (Nat.le_of_ble_eq_true rfl) mw_1299 m_0 (Nat.le_of_ble_eq_true rfl) ⟨by decide, by decide, by decide +kernel⟩ m_1297 m_1298 rfl rfl (Nat.le_of_ble_eq_true rfl) dL_law_1556 (fun y_69 s_69 => ?_)
        refine zr_istore (pc := 1559) (ls' := [(5, _), (0, _), (1, _), (2, _), (3, _), (4, _)]) hC dL_law_1559 (nlt hN (Nat.le_of_ble_eq_true rfl)) rfl ?_
        refine zr_aload_n (pc := 1561) (i := 2) 3 hC dL_law_1561 rfl rfl ?_
        refine zr_aload_n (pc := 1562) (i := 0) 1 hC dL_law_1562 rfl rfl ?_
        refine zr_iload (pc := 1563) 5 hC dL_law_1563 rfl ?_
        refine zr_iconst (pc := 1565) (v := (1 : Int32)) hC dL_law_1565 ic_1 ?_
        refine zr_iadd (pc := 1566) hC dL_law_1566 ?_
        refine zr_scd (pc := 1567) hC hX dL_law_1567 ?_
        refine zr_aload_n (pc := 1568) (i := 0) 1 hC dL_law_1568 rfl rfl ?_
        refine zr_iload (pc := 1569) 5 hC dL_law_1569 rfl ?_
        refine zr_iconst (pc := 1571) (v := (2 : Int32)) hC dL_law_1571 ic_2 ?_
        refine zr_iadd (pc := 1572) hC dL_law_1572 ?_
        refine zr_scd (pc := 1573) hC hX dL_law_1573 ?_
        refine zr_callV (pc := 1574) (As := fun ad => [.int (xs (v4 + (1 : Int32)).toNatClampNeg), .int (xs (v4 + (2 : Int32)).toNatClampNeg)]) (st1 := []) hC (by omega) (kX12_see _ (xs (v4 + (1 : Int32)).toNatClampNeg) (xs (v4 + (2 : Int32)).toNatClampNeg) _) (Nat.le_of_ble_eq_true rfl) mc_yX12_see m_1959 m_1960 m_1961 mem_69 lay_69 rfl rfl rfl rfl (Nat.le_of_ble_eq_true rfl) dL_law_1574 (fun y_70 s_70 => ?_)
        refine zr_istore (pc := 1577) (ls' := [(6, _), (5, _), (0, _), (1, _), (2, _), (3, _), (4, _)]) hC dL_law_1577 (nlt hN (Nat.le_of_ble_eq_true rfl)) rfl ?_
        refine zr_aload_n (pc := 1579) (i := 2) 4 hC dL_law_1579 rfl rfl ?_
        refine zr_callV (pc := 1580) (As := fun ad => []) (st1 := []) hC (by omega) (kX12_thrown _  _) (Nat.le_of_ble_eq_true rfl) mc_yX12_thrown m_1594 m_1595 m_1596 mem_69 lay_69 rfl rfl rfl rfl (Nat.le_of_ble_eq_true rfl) dL_law_1580 (fun y_71 s_71 => ?_)
        refine zr_iload (pc := 1583) 1 hC dL_law_1583 rfl ?_
        refine zr_icmp_eq (pc := 1585) (tgt := 1590) hC dL_law_1585 (by decide) (fun c_ => ?_) (fun c_ => ?_)
        · refine zr_iload (pc := 1590) 1 hC dL_law_1590 rfl ?_
          refine zr_if_ne (pc := 1592) (tgt := 1607) hC dL_law_1592 (by decide) (fun c_ => ?_) (fun c_ => ?_)
          · refine zr_aload_n (pc := 1595) (i := 3) 5 hC dL_law_1595 rfl rfl ?_
            refine zr_iconst (pc := 1596) (v := (0 : Int32)) hC dL_law_1596 ic_0 ?_
            refine zr_lald (pc := 1597) hC mem_111 lay_111 dL_law_1597 ?_
            refine zr_iload (pc := 1598) 0 hC dL_law_1598 rfl ?_
            refine zr_i2l (pc := 1600) hC dL_law_1600 ?_
            refine zr_lcmp (pc := 1601) hC dL_law_1601 ?_
            refine zr_if_eq (pc := 1602) (tgt := 1607) hC dL_law_1602 (by decide) (fun c_ => ?_) (fun c_ => ?_)
            · refine zr_goto (pc := 1607) (tgt := 1863) hC dL_law_1607 (by decide) ?_
              refine zr_iinc (pc := 1863) (q := 6) (ls' := [(4, _), (6, _), (5, _), (0, _), (1, _), (2, _), (3, _)]) hC dL_law_1863 rfl (inc_6 _) (nlt hN (Nat.le_of_ble_eq_true rfl)) rfl ?_
              refine zr_goto (pc := 1866) (tgt := 23) hC dL_law_1866 (by decide) ?_
              refine zr_sub (ls' := [(0, _), (1, _), (2, _), (3, _), (4, _)]) [3, 4, 5, 6, 0] rfl ?_
              refine zr_widen (x' := x + 8) (by omega) ?_
              exact ih (v4 + (6 : Int32)) s_71 (x + 8) (by omega)
            · refine zr_iconst (pc := 1605) (v := (0 : Int32)) hC dL_law_1605 ic_0 ?_
              exact zr_none
          · refine zr_goto (pc := 1607) (tgt := 1863) hC dL_law_1607 (by decide) ?_
            refine zr_iinc (pc := 1863) (q := 6) (ls' := [(4, _), (6, _), (5, _), (0, _), (1, _), (2, _), (3, _)]) hC dL_law_1863 rfl (inc_6 _) (nlt hN (Nat.le_of_ble_eq_true rfl)) rfl ?_
            refine zr_goto (pc := 1866) (tgt := 23) hC dL_law_1866 (by decide) ?_
            refine zr_sub (ls' := [(0, _), (1, _), (2, _), (3, _), (4, _)]) [3, 4, 5, 6, 0] rfl ?_
            refine zr_widen (x' := x + 8) (by omega) ?_
            exact ih (v4 + (6 : Int32)) s_71 (x + 8) (by omega)
        · refine zr_iconst (pc := 1588) (v := (0 : Int32)) hC dL_law_1588 ic_0 ?_
          exact zr_none
      refine zr_tcase (pc := 40) (v := (26 : Int32)) (off := 1570) (tgt := 1610) hC dL_law_40 (by decide) (by decide) (by decide) (by decide) ?_ (fun e26 => ?_)
      · refine zr_aload_n (pc := 1610) (i := 1) 1 hC dL_law_1610 rfl rfl ?_
        refine zr_callV (pc := 1611) (As := fun ad => []) (st1 := []) hC (by omega) (kX11_forget _  _) (Nat.le_of_ble_eq_true rfl) mc_yX11_forget m_606 m_607 m_608 mem_0 lay_0 rfl rfl rfl rfl (Nat.le_of_ble_eq_true rfl) dL_law_1611 (fun y_72 s_72 => ?_)
        refine zr_aload_n (pc := 1614) (i := 2) 2 hC dL_law_1614 rfl rfl ?_
        refine zr_callV (pc := 1615) (As := fun ad => []) (st1 := [.int y_72]) hC (by omega) (kX12_forget _  _) (Nat.le_of_ble_eq_true rfl) mc_yX12_forget m_1963 m_1964 m_1965 mem_69 lay_69 rfl rfl rfl rfl (Nat.le_of_ble_eq_true rfl) dL_law_1615 (fun y_73 s_73 => ?_)
        refine zr_icmp_eq (pc := 1618) (tgt := 1863) hC dL_law_1618 (by decide) (fun c_ => ?_) (fun c_ => ?_)
        · refine zr_iinc (pc := 1863) (q := 4) (ls' := [(4, _), (0, _), (1, _), (2, _), (3, _)]) hC dL_law_1863 rfl (inc_6 _) (nlt hN (Nat.le_of_ble_eq_true rfl)) rfl ?_
          refine zr_goto (pc := 1866) (tgt := 23) hC dL_law_1866 (by decide) ?_
          refine zr_sub (ls' := [(0, _), (1, _), (2, _), (3, _), (4, _)]) [1, 2, 3, 4, 0] rfl ?_
          refine zr_widen (x' := x + 8) (by omega) ?_
          exact ih (v4 + (6 : Int32)) s_73 (x + 8) (by omega)
        · refine zr_iconst (pc := 1621) (v := (0 : Int32)) hC dL_law_1621 ic_0 ?_
          exact zr_none
      refine zr_tcase (pc := 40) (v := (27 : Int32)) (off := 1583) (tgt := 1623) hC dL_law_40 (by decide) (by decide) (by decide) (by decide) ?_ (fun e27 => ?_)
      · refine zr_aload_n (pc := 1623) (i := 1) 1 hC dL_law_1623 rfl rfl ?_
        refine zr_aload_n (pc := 1624) (i := 0) 0 hC dL_law_1624 rfl rfl ?_
        refine zr_iload (pc := 1625) 4 hC dL_law_1625 rfl ?_
        refine zr_iconst (pc := 1627) (v := (1 : Int32)) hC dL_law_1627 ic_1 ?_
        refine zr_iadd (pc := 1628) hC dL_law_1628 ?_
        refine zr_scd (pc := 1629) hC hX dL_law_1629 ?_
        refine zr_aload_n (pc := 1630) (i := 3) 3 hC dL_law_1630 rfl rfl ?_
        refine zr_callW (pc := 1631) (xm' := 1) (n := 3) (As := fun ad => [.ref (ad 0), .int (xs (v4 + (1 : Int32)).toNatClampNeg), .ref (ad 111)]) (st1 := []) hC (by omega) (kL_fits _ hst (xs (v4 + (1 : Int32)).toNatClampNeg) _) (Nat.le_of_ble_eq_true rfl) mw_1310 m_0 (Nat.le_of_ble_eq_true rfl) ⟨by decide, by decide, by decide +kernel⟩ m_1308 m_1309 rfl rfl (Nat.le_of_ble_eq_true rfl) dL_law_1631 (fun y_74 s_74 => ?_)
        refine zr_istore (pc := 1634) (ls' := [(5, _), (0, _), (1, _), (2, _), (3, _), (4, _)]) hC dL_law_1634 (nlt hN (Nat.le_of_ble_eq_true rfl)) rfl ?_
        refine zr_aload_n (pc := 1636) (i := 2) 3 hC dL_law_1636 rfl rfl ?_
        refine zr_aload_n (pc := 1637) (i := 0) 1 hC dL_law_1637 rfl rfl ?_
        refine zr_iload (pc := 1638) 5 hC dL_law_1638 rfl ?_
        refine zr_iconst (pc := 1640) (v := (1 : Int32)) hC dL_law_1640 ic_1 ?_
        refine zr_iadd (pc := 1641) hC dL_law_1641 ?_
        refine zr_scd (pc := 1642) hC hX dL_law_1642 ?_
        refine zr_callV (pc := 1643) (As := fun ad => [.int (xs (v4 + (1 : Int32)).toNatClampNeg)]) (st1 := []) hC (by omega) (kX12_fits _ (xs (v4 + (1 : Int32)).toNatClampNeg) _) (Nat.le_of_ble_eq_true rfl) mc_yX12_fits m_1967 m_1968 m_1969 mem_69 lay_69 rfl rfl rfl rfl (Nat.le_of_ble_eq_true rfl) dL_law_1643 (fun y_75 s_75 => ?_)
        refine zr_istore (pc := 1646) (ls' := [(6, _), (5, _), (0, _), (1, _), (2, _), (3, _), (4, _)]) hC dL_law_1646 (nlt hN (Nat.le_of_ble_eq_true rfl)) rfl ?_
        refine zr_aload_n (pc := 1648) (i := 2) 4 hC dL_law_1648 rfl rfl ?_
        refine zr_callV (pc := 1649) (As := fun ad => []) (st1 := []) hC (by omega) (kX12_thrown _  _) (Nat.le_of_ble_eq_true rfl) mc_yX12_thrown m_1594 m_1595 m_1596 mem_69 lay_69 rfl rfl rfl rfl (Nat.le_of_ble_eq_true rfl) dL_law_1649 (fun y_76 s_76 => ?_)
        refine zr_iload (pc := 1652) 1 hC dL_law_1652 rfl ?_
        refine zr_icmp_eq (pc := 1654) (tgt := 1659) hC dL_law_1654 (by decide) (fun c_ => ?_) (fun c_ => ?_)
        · refine zr_iload (pc := 1659) 1 hC dL_law_1659 rfl ?_
          refine zr_if_ne (pc := 1661) (tgt := 1676) hC dL_law_1661 (by decide) (fun c_ => ?_) (fun c_ => ?_)
          · refine zr_aload_n (pc := 1664) (i := 3) 5 hC dL_law_1664 rfl rfl ?_
            refine zr_iconst (pc := 1665) (v := (0 : Int32)) hC dL_law_1665 ic_0 ?_
            refine zr_lald (pc := 1666) hC mem_111 lay_111 dL_law_1666 ?_
            refine zr_iload (pc := 1667) 0 hC dL_law_1667 rfl ?_
            refine zr_i2l (pc := 1669) hC dL_law_1669 ?_
            refine zr_lcmp (pc := 1670) hC dL_law_1670 ?_
            refine zr_if_eq (pc := 1671) (tgt := 1676) hC dL_law_1671 (by decide) (fun c_ => ?_) (fun c_ => ?_)
            · refine zr_goto (pc := 1676) (tgt := 1863) hC dL_law_1676 (by decide) ?_
              refine zr_iinc (pc := 1863) (q := 6) (ls' := [(4, _), (6, _), (5, _), (0, _), (1, _), (2, _), (3, _)]) hC dL_law_1863 rfl (inc_6 _) (nlt hN (Nat.le_of_ble_eq_true rfl)) rfl ?_
              refine zr_goto (pc := 1866) (tgt := 23) hC dL_law_1866 (by decide) ?_
              refine zr_sub (ls' := [(0, _), (1, _), (2, _), (3, _), (4, _)]) [3, 4, 5, 6, 0] rfl ?_
              refine zr_widen (x' := x + 8) (by omega) ?_
              exact ih (v4 + (6 : Int32)) s_76 (x + 8) (by omega)
            · refine zr_iconst (pc := 1674) (v := (0 : Int32)) hC dL_law_1674 ic_0 ?_
              exact zr_none
          · refine zr_goto (pc := 1676) (tgt := 1863) hC dL_law_1676 (by decide) ?_
            refine zr_iinc (pc := 1863) (q := 6) (ls' := [(4, _), (6, _), (5, _), (0, _), (1, _), (2, _), (3, _)]) hC dL_law_1863 rfl (inc_6 _) (nlt hN (Nat.le_of_ble_eq_true rfl)) rfl ?_
            refine zr_goto (pc := 1866) (tgt := 23) hC dL_law_1866 (by decide) ?_
            refine zr_sub (ls' := [(0, _), (1, _), (2, _), (3, _), (4, _)]) [3, 4, 5, 6, 0] rfl ?_
            refine zr_widen (x' := x + 8) (by omega) ?_
            exact ih (v4 + (6 : Int32)) s_76 (x + 8) (by omega)
        · refine zr_iconst (pc := 1657) (v := (0 : Int32)) hC dL_law_1657 ic_0 ?_
          exact zr_none
      refine zr_tcase (pc := 40) (v := (28 : Int32)) (off := 1639) (tgt := 1679) hC dL_law_40 (by decide) (by decide) (by decide) (by decide) ?_ (fun e28 => ?_)
      · refine zr_aload_n (pc := 1679) (i := 1) 1 hC dL_law_1679 rfl rfl ?_
        refine zr_aload_n (pc := 1680) (i := 0) 0 hC dL_law_1680 rfl rfl ?_
        refine zr_iload (pc := 1681) 4 hC dL_law_1681 rfl ?_
        refine zr_iconst (pc := 1683) (v := (1 : Int32)) hC dL_law_1683 ic_1 ?_
        refine zr_iadd (pc := 1684) hC dL_law_1684 ?_
        refine zr_scd (pc := 1685) hC hX dL_law_1685 ?_
        refine zr_aload_n (pc := 1686) (i := 0) 0 hC dL_law_1686 rfl rfl ?_
        refine zr_iload (pc := 1687) 4 hC dL_law_1687 rfl ?_
        refine zr_iconst (pc := 1689) (v := (2 : Int32)) hC dL_law_1689 ic_2 ?_
        refine zr_iadd (pc := 1690) hC dL_law_1690 ?_
        refine zr_scd (pc := 1691) hC hX dL_law_1691 ?_
        refine zr_aload_n (pc := 1692) (i := 0) 0 hC dL_law_1692 rfl rfl ?_
        refine zr_iload (pc := 1693) 4 hC dL_law_1693 rfl ?_
        refine zr_iconst (pc := 1695) (v := (3 : Int32)) hC dL_law_1695 ic_3 ?_
        refine zr_iadd (pc := 1696) hC dL_law_1696 ?_
        refine zr_scd (pc := 1697) hC hX dL_law_1697 ?_
        refine zr_aload_n (pc := 1698) (i := 3) 3 hC dL_law_1698 rfl rfl ?_
        refine zr_callW (pc := 1699) (xm' := 4) (n := 5) (As := fun ad => [.ref (ad 0), .int (xs (v4 + (1 : Int32)).toNatClampNeg), .int (xs (v4 + (2 : Int32)).toNatClampNeg), .int (xs (v4 + (3 : Int32)).toNatClampNeg), .ref (ad 111)]) (st1 := []) hC (by omega) (kL_suitors _ hst (xs (v4 + (1 : Int32)).toNatClampNeg) (xs (v4 + (2 : Int32)).toNatClampNeg) (xs (v4 + (3 : Int32)).toNatClampNeg) _) (Nat.le_of_ble_eq_true rfl) mw_1344 m_0 (Nat.le_of_ble_eq_true rfl) ⟨by decide, by decide, by decide +kernel⟩ m_1342 m_1343 rfl rfl (Nat.le_of_ble_eq_true rfl) dL_law_1699 (fun y_77 s_77 => ?_)
        refine zr_istore (pc := 1702) (ls' := [(5, _), (0, _), (1, _), (2, _), (3, _), (4, _)]) hC dL_law_1702 (nlt hN (Nat.le_of_ble_eq_true rfl)) rfl ?_
        refine zr_aload_n (pc := 1704) (i := 2) 3 hC dL_law_1704 rfl rfl ?_
        refine zr_aload_n (pc := 1705) (i := 0) 1 hC dL_law_1705 rfl rfl ?_
        refine zr_iload (pc := 1706) 5 hC dL_law_1706 rfl ?_
        refine zr_iconst (pc := 1708) (v := (1 : Int32)) hC dL_law_1708 ic_1 ?_
        refine zr_iadd (pc := 1709) hC dL_law_1709 ?_
        refine zr_scd (pc := 1710) hC hX dL_law_1710 ?_
        refine zr_aload_n (pc := 1711) (i := 0) 1 hC dL_law_1711 rfl rfl ?_
        refine zr_iload (pc := 1712) 5 hC dL_law_1712 rfl ?_
        refine zr_iconst (pc := 1714) (v := (2 : Int32)) hC dL_law_1714 ic_2 ?_
        refine zr_iadd (pc := 1715) hC dL_law_1715 ?_
        refine zr_scd (pc := 1716) hC hX dL_law_1716 ?_
        refine zr_aload_n (pc := 1717) (i := 0) 1 hC dL_law_1717 rfl rfl ?_
        refine zr_iload (pc := 1718) 5 hC dL_law_1718 rfl ?_
        refine zr_iconst (pc := 1720) (v := (3 : Int32)) hC dL_law_1720 ic_3 ?_
        refine zr_iadd (pc := 1721) hC dL_law_1721 ?_
        refine zr_scd (pc := 1722) hC hX dL_law_1722 ?_
        refine zr_callV (pc := 1723) (As := fun ad => [.int (xs (v4 + (1 : Int32)).toNatClampNeg), .int (xs (v4 + (2 : Int32)).toNatClampNeg), .int (xs (v4 + (3 : Int32)).toNatClampNeg)]) (st1 := []) hC (by omega) (kX12_suitors _ (xs (v4 + (1 : Int32)).toNatClampNeg) (xs (v4 + (2 : Int32)).toNatClampNeg) (xs (v4 + (3 : Int32)).toNatClampNeg) _) (Nat.le_of_ble_eq_true rfl) mc_yX12_suitors m_1975 m_1976 m_1977 mem_69 lay_69 rfl rfl rfl rfl (Nat.le_of_ble_eq_true rfl) dL_law_1723 (fun y_78 s_78 => ?_)
        refine zr_istore (pc := 1726) (ls' := [(6, _), (5, _), (0, _), (1, _), (2, _), (3, _), (4, _)]) hC dL_law_1726 (nlt hN (Nat.le_of_ble_eq_true rfl)) rfl ?_
        refine zr_aload_n (pc := 1728) (i := 2) 4 hC dL_law_1728 rfl rfl ?_
        refine zr_callV (pc := 1729) (As := fun ad => []) (st1 := []) hC (by omega) (kX12_thrown _  _) (Nat.le_of_ble_eq_true rfl) mc_yX12_thrown m_1594 m_1595 m_1596 mem_69 lay_69 rfl rfl rfl rfl (Nat.le_of_ble_eq_true rfl) dL_law_1729 (fun y_79 s_79 => ?_)
        refine zr_iload (pc := 1732) 1 hC dL_law_1732 rfl ?_
        refine zr_icmp_eq (pc := 1734) (tgt := 1739) hC dL_law_1734 (by decide) (fun c_ => ?_) (fun c_ => ?_)
        · refine zr_iload (pc := 1739) 1 hC dL_law_1739 rfl ?_
          refine zr_if_ne (pc := 1741) (tgt := 1756) hC dL_law_1741 (by decide) (fun c_ => ?_) (fun c_ => ?_)
          · refine zr_aload_n (pc := 1744) (i := 3) 5 hC dL_law_1744 rfl rfl ?_
            refine zr_iconst (pc := 1745) (v := (0 : Int32)) hC dL_law_1745 ic_0 ?_
            refine zr_lald (pc := 1746) hC mem_111 lay_111 dL_law_1746 ?_
            refine zr_iload (pc := 1747) 0 hC dL_law_1747 rfl ?_
            refine zr_i2l (pc := 1749) hC dL_law_1749 ?_
            refine zr_lcmp (pc := 1750) hC dL_law_1750 ?_
            refine zr_if_eq (pc := 1751) (tgt := 1756) hC dL_law_1751 (by decide) (fun c_ => ?_) (fun c_ => ?_)
            · refine zr_goto (pc := 1756) (tgt := 1863) hC dL_law_1756 (by decide) ?_
              refine zr_iinc (pc := 1863) (q := 6) (ls' := [(4, _), (6, _), (5, _), (0, _), (1, _), (2, _), (3, _)]) hC dL_law_1863 rfl (inc_6 _) (nlt hN (Nat.le_of_ble_eq_true rfl)) rfl ?_
              refine zr_goto (pc := 1866) (tgt := 23) hC dL_law_1866 (by decide) ?_
              refine zr_sub (ls' := [(0, _), (1, _), (2, _), (3, _), (4, _)]) [3, 4, 5, 6, 0] rfl ?_
              refine zr_widen (x' := x + 8) (by omega) ?_
              exact ih (v4 + (6 : Int32)) s_79 (x + 8) (by omega)
            · refine zr_iconst (pc := 1754) (v := (0 : Int32)) hC dL_law_1754 ic_0 ?_
              exact zr_none
          · refine zr_goto (pc := 1756) (tgt := 1863) hC dL_law_1756 (by decide) ?_
            refine zr_iinc (pc := 1863) (q := 6) (ls' := [(4, _), (6, _), (5, _), (0, _), (1, _), (2, _), (3, _)]) hC dL_law_1863 rfl (inc_6 _) (nlt hN (Nat.le_of_ble_eq_true rfl)) rfl ?_
            refine zr_goto (pc := 1866) (tgt := 23) hC dL_law_1866 (by decide) ?_
            refine zr_sub (ls' := [(0, _), (1, _), (2, _), (3, _), (4, _)]) [3, 4, 5, 6, 0] rfl ?_
            refine zr_widen (x' := x + 8) (by omega) ?_
            exact ih (v4 + (6 : Int32)) s_79 (x + 8) (by omega)
        · refine zr_iconst (pc := 1737) (v := (0 : Int32)) hC dL_law_1737 ic_0 ?_
          exact zr_none
      refine zr_tcase (pc := 40) (v := (29 : Int32)) (off := 1719) (tgt := 1759) hC dL_law_40 (by decide) (by decide) (by decide) (by decide) ?_ (fun e29 => ?_)
      · refine zr_aload_n (pc := 1759) (i := 1) 1 hC dL_law_1759 rfl rfl ?_
        refine zr_aload_n (pc := 1760) (i := 0) 0 hC dL_law_1760 rfl rfl ?_
        refine zr_iload (pc := 1761) 4 hC dL_law_1761 rfl ?_
        refine zr_iconst (pc := 1763) (v := (1 : Int32)) hC dL_law_1763 ic_1 ?_
        refine zr_iadd (pc := 1764) hC dL_law_1764 ?_
        refine zr_scd (pc := 1765) hC hX dL_law_1765 ?_
        refine zr_aload_n (pc := 1766) (i := 0) 0 hC dL_law_1766 rfl rfl ?_
        refine zr_iload (pc := 1767) 4 hC dL_law_1767 rfl ?_
        refine zr_iconst (pc := 1769) (v := (2 : Int32)) hC dL_law_1769 ic_2 ?_
        refine zr_iadd (pc := 1770) hC dL_law_1770 ?_
        refine zr_scd (pc := 1771) hC hX dL_law_1771 ?_
        refine zr_aload_n (pc := 1772) (i := 0) 0 hC dL_law_1772 rfl rfl ?_
        refine zr_iload (pc := 1773) 4 hC dL_law_1773 rfl ?_
        refine zr_iconst (pc := 1775) (v := (3 : Int32)) hC dL_law_1775 ic_3 ?_
        refine zr_iadd (pc := 1776) hC dL_law_1776 ?_
        refine zr_scd (pc := 1777) hC hX dL_law_1777 ?_
        refine zr_aload_n (pc := 1778) (i := 3) 3 hC dL_law_1778 rfl rfl ?_
        refine zr_callW (pc := 1779) (xm' := 1) (n := 5) (As := fun ad => [.ref (ad 0), .int (xs (v4 + (1 : Int32)).toNatClampNeg), .int (xs (v4 + (2 : Int32)).toNatClampNeg), .int (xs (v4 + (3 : Int32)).toNatClampNeg), .ref (ad 111)]) (st1 := []) hC (by omega) (kL_century _ hst (xs (v4 + (1 : Int32)).toNatClampNeg) (xs (v4 + (2 : Int32)).toNatClampNeg) (xs (v4 + (3 : Int32)).toNatClampNeg) _) (Nat.le_of_ble_eq_true rfl) mw_1363 m_0 (Nat.le_of_ble_eq_true rfl) ⟨by decide, by decide, by decide +kernel⟩ m_1361 m_1362 rfl rfl (Nat.le_of_ble_eq_true rfl) dL_law_1779 (fun y_80 s_80 => ?_)
        refine zr_istore (pc := 1782) (ls' := [(5, _), (0, _), (1, _), (2, _), (3, _), (4, _)]) hC dL_law_1782 (nlt hN (Nat.le_of_ble_eq_true rfl)) rfl ?_
        refine zr_aload_n (pc := 1784) (i := 2) 3 hC dL_law_1784 rfl rfl ?_
        refine zr_aload_n (pc := 1785) (i := 0) 1 hC dL_law_1785 rfl rfl ?_
        refine zr_iload (pc := 1786) 5 hC dL_law_1786 rfl ?_
        refine zr_iconst (pc := 1788) (v := (1 : Int32)) hC dL_law_1788 ic_1 ?_
        refine zr_iadd (pc := 1789) hC dL_law_1789 ?_
        refine zr_scd (pc := 1790) hC hX dL_law_1790 ?_
        refine zr_aload_n (pc := 1791) (i := 0) 1 hC dL_law_1791 rfl rfl ?_
        refine zr_iload (pc := 1792) 5 hC dL_law_1792 rfl ?_
        refine zr_iconst (pc := 1794) (v := (2 : Int32)) hC dL_law_1794 ic_2 ?_
        refine zr_iadd (pc := 1795) hC dL_law_1795 ?_
        refine zr_scd (pc := 1796) hC hX dL_law_1796 ?_
        refine zr_aload_n (pc := 1797) (i := 0) 1 hC dL_law_1797 rfl rfl ?_
        refine zr_iload (pc := 1798) 5 hC dL_law_1798 rfl ?_
        refine zr_iconst (pc := 1800) (v := (3 : Int32)) hC dL_law_1800 ic_3 ?_
        refine zr_iadd (pc := 1801) hC dL_law_1801 ?_
        refine zr_scd (pc := 1802) hC hX dL_law_1802 ?_
        refine zr_callV (pc := 1803) (As := fun ad => [.int (xs (v4 + (1 : Int32)).toNatClampNeg), .int (xs (v4 + (2 : Int32)).toNatClampNeg), .int (xs (v4 + (3 : Int32)).toNatClampNeg)]) (st1 := []) hC (by omega) (kX12_century _ (xs (v4 + (1 : Int32)).toNatClampNeg) (xs (v4 + (2 : Int32)).toNatClampNeg) (xs (v4 + (3 : Int32)).toNatClampNeg) _) (Nat.le_of_ble_eq_true rfl) mc_yX12_century m_1983 m_1984 m_1985 mem_69 lay_69 rfl rfl rfl rfl (Nat.le_of_ble_eq_true rfl) dL_law_1803 (fun y_81 s_81 => ?_)
        refine zr_istore (pc := 1806) (ls' := [(6, _), (5, _), (0, _), (1, _), (2, _), (3, _), (4, _)]) hC dL_law_1806 (nlt hN (Nat.le_of_ble_eq_true rfl)) rfl ?_
        refine zr_aload_n (pc := 1808) (i := 2) 4 hC dL_law_1808 rfl rfl ?_
        refine zr_callV (pc := 1809) (As := fun ad => []) (st1 := []) hC (by omega) (kX12_thrown _  _) (Nat.le_of_ble_eq_true rfl) mc_yX12_thrown m_1594 m_1595 m_1596 mem_69 lay_69 rfl rfl rfl rfl (Nat.le_of_ble_eq_true rfl) dL_law_1809 (fun y_82 s_82 => ?_)
        refine zr_iload (pc := 1812) 1 hC dL_law_1812 rfl ?_
        refine zr_icmp_eq (pc := 1814) (tgt := 1819) hC dL_law_1814 (by decide) (fun c_ => ?_) (fun c_ => ?_)
        · refine zr_iload (pc := 1819) 1 hC dL_law_1819 rfl ?_
          refine zr_if_ne (pc := 1821) (tgt := 1836) hC dL_law_1821 (by decide) (fun c_ => ?_) (fun c_ => ?_)
          · refine zr_aload_n (pc := 1824) (i := 3) 5 hC dL_law_1824 rfl rfl ?_
            refine zr_iconst (pc := 1825) (v := (0 : Int32)) hC dL_law_1825 ic_0 ?_
            refine zr_lald (pc := 1826) hC mem_111 lay_111 dL_law_1826 ?_
            refine zr_iload (pc := 1827) 0 hC dL_law_1827 rfl ?_
            refine zr_i2l (pc := 1829) hC dL_law_1829 ?_
            refine zr_lcmp (pc := 1830) hC dL_law_1830 ?_
            refine zr_if_eq (pc := 1831) (tgt := 1836) hC dL_law_1831 (by decide) (fun c_ => ?_) (fun c_ => ?_)
            · refine zr_goto (pc := 1836) (tgt := 1863) hC dL_law_1836 (by decide) ?_
              refine zr_iinc (pc := 1863) (q := 6) (ls' := [(4, _), (6, _), (5, _), (0, _), (1, _), (2, _), (3, _)]) hC dL_law_1863 rfl (inc_6 _) (nlt hN (Nat.le_of_ble_eq_true rfl)) rfl ?_
              refine zr_goto (pc := 1866) (tgt := 23) hC dL_law_1866 (by decide) ?_
              refine zr_sub (ls' := [(0, _), (1, _), (2, _), (3, _), (4, _)]) [3, 4, 5, 6, 0] rfl ?_
              refine zr_widen (x' := x + 8) (by omega) ?_
              exact ih (v4 + (6 : Int32)) s_82 (x + 8) (by omega)
            · refine zr_iconst (pc := 1834) (v := (0 : Int32)) hC dL_law_1834 ic_0 ?_
              exact zr_none
          · refine zr_goto (pc := 1836) (tgt := 1863) hC dL_law_1836 (by decide) ?_
            refine zr_iinc (pc := 1863) (q := 6) (ls' := [(4, _), (6, _), (5, _), (0, _), (1, _), (2, _), (3, _)]) hC dL_law_1863 rfl (inc_6 _) (nlt hN (Nat.le_of_ble_eq_true rfl)) rfl ?_
            refine zr_goto (pc := 1866) (tgt := 23) hC dL_law_1866 (by decide) ?_
            refine zr_sub (ls' := [(0, _), (1, _), (2, _), (3, _), (4, _)]) [3, 4, 5, 6, 0] rfl ?_
            refine zr_widen (x' := x + 8) (by omega) ?_
            exact ih (v4 + (6 : Int32)) s_82 (x + 8) (by omega)
        · refine zr_iconst (pc := 1817) (v := (0 : Int32)) hC dL_law_1817 ic_0 ?_
          exact zr_none
      refine zr_tcase (pc := 40) (v := (30 : Int32)) (off := 1799) (tgt := 1839) hC dL_law_40 (by decide) (by decide) (by decide) (by decide) ?_ (fun e30 => ?_)
      · refine zr_aload_n (pc := 1839) (i := 1) 1 hC dL_law_1839 rfl rfl ?_
        refine zr_callVv (pc := 1840) (As := fun ad => []) (st1 := []) hC (by omega) (kX11_image _  _) (Nat.le_of_ble_eq_true rfl) mc_yX11_image m_610 m_611 m_612 mem_0 lay_0 rfl rfl rfl rfl (Nat.le_of_ble_eq_true rfl) dL_law_1840 (fun y_83 s_83 => ?_)
        refine zr_aload_n (pc := 1843) (i := 2) 2 hC dL_law_1843 rfl rfl ?_
        refine zr_callVv (pc := 1844) (As := fun ad => []) (st1 := []) hC (by omega) (kX12_image _  _) (Nat.le_of_ble_eq_true rfl) mc_yX12_image m_1998 m_1999 m_2000 mem_69 lay_69 rfl rfl rfl rfl (Nat.le_of_ble_eq_true rfl) dL_law_1844 (fun y_84 s_84 => ?_)
        refine zr_goto (pc := 1847) (tgt := 1863) hC dL_law_1847 (by decide) ?_
        refine zr_iinc (pc := 1863) (q := 4) (ls' := [(4, _), (0, _), (1, _), (2, _), (3, _)]) hC dL_law_1863 rfl (inc_6 _) (nlt hN (Nat.le_of_ble_eq_true rfl)) rfl ?_
        refine zr_goto (pc := 1866) (tgt := 23) hC dL_law_1866 (by decide) ?_
        refine zr_sub (ls' := [(0, _), (1, _), (2, _), (3, _), (4, _)]) [1, 2, 3, 4, 0] rfl ?_
        refine zr_widen (x' := x + 8) (by omega) ?_
        exact ih (v4 + (6 : Int32)) s_84 (x + 8) (by omega)
      refine zr_tcase (pc := 40) (v := (31 : Int32)) (off := 1810) (tgt := 1850) hC dL_law_40 (by decide) (by decide) (by decide) (by decide) ?_ (fun e31 => ?_)
      · refine zr_aload_n (pc := 1850) (i := 1) 1 hC dL_law_1850 rfl rfl ?_
        refine zr_callV (pc := 1851) (As := fun ad => []) (st1 := []) hC (by omega) (kX11_restore _  _) (Nat.le_of_ble_eq_true rfl) mc_yX11_restore m_624 m_625 m_626 mem_0 lay_0 rfl rfl rfl rfl (Nat.le_of_ble_eq_true rfl) dL_law_1851 (fun y_85 s_85 => ?_)
        refine zr_aload_n (pc := 1854) (i := 2) 2 hC dL_law_1854 rfl rfl ?_
        refine zr_callV (pc := 1855) (As := fun ad => []) (st1 := [.int y_85]) hC (by omega) (kX12_restore _  _) (Nat.le_of_ble_eq_true rfl) mc_yX12_restore m_2005 m_2006 m_2007 mem_69 lay_69 rfl rfl rfl rfl (Nat.le_of_ble_eq_true rfl) dL_law_1855 (fun y_86 s_86 => ?_)
        refine zr_icmp_eq (pc := 1858) (tgt := 1863) hC dL_law_1858 (by decide) (fun c_ => ?_) (fun c_ => ?_)
        · refine zr_iinc (pc := 1863) (q := 4) (ls' := [(4, _), (0, _), (1, _), (2, _), (3, _)]) hC dL_law_1863 rfl (inc_6 _) (nlt hN (Nat.le_of_ble_eq_true rfl)) rfl ?_
          refine zr_goto (pc := 1866) (tgt := 23) hC dL_law_1866 (by decide) ?_
          refine zr_sub (ls' := [(0, _), (1, _), (2, _), (3, _), (4, _)]) [1, 2, 3, 4, 0] rfl ?_
          refine zr_widen (x' := x + 8) (by omega) ?_
          exact ih (v4 + (6 : Int32)) s_86 (x + 8) (by omega)
        · refine zr_iconst (pc := 1861) (v := (0 : Int32)) hC dL_law_1861 ic_0 ?_
          exact zr_none
      refine zr_tdef (pc := 40) (tgt := 1863) [(0 : Int32), (1 : Int32), (2 : Int32), (3 : Int32), (4 : Int32), (5 : Int32), (6 : Int32), (7 : Int32), (8 : Int32), (9 : Int32), (10 : Int32), (11 : Int32), (12 : Int32), (13 : Int32), (14 : Int32), (15 : Int32), (16 : Int32), (17 : Int32), (18 : Int32), (19 : Int32), (20 : Int32), (21 : Int32), (22 : Int32), (23 : Int32), (24 : Int32), (25 : Int32), (26 : Int32), (27 : Int32), (28 : Int32), (29 : Int32), (30 : Int32), (31 : Int32)] hC dL_law_40 (List.forall_mem_cons.mpr ⟨e0, List.forall_mem_cons.mpr ⟨e1, List.forall_mem_cons.mpr ⟨e2, List.forall_mem_cons.mpr ⟨e3, List.forall_mem_cons.mpr ⟨e4, List.forall_mem_cons.mpr ⟨e5, List.forall_mem_cons.mpr ⟨e6, List.forall_mem_cons.mpr ⟨e7, List.forall_mem_cons.mpr ⟨e8, List.forall_mem_cons.mpr ⟨e9, List.forall_mem_cons.mpr ⟨e10, List.forall_mem_cons.mpr ⟨e11, List.forall_mem_cons.mpr ⟨e12, List.forall_mem_cons.mpr ⟨e13, List.forall_mem_cons.mpr ⟨e14, List.forall_mem_cons.mpr ⟨e15, List.forall_mem_cons.mpr ⟨e16, List.forall_mem_cons.mpr ⟨e17, List.forall_mem_cons.mpr ⟨e18, List.forall_mem_cons.mpr ⟨e19, List.forall_mem_cons.mpr ⟨e20, List.forall_mem_cons.mpr ⟨e21, List.forall_mem_cons.mpr ⟨e22, List.forall_mem_cons.mpr ⟨e23, List.forall_mem_cons.mpr ⟨e24, List.forall_mem_cons.mpr ⟨e25, List.forall_mem_cons.mpr ⟨e26, List.forall_mem_cons.mpr ⟨e27, List.forall_mem_cons.mpr ⟨e28, List.forall_mem_cons.mpr ⟨e29, List.forall_mem_cons.mpr ⟨e30, List.forall_mem_cons.mpr ⟨e31, fun _ h => absurd h List.not_mem_nil⟩⟩⟩⟩⟩⟩⟩⟩⟩⟩⟩⟩⟩⟩⟩⟩⟩⟩⟩⟩⟩⟩⟩⟩⟩⟩⟩⟩⟩⟩⟩⟩) (by decide) (by decide) (by decide) ?_
      refine zr_iinc (pc := 1863) (q := 4) (ls' := [(4, _), (0, _), (1, _), (2, _), (3, _)]) hC dL_law_1863 rfl (inc_6 _) (nlt hN (Nat.le_of_ble_eq_true rfl)) rfl ?_
      refine zr_goto (pc := 1866) (tgt := 23) hC dL_law_1866 (by decide) ?_
      refine zr_sub (ls' := [(0, _), (1, _), (2, _), (3, _), (4, _)]) [1, 2, 3, 4, 0] rfl ?_
      refine zr_widen (x' := x + 8) (by omega) ?_
      exact ih (v4 + (6 : Int32)) s (x + 8) (by omega)
