def fX12_weather_L63 (k99 : Int32 → St → Option (Int32 × St)) (c1 : Int32) (c2 : Int32) : Nat → Int32 → Int32 → St → Option (Int32 × St)
  | 0, _, _, _ => none
  | n + 1, v3, v4, s =>
    if inA (0 : Int32) 10 then
    (if (s 71 (0 : Int32).toNatClampNeg) ≤ v4 then
    (k99 v3 s)
  else
    (if inA v4 24 then
    (if (s 73 v4.toNatClampNeg) = c1 then
    (fX12_weather_L63 k99 c1 c2 n (v3 + (1 : Int32)) (v4 + (1 : Int32)) s)
  else
    (fX12_weather_L63 k99 c1 c2 n (v3 + (0 : Int32)) (v4 + (1 : Int32)) s)) else none)) else none
set_option maxRecDepth 100000 in
set_option maxHeartbeats 4000000 in
theorem tX12_weather_L63 (c1 : Int32) (c2 : Int32) (k99 : Int32 → St → Option (Int32 × St)) (X : KX) (hC : Ctx X RX12 cX12_weather FULL 3 0) (hR : RC X (some .int)) (hN : X_nL X = 5) (hk99 : ∀ (v3 : Int32) (s : St), Zr X (QFN X (some .int)) 0 s 99 [(0, .ref (X_ad X 69)), (1, .int c1), (2, .int c2), (3, .int v3)] [] (k99 v3 s)) : ∀ (n : Nat) (v3 : Int32) (v4 : Int32) (s : St), Zr X (QFN X (some .int)) 0 s 63 [(0, .ref (X_ad X 69)), (1, .int c1), (2, .int c2), (3, .int v3), (4, .int v4)] [] (fX12_weather_L63 k99 c1 c2 n v3 v4 s) := by
  intro n
  induction n with
  | zero =>
    intro v3 v4 s
    exact zr_none
  | succ n ih =>
    intro v3 v4 s
    rw [fX12_weather_L63]
    refine zr_iload (pc := 63) 4 hC dX12_weather_63 rfl ?_
    refine zr_aload_n (pc := 65) (i := 0) 0 hC dX12_weather_65 rfl rfl ?_
    refine zr_getR (pc := 66) (j := 2) (k1 := 71) hC mem_69 lay_69 rfl rfl (Nat.le_of_ble_eq_true rfl) iX12 m_1397 dX12_weather_66 ?_
    refine zr_iconst (pc := 69) (v := (0 : Int32)) hC dX12_weather_69 ic_0 ?_
    refine zr_iald (pc := 70) hC mem_71 lay_71 dX12_weather_70 ?_
    refine zr_icmp_ge (pc := 71) (tgt := 99) hC dX12_weather_71 (by decide) (fun c_ => ?_) (fun c_ => ?_)
    · refine zr_sub (ls' := [(0, _), (1, _), (2, _), (3, _)]) [0, 1, 2, 3] rfl ?_
      exact hk99 v3 s
    · refine zr_iload_n (pc := 74) (i := 3) 3 hC dX12_weather_74 rfl rfl ?_
      refine zr_aload_n (pc := 75) (i := 0) 0 hC dX12_weather_75 rfl rfl ?_
      refine zr_getR (pc := 76) (j := 4) (k1 := 73) hC mem_69 lay_69 rfl rfl (Nat.le_of_ble_eq_true rfl) iX12 m_1399 dX12_weather_76 ?_
      refine zr_iload (pc := 79) 4 hC dX12_weather_79 rfl ?_
      refine zr_iald (pc := 81) hC mem_73 lay_73 dX12_weather_81 ?_
      refine zr_iload_n (pc := 82) (i := 1) 1 hC dX12_weather_82 rfl rfl ?_
      refine zr_icmp_ne (pc := 83) (tgt := 90) hC dX12_weather_83 (by decide) (fun c_ => ?_) (fun c_ => ?_)
      · refine zr_iconst (pc := 86) (v := (1 : Int32)) hC dX12_weather_86 ic_1 ?_
        refine zr_goto (pc := 87) (tgt := 91) hC dX12_weather_87 (by decide) ?_
        refine zr_iadd (pc := 91) hC dX12_weather_91 ?_
        refine zr_istore_n (pc := 92) (i := 3) (ls' := [(3, _), (0, _), (1, _), (2, _), (4, _)]) hC dX12_weather_92 rfl (nlt hN (Nat.le_of_ble_eq_true rfl)) rfl ?_
        refine zr_iinc (pc := 93) (q := 4) (ls' := [(4, _), (3, _), (0, _), (1, _), (2, _)]) hC dX12_weather_93 rfl (inc_1 _) (nlt hN (Nat.le_of_ble_eq_true rfl)) rfl ?_
        refine zr_goto (pc := 96) (tgt := 63) hC dX12_weather_96 (by decide) ?_
        refine zr_sub (ls' := [(0, _), (1, _), (2, _), (3, _), (4, _)]) [2, 3, 4, 1, 0] rfl ?_
        exact ih (v3 + (1 : Int32)) (v4 + (1 : Int32)) s
      · refine zr_iconst (pc := 90) (v := (0 : Int32)) hC dX12_weather_90 ic_0 ?_
        refine zr_iadd (pc := 91) hC dX12_weather_91 ?_
        refine zr_istore_n (pc := 92) (i := 3) (ls' := [(3, _), (0, _), (1, _), (2, _), (4, _)]) hC dX12_weather_92 rfl (nlt hN (Nat.le_of_ble_eq_true rfl)) rfl ?_
        refine zr_iinc (pc := 93) (q := 4) (ls' := [(4, _), (3, _), (0, _), (1, _), (2, _)]) hC dX12_weather_93 rfl (inc_1 _) (nlt hN (Nat.le_of_ble_eq_true rfl)) rfl ?_
        refine zr_goto (pc := 96) (tgt := 63) hC dX12_weather_96 (by decide) ?_
        refine zr_sub (ls' := [(0, _), (1, _), (2, _), (3, _), (4, _)]) [2, 3, 4, 1, 0] rfl ?_
        exact ih (v3 + (0 : Int32)) (v4 + (1 : Int32)) s
def fX12_weather (a1 : Int32) (a2 : Int32) (s : St) : Option (Int32 × St) :=
  let s_1 := wr s 69 1 (0 : Int32);
    bd (fX12_isIn (Int32.toInt64 a1) (0 : Int64) (9 : Int64) s_1) (fun y_2 s_2 =>
    if y_2 = 0 then
    (bd (fX12_fail (1 : Int32) s_2) (fun y_3 s_3 =>
    some (y_3, s_3)))
  else
    (bd (fX12_isIn (Int32.toInt64 a2) (0 : Int64) (6 : Int64) s_2) (fun y_4 s_4 =>
    if y_4 = 0 then
    (bd (fX12_fail (1 : Int32) s_4) (fun y_8 s_8 =>
    some (y_8, s_8)))
  else
    (if (4 : Int32) ≤ a2 then
    (if a2 = (4 : Int32) then
    (bd (fX12_kindOf a1 s_4) (fun y_6 s_6 =>
    some (y_6, s_6)))
  else
    (fX12_weather_L63 (fun v3_5 s_5 => if a2 = (5 : Int32) then
    (some (v3_5, s_5))
  else
    (if inA a1 10 then
    (some ((s_5 88 a1.toNatClampNeg), s_5)) else none)) a1 a2 FU (0 : Int32) (0 : Int32) s_4))
  else
    (bd (fX12_partAt a1 a2 s_4) (fun y_7 s_7 =>
    some (y_7, s_7)))))))
set_option maxRecDepth 100000 in
set_option maxHeartbeats 4000000 in
theorem kX12_weather (l : Launch)  (a1 : Int32) (a2 : Int32) (s : St) : CN l yX12_weather cX12_weather 5 (some .int) 3 FULL (fun ad => [.ref (ad 69), .int a1, .int a2]) s (fX12_weather a1 a2 s) := by
  refine cn_of (by decide) (fun _ => (Nat.le_of_ble_eq_true rfl)) (fun X hC hR hl hN => ?_)
  subst hl
  show Zr X (QFN X (some .int)) 0 s 0 [(0, .ref (X_ad X 69)), (1, .int a1), (2, .int a2)] [] _
  rw [fX12_weather]
  refine zr_aload_n (pc := 0) (i := 0) 0 hC dX12_weather_0 rfl rfl ?_
  refine zr_iconst (pc := 1) (v := (0 : Int32)) hC dX12_weather_1 ic_0 ?_
  refine zr_putInt (pc := 2) (j := 1) hC mem_69 lay_69 rfl rfl (Nat.le_of_ble_eq_true rfl) iX12 tyX12_ok nmX12 m_1396 rfl (by decide +kernel) dX12_weather_2 ?_
  refine zr_iload_n (pc := 5) (i := 1) 1 hC dX12_weather_5 rfl rfl ?_
  refine zr_i2l (pc := 6) hC dX12_weather_6 ?_
  refine zr_lconst (pc := 7) (v := (0 : Int64)) hC dX12_weather_7 rfl ?_
  refine zr_ldc2 (pc := 8) hC dX12_weather_8 m_1785 ?_
  refine zr_callS (pc := 11) (As := fun ad => [.long (Int32.toInt64 a1), .long (0 : Int64), .long (9 : Int64)]) (st1 := []) hC (Nat.le_of_ble_eq_true rfl) (kX12_isIn _ (Int32.toInt64 a1) (0 : Int64) (9 : Int64) _) (Nat.le_of_ble_eq_true rfl) mc_yX12_isIn m_1766 m_1767 rfl rfl rfl (Nat.le_of_ble_eq_true rfl) dX12_weather_11 (fun y_2 s_2 => ?_)
  refine zr_if_eq (pc := 14) (tgt := 29) hC dX12_weather_14 (by decide) (fun c_ => ?_) (fun c_ => ?_)
  · refine zr_aload_n (pc := 29) (i := 0) 0 hC dX12_weather_29 rfl rfl ?_
    refine zr_iconst (pc := 30) (v := (1 : Int32)) hC dX12_weather_30 ic_1 ?_
    refine zr_callV (pc := 31) (As := fun ad => [.int (1 : Int32)]) (st1 := []) hC (Nat.le_of_ble_eq_true rfl) (kX12_fail _ (1 : Int32) _) (Nat.le_of_ble_eq_true rfl) mc_yX12_fail m_1606 m_1608 m_p53 mem_69 lay_69 rfl rfl rfl rfl (Nat.le_of_ble_eq_true rfl) dX12_weather_31 (fun y_3 s_3 => ?_)
    exact zr_iret (pc := 34) hC hR dX12_weather_34
  · refine zr_iload_n (pc := 17) (i := 2) 2 hC dX12_weather_17 rfl rfl ?_
    refine zr_i2l (pc := 18) hC dX12_weather_18 ?_
    refine zr_lconst (pc := 19) (v := (0 : Int64)) hC dX12_weather_19 rfl ?_
    refine zr_ldc2 (pc := 20) hC dX12_weather_20 m_1786 ?_
    refine zr_callS (pc := 23) (As := fun ad => [.long (Int32.toInt64 a2), .long (0 : Int64), .long (6 : Int64)]) (st1 := []) hC (Nat.le_of_ble_eq_true rfl) (kX12_isIn _ (Int32.toInt64 a2) (0 : Int64) (6 : Int64) _) (Nat.le_of_ble_eq_true rfl) mc_yX12_isIn m_1766 m_1767 rfl rfl rfl (Nat.le_of_ble_eq_true rfl) dX12_weather_23 (fun y_4 s_4 => ?_)
    refine zr_if_ne (pc := 26) (tgt := 35) hC dX12_weather_26 (by decide) (fun c_ => ?_) (fun c_ => ?_)
    · refine zr_aload_n (pc := 29) (i := 0) 0 hC dX12_weather_29 rfl rfl ?_
      refine zr_iconst (pc := 30) (v := (1 : Int32)) hC dX12_weather_30 ic_1 ?_
      refine zr_callV (pc := 31) (As := fun ad => [.int (1 : Int32)]) (st1 := []) hC (Nat.le_of_ble_eq_true rfl) (kX12_fail _ (1 : Int32) _) (Nat.le_of_ble_eq_true rfl) mc_yX12_fail m_1606 m_1608 m_p53 mem_69 lay_69 rfl rfl rfl rfl (Nat.le_of_ble_eq_true rfl) dX12_weather_31 (fun y_8 s_8 => ?_)
      exact zr_iret (pc := 34) hC hR dX12_weather_34
    · refine zr_iload_n (pc := 35) (i := 2) 2 hC dX12_weather_35 rfl rfl ?_
      refine zr_iconst (pc := 36) (v := (4 : Int32)) hC dX12_weather_36 ic_4 ?_
      refine zr_icmp_ge (pc := 37) (tgt := 47) hC dX12_weather_37 (by decide) (fun c_ => ?_) (fun c_ => ?_)
      · refine zr_iload_n (pc := 47) (i := 2) 2 hC dX12_weather_47 rfl rfl ?_
        refine zr_iconst (pc := 48) (v := (4 : Int32)) hC dX12_weather_48 ic_4 ?_
        refine zr_icmp_ne (pc := 49) (tgt := 58) hC dX12_weather_49 (by decide) (fun c_ => ?_) (fun c_ => ?_)
        · refine zr_aload_n (pc := 52) (i := 0) 0 hC dX12_weather_52 rfl rfl ?_
          refine zr_iload_n (pc := 53) (i := 1) 1 hC dX12_weather_53 rfl rfl ?_
          refine zr_callV (pc := 54) (As := fun ad => [.int a1]) (st1 := []) hC (Nat.le_of_ble_eq_true rfl) (kX12_kindOf _ a1 _) (Nat.le_of_ble_eq_true rfl) mc_yX12_kindOf m_1791 m_1793 m_p85 mem_69 lay_69 rfl rfl rfl rfl (Nat.le_of_ble_eq_true rfl) dX12_weather_54 (fun y_6 s_6 => ?_)
          exact zr_iret (pc := 57) hC hR dX12_weather_57
        · refine zr_iconst (pc := 58) (v := (0 : Int32)) hC dX12_weather_58 ic_0 ?_
          refine zr_istore_n (pc := 59) (i := 3) (ls' := [(3, _), (0, _), (1, _), (2, _)]) hC dX12_weather_59 rfl (nlt hN (Nat.le_of_ble_eq_true rfl)) rfl ?_
          refine zr_iconst (pc := 60) (v := (0 : Int32)) hC dX12_weather_60 ic_0 ?_
          refine zr_istore (pc := 61) (ls' := [(4, _), (3, _), (0, _), (1, _), (2, _)]) hC dX12_weather_61 (nlt hN (Nat.le_of_ble_eq_true rfl)) rfl ?_
          refine zr_sub (ls' := [(0, _), (1, _), (2, _), (3, _), (4, _)]) [2, 3, 4, 1, 0] rfl ?_
          refine tX12_weather_L63 a1 a2 _ X hC hR hN (fun v3_5 s_5 => ?_) FU (0 : Int32) (0 : Int32) _
          · refine zr_iload_n (pc := 99) (i := 2) 2 hC dX12_weather_99 rfl rfl ?_
            refine zr_iconst (pc := 100) (v := (5 : Int32)) hC dX12_weather_100 ic_5 ?_
            refine zr_icmp_ne (pc := 101) (tgt := 108) hC dX12_weather_101 (by decide) (fun c_ => ?_) (fun c_ => ?_)
            · refine zr_iload_n (pc := 104) (i := 3) 3 hC dX12_weather_104 rfl rfl ?_
              refine zr_goto (pc := 105) (tgt := 114) hC dX12_weather_105 (by decide) ?_
              exact zr_iret (pc := 114) hC hR dX12_weather_114
            · refine zr_aload_n (pc := 108) (i := 0) 0 hC dX12_weather_108 rfl rfl ?_
              refine zr_getR (pc := 109) (j := 30) (k1 := 88) hC mem_69 lay_69 rfl rfl (Nat.le_of_ble_eq_true rfl) iX12 m_1425 dX12_weather_109 ?_
              refine zr_iload_n (pc := 112) (i := 1) 1 hC dX12_weather_112 rfl rfl ?_
              refine zr_iald (pc := 113) hC mem_88 lay_88 dX12_weather_113 ?_
              exact zr_iret (pc := 114) hC hR dX12_weather_114
      · refine zr_aload_n (pc := 40) (i := 0) 0 hC dX12_weather_40 rfl rfl ?_
        refine zr_iload_n (pc := 41) (i := 1) 1 hC dX12_weather_41 rfl rfl ?_
        refine zr_iload_n (pc := 42) (i := 2) 2 hC dX12_weather_42 rfl rfl ?_
        refine zr_callV (pc := 43) (As := fun ad => [.int a1, .int a2]) (st1 := []) hC (Nat.le_of_ble_eq_true rfl) (kX12_partAt _ a1 a2 _) (Nat.le_of_ble_eq_true rfl) mc_yX12_partAt m_1787 m_1789 m_p84 mem_69 lay_69 rfl rfl rfl rfl (Nat.le_of_ble_eq_true rfl) dX12_weather_43 (fun y_7 s_7 => ?_)
        exact zr_iret (pc := 46) hC hR dX12_weather_46
def fX12_field (a1 : Int32) (a2 : Int32) (s : St) : Option (Int32 × St) :=
  let s_1 := wr s 69 1 (0 : Int32);
    if inA (2 : Int32) 10 then
    (bd (fX12_isIn (Int32.toInt64 a1) (0 : Int64) (Int32.toInt64 ((s_1 71 (2 : Int32).toNatClampNeg) - (1 : Int32))) s_1) (fun y_2 s_2 =>
    if y_2 = 0 then
    (bd (fX12_fail (1 : Int32) s_2) (fun y_5 s_5 =>
    some (y_5, s_5)))
  else
    (if a2 = (0 : Int32) then
    (if inA a1 12 then
    (some ((s_2 81 a1.toNatClampNeg), s_2)) else none)
  else
    (if a2 = (1 : Int32) then
    (if inA a1 12 then
    (some ((s_2 82 a1.toNatClampNeg), s_2)) else none)
  else
    (if a2 = (2 : Int32) then
    (if inA a1 12 then
    (some ((s_2 83 a1.toNatClampNeg), s_2)) else none)
  else
    (if a2 = (3 : Int32) then
    (if inA ((((2 : Int32) * a1) + a2) - (3 : Int32)) 12 then
    (some ((s_2 87 ((((2 : Int32) * a1) + a2) - (3 : Int32)).toNatClampNeg), s_2)) else none)
  else
    (if a2 = (4 : Int32) then
    (if inA ((((2 : Int32) * a1) + a2) - (3 : Int32)) 12 then
    (some ((s_2 87 ((((2 : Int32) * a1) + a2) - (3 : Int32)).toNatClampNeg), s_2)) else none)
  else
    (if a2 = (5 : Int32) then
    (bd (fX12_isRipe a1 s_2) (fun y_3 s_3 =>
    if y_3 = 0 then
    (some ((0 : Int32), s_3))
  else
    (some ((1 : Int32), s_3))))
  else
    (bd (fX12_fail (1 : Int32) s_2) (fun y_4 s_4 =>
    some (y_4, s_4))))))))))) else none
set_option maxRecDepth 100000 in
set_option maxHeartbeats 4000000 in
theorem kX12_field (l : Launch)  (a1 : Int32) (a2 : Int32) (s : St) : CN l yX12_field cX12_field 3 (some .int) 2 FULL (fun ad => [.ref (ad 69), .int a1, .int a2]) s (fX12_field a1 a2 s) := by
  refine cn_of (by decide) (fun _ => (Nat.le_of_ble_eq_true rfl)) (fun X hC hR hl hN => ?_)
  subst hl
  show Zr X (QFN X (some .int)) 0 s 0 [(0, .ref (X_ad X 69)), (1, .int a1), (2, .int a2)] [] _
  rw [fX12_field]
  refine zr_aload_n (pc := 0) (i := 0) 0 hC dX12_field_0 rfl rfl ?_
  refine zr_iconst (pc := 1) (v := (0 : Int32)) hC dX12_field_1 ic_0 ?_
  refine zr_putInt (pc := 2) (j := 1) hC mem_69 lay_69 rfl rfl (Nat.le_of_ble_eq_true rfl) iX12 tyX12_ok nmX12 m_1396 rfl (by decide +kernel) dX12_field_2 ?_
  refine zr_iload_n (pc := 5) (i := 1) 1 hC dX12_field_5 rfl rfl ?_
  refine zr_i2l (pc := 6) hC dX12_field_6 ?_
  refine zr_lconst (pc := 7) (v := (0 : Int64)) hC dX12_field_7 rfl ?_
  refine zr_aload_n (pc := 8) (i := 0) 0 hC dX12_field_8 rfl rfl ?_
  refine zr_getR (pc := 9) (j := 2) (k1 := 71) hC mem_69 lay_69 rfl rfl (Nat.le_of_ble_eq_true rfl) iX12 m_1397 dX12_field_9 ?_
  refine zr_iconst (pc := 12) (v := (2 : Int32)) hC dX12_field_12 ic_2 ?_
  refine zr_iald (pc := 13) hC mem_71 lay_71 dX12_field_13 ?_
  refine zr_iconst (pc := 14) (v := (1 : Int32)) hC dX12_field_14 ic_1 ?_
  refine zr_isub (pc := 15) hC dX12_field_15 ?_
  refine zr_i2l (pc := 16) hC dX12_field_16 ?_
  refine zr_callS (pc := 17) (As := fun ad => [.long (Int32.toInt64 a1), .long (0 : Int64), .long (Int32.toInt64 (((wr s 69 1 (0 : Int32)) 71 (2 : Int32).toNatClampNeg) - (1 : Int32)))]) (st1 := []) hC (Nat.le_of_ble_eq_true rfl) (kX12_isIn _ (Int32.toInt64 a1) (0 : Int64) (Int32.toInt64 (((wr s 69 1 (0 : Int32)) 71 (2 : Int32).toNatClampNeg) - (1 : Int32))) _) (Nat.le_of_ble_eq_true rfl) mc_yX12_isIn m_1766 m_1767 rfl rfl rfl (Nat.le_of_ble_eq_true rfl) dX12_field_17 (fun y_2 s_2 => ?_)
  refine zr_if_ne (pc := 20) (tgt := 29) hC dX12_field_20 (by decide) (fun c_ => ?_) (fun c_ => ?_)
  · refine zr_aload_n (pc := 23) (i := 0) 0 hC dX12_field_23 rfl rfl ?_
    refine zr_iconst (pc := 24) (v := (1 : Int32)) hC dX12_field_24 ic_1 ?_
    refine zr_callV (pc := 25) (As := fun ad => [.int (1 : Int32)]) (st1 := []) hC (Nat.le_of_ble_eq_true rfl) (kX12_fail _ (1 : Int32) _) (Nat.le_of_ble_eq_true rfl) mc_yX12_fail m_1606 m_1608 m_p53 mem_69 lay_69 rfl rfl rfl rfl (Nat.le_of_ble_eq_true rfl) dX12_field_25 (fun y_5 s_5 => ?_)
    exact zr_iret (pc := 28) hC hR dX12_field_28
  · refine zr_iload_n (pc := 29) (i := 2) 2 hC dX12_field_29 rfl rfl ?_
    refine zr_tcase (pc := 30) (v := (0 : Int32)) (off := 38) (tgt := 68) hC dX12_field_30 (by decide) (by decide) (by decide) (by decide) ?_ (fun e0 => ?_)
    · refine zr_aload_n (pc := 68) (i := 0) 0 hC dX12_field_68 rfl rfl ?_
      refine zr_getR (pc := 69) (j := 12) (k1 := 81) hC mem_69 lay_69 rfl rfl (Nat.le_of_ble_eq_true rfl) iX12 m_1407 dX12_field_69 ?_
      refine zr_iload_n (pc := 72) (i := 1) 1 hC dX12_field_72 rfl rfl ?_
      refine zr_iald (pc := 73) hC mem_81 lay_81 dX12_field_73 ?_
      exact zr_iret (pc := 74) hC hR dX12_field_74
    refine zr_tcase (pc := 30) (v := (1 : Int32)) (off := 45) (tgt := 75) hC dX12_field_30 (by decide) (by decide) (by decide) (by decide) ?_ (fun e1 => ?_)
    · refine zr_aload_n (pc := 75) (i := 0) 0 hC dX12_field_75 rfl rfl ?_
      refine zr_getR (pc := 76) (j := 13) (k1 := 82) hC mem_69 lay_69 rfl rfl (Nat.le_of_ble_eq_true rfl) iX12 m_1408 dX12_field_76 ?_
      refine zr_iload_n (pc := 79) (i := 1) 1 hC dX12_field_79 rfl rfl ?_
      refine zr_iald (pc := 80) hC mem_82 lay_82 dX12_field_80 ?_
      exact zr_iret (pc := 81) hC hR dX12_field_81
    refine zr_tcase (pc := 30) (v := (2 : Int32)) (off := 52) (tgt := 82) hC dX12_field_30 (by decide) (by decide) (by decide) (by decide) ?_ (fun e2 => ?_)
    · refine zr_aload_n (pc := 82) (i := 0) 0 hC dX12_field_82 rfl rfl ?_
      refine zr_getR (pc := 83) (j := 14) (k1 := 83) hC mem_69 lay_69 rfl rfl (Nat.le_of_ble_eq_true rfl) iX12 m_1409 dX12_field_83 ?_
      refine zr_iload_n (pc := 86) (i := 1) 1 hC dX12_field_86 rfl rfl ?_
      refine zr_iald (pc := 87) hC mem_83 lay_83 dX12_field_87 ?_
      exact zr_iret (pc := 88) hC hR dX12_field_88
    refine zr_tcase (pc := 30) (v := (3 : Int32)) (off := 59) (tgt := 89) hC dX12_field_30 (by decide) (by decide) (by decide) (by decide) ?_ (fun e3 => ?_)
    · refine zr_aload_n (pc := 89) (i := 0) 0 hC dX12_field_89 rfl rfl ?_
      refine zr_getR (pc := 90) (j := 29) (k1 := 87) hC mem_69 lay_69 rfl rfl (Nat.le_of_ble_eq_true rfl) iX12 m_1424 dX12_field_90 ?_
      refine zr_iconst (pc := 93) (v := (2 : Int32)) hC dX12_field_93 ic_2 ?_
      refine zr_iload_n (pc := 94) (i := 1) 1 hC dX12_field_94 rfl rfl ?_
      refine zr_imul (pc := 95) hC dX12_field_95 ?_
      refine zr_iload_n (pc := 96) (i := 2) 2 hC dX12_field_96 rfl rfl ?_
      refine zr_iadd (pc := 97) hC dX12_field_97 ?_
      refine zr_iconst (pc := 98) (v := (3 : Int32)) hC dX12_field_98 ic_3 ?_
      refine zr_isub (pc := 99) hC dX12_field_99 ?_
      refine zr_iald (pc := 100) hC mem_87 lay_87 dX12_field_100 ?_
      exact zr_iret (pc := 101) hC hR dX12_field_101
    refine zr_tcase (pc := 30) (v := (4 : Int32)) (off := 59) (tgt := 89) hC dX12_field_30 (by decide) (by decide) (by decide) (by decide) ?_ (fun e4 => ?_)
    · refine zr_aload_n (pc := 89) (i := 0) 0 hC dX12_field_89 rfl rfl ?_
      refine zr_getR (pc := 90) (j := 29) (k1 := 87) hC mem_69 lay_69 rfl rfl (Nat.le_of_ble_eq_true rfl) iX12 m_1424 dX12_field_90 ?_
      refine zr_iconst (pc := 93) (v := (2 : Int32)) hC dX12_field_93 ic_2 ?_
      refine zr_iload_n (pc := 94) (i := 1) 1 hC dX12_field_94 rfl rfl ?_
      refine zr_imul (pc := 95) hC dX12_field_95 ?_
      refine zr_iload_n (pc := 96) (i := 2) 2 hC dX12_field_96 rfl rfl ?_
      refine zr_iadd (pc := 97) hC dX12_field_97 ?_
      refine zr_iconst (pc := 98) (v := (3 : Int32)) hC dX12_field_98 ic_3 ?_
      refine zr_isub (pc := 99) hC dX12_field_99 ?_
      refine zr_iald (pc := 100) hC mem_87 lay_87 dX12_field_100 ?_
      exact zr_iret (pc := 101) hC hR dX12_field_101
    refine zr_tcase (pc := 30) (v := (5 : Int32)) (off := 72) (tgt := 102) hC dX12_field_30 (by decide) (by decide) (by decide) (by decide) ?_ (fun e5 => ?_)
    · refine zr_aload_n (pc := 102) (i := 0) 0 hC dX12_field_102 rfl rfl ?_
      refine zr_iload_n (pc := 103) (i := 1) 1 hC dX12_field_103 rfl rfl ?_
      refine zr_callV (pc := 104) (As := fun ad => [.int a1]) (st1 := []) hC (Nat.le_of_ble_eq_true rfl) (kX12_isRipe _ a1 _) (Nat.le_of_ble_eq_true rfl) mc_yX12_isRipe m_1750 m_1752 m_p80 mem_69 lay_69 rfl rfl rfl rfl (Nat.le_of_ble_eq_true rfl) dX12_field_104 (fun y_3 s_3 => ?_)
      refine zr_if_eq (pc := 107) (tgt := 114) hC dX12_field_107 (by decide) (fun c_ => ?_) (fun c_ => ?_)
      · refine zr_iconst (pc := 114) (v := (0 : Int32)) hC dX12_field_114 ic_0 ?_
        exact zr_iret (pc := 115) hC hR dX12_field_115
      · refine zr_iconst (pc := 110) (v := (1 : Int32)) hC dX12_field_110 ic_1 ?_
        refine zr_goto (pc := 111) (tgt := 115) hC dX12_field_111 (by decide) ?_
        exact zr_iret (pc := 115) hC hR dX12_field_115
    refine zr_tdef (pc := 30) (tgt := 116) [(0 : Int32), (1 : Int32), (2 : Int32), (3 : Int32), (4 : Int32), (5 : Int32)] hC dX12_field_30 (List.forall_mem_cons.mpr ⟨e0, List.forall_mem_cons.mpr ⟨e1, List.forall_mem_cons.mpr ⟨e2, List.forall_mem_cons.mpr ⟨e3, List.forall_mem_cons.mpr ⟨e4, List.forall_mem_cons.mpr ⟨e5, fun _ h => absurd h List.not_mem_nil⟩⟩⟩⟩⟩⟩) (by decide) (by decide) (by decide) ?_
    refine zr_aload_n (pc := 116) (i := 0) 0 hC dX12_field_116 rfl rfl ?_
    refine zr_iconst (pc := 117) (v := (1 : Int32)) hC dX12_field_117 ic_1 ?_
    refine zr_callV (pc := 118) (As := fun ad => [.int (1 : Int32)]) (st1 := []) hC (Nat.le_of_ble_eq_true rfl) (kX12_fail _ (1 : Int32) _) (Nat.le_of_ble_eq_true rfl) mc_yX12_fail m_1606 m_1608 m_p53 mem_69 lay_69 rfl rfl rfl rfl (Nat.le_of_ble_eq_true rfl) dX12_field_118 (fun y_4 s_4 => ?_)
    exact zr_iret (pc := 121) hC hR dX12_field_121
def fX12_apart_L5 (c1 : Int32) (c2 : Int32) : Nat → Int32 → Int32 → St → Option (Int32 × St)
  | 0, _, _, _ => none
  | n + 1, v3, v4, s =>
    if (4 : Int32) ≤ v4 then
    (some (v3, s))
  else
    (if inA (((4 : Int32) * c1) + v4) 96 then
    (if inA (((4 : Int32) * c2) + v4) 96 then
    (fX12_apart_L5 c1 c2 n (v3 + (jabs ((s 72 (((4 : Int32) * c1) + v4).toNatClampNeg) - (s 72 (((4 : Int32) * c2) + v4).toNatClampNeg)))) (v4 + (1 : Int32)) s) else none) else none)
set_option maxRecDepth 100000 in
set_option maxHeartbeats 4000000 in
theorem tX12_apart_L5 (c1 : Int32) (c2 : Int32) (X : KX) (hC : Ctx X RX12 cX12_apart FULL 7 0) (hR : RC X (some .int)) (hN : X_nL X = 5) : ∀ (n : Nat) (v3 : Int32) (v4 : Int32) (s : St), Zr X (QFN X (some .int)) 0 s 5 [(0, .ref (X_ad X 69)), (1, .int c1), (2, .int c2), (3, .int v3), (4, .int v4)] [] (fX12_apart_L5 c1 c2 n v3 v4 s) := by
  intro n
  induction n with
  | zero =>
    intro v3 v4 s
    exact zr_none
  | succ n ih =>
    intro v3 v4 s
    rw [fX12_apart_L5]
    refine zr_iload (pc := 5) 4 hC dX12_apart_5 rfl ?_
    refine zr_iconst (pc := 7) (v := (4 : Int32)) hC dX12_apart_7 ic_4 ?_
    refine zr_icmp_ge (pc := 8) (tgt := 46) hC dX12_apart_8 (by decide) (fun c_ => ?_) (fun c_ => ?_)
    · refine zr_iload_n (pc := 46) (i := 3) 3 hC dX12_apart_46 rfl rfl ?_
      exact zr_iret (pc := 47) hC hR dX12_apart_47
    · refine zr_iload_n (pc := 11) (i := 3) 3 hC dX12_apart_11 rfl rfl ?_
      refine zr_aload_n (pc := 12) (i := 0) 0 hC dX12_apart_12 rfl rfl ?_
      refine zr_getR (pc := 13) (j := 3) (k1 := 72) hC mem_69 lay_69 rfl rfl (Nat.le_of_ble_eq_true rfl) iX12 m_1398 dX12_apart_13 ?_
      refine zr_iconst (pc := 16) (v := (4 : Int32)) hC dX12_apart_16 ic_4 ?_
      refine zr_iload_n (pc := 17) (i := 1) 1 hC dX12_apart_17 rfl rfl ?_
      refine zr_imul (pc := 18) hC dX12_apart_18 ?_
      refine zr_iload (pc := 19) 4 hC dX12_apart_19 rfl ?_
      refine zr_iadd (pc := 21) hC dX12_apart_21 ?_
      refine zr_iald (pc := 22) hC mem_72 lay_72 dX12_apart_22 ?_
      refine zr_aload_n (pc := 23) (i := 0) 0 hC dX12_apart_23 rfl rfl ?_
      refine zr_getR (pc := 24) (j := 3) (k1 := 72) hC mem_69 lay_69 rfl rfl (Nat.le_of_ble_eq_true rfl) iX12 m_1398 dX12_apart_24 ?_
      refine zr_iconst (pc := 27) (v := (4 : Int32)) hC dX12_apart_27 ic_4 ?_
      refine zr_iload_n (pc := 28) (i := 2) 2 hC dX12_apart_28 rfl rfl ?_
      refine zr_imul (pc := 29) hC dX12_apart_29 ?_
      refine zr_iload (pc := 30) 4 hC dX12_apart_30 rfl ?_
      refine zr_iadd (pc := 32) hC dX12_apart_32 ?_
      refine zr_iald (pc := 33) hC mem_72 lay_72 dX12_apart_33 ?_
      refine zr_isub (pc := 34) hC dX12_apart_34 ?_
      refine zr_mabs (pc := 35) hC (Nat.le_of_ble_eq_true rfl) (Nat.le_of_ble_eq_true rfl) m_1815 m_599 m_23 m_600 (Nat.le_of_ble_eq_true rfl) dX12_apart_35 ?_
      refine zr_iadd (pc := 38) hC dX12_apart_38 ?_
      refine zr_istore_n (pc := 39) (i := 3) (ls' := [(3, _), (0, _), (1, _), (2, _), (4, _)]) hC dX12_apart_39 rfl (nlt hN (Nat.le_of_ble_eq_true rfl)) rfl ?_
      refine zr_iinc (pc := 40) (q := 4) (ls' := [(4, _), (3, _), (0, _), (1, _), (2, _)]) hC dX12_apart_40 rfl (inc_1 _) (nlt hN (Nat.le_of_ble_eq_true rfl)) rfl ?_
      refine zr_goto (pc := 43) (tgt := 5) hC dX12_apart_43 (by decide) ?_
      refine zr_sub (ls' := [(0, _), (1, _), (2, _), (3, _), (4, _)]) [2, 3, 4, 1, 0] rfl ?_
      exact ih (v3 + (jabs ((s 72 (((4 : Int32) * c1) + v4).toNatClampNeg) - (s 72 (((4 : Int32) * c2) + v4).toNatClampNeg)))) (v4 + (1 : Int32)) s
def fX12_apart (a1 : Int32) (a2 : Int32) (s : St) : Option (Int32 × St) :=
  fX12_apart_L5 a1 a2 FU (0 : Int32) (0 : Int32) s
set_option maxRecDepth 100000 in
set_option maxHeartbeats 4000000 in
theorem kX12_apart (l : Launch)  (a1 : Int32) (a2 : Int32) (s : St) : CN l yX12_apart cX12_apart 5 (some .int) 7 FULL (fun ad => [.ref (ad 69), .int a1, .int a2]) s (fX12_apart a1 a2 s) := by
  refine cn_of (by decide) (fun _ => (Nat.le_of_ble_eq_true rfl)) (fun X hC hR hl hN => ?_)
  subst hl
  show Zr X (QFN X (some .int)) 0 s 0 [(0, .ref (X_ad X 69)), (1, .int a1), (2, .int a2)] [] _
  rw [fX12_apart]
  refine zr_iconst (pc := 0) (v := (0 : Int32)) hC dX12_apart_0 ic_0 ?_
  refine zr_istore_n (pc := 1) (i := 3) (ls' := [(3, _), (0, _), (1, _), (2, _)]) hC dX12_apart_1 rfl (nlt hN (Nat.le_of_ble_eq_true rfl)) rfl ?_
  refine zr_iconst (pc := 2) (v := (0 : Int32)) hC dX12_apart_2 ic_0 ?_
  refine zr_istore (pc := 3) (ls' := [(4, _), (3, _), (0, _), (1, _), (2, _)]) hC dX12_apart_3 (nlt hN (Nat.le_of_ble_eq_true rfl)) rfl ?_
  refine zr_sub (ls' := [(0, _), (1, _), (2, _), (3, _), (4, _)]) [2, 3, 4, 1, 0] rfl ?_
  exact tX12_apart_L5 a1 a2 X hC hR hN FU (0 : Int32) (0 : Int32) _
def fX12_isFront (a1 : Int32) (a2 : Int32) (s : St) : Option (Int32 × St) :=
  bd (fX12_apart a1 a2 s) (fun y_1 s_1 =>
    if inA (3 : Int32) 10 then
    (if y_1 < (s_1 71 (3 : Int32).toNatClampNeg) then
    (some ((0 : Int32), s_1))
  else
    (some ((1 : Int32), s_1))) else none)
set_option maxRecDepth 100000 in
set_option maxHeartbeats 4000000 in
theorem kX12_isFront (l : Launch)  (a1 : Int32) (a2 : Int32) (s : St) : CN l yX12_isFront cX12_isFront 3 (some .boolean) 8 FULL (fun ad => [.ref (ad 69), .int a1, .int a2]) s (fX12_isFront a1 a2 s) := by
  refine cn_of (by decide) (fun _ => (Nat.le_of_ble_eq_true rfl)) (fun X hC hR hl hN => ?_)
  subst hl
  show Zr X (QFN X (some .boolean)) 0 s 0 [(0, .ref (X_ad X 69)), (1, .int a1), (2, .int a2)] [] _
  rw [fX12_isFront]
  refine zr_aload_n (pc := 0) (i := 0) 0 hC dX12_isFront_0 rfl rfl ?_
  refine zr_iload_n (pc := 1) (i := 1) 1 hC dX12_isFront_1 rfl rfl ?_
  refine zr_iload_n (pc := 2) (i := 2) 2 hC dX12_isFront_2 rfl rfl ?_
  refine zr_callV (pc := 3) (As := fun ad => [.int a1, .int a2]) (st1 := []) hC (Nat.le_of_ble_eq_true rfl) (kX12_apart _ a1 a2 _) (Nat.le_of_ble_eq_true rfl) mc_yX12_apart m_1811 m_1813 m_p88 mem_69 lay_69 rfl rfl rfl rfl (Nat.le_of_ble_eq_true rfl) dX12_isFront_3 (fun y_1 s_1 => ?_)
  refine zr_aload_n (pc := 6) (i := 0) 0 hC dX12_isFront_6 rfl rfl ?_
  refine zr_getR (pc := 7) (j := 2) (k1 := 71) hC mem_69 lay_69 rfl rfl (Nat.le_of_ble_eq_true rfl) iX12 m_1397 dX12_isFront_7 ?_
  refine zr_iconst (pc := 10) (v := (3 : Int32)) hC dX12_isFront_10 ic_3 ?_
  refine zr_iald (pc := 11) hC mem_71 lay_71 dX12_isFront_11 ?_
  refine zr_icmp_lt (pc := 12) (tgt := 19) hC dX12_isFront_12 (by decide) (fun c_ => ?_) (fun c_ => ?_)
  · refine zr_iconst (pc := 19) (v := (0 : Int32)) hC dX12_isFront_19 ic_0 ?_
    exact zr_zret (pc := 20) (by decide) hC hR dX12_isFront_20
  · refine zr_iconst (pc := 15) (v := (1 : Int32)) hC dX12_isFront_15 ic_1 ?_
    refine zr_goto (pc := 16) (tgt := 20) hC dX12_isFront_16 (by decide) ?_
    exact zr_zret (pc := 20) (by decide) hC hR dX12_isFront_20
def fX12_front (a1 : Int32) (a2 : Int32) (s : St) : Option (Int32 × St) :=
  let s_1 := wr s 69 1 (0 : Int32);
    bd (fX12_isPerson a1 s_1) (fun y_2 s_2 =>
    if y_2 = 0 then
    (bd (fX12_fail (1 : Int32) s_2) (fun y_3 s_3 =>
    some (y_3, s_3)))
  else
    (bd (fX12_isPerson a2 s_2) (fun y_4 s_4 =>
    if y_4 = 0 then
    (bd (fX12_fail (1 : Int32) s_4) (fun y_13 s_13 =>
    some (y_13, s_13)))
  else
    (if a1 = a2 then
    (bd (fX12_fail (2 : Int32) s_4) (fun y_5 s_5 =>
    some (y_5, s_5)))
  else
    (bd (fX12_isAlive a1 s_4) (fun y_6 s_6 =>
    if y_6 = 0 then
    (bd (fX12_fail (2 : Int32) s_6) (fun y_7 s_7 =>
    some (y_7, s_7)))
  else
    (bd (fX12_isAlive a2 s_6) (fun y_8 s_8 =>
    if y_8 = 0 then
    (bd (fX12_fail (2 : Int32) s_8) (fun y_12 s_12 =>
    some (y_12, s_12)))
  else
    (bd (fX12_isFront a1 a2 s_8) (fun y_9 s_9 =>
    if y_9 = 0 then
    (bd (fX12_apart a1 a2 s_9) (fun y_10 s_10 =>
    some (y_10, s_10)))
  else
    (bd (fX12_apart a1 a2 s_9) (fun y_11 s_11 =>
    some (((-1 : Int32) - y_11), s_11)))))))))))))
set_option maxRecDepth 100000 in
set_option maxHeartbeats 4000000 in
theorem kX12_front (l : Launch)  (a1 : Int32) (a2 : Int32) (s : St) : CN l yX12_front cX12_front 3 (some .int) 9 FULL (fun ad => [.ref (ad 69), .int a1, .int a2]) s (fX12_front a1 a2 s) := by
  refine cn_of (by decide) (fun _ => (Nat.le_of_ble_eq_true rfl)) (fun X hC hR hl hN => ?_)
  subst hl
  show Zr X (QFN X (some .int)) 0 s 0 [(0, .ref (X_ad X 69)), (1, .int a1), (2, .int a2)] [] _
  rw [fX12_front]
  refine zr_aload_n (pc := 0) (i := 0) 0 hC dX12_front_0 rfl rfl ?_
  refine zr_iconst (pc := 1) (v := (0 : Int32)) hC dX12_front_1 ic_0 ?_
  refine zr_putInt (pc := 2) (j := 1) hC mem_69 lay_69 rfl rfl (Nat.le_of_ble_eq_true rfl) iX12 tyX12_ok nmX12 m_1396 rfl (by decide +kernel) dX12_front_2 ?_
  refine zr_aload_n (pc := 5) (i := 0) 0 hC dX12_front_5 rfl rfl ?_
  refine zr_iload_n (pc := 6) (i := 1) 1 hC dX12_front_6 rfl rfl ?_
  refine zr_callV (pc := 7) (As := fun ad => [.int a1]) (st1 := []) hC (Nat.le_of_ble_eq_true rfl) (kX12_isPerson _ a1 _) (Nat.le_of_ble_eq_true rfl) mc_yX12_isPerson m_1762 m_1764 m_p82 mem_69 lay_69 rfl rfl rfl rfl (Nat.le_of_ble_eq_true rfl) dX12_front_7 (fun y_2 s_2 => ?_)
  refine zr_if_eq (pc := 10) (tgt := 21) hC dX12_front_10 (by decide) (fun c_ => ?_) (fun c_ => ?_)
  · refine zr_aload_n (pc := 21) (i := 0) 0 hC dX12_front_21 rfl rfl ?_
    refine zr_iconst (pc := 22) (v := (1 : Int32)) hC dX12_front_22 ic_1 ?_
    refine zr_callV (pc := 23) (As := fun ad => [.int (1 : Int32)]) (st1 := []) hC (Nat.le_of_ble_eq_true rfl) (kX12_fail _ (1 : Int32) _) (Nat.le_of_ble_eq_true rfl) mc_yX12_fail m_1606 m_1608 m_p53 mem_69 lay_69 rfl rfl rfl rfl (Nat.le_of_ble_eq_true rfl) dX12_front_23 (fun y_3 s_3 => ?_)
    exact zr_iret (pc := 26) hC hR dX12_front_26
  · refine zr_aload_n (pc := 13) (i := 0) 0 hC dX12_front_13 rfl rfl ?_
    refine zr_iload_n (pc := 14) (i := 2) 2 hC dX12_front_14 rfl rfl ?_
    refine zr_callV (pc := 15) (As := fun ad => [.int a2]) (st1 := []) hC (Nat.le_of_ble_eq_true rfl) (kX12_isPerson _ a2 _) (Nat.le_of_ble_eq_true rfl) mc_yX12_isPerson m_1762 m_1764 m_p82 mem_69 lay_69 rfl rfl rfl rfl (Nat.le_of_ble_eq_true rfl) dX12_front_15 (fun y_4 s_4 => ?_)
    refine zr_if_ne (pc := 18) (tgt := 27) hC dX12_front_18 (by decide) (fun c_ => ?_) (fun c_ => ?_)
    · refine zr_aload_n (pc := 21) (i := 0) 0 hC dX12_front_21 rfl rfl ?_
      refine zr_iconst (pc := 22) (v := (1 : Int32)) hC dX12_front_22 ic_1 ?_
      refine zr_callV (pc := 23) (As := fun ad => [.int (1 : Int32)]) (st1 := []) hC (Nat.le_of_ble_eq_true rfl) (kX12_fail _ (1 : Int32) _) (Nat.le_of_ble_eq_true rfl) mc_yX12_fail m_1606 m_1608 m_p53 mem_69 lay_69 rfl rfl rfl rfl (Nat.le_of_ble_eq_true rfl) dX12_front_23 (fun y_13 s_13 => ?_)
      exact zr_iret (pc := 26) hC hR dX12_front_26
    · refine zr_iload_n (pc := 27) (i := 1) 1 hC dX12_front_27 rfl rfl ?_
      refine zr_iload_n (pc := 28) (i := 2) 2 hC dX12_front_28 rfl rfl ?_
      refine zr_icmp_eq (pc := 29) (tgt := 48) hC dX12_front_29 (by decide) (fun c_ => ?_) (fun c_ => ?_)
      · refine zr_aload_n (pc := 48) (i := 0) 0 hC dX12_front_48 rfl rfl ?_
        refine zr_iconst (pc := 49) (v := (2 : Int32)) hC dX12_front_49 ic_2 ?_
        refine zr_callV (pc := 50) (As := fun ad => [.int (2 : Int32)]) (st1 := []) hC (Nat.le_of_ble_eq_true rfl) (kX12_fail _ (2 : Int32) _) (Nat.le_of_ble_eq_true rfl) mc_yX12_fail m_1606 m_1608 m_p53 mem_69 lay_69 rfl rfl rfl rfl (Nat.le_of_ble_eq_true rfl) dX12_front_50 (fun y_5 s_5 => ?_)
        exact zr_iret (pc := 53) hC hR dX12_front_53
      · refine zr_aload_n (pc := 32) (i := 0) 0 hC dX12_front_32 rfl rfl ?_
        refine zr_iload_n (pc := 33) (i := 1) 1 hC dX12_front_33 rfl rfl ?_
        refine zr_callV (pc := 34) (As := fun ad => [.int a1]) (st1 := []) hC (Nat.le_of_ble_eq_true rfl) (kX12_isAlive _ a1 _) (Nat.le_of_ble_eq_true rfl) mc_yX12_isAlive m_1769 m_1771 m_p83 mem_69 lay_69 rfl rfl rfl rfl (Nat.le_of_ble_eq_true rfl) dX12_front_34 (fun y_6 s_6 => ?_)
        refine zr_if_eq (pc := 37) (tgt := 48) hC dX12_front_37 (by decide) (fun c_ => ?_) (fun c_ => ?_)
        · refine zr_aload_n (pc := 48) (i := 0) 0 hC dX12_front_48 rfl rfl ?_
          refine zr_iconst (pc := 49) (v := (2 : Int32)) hC dX12_front_49 ic_2 ?_
          refine zr_callV (pc := 50) (As := fun ad => [.int (2 : Int32)]) (st1 := []) hC (Nat.le_of_ble_eq_true rfl) (kX12_fail _ (2 : Int32) _) (Nat.le_of_ble_eq_true rfl) mc_yX12_fail m_1606 m_1608 m_p53 mem_69 lay_69 rfl rfl rfl rfl (Nat.le_of_ble_eq_true rfl) dX12_front_50 (fun y_7 s_7 => ?_)
          exact zr_iret (pc := 53) hC hR dX12_front_53
        · refine zr_aload_n (pc := 40) (i := 0) 0 hC dX12_front_40 rfl rfl ?_
          refine zr_iload_n (pc := 41) (i := 2) 2 hC dX12_front_41 rfl rfl ?_
          refine zr_callV (pc := 42) (As := fun ad => [.int a2]) (st1 := []) hC (Nat.le_of_ble_eq_true rfl) (kX12_isAlive _ a2 _) (Nat.le_of_ble_eq_true rfl) mc_yX12_isAlive m_1769 m_1771 m_p83 mem_69 lay_69 rfl rfl rfl rfl (Nat.le_of_ble_eq_true rfl) dX12_front_42 (fun y_8 s_8 => ?_)
          refine zr_if_ne (pc := 45) (tgt := 54) hC dX12_front_45 (by decide) (fun c_ => ?_) (fun c_ => ?_)
          · refine zr_aload_n (pc := 48) (i := 0) 0 hC dX12_front_48 rfl rfl ?_
            refine zr_iconst (pc := 49) (v := (2 : Int32)) hC dX12_front_49 ic_2 ?_
            refine zr_callV (pc := 50) (As := fun ad => [.int (2 : Int32)]) (st1 := []) hC (Nat.le_of_ble_eq_true rfl) (kX12_fail _ (2 : Int32) _) (Nat.le_of_ble_eq_true rfl) mc_yX12_fail m_1606 m_1608 m_p53 mem_69 lay_69 rfl rfl rfl rfl (Nat.le_of_ble_eq_true rfl) dX12_front_50 (fun y_12 s_12 => ?_)
            exact zr_iret (pc := 53) hC hR dX12_front_53
          · refine zr_aload_n (pc := 54) (i := 0) 0 hC dX12_front_54 rfl rfl ?_
            refine zr_iload_n (pc := 55) (i := 1) 1 hC dX12_front_55 rfl rfl ?_
            refine zr_iload_n (pc := 56) (i := 2) 2 hC dX12_front_56 rfl rfl ?_
            refine zr_callV (pc := 57) (As := fun ad => [.int a1, .int a2]) (st1 := []) hC (Nat.le_of_ble_eq_true rfl) (kX12_isFront _ a1 a2 _) (Nat.le_of_ble_eq_true rfl) mc_yX12_isFront m_1807 m_1809 m_p87 mem_69 lay_69 rfl rfl rfl rfl (Nat.le_of_ble_eq_true rfl) dX12_front_57 (fun y_9 s_9 => ?_)
            refine zr_if_eq (pc := 60) (tgt := 74) hC dX12_front_60 (by decide) (fun c_ => ?_) (fun c_ => ?_)
            · refine zr_aload_n (pc := 74) (i := 0) 0 hC dX12_front_74 rfl rfl ?_
              refine zr_iload_n (pc := 75) (i := 1) 1 hC dX12_front_75 rfl rfl ?_
              refine zr_iload_n (pc := 76) (i := 2) 2 hC dX12_front_76 rfl rfl ?_
              refine zr_callV (pc := 77) (As := fun ad => [.int a1, .int a2]) (st1 := []) hC (Nat.le_of_ble_eq_true rfl) (kX12_apart _ a1 a2 _) (Nat.le_of_ble_eq_true rfl) mc_yX12_apart m_1811 m_1813 m_p88 mem_69 lay_69 rfl rfl rfl rfl (Nat.le_of_ble_eq_true rfl) dX12_front_77 (fun y_10 s_10 => ?_)
              exact zr_iret (pc := 80) hC hR dX12_front_80
            · refine zr_iconst (pc := 63) (v := (-1 : Int32)) hC dX12_front_63 ic_m1 ?_
              refine zr_aload_n (pc := 64) (i := 0) 0 hC dX12_front_64 rfl rfl ?_
              refine zr_iload_n (pc := 65) (i := 1) 1 hC dX12_front_65 rfl rfl ?_
              refine zr_iload_n (pc := 66) (i := 2) 2 hC dX12_front_66 rfl rfl ?_
              refine zr_callV (pc := 67) (As := fun ad => [.int a1, .int a2]) (st1 := [.int (-1 : Int32)]) hC (Nat.le_of_ble_eq_true rfl) (kX12_apart _ a1 a2 _) (Nat.le_of_ble_eq_true rfl) mc_yX12_apart m_1811 m_1813 m_p88 mem_69 lay_69 rfl rfl rfl rfl (Nat.le_of_ble_eq_true rfl) dX12_front_67 (fun y_11 s_11 => ?_)
              refine zr_isub (pc := 70) hC dX12_front_70 ?_
              refine zr_goto (pc := 71) (tgt := 80) hC dX12_front_71 (by decide) ?_
              exact zr_iret (pc := 80) hC hR dX12_front_80
def fX12_isOf (a1 : Int32) (a2 : Int32) (s : St) : Option (Int32 × St) :=
  if inA a1 24 then
    (if (s 74 a1.toNatClampNeg) = a2 then
    (some ((1 : Int32), s))
  else
    (if inA a1 24 then
    (if (s 75 a1.toNatClampNeg) = a2 then
    (some ((1 : Int32), s))
  else
    (some ((0 : Int32), s))) else none)) else none
set_option maxRecDepth 100000 in
set_option maxHeartbeats 4000000 in
theorem kX12_isOf (l : Launch)  (a1 : Int32) (a2 : Int32) (s : St) : CN l yX12_isOf cX12_isOf 3 (some .boolean) 1 FULL (fun ad => [.ref (ad 69), .int a1, .int a2]) s (fX12_isOf a1 a2 s) := by
  refine cn_of (by decide) (fun _ => (Nat.le_of_ble_eq_true rfl)) (fun X hC hR hl hN => ?_)
  subst hl
  show Zr X (QFN X (some .boolean)) 0 s 0 [(0, .ref (X_ad X 69)), (1, .int a1), (2, .int a2)] [] _
  rw [fX12_isOf]
  refine zr_aload_n (pc := 0) (i := 0) 0 hC dX12_isOf_0 rfl rfl ?_
  refine zr_getR (pc := 1) (j := 5) (k1 := 74) hC mem_69 lay_69 rfl rfl (Nat.le_of_ble_eq_true rfl) iX12 m_1400 dX12_isOf_1 ?_
  refine zr_iload_n (pc := 4) (i := 1) 1 hC dX12_isOf_4 rfl rfl ?_
  refine zr_iald (pc := 5) hC mem_74 lay_74 dX12_isOf_5 ?_
  refine zr_iload_n (pc := 6) (i := 2) 2 hC dX12_isOf_6 rfl rfl ?_
  refine zr_icmp_eq (pc := 7) (tgt := 20) hC dX12_isOf_7 (by decide) (fun c_ => ?_) (fun c_ => ?_)
  · refine zr_iconst (pc := 20) (v := (1 : Int32)) hC dX12_isOf_20 ic_1 ?_
    refine zr_goto (pc := 21) (tgt := 25) hC dX12_isOf_21 (by decide) ?_
    exact zr_zret (pc := 25) (by decide) hC hR dX12_isOf_25
  · refine zr_aload_n (pc := 10) (i := 0) 0 hC dX12_isOf_10 rfl rfl ?_
    refine zr_getR (pc := 11) (j := 6) (k1 := 75) hC mem_69 lay_69 rfl rfl (Nat.le_of_ble_eq_true rfl) iX12 m_1401 dX12_isOf_11 ?_
    refine zr_iload_n (pc := 14) (i := 1) 1 hC dX12_isOf_14 rfl rfl ?_
    refine zr_iald (pc := 15) hC mem_75 lay_75 dX12_isOf_15 ?_
    refine zr_iload_n (pc := 16) (i := 2) 2 hC dX12_isOf_16 rfl rfl ?_
    refine zr_icmp_ne (pc := 17) (tgt := 24) hC dX12_isOf_17 (by decide) (fun c_ => ?_) (fun c_ => ?_)
    · refine zr_iconst (pc := 20) (v := (1 : Int32)) hC dX12_isOf_20 ic_1 ?_
      refine zr_goto (pc := 21) (tgt := 25) hC dX12_isOf_21 (by decide) ?_
      exact zr_zret (pc := 25) (by decide) hC hR dX12_isOf_25
    · refine zr_iconst (pc := 24) (v := (0 : Int32)) hC dX12_isOf_24 ic_0 ?_
      exact zr_zret (pc := 25) (by decide) hC hR dX12_isOf_25
def fX12_kin_L29 (k61 : St → Option (Int32 × St)) (c1 : Int32) (c2 : Int32) : Nat → Int32 → St → Option (Int32 × St)
  | 0, _, _ => none
  | n + 1, v3, s =>
    if inA (0 : Int32) 10 then
    (if (s 71 (0 : Int32).toNatClampNeg) ≤ v3 then
    (k61 s)
  else
    (if v3 = c1 then
    (if inA v3 12 then
    (let s_6 := wr s 93 v3.toNatClampNeg (0 : Int32);
    fX12_kin_L29 k61 c1 c2 n (v3 + (1 : Int32)) s_6) else none)
  else
    (if inA v3 12 then
    (let s_5 := wr s 93 v3.toNatClampNeg (-1 : Int32);
    fX12_kin_L29 k61 c1 c2 n (v3 + (1 : Int32)) s_5) else none))) else none
set_option maxRecDepth 100000 in
set_option maxHeartbeats 4000000 in
theorem tX12_kin_L29 (c1 : Int32) (c2 : Int32) (k61 : St → Option (Int32 × St)) (X : KX) (hC : Ctx X RX12 cX12_kin FULL 3 0) (hR : RC X (some .int)) (hN : X_nL X = 6) (hk61 : ∀ (s : St), Zr X (QFN X (some .int)) 0 s 61 [(0, .ref (X_ad X 69)), (2, .int c2)] [] (k61 s)) : ∀ (n : Nat) (v3 : Int32) (s : St), Zr X (QFN X (some .int)) 0 s 29 [(0, .ref (X_ad X 69)), (1, .int c1), (2, .int c2), (3, .int v3)] [] (fX12_kin_L29 k61 c1 c2 n v3 s) := by
  intro n
  induction n with
  | zero =>
    intro v3 s
    exact zr_none
  | succ n ih =>
    intro v3 s
    rw [fX12_kin_L29]
    refine zr_iload_n (pc := 29) (i := 3) 3 hC dX12_kin_29 rfl rfl ?_
    refine zr_aload_n (pc := 30) (i := 0) 0 hC dX12_kin_30 rfl rfl ?_
    refine zr_getR (pc := 31) (j := 2) (k1 := 71) hC mem_69 lay_69 rfl rfl (Nat.le_of_ble_eq_true rfl) iX12 m_1397 dX12_kin_31 ?_
    refine zr_iconst (pc := 34) (v := (0 : Int32)) hC dX12_kin_34 ic_0 ?_
    refine zr_iald (pc := 35) hC mem_71 lay_71 dX12_kin_35 ?_
    refine zr_icmp_ge (pc := 36) (tgt := 61) hC dX12_kin_36 (by decide) (fun c_ => ?_) (fun c_ => ?_)
    · refine zr_sub (ls' := [(0, _), (2, _)]) [0, 2] rfl ?_
      exact hk61 s
    · refine zr_aload_n (pc := 39) (i := 0) 0 hC dX12_kin_39 rfl rfl ?_
      refine zr_getR (pc := 40) (j := 39) (k1 := 93) hC mem_69 lay_69 rfl rfl (Nat.le_of_ble_eq_true rfl) iX12 m_1434 dX12_kin_40 ?_
      refine zr_iload_n (pc := 43) (i := 3) 3 hC dX12_kin_43 rfl rfl ?_
      refine zr_iload_n (pc := 44) (i := 3) 3 hC dX12_kin_44 rfl rfl ?_
      refine zr_iload_n (pc := 45) (i := 1) 1 hC dX12_kin_45 rfl rfl ?_
      refine zr_icmp_ne (pc := 46) (tgt := 53) hC dX12_kin_46 (by decide) (fun c_ => ?_) (fun c_ => ?_)
      · refine zr_iconst (pc := 49) (v := (0 : Int32)) hC dX12_kin_49 ic_0 ?_
        refine zr_goto (pc := 50) (tgt := 54) hC dX12_kin_50 (by decide) ?_
        refine zr_iast (pc := 54) hC mem_93 lay_93 dX12_kin_54 ?_
        refine zr_iinc (pc := 55) (q := 3) (ls' := [(3, _), (0, _), (1, _), (2, _)]) hC dX12_kin_55 rfl (inc_1 _) (nlt hN (Nat.le_of_ble_eq_true rfl)) rfl ?_
        refine zr_goto (pc := 58) (tgt := 29) hC dX12_kin_58 (by decide) ?_
        refine zr_sub (ls' := [(0, _), (1, _), (2, _), (3, _)]) [1, 2, 3, 0] rfl ?_
        exact ih (v3 + (1 : Int32)) (wr s 93 v3.toNatClampNeg (0 : Int32))
      · refine zr_iconst (pc := 53) (v := (-1 : Int32)) hC dX12_kin_53 ic_m1 ?_
        refine zr_iast (pc := 54) hC mem_93 lay_93 dX12_kin_54 ?_
        refine zr_iinc (pc := 55) (q := 3) (ls' := [(3, _), (0, _), (1, _), (2, _)]) hC dX12_kin_55 rfl (inc_1 _) (nlt hN (Nat.le_of_ble_eq_true rfl)) rfl ?_
        refine zr_goto (pc := 58) (tgt := 29) hC dX12_kin_58 (by decide) ?_
        refine zr_sub (ls' := [(0, _), (1, _), (2, _), (3, _)]) [1, 2, 3, 0] rfl ?_
        exact ih (v3 + (1 : Int32)) (wr s 93 v3.toNatClampNeg (-1 : Int32))
def fX12_kin_L90 (k173 : St → Option (Int32 × St)) (c2 : Int32) (c3 : Int32) (c4 : Int32) : Nat → Int32 → St → Option (Int32 × St)
  | 0, _, _ => none
  | n + 1, v5, s =>
    if inA (0 : Int32) 10 then
    (if (s 71 (0 : Int32).toNatClampNeg) ≤ v5 then
    (k173 s)
  else
    (if inA c4 12 then
    (if (s 93 c4.toNatClampNeg) = c3 then
    (if inA v5 12 then
    (if (s 93 v5.toNatClampNeg) = (-1 : Int32) then
    (bd (fX12_isOf c4 v5 s) (fun y_8 s_8 =>
    if y_8 = 0 then
    (bd (fX12_isOf v5 c4 s_8) (fun y_10 s_10 =>
    if y_10 = 0 then
    (if inA c4 24 then
    (if (s_10 77 c4.toNatClampNeg) = v5 then
    (if inA v5 12 then
    (let s_12 := wr s_10 93 v5.toNatClampNeg (c3 + (1 : Int32));
    fX12_kin_L90 k173 c2 c3 c4 n (v5 + (1 : Int32)) s_12) else none)
  else
    (fX12_kin_L90 k173 c2 c3 c4 n (v5 + (1 : Int32)) s_10)) else none)
  else
    (if inA v5 12 then
    (let s_11 := wr s_10 93 v5.toNatClampNeg (c3 + (1 : Int32));
    fX12_kin_L90 k173 c2 c3 c4 n (v5 + (1 : Int32)) s_11) else none)))
  else
    (if inA v5 12 then
    (let s_9 := wr s_8 93 v5.toNatClampNeg (c3 + (1 : Int32));
    fX12_kin_L90 k173 c2 c3 c4 n (v5 + (1 : Int32)) s_9) else none)))
  else
    (fX12_kin_L90 k173 c2 c3 c4 n (v5 + (1 : Int32)) s)) else none)
  else
    (k173 s)) else none)) else none
set_option maxRecDepth 100000 in
set_option maxHeartbeats 4000000 in
theorem tX12_kin_L90 (c2 : Int32) (c3 : Int32) (c4 : Int32) (k173 : St → Option (Int32 × St)) (X : KX) (hC : Ctx X RX12 cX12_kin FULL 3 0) (hR : RC X (some .int)) (hN : X_nL X = 6) (hk173 : ∀ (s : St), Zr X (QFN X (some .int)) 0 s 173 [(0, .ref (X_ad X 69)), (2, .int c2), (3, .int c3), (4, .int c4)] [] (k173 s)) : ∀ (n : Nat) (v5 : Int32) (s : St), Zr X (QFN X (some .int)) 0 s 90 [(0, .ref (X_ad X 69)), (2, .int c2), (3, .int c3), (4, .int c4), (5, .int v5)] [] (fX12_kin_L90 k173 c2 c3 c4 n v5 s) := by
  intro n
  induction n with
  | zero =>
    intro v5 s
    exact zr_none
  | succ n ih =>
    intro v5 s
    rw [fX12_kin_L90]
    refine zr_iload (pc := 90) 4 hC dX12_kin_90 rfl ?_
    refine zr_aload_n (pc := 92) (i := 0) 0 hC dX12_kin_92 rfl rfl ?_
    refine zr_getR (pc := 93) (j := 2) (k1 := 71) hC mem_69 lay_69 rfl rfl (Nat.le_of_ble_eq_true rfl) iX12 m_1397 dX12_kin_93 ?_
    refine zr_iconst (pc := 96) (v := (0 : Int32)) hC dX12_kin_96 ic_0 ?_
    refine zr_iald (pc := 97) hC mem_71 lay_71 dX12_kin_97 ?_
    refine zr_icmp_ge (pc := 98) (tgt := 173) hC dX12_kin_98 (by decide) (fun c_ => ?_) (fun c_ => ?_)
    · refine zr_sub (ls' := [(0, _), (2, _), (3, _), (4, _)]) [0, 1, 2, 3] rfl ?_
      exact hk173 s
    · refine zr_aload_n (pc := 101) (i := 0) 0 hC dX12_kin_101 rfl rfl ?_
      refine zr_getR (pc := 102) (j := 39) (k1 := 93) hC mem_69 lay_69 rfl rfl (Nat.le_of_ble_eq_true rfl) iX12 m_1434 dX12_kin_102 ?_
      refine zr_iload (pc := 105) 3 hC dX12_kin_105 rfl ?_
      refine zr_iald (pc := 107) hC mem_93 lay_93 dX12_kin_107 ?_
      refine zr_iload_n (pc := 108) (i := 3) 2 hC dX12_kin_108 rfl rfl ?_
      refine zr_icmp_ne (pc := 109) (tgt := 173) hC dX12_kin_109 (by decide) (fun c_ => ?_) (fun c_ => ?_)
      · refine zr_aload_n (pc := 112) (i := 0) 0 hC dX12_kin_112 rfl rfl ?_
        refine zr_getR (pc := 113) (j := 39) (k1 := 93) hC mem_69 lay_69 rfl rfl (Nat.le_of_ble_eq_true rfl) iX12 m_1434 dX12_kin_113 ?_
        refine zr_iload (pc := 116) 4 hC dX12_kin_116 rfl ?_
        refine zr_iald (pc := 118) hC mem_93 lay_93 dX12_kin_118 ?_
        refine zr_iconst (pc := 119) (v := (-1 : Int32)) hC dX12_kin_119 ic_m1 ?_
        refine zr_icmp_ne (pc := 120) (tgt := 167) hC dX12_kin_120 (by decide) (fun c_ => ?_) (fun c_ => ?_)
        · refine zr_aload_n (pc := 123) (i := 0) 0 hC dX12_kin_123 rfl rfl ?_
          refine zr_iload (pc := 124) 3 hC dX12_kin_124 rfl ?_
          refine zr_iload (pc := 126) 4 hC dX12_kin_126 rfl ?_
          refine zr_callV (pc := 128) (As := fun ad => [.int c4, .int v5]) (st1 := []) hC (Nat.le_of_ble_eq_true rfl) (kX12_isOf _ c4 v5 _) (Nat.le_of_ble_eq_true rfl) mc_yX12_isOf m_1820 m_1822 m_p89 mem_69 lay_69 rfl rfl rfl rfl (Nat.le_of_ble_eq_true rfl) dX12_kin_128 (fun y_8 s_8 => ?_)
          refine zr_if_ne (pc := 131) (tgt := 157) hC dX12_kin_131 (by decide) (fun c_ => ?_) (fun c_ => ?_)
          · refine zr_aload_n (pc := 134) (i := 0) 0 hC dX12_kin_134 rfl rfl ?_
            refine zr_iload (pc := 135) 4 hC dX12_kin_135 rfl ?_
            refine zr_iload (pc := 137) 3 hC dX12_kin_137 rfl ?_
            refine zr_callV (pc := 139) (As := fun ad => [.int v5, .int c4]) (st1 := []) hC (Nat.le_of_ble_eq_true rfl) (kX12_isOf _ v5 c4 _) (Nat.le_of_ble_eq_true rfl) mc_yX12_isOf m_1820 m_1822 m_p89 mem_69 lay_69 rfl rfl rfl rfl (Nat.le_of_ble_eq_true rfl) dX12_kin_139 (fun y_10 s_10 => ?_)
            refine zr_if_ne (pc := 142) (tgt := 157) hC dX12_kin_142 (by decide) (fun c_ => ?_) (fun c_ => ?_)
            · refine zr_aload_n (pc := 145) (i := 0) 0 hC dX12_kin_145 rfl rfl ?_
              refine zr_getR (pc := 146) (j := 8) (k1 := 77) hC mem_69 lay_69 rfl rfl (Nat.le_of_ble_eq_true rfl) iX12 m_1403 dX12_kin_146 ?_
              refine zr_iload (pc := 149) 3 hC dX12_kin_149 rfl ?_
              refine zr_iald (pc := 151) hC mem_77 lay_77 dX12_kin_151 ?_
              refine zr_iload (pc := 152) 4 hC dX12_kin_152 rfl ?_
              refine zr_icmp_ne (pc := 154) (tgt := 167) hC dX12_kin_154 (by decide) (fun c_ => ?_) (fun c_ => ?_)
              · refine zr_aload_n (pc := 157) (i := 0) 0 hC dX12_kin_157 rfl rfl ?_
                refine zr_getR (pc := 158) (j := 39) (k1 := 93) hC mem_69 lay_69 rfl rfl (Nat.le_of_ble_eq_true rfl) iX12 m_1434 dX12_kin_158 ?_
                refine zr_iload (pc := 161) 4 hC dX12_kin_161 rfl ?_
                refine zr_iload_n (pc := 163) (i := 3) 2 hC dX12_kin_163 rfl rfl ?_
                refine zr_iconst (pc := 164) (v := (1 : Int32)) hC dX12_kin_164 ic_1 ?_
                refine zr_iadd (pc := 165) hC dX12_kin_165 ?_
                refine zr_iast (pc := 166) hC mem_93 lay_93 dX12_kin_166 ?_
                refine zr_iinc (pc := 167) (q := 4) (ls' := [(5, _), (0, _), (2, _), (3, _), (4, _)]) hC dX12_kin_167 rfl (inc_1 _) (nlt hN (Nat.le_of_ble_eq_true rfl)) rfl ?_
                refine zr_goto (pc := 170) (tgt := 90) hC dX12_kin_170 (by decide) ?_
                refine zr_sub (ls' := [(0, _), (2, _), (3, _), (4, _), (5, _)]) [1, 2, 3, 4, 0] rfl ?_
                exact ih (v5 + (1 : Int32)) (wr s_10 93 v5.toNatClampNeg (c3 + (1 : Int32)))
              · refine zr_iinc (pc := 167) (q := 4) (ls' := [(5, _), (0, _), (2, _), (3, _), (4, _)]) hC dX12_kin_167 rfl (inc_1 _) (nlt hN (Nat.le_of_ble_eq_true rfl)) rfl ?_
                refine zr_goto (pc := 170) (tgt := 90) hC dX12_kin_170 (by decide) ?_
                refine zr_sub (ls' := [(0, _), (2, _), (3, _), (4, _), (5, _)]) [1, 2, 3, 4, 0] rfl ?_
                exact ih (v5 + (1 : Int32)) s_10
            · refine zr_aload_n (pc := 157) (i := 0) 0 hC dX12_kin_157 rfl rfl ?_
              refine zr_getR (pc := 158) (j := 39) (k1 := 93) hC mem_69 lay_69 rfl rfl (Nat.le_of_ble_eq_true rfl) iX12 m_1434 dX12_kin_158 ?_
              refine zr_iload (pc := 161) 4 hC dX12_kin_161 rfl ?_
              refine zr_iload_n (pc := 163) (i := 3) 2 hC dX12_kin_163 rfl rfl ?_
              refine zr_iconst (pc := 164) (v := (1 : Int32)) hC dX12_kin_164 ic_1 ?_
              refine zr_iadd (pc := 165) hC dX12_kin_165 ?_
              refine zr_iast (pc := 166) hC mem_93 lay_93 dX12_kin_166 ?_
              refine zr_iinc (pc := 167) (q := 4) (ls' := [(5, _), (0, _), (2, _), (3, _), (4, _)]) hC dX12_kin_167 rfl (inc_1 _) (nlt hN (Nat.le_of_ble_eq_true rfl)) rfl ?_
              refine zr_goto (pc := 170) (tgt := 90) hC dX12_kin_170 (by decide) ?_
              refine zr_sub (ls' := [(0, _), (2, _), (3, _), (4, _), (5, _)]) [1, 2, 3, 4, 0] rfl ?_
              exact ih (v5 + (1 : Int32)) (wr s_10 93 v5.toNatClampNeg (c3 + (1 : Int32)))
          · refine zr_aload_n (pc := 157) (i := 0) 0 hC dX12_kin_157 rfl rfl ?_
            refine zr_getR (pc := 158) (j := 39) (k1 := 93) hC mem_69 lay_69 rfl rfl (Nat.le_of_ble_eq_true rfl) iX12 m_1434 dX12_kin_158 ?_
            refine zr_iload (pc := 161) 4 hC dX12_kin_161 rfl ?_
            refine zr_iload_n (pc := 163) (i := 3) 2 hC dX12_kin_163 rfl rfl ?_
            refine zr_iconst (pc := 164) (v := (1 : Int32)) hC dX12_kin_164 ic_1 ?_
            refine zr_iadd (pc := 165) hC dX12_kin_165 ?_
            refine zr_iast (pc := 166) hC mem_93 lay_93 dX12_kin_166 ?_
            refine zr_iinc (pc := 167) (q := 4) (ls' := [(5, _), (0, _), (2, _), (3, _), (4, _)]) hC dX12_kin_167 rfl (inc_1 _) (nlt hN (Nat.le_of_ble_eq_true rfl)) rfl ?_
            refine zr_goto (pc := 170) (tgt := 90) hC dX12_kin_170 (by decide) ?_
            refine zr_sub (ls' := [(0, _), (2, _), (3, _), (4, _), (5, _)]) [1, 2, 3, 4, 0] rfl ?_
            exact ih (v5 + (1 : Int32)) (wr s_8 93 v5.toNatClampNeg (c3 + (1 : Int32)))
        · refine zr_iinc (pc := 167) (q := 4) (ls' := [(5, _), (0, _), (2, _), (3, _), (4, _)]) hC dX12_kin_167 rfl (inc_1 _) (nlt hN (Nat.le_of_ble_eq_true rfl)) rfl ?_
          refine zr_goto (pc := 170) (tgt := 90) hC dX12_kin_170 (by decide) ?_
          refine zr_sub (ls' := [(0, _), (2, _), (3, _), (4, _), (5, _)]) [1, 2, 3, 4, 0] rfl ?_
          exact ih (v5 + (1 : Int32)) s
      · refine zr_sub (ls' := [(0, _), (2, _), (3, _), (4, _)]) [0, 1, 2, 3] rfl ?_
        exact hk173 s
def fX12_kin_L76 (k179 : St → Option (Int32 × St)) (c2 : Int32) (c3 : Int32) : Nat → Int32 → St → Option (Int32 × St)
  | 0, _, _ => none
  | n + 1, v4, s =>
    if inA (0 : Int32) 10 then
    (if (s 71 (0 : Int32).toNatClampNeg) ≤ v4 then
    (k179 s)
  else
    (fX12_kin_L90 (fun s_13 => fX12_kin_L76 k179 c2 c3 n (v4 + (1 : Int32)) s_13) c2 c3 v4 FU (0 : Int32) s)) else none
set_option maxRecDepth 100000 in
set_option maxHeartbeats 4000000 in
theorem tX12_kin_L76 (c2 : Int32) (c3 : Int32) (k179 : St → Option (Int32 × St)) (X : KX) (hC : Ctx X RX12 cX12_kin FULL 3 0) (hR : RC X (some .int)) (hN : X_nL X = 6) (hk179 : ∀ (s : St), Zr X (QFN X (some .int)) 0 s 179 [(0, .ref (X_ad X 69)), (2, .int c2), (3, .int c3)] [] (k179 s)) : ∀ (n : Nat) (v4 : Int32) (s : St), Zr X (QFN X (some .int)) 0 s 76 [(0, .ref (X_ad X 69)), (2, .int c2), (3, .int c3), (4, .int v4)] [] (fX12_kin_L76 k179 c2 c3 n v4 s) := by
  intro n
  induction n with
  | zero =>
    intro v4 s
    exact zr_none
  | succ n ih =>
    intro v4 s
    rw [fX12_kin_L76]
    refine zr_iload (pc := 76) 3 hC dX12_kin_76 rfl ?_
    refine zr_aload_n (pc := 78) (i := 0) 0 hC dX12_kin_78 rfl rfl ?_
    refine zr_getR (pc := 79) (j := 2) (k1 := 71) hC mem_69 lay_69 rfl rfl (Nat.le_of_ble_eq_true rfl) iX12 m_1397 dX12_kin_79 ?_
    refine zr_iconst (pc := 82) (v := (0 : Int32)) hC dX12_kin_82 ic_0 ?_
    refine zr_iald (pc := 83) hC mem_71 lay_71 dX12_kin_83 ?_
    refine zr_icmp_ge (pc := 84) (tgt := 179) hC dX12_kin_84 (by decide) (fun c_ => ?_) (fun c_ => ?_)
    · refine zr_sub (ls' := [(0, _), (2, _), (3, _)]) [0, 1, 2] rfl ?_
      exact hk179 s
    · refine zr_iconst (pc := 87) (v := (0 : Int32)) hC dX12_kin_87 ic_0 ?_
      refine zr_istore (pc := 88) (ls' := [(5, _), (0, _), (2, _), (3, _), (4, _)]) hC dX12_kin_88 (nlt hN (Nat.le_of_ble_eq_true rfl)) rfl ?_
      refine zr_sub (ls' := [(0, _), (2, _), (3, _), (4, _), (5, _)]) [1, 2, 3, 4, 0] rfl ?_
      refine tX12_kin_L90 c2 c3 v4 _ X hC hR hN (fun s_13 => ?_) FU (0 : Int32) _
      · refine zr_iinc (pc := 173) (q := 3) (ls' := [(4, _), (0, _), (2, _), (3, _)]) hC dX12_kin_173 rfl (inc_1 _) (nlt hN (Nat.le_of_ble_eq_true rfl)) rfl ?_
        refine zr_goto (pc := 176) (tgt := 76) hC dX12_kin_176 (by decide) ?_
        refine zr_sub (ls' := [(0, _), (2, _), (3, _), (4, _)]) [1, 2, 3, 0] rfl ?_
        exact ih (v4 + (1 : Int32)) s_13
def fX12_kin_L63 (c2 : Int32) : Nat → Int32 → St → Option (Int32 × St)
  | 0, _, _ => none
  | n + 1, v3, s =>
    if inA (0 : Int32) 10 then
    (if (s 71 (0 : Int32).toNatClampNeg) ≤ v3 then
    (if inA c2 12 then
    (some ((s 93 c2.toNatClampNeg), s)) else none)
  else
    (fX12_kin_L76 (fun s_14 => fX12_kin_L63 c2 n (v3 + (1 : Int32)) s_14) c2 v3 FU (0 : Int32) s)) else none
set_option maxRecDepth 100000 in
set_option maxHeartbeats 4000000 in
theorem tX12_kin_L63 (c2 : Int32) (X : KX) (hC : Ctx X RX12 cX12_kin FULL 3 0) (hR : RC X (some .int)) (hN : X_nL X = 6) : ∀ (n : Nat) (v3 : Int32) (s : St), Zr X (QFN X (some .int)) 0 s 63 [(0, .ref (X_ad X 69)), (2, .int c2), (3, .int v3)] [] (fX12_kin_L63 c2 n v3 s) := by
  intro n
  induction n with
  | zero =>
    intro v3 s
    exact zr_none
  | succ n ih =>
    intro v3 s
    rw [fX12_kin_L63]
    refine zr_iload_n (pc := 63) (i := 3) 2 hC dX12_kin_63 rfl rfl ?_
    refine zr_aload_n (pc := 64) (i := 0) 0 hC dX12_kin_64 rfl rfl ?_
    refine zr_getR (pc := 65) (j := 2) (k1 := 71) hC mem_69 lay_69 rfl rfl (Nat.le_of_ble_eq_true rfl) iX12 m_1397 dX12_kin_65 ?_
    refine zr_iconst (pc := 68) (v := (0 : Int32)) hC dX12_kin_68 ic_0 ?_
    refine zr_iald (pc := 69) hC mem_71 lay_71 dX12_kin_69 ?_
    refine zr_icmp_ge (pc := 70) (tgt := 185) hC dX12_kin_70 (by decide) (fun c_ => ?_) (fun c_ => ?_)
    · refine zr_aload_n (pc := 185) (i := 0) 0 hC dX12_kin_185 rfl rfl ?_
      refine zr_getR (pc := 186) (j := 39) (k1 := 93) hC mem_69 lay_69 rfl rfl (Nat.le_of_ble_eq_true rfl) iX12 m_1434 dX12_kin_186 ?_
      refine zr_iload_n (pc := 189) (i := 2) 1 hC dX12_kin_189 rfl rfl ?_
      refine zr_iald (pc := 190) hC mem_93 lay_93 dX12_kin_190 ?_
      exact zr_iret (pc := 191) hC hR dX12_kin_191
    · refine zr_iconst (pc := 73) (v := (0 : Int32)) hC dX12_kin_73 ic_0 ?_
      refine zr_istore (pc := 74) (ls' := [(4, _), (0, _), (2, _), (3, _)]) hC dX12_kin_74 (nlt hN (Nat.le_of_ble_eq_true rfl)) rfl ?_
      refine zr_sub (ls' := [(0, _), (2, _), (3, _), (4, _)]) [1, 2, 3, 0] rfl ?_
      refine tX12_kin_L76 c2 v3 _ X hC hR hN (fun s_14 => ?_) FU (0 : Int32) _
      · refine zr_iinc (pc := 179) (q := 2) (ls' := [(3, _), (0, _), (2, _)]) hC dX12_kin_179 rfl (inc_1 _) (nlt hN (Nat.le_of_ble_eq_true rfl)) rfl ?_
        refine zr_goto (pc := 182) (tgt := 63) hC dX12_kin_182 (by decide) ?_
        refine zr_sub (ls' := [(0, _), (2, _), (3, _)]) [1, 2, 0] rfl ?_
        exact ih (v3 + (1 : Int32)) s_14
def fX12_kin (a1 : Int32) (a2 : Int32) (s : St) : Option (Int32 × St) :=
  let s_1 := wr s 69 1 (0 : Int32);
    bd (fX12_isPerson a1 s_1) (fun y_2 s_2 =>
    if y_2 = 0 then
    (bd (fX12_fail (1 : Int32) s_2) (fun y_3 s_3 =>
    some (y_3, s_3)))
  else
    (bd (fX12_isPerson a2 s_2) (fun y_4 s_4 =>
    if y_4 = 0 then
    (bd (fX12_fail (1 : Int32) s_4) (fun y_15 s_15 =>
    some (y_15, s_15)))
  else
    (fX12_kin_L29 (fun s_7 => fX12_kin_L63 a2 FU (0 : Int32) s_7) a1 a2 FU (0 : Int32) s_4))))
set_option maxRecDepth 100000 in
set_option maxHeartbeats 4000000 in
theorem kX12_kin (l : Launch)  (a1 : Int32) (a2 : Int32) (s : St) : CN l yX12_kin cX12_kin 6 (some .int) 3 FULL (fun ad => [.ref (ad 69), .int a1, .int a2]) s (fX12_kin a1 a2 s) := by
  refine cn_of (by decide) (fun _ => (Nat.le_of_ble_eq_true rfl)) (fun X hC hR hl hN => ?_)
  subst hl
  show Zr X (QFN X (some .int)) 0 s 0 [(0, .ref (X_ad X 69)), (1, .int a1), (2, .int a2)] [] _
  rw [fX12_kin]
  refine zr_aload_n (pc := 0) (i := 0) 0 hC dX12_kin_0 rfl rfl ?_
  refine zr_iconst (pc := 1) (v := (0 : Int32)) hC dX12_kin_1 ic_0 ?_
  refine zr_putInt (pc := 2) (j := 1) hC mem_69 lay_69 rfl rfl (Nat.le_of_ble_eq_true rfl) iX12 tyX12_ok nmX12 m_1396 rfl (by decide +kernel) dX12_kin_2 ?_
  refine zr_aload_n (pc := 5) (i := 0) 0 hC dX12_kin_5 rfl rfl ?_
  refine zr_iload_n (pc := 6) (i := 1) 1 hC dX12_kin_6 rfl rfl ?_
  refine zr_callV (pc := 7) (As := fun ad => [.int a1]) (st1 := []) hC (Nat.le_of_ble_eq_true rfl) (kX12_isPerson _ a1 _) (Nat.le_of_ble_eq_true rfl) mc_yX12_isPerson m_1762 m_1764 m_p82 mem_69 lay_69 rfl rfl rfl rfl (Nat.le_of_ble_eq_true rfl) dX12_kin_7 (fun y_2 s_2 => ?_)
  refine zr_if_eq (pc := 10) (tgt := 21) hC dX12_kin_10 (by decide) (fun c_ => ?_) (fun c_ => ?_)
  · refine zr_aload_n (pc := 21) (i := 0) 0 hC dX12_kin_21 rfl rfl ?_
    refine zr_iconst (pc := 22) (v := (1 : Int32)) hC dX12_kin_22 ic_1 ?_
    refine zr_callV (pc := 23) (As := fun ad => [.int (1 : Int32)]) (st1 := []) hC (Nat.le_of_ble_eq_true rfl) (kX12_fail _ (1 : Int32) _) (Nat.le_of_ble_eq_true rfl) mc_yX12_fail m_1606 m_1608 m_p53 mem_69 lay_69 rfl rfl rfl rfl (Nat.le_of_ble_eq_true rfl) dX12_kin_23 (fun y_3 s_3 => ?_)
    exact zr_iret (pc := 26) hC hR dX12_kin_26
  · refine zr_aload_n (pc := 13) (i := 0) 0 hC dX12_kin_13 rfl rfl ?_
    refine zr_iload_n (pc := 14) (i := 2) 2 hC dX12_kin_14 rfl rfl ?_
    refine zr_callV (pc := 15) (As := fun ad => [.int a2]) (st1 := []) hC (Nat.le_of_ble_eq_true rfl) (kX12_isPerson _ a2 _) (Nat.le_of_ble_eq_true rfl) mc_yX12_isPerson m_1762 m_1764 m_p82 mem_69 lay_69 rfl rfl rfl rfl (Nat.le_of_ble_eq_true rfl) dX12_kin_15 (fun y_4 s_4 => ?_)
    refine zr_if_ne (pc := 18) (tgt := 27) hC dX12_kin_18 (by decide) (fun c_ => ?_) (fun c_ => ?_)
    · refine zr_aload_n (pc := 21) (i := 0) 0 hC dX12_kin_21 rfl rfl ?_
      refine zr_iconst (pc := 22) (v := (1 : Int32)) hC dX12_kin_22 ic_1 ?_
      refine zr_callV (pc := 23) (As := fun ad => [.int (1 : Int32)]) (st1 := []) hC (Nat.le_of_ble_eq_true rfl) (kX12_fail _ (1 : Int32) _) (Nat.le_of_ble_eq_true rfl) mc_yX12_fail m_1606 m_1608 m_p53 mem_69 lay_69 rfl rfl rfl rfl (Nat.le_of_ble_eq_true rfl) dX12_kin_23 (fun y_15 s_15 => ?_)
      exact zr_iret (pc := 26) hC hR dX12_kin_26
    · refine zr_iconst (pc := 27) (v := (0 : Int32)) hC dX12_kin_27 ic_0 ?_
      refine zr_istore_n (pc := 28) (i := 3) (ls' := [(3, _), (0, _), (1, _), (2, _)]) hC dX12_kin_28 rfl (nlt hN (Nat.le_of_ble_eq_true rfl)) rfl ?_
      refine zr_sub (ls' := [(0, _), (1, _), (2, _), (3, _)]) [1, 2, 3, 0] rfl ?_
      refine tX12_kin_L29 a1 a2 _ X hC hR hN (fun s_7 => ?_) FU (0 : Int32) _
      · refine zr_iconst (pc := 61) (v := (0 : Int32)) hC dX12_kin_61 ic_0 ?_
        refine zr_istore_n (pc := 62) (i := 3) (ls' := [(3, _), (0, _), (2, _)]) hC dX12_kin_62 rfl (nlt hN (Nat.le_of_ble_eq_true rfl)) rfl ?_
        refine zr_sub (ls' := [(0, _), (2, _), (3, _)]) [1, 2, 0] rfl ?_
        exact tX12_kin_L63 a2 X hC hR hN FU (0 : Int32) _
def fX12_refuse (a1 : Int32) (s : St) : Option (Int32 × St) :=
  if inA a1 3 then
    (if inA a1 3 then
    (let s_1 := wr s 85 a1.toNatClampNeg ((s 85 a1.toNatClampNeg) + (1 : Int32));
    some ((-1 : Int32), s_1)) else none) else none
set_option maxRecDepth 100000 in
set_option maxHeartbeats 4000000 in
theorem kX12_refuse (l : Launch)  (a1 : Int32) (s : St) : CN l yX12_refuse cX12_refuse 2 (some .int) 1 FULL (fun ad => [.ref (ad 69), .int a1]) s (fX12_refuse a1 s) := by
  refine cn_of (by decide) (fun _ => (Nat.le_of_ble_eq_true rfl)) (fun X hC hR hl hN => ?_)
  subst hl
  show Zr X (QFN X (some .int)) 0 s 0 [(0, .ref (X_ad X 69)), (1, .int a1)] [] _
  rw [fX12_refuse]
  refine zr_aload_n (pc := 0) (i := 0) 0 hC dX12_refuse_0 rfl rfl ?_
  refine zr_getR (pc := 1) (j := 16) (k1 := 85) hC mem_69 lay_69 rfl rfl (Nat.le_of_ble_eq_true rfl) iX12 m_1411 dX12_refuse_1 ?_
  refine zr_iload_n (pc := 4) (i := 1) 1 hC dX12_refuse_4 rfl rfl ?_
  refine zr_dup2 (pc := 5) hC dX12_refuse_5 rfl rfl ?_
  refine zr_iald (pc := 6) hC mem_85 lay_85 dX12_refuse_6 ?_
  refine zr_iconst (pc := 7) (v := (1 : Int32)) hC dX12_refuse_7 ic_1 ?_
  refine zr_iadd (pc := 8) hC dX12_refuse_8 ?_
  refine zr_iast (pc := 9) hC mem_85 lay_85 dX12_refuse_9 ?_
  refine zr_iconst (pc := 10) (v := (-1 : Int32)) hC dX12_refuse_10 ic_m1 ?_
  exact zr_iret (pc := 11) hC hR dX12_refuse_11
def fX12_pack_L5 (k31 : St → Option (Int32 × St)) (r1 : Nat) (c3 : Int32) : Nat → Int32 → St → Option (Int32 × St)
  | 0, _, _ => none
  | n + 1, v4, s =>
    if (48 : Int32) ≤ v4 then
    (k31 s)
  else
    (if inA v4 96 then
    (if inA (c3 + v4) (LN r1) then
    (let s_1 := wr s r1 (c3 + v4).toNatClampNeg (s 72 v4.toNatClampNeg);
    fX12_pack_L5 k31 r1 c3 n (v4 + (1 : Int32)) s_1) else none) else none)
set_option maxRecDepth 100000 in
set_option maxHeartbeats 4000000 in
theorem tX12_pack_L5 (r1 : Nat) (c3 : Int32) (k31 : St → Option (Int32 × St)) (X : KX) (hC : Ctx X RX12 cX12_pack FULL 1 0) (hR : RC X none) (hN : X_nL X = 5) (hr1 : isArrD FULL r1) (hk31 : ∀ (s : St), Zr X (QFN X none) 0 s 31 [(0, .ref (X_ad X 69)), (1, .ref (X_ad X r1)), (3, .int c3)] [] (k31 s)) : ∀ (n : Nat) (v4 : Int32) (s : St), Zr X (QFN X none) 0 s 5 [(0, .ref (X_ad X 69)), (1, .ref (X_ad X r1)), (3, .int c3), (4, .int v4)] [] (fX12_pack_L5 k31 r1 c3 n v4 s) := by
  intro n
  induction n with
  | zero =>
    intro v4 s
    exact zr_none
  | succ n ih =>
    intro v4 s
    rw [fX12_pack_L5]
    refine zr_iload (pc := 5) 3 hC dX12_pack_5 rfl ?_
    refine zr_bipush (pc := 7) (v := (48 : Int32)) hC dX12_pack_7 bi_48 ?_
    refine zr_icmp_ge (pc := 9) (tgt := 31) hC dX12_pack_9 (by decide) (fun c_ => ?_) (fun c_ => ?_)
    · refine zr_sub (ls' := [(0, _), (1, _), (3, _)]) [0, 1, 2] rfl ?_
      exact hk31 s
    · refine zr_aload_n (pc := 12) (i := 1) 1 hC dX12_pack_12 rfl rfl ?_
      refine zr_iload_n (pc := 13) (i := 3) 2 hC dX12_pack_13 rfl rfl ?_
      refine zr_iload (pc := 14) 3 hC dX12_pack_14 rfl ?_
      refine zr_iadd (pc := 16) hC dX12_pack_16 ?_
      refine zr_aload_n (pc := 17) (i := 0) 0 hC dX12_pack_17 rfl rfl ?_
      refine zr_getR (pc := 18) (j := 3) (k1 := 72) hC mem_69 lay_69 rfl rfl (Nat.le_of_ble_eq_true rfl) iX12 m_1398 dX12_pack_18 ?_
      refine zr_iload (pc := 21) 3 hC dX12_pack_21 rfl ?_
      refine zr_iald (pc := 23) hC mem_72 lay_72 dX12_pack_23 ?_
      refine zr_iast (pc := 24) hC hr1.1 hr1.2 dX12_pack_24 ?_
      refine zr_iinc (pc := 25) (q := 3) (ls' := [(4, _), (0, _), (1, _), (3, _)]) hC dX12_pack_25 rfl (inc_1 _) (nlt hN (Nat.le_of_ble_eq_true rfl)) rfl ?_
      refine zr_goto (pc := 28) (tgt := 5) hC dX12_pack_28 (by decide) ?_
      refine zr_sub (ls' := [(0, _), (1, _), (3, _), (4, _)]) [1, 2, 3, 0] rfl ?_
      exact ih (v4 + (1 : Int32)) (wr s r1 (c3 + v4).toNatClampNeg (s 72 v4.toNatClampNeg))
def fX12_pack_L37 (k79 : St → Option (Int32 × St)) (r1 : Nat) (c3 : Int32) : Nat → Int32 → St → Option (Int32 × St)
  | 0, _, _ => none
  | n + 1, v4, s =>
    if (12 : Int32) ≤ v4 then
    (k79 s)
  else
    (if inA v4 24 then
    (if inA (c3 + v4) (LN r1) then
    (let s_3 := wr s r1 (c3 + v4).toNatClampNeg (s 73 v4.toNatClampNeg);
    if inA v4 24 then
    (if inA ((c3 + (12 : Int32)) + v4) (LN r1) then
    (let s_4 := wr s_3 r1 ((c3 + (12 : Int32)) + v4).toNatClampNeg (s_3 77 v4.toNatClampNeg);
    fX12_pack_L37 k79 r1 c3 n (v4 + (1 : Int32)) s_4) else none) else none) else none) else none)
set_option maxRecDepth 100000 in
set_option maxHeartbeats 4000000 in
theorem tX12_pack_L37 (r1 : Nat) (c3 : Int32) (k79 : St → Option (Int32 × St)) (X : KX) (hC : Ctx X RX12 cX12_pack FULL 1 0) (hR : RC X none) (hN : X_nL X = 5) (hr1 : isArrD FULL r1) (hk79 : ∀ (s : St), Zr X (QFN X none) 0 s 79 [(0, .ref (X_ad X 69)), (1, .ref (X_ad X r1)), (3, .int c3)] [] (k79 s)) : ∀ (n : Nat) (v4 : Int32) (s : St), Zr X (QFN X none) 0 s 37 [(0, .ref (X_ad X 69)), (1, .ref (X_ad X r1)), (3, .int c3), (4, .int v4)] [] (fX12_pack_L37 k79 r1 c3 n v4 s) := by
  intro n
  induction n with
  | zero =>
    intro v4 s
    exact zr_none
  | succ n ih =>
    intro v4 s
    rw [fX12_pack_L37]
    refine zr_iload (pc := 37) 3 hC dX12_pack_37 rfl ?_
    refine zr_bipush (pc := 39) (v := (12 : Int32)) hC dX12_pack_39 bi_12 ?_
    refine zr_icmp_ge (pc := 41) (tgt := 79) hC dX12_pack_41 (by decide) (fun c_ => ?_) (fun c_ => ?_)
    · refine zr_sub (ls' := [(0, _), (1, _), (3, _)]) [0, 1, 2] rfl ?_
      exact hk79 s
    · refine zr_aload_n (pc := 44) (i := 1) 1 hC dX12_pack_44 rfl rfl ?_
      refine zr_iload_n (pc := 45) (i := 3) 2 hC dX12_pack_45 rfl rfl ?_
      refine zr_iload (pc := 46) 3 hC dX12_pack_46 rfl ?_
      refine zr_iadd (pc := 48) hC dX12_pack_48 ?_
      refine zr_aload_n (pc := 49) (i := 0) 0 hC dX12_pack_49 rfl rfl ?_
      refine zr_getR (pc := 50) (j := 4) (k1 := 73) hC mem_69 lay_69 rfl rfl (Nat.le_of_ble_eq_true rfl) iX12 m_1399 dX12_pack_50 ?_
      refine zr_iload (pc := 53) 3 hC dX12_pack_53 rfl ?_
      refine zr_iald (pc := 55) hC mem_73 lay_73 dX12_pack_55 ?_
      refine zr_iast (pc := 56) hC hr1.1 hr1.2 dX12_pack_56 ?_
      refine zr_aload_n (pc := 57) (i := 1) 1 hC dX12_pack_57 rfl rfl ?_
      refine zr_iload_n (pc := 58) (i := 3) 2 hC dX12_pack_58 rfl rfl ?_
      refine zr_bipush (pc := 59) (v := (12 : Int32)) hC dX12_pack_59 bi_12 ?_
      refine zr_iadd (pc := 61) hC dX12_pack_61 ?_
      refine zr_iload (pc := 62) 3 hC dX12_pack_62 rfl ?_
      refine zr_iadd (pc := 64) hC dX12_pack_64 ?_
      refine zr_aload_n (pc := 65) (i := 0) 0 hC dX12_pack_65 rfl rfl ?_
      refine zr_getR (pc := 66) (j := 8) (k1 := 77) hC mem_69 lay_69 rfl rfl (Nat.le_of_ble_eq_true rfl) iX12 m_1403 dX12_pack_66 ?_
      refine zr_iload (pc := 69) 3 hC dX12_pack_69 rfl ?_
      refine zr_iald (pc := 71) hC mem_77 lay_77 dX12_pack_71 ?_
      refine zr_iast (pc := 72) hC hr1.1 hr1.2 dX12_pack_72 ?_
      refine zr_iinc (pc := 73) (q := 3) (ls' := [(4, _), (0, _), (1, _), (3, _)]) hC dX12_pack_73 rfl (inc_1 _) (nlt hN (Nat.le_of_ble_eq_true rfl)) rfl ?_
      refine zr_goto (pc := 76) (tgt := 37) hC dX12_pack_76 (by decide) ?_
      refine zr_sub (ls' := [(0, _), (1, _), (3, _), (4, _)]) [1, 2, 3, 0] rfl ?_
      exact ih (v4 + (1 : Int32)) (wr (wr s r1 (c3 + v4).toNatClampNeg (s 73 v4.toNatClampNeg)) r1 ((c3 + (12 : Int32)) + v4).toNatClampNeg ((wr s r1 (c3 + v4).toNatClampNeg (s 73 v4.toNatClampNeg)) 77 v4.toNatClampNeg))
def fX12_pack_L85 (k111 : St → Option (Int32 × St)) (r1 : Nat) (c3 : Int32) : Nat → Int32 → St → Option (Int32 × St)
  | 0, _, _ => none
  | n + 1, v4, s =>
    if (12 : Int32) ≤ v4 then
    (k111 s)
  else
    (if inA v4 12 then
    (if inA (c3 + v4) (LN r1) then
    (let s_6 := wr s r1 (c3 + v4).toNatClampNeg (s 87 v4.toNatClampNeg);
    fX12_pack_L85 k111 r1 c3 n (v4 + (1 : Int32)) s_6) else none) else none)
set_option maxRecDepth 100000 in
set_option maxHeartbeats 4000000 in
theorem tX12_pack_L85 (r1 : Nat) (c3 : Int32) (k111 : St → Option (Int32 × St)) (X : KX) (hC : Ctx X RX12 cX12_pack FULL 1 0) (hR : RC X none) (hN : X_nL X = 5) (hr1 : isArrD FULL r1) (hk111 : ∀ (s : St), Zr X (QFN X none) 0 s 111 [(0, .ref (X_ad X 69)), (1, .ref (X_ad X r1)), (3, .int c3)] [] (k111 s)) : ∀ (n : Nat) (v4 : Int32) (s : St), Zr X (QFN X none) 0 s 85 [(0, .ref (X_ad X 69)), (1, .ref (X_ad X r1)), (3, .int c3), (4, .int v4)] [] (fX12_pack_L85 k111 r1 c3 n v4 s) := by
  intro n
  induction n with
  | zero =>
    intro v4 s
    exact zr_none
  | succ n ih =>
    intro v4 s
    rw [fX12_pack_L85]
    refine zr_iload (pc := 85) 3 hC dX12_pack_85 rfl ?_
    refine zr_bipush (pc := 87) (v := (12 : Int32)) hC dX12_pack_87 bi_12 ?_
    refine zr_icmp_ge (pc := 89) (tgt := 111) hC dX12_pack_89 (by decide) (fun c_ => ?_) (fun c_ => ?_)
    · refine zr_sub (ls' := [(0, _), (1, _), (3, _)]) [0, 1, 2] rfl ?_
      exact hk111 s
    · refine zr_aload_n (pc := 92) (i := 1) 1 hC dX12_pack_92 rfl rfl ?_
      refine zr_iload_n (pc := 93) (i := 3) 2 hC dX12_pack_93 rfl rfl ?_
      refine zr_iload (pc := 94) 3 hC dX12_pack_94 rfl ?_
      refine zr_iadd (pc := 96) hC dX12_pack_96 ?_
      refine zr_aload_n (pc := 97) (i := 0) 0 hC dX12_pack_97 rfl rfl ?_
      refine zr_getR (pc := 98) (j := 29) (k1 := 87) hC mem_69 lay_69 rfl rfl (Nat.le_of_ble_eq_true rfl) iX12 m_1424 dX12_pack_98 ?_
      refine zr_iload (pc := 101) 3 hC dX12_pack_101 rfl ?_
      refine zr_iald (pc := 103) hC mem_87 lay_87 dX12_pack_103 ?_
      refine zr_iast (pc := 104) hC hr1.1 hr1.2 dX12_pack_104 ?_
      refine zr_iinc (pc := 105) (q := 3) (ls' := [(4, _), (0, _), (1, _), (3, _)]) hC dX12_pack_105 rfl (inc_1 _) (nlt hN (Nat.le_of_ble_eq_true rfl)) rfl ?_
      refine zr_goto (pc := 108) (tgt := 85) hC dX12_pack_108 (by decide) ?_
      refine zr_sub (ls' := [(0, _), (1, _), (3, _), (4, _)]) [1, 2, 3, 0] rfl ?_
      exact ih (v4 + (1 : Int32)) (wr s r1 (c3 + v4).toNatClampNeg (s 87 v4.toNatClampNeg))
def fX12_pack_L117 (r1 : Nat) (c3 : Int32) : Nat → Int32 → St → Option (Int32 × St)
  | 0, _, _ => none
  | n + 1, v4, s =>
    if (10 : Int32) ≤ v4 then
    (if inA (c3 + (10 : Int32)) (LN r1) then
    (let s_8 := wr s r1 (c3 + (10 : Int32)).toNatClampNeg (s 69 17);
    some (0, s_8)) else none)
  else
    (if inA v4 10 then
    (if inA (c3 + v4) (LN r1) then
    (let s_9 := wr s r1 (c3 + v4).toNatClampNeg (s 88 v4.toNatClampNeg);
    fX12_pack_L117 r1 c3 n (v4 + (1 : Int32)) s_9) else none) else none)
set_option maxRecDepth 100000 in
set_option maxHeartbeats 4000000 in
theorem tX12_pack_L117 (r1 : Nat) (c3 : Int32) (X : KX) (hC : Ctx X RX12 cX12_pack FULL 1 0) (hR : RC X none) (hN : X_nL X = 5) (hr1 : isArrD FULL r1) : ∀ (n : Nat) (v4 : Int32) (s : St), Zr X (QFN X none) 0 s 117 [(0, .ref (X_ad X 69)), (1, .ref (X_ad X r1)), (3, .int c3), (4, .int v4)] [] (fX12_pack_L117 r1 c3 n v4 s) := by
  intro n
  induction n with
  | zero =>
    intro v4 s
    exact zr_none
  | succ n ih =>
    intro v4 s
    rw [fX12_pack_L117]
    refine zr_iload (pc := 117) 3 hC dX12_pack_117 rfl ?_
    refine zr_bipush (pc := 119) (v := (10 : Int32)) hC dX12_pack_119 bi_10 ?_
    refine zr_icmp_ge (pc := 121) (tgt := 143) hC dX12_pack_121 (by decide) (fun c_ => ?_) (fun c_ => ?_)
    · refine zr_aload_n (pc := 143) (i := 1) 1 hC dX12_pack_143 rfl rfl ?_
      refine zr_iload_n (pc := 144) (i := 3) 2 hC dX12_pack_144 rfl rfl ?_
      refine zr_bipush (pc := 145) (v := (10 : Int32)) hC dX12_pack_145 bi_10 ?_
      refine zr_iadd (pc := 147) hC dX12_pack_147 ?_
      refine zr_aload_n (pc := 148) (i := 0) 0 hC dX12_pack_148 rfl rfl ?_
      refine zr_getI (pc := 149) (j := 17) hC mem_69 lay_69 rfl rfl (Nat.le_of_ble_eq_true rfl) iX12 m_1412 dX12_pack_149 ?_
      refine zr_iast (pc := 152) hC hr1.1 hr1.2 dX12_pack_152 ?_
      exact zr_vret (pc := 153) hC hR dX12_pack_153
    · refine zr_aload_n (pc := 124) (i := 1) 1 hC dX12_pack_124 rfl rfl ?_
      refine zr_iload_n (pc := 125) (i := 3) 2 hC dX12_pack_125 rfl rfl ?_
      refine zr_iload (pc := 126) 3 hC dX12_pack_126 rfl ?_
      refine zr_iadd (pc := 128) hC dX12_pack_128 ?_
      refine zr_aload_n (pc := 129) (i := 0) 0 hC dX12_pack_129 rfl rfl ?_
      refine zr_getR (pc := 130) (j := 30) (k1 := 88) hC mem_69 lay_69 rfl rfl (Nat.le_of_ble_eq_true rfl) iX12 m_1425 dX12_pack_130 ?_
      refine zr_iload (pc := 133) 3 hC dX12_pack_133 rfl ?_
      refine zr_iald (pc := 135) hC mem_88 lay_88 dX12_pack_135 ?_
      refine zr_iast (pc := 136) hC hr1.1 hr1.2 dX12_pack_136 ?_
      refine zr_iinc (pc := 137) (q := 3) (ls' := [(4, _), (0, _), (1, _), (3, _)]) hC dX12_pack_137 rfl (inc_1 _) (nlt hN (Nat.le_of_ble_eq_true rfl)) rfl ?_
      refine zr_goto (pc := 140) (tgt := 117) hC dX12_pack_140 (by decide) ?_
      refine zr_sub (ls' := [(0, _), (1, _), (3, _), (4, _)]) [1, 2, 3, 0] rfl ?_
      exact ih (v4 + (1 : Int32)) (wr s r1 (c3 + v4).toNatClampNeg (s 88 v4.toNatClampNeg))
def fX12_pack (r1 : Nat) (a2 : Int32) (s : St) : Option (Int32 × St) :=
  fX12_pack_L5 (fun s_2 => fX12_pack_L37 (fun s_5 => fX12_pack_L85 (fun s_7 => fX12_pack_L117 r1 (((a2 + (48 : Int32)) + (24 : Int32)) + (12 : Int32)) FU (0 : Int32) s_7) r1 ((a2 + (48 : Int32)) + (24 : Int32)) FU (0 : Int32) s_5) r1 (a2 + (48 : Int32)) FU (0 : Int32) s_2) r1 a2 FU (0 : Int32) s
set_option maxRecDepth 100000 in
set_option maxHeartbeats 4000000 in
theorem kX12_pack (l : Launch)  {r1 : Nat} (hr1 : isArrD FULL r1) (a2 : Int32) (s : St) : CN l yX12_pack cX12_pack 5 none 1 FULL (fun ad => [.ref (ad 69), .ref (ad r1), .int a2]) s (fX12_pack r1 a2 s) := by
  refine cn_of (by decide) (fun _ => (Nat.le_of_ble_eq_true rfl)) (fun X hC hR hl hN => ?_)
  subst hl
  show Zr X (QFN X none) 0 s 0 [(0, .ref (X_ad X 69)), (1, .ref (X_ad X r1)), (2, .int a2)] [] _
  rw [fX12_pack]
  refine zr_iload_n (pc := 0) (i := 2) 2 hC dX12_pack_0 rfl rfl ?_
  refine zr_istore_n (pc := 1) (i := 3) (ls' := [(3, _), (0, _), (1, _), (2, _)]) hC dX12_pack_1 rfl (nlt hN (Nat.le_of_ble_eq_true rfl)) rfl ?_
  refine zr_iconst (pc := 2) (v := (0 : Int32)) hC dX12_pack_2 ic_0 ?_
  refine zr_istore (pc := 3) (ls' := [(4, _), (3, _), (0, _), (1, _), (2, _)]) hC dX12_pack_3 (nlt hN (Nat.le_of_ble_eq_true rfl)) rfl ?_
  refine zr_sub (ls' := [(0, _), (1, _), (3, _), (4, _)]) [2, 3, 1, 0] rfl ?_
  refine tX12_pack_L5 r1 a2 _ X hC hR hN hr1 (fun s_2 => ?_) FU (0 : Int32) _
  · refine zr_iinc (pc := 31) (q := 2) (ls' := [(3, _), (0, _), (1, _)]) hC dX12_pack_31 rfl (inc_48 _) (nlt hN (Nat.le_of_ble_eq_true rfl)) rfl ?_
    refine zr_iconst (pc := 34) (v := (0 : Int32)) hC dX12_pack_34 ic_0 ?_
    refine zr_istore (pc := 35) (ls' := [(4, _), (3, _), (0, _), (1, _)]) hC dX12_pack_35 (nlt hN (Nat.le_of_ble_eq_true rfl)) rfl ?_
    refine zr_sub (ls' := [(0, _), (1, _), (3, _), (4, _)]) [2, 3, 1, 0] rfl ?_
    refine tX12_pack_L37 r1 (a2 + (48 : Int32)) _ X hC hR hN hr1 (fun s_5 => ?_) FU (0 : Int32) _
    · refine zr_iinc (pc := 79) (q := 2) (ls' := [(3, _), (0, _), (1, _)]) hC dX12_pack_79 rfl (inc_24 _) (nlt hN (Nat.le_of_ble_eq_true rfl)) rfl ?_
      refine zr_iconst (pc := 82) (v := (0 : Int32)) hC dX12_pack_82 ic_0 ?_
      refine zr_istore (pc := 83) (ls' := [(4, _), (3, _), (0, _), (1, _)]) hC dX12_pack_83 (nlt hN (Nat.le_of_ble_eq_true rfl)) rfl ?_
      refine zr_sub (ls' := [(0, _), (1, _), (3, _), (4, _)]) [2, 3, 1, 0] rfl ?_
      refine tX12_pack_L85 r1 ((a2 + (48 : Int32)) + (24 : Int32)) _ X hC hR hN hr1 (fun s_7 => ?_) FU (0 : Int32) _
      · refine zr_iinc (pc := 111) (q := 2) (ls' := [(3, _), (0, _), (1, _)]) hC dX12_pack_111 rfl (inc_12 _) (nlt hN (Nat.le_of_ble_eq_true rfl)) rfl ?_
        refine zr_iconst (pc := 114) (v := (0 : Int32)) hC dX12_pack_114 ic_0 ?_
        refine zr_istore (pc := 115) (ls' := [(4, _), (3, _), (0, _), (1, _)]) hC dX12_pack_115 (nlt hN (Nat.le_of_ble_eq_true rfl)) rfl ?_
        refine zr_sub (ls' := [(0, _), (1, _), (3, _), (4, _)]) [2, 3, 1, 0] rfl ?_
        exact tX12_pack_L117 r1 (((a2 + (48 : Int32)) + (24 : Int32)) + (12 : Int32)) X hC hR hN hr1 FU (0 : Int32) _
def fX12_keep_J52 (s : St) : Option (Int32 × St) :=
  bd (fX12_pack 89 ((95 : Int32) * (s 69 32)) s) (fun y_1 s_1 =>
    let s_2 := wr s_1 69 32 ((s_1 69 32) + (1 : Int32));
    some (0, s_2))
set_option maxRecDepth 100000 in
set_option maxHeartbeats 4000000 in
theorem tX12_keep_J52 (X : KX) (hC : Ctx X RX12 cX12_keep FULL 2 0) (hR : RC X none) (hN : X_nL X = 2) (s : St) : Zr X (QFN X none) 0 s 52 [(0, .ref (X_ad X 69))] [] (fX12_keep_J52 s) := by
  rw [fX12_keep_J52]
  refine zr_aload_n (pc := 52) (i := 0) 0 hC dX12_keep_52 rfl rfl ?_
  refine zr_aload_n (pc := 53) (i := 0) 0 hC dX12_keep_53 rfl rfl ?_
  refine zr_getR (pc := 54) (j := 31) (k1 := 89) hC mem_69 lay_69 rfl rfl (Nat.le_of_ble_eq_true rfl) iX12 m_1426 dX12_keep_54 ?_
  refine zr_bipush (pc := 57) (v := (95 : Int32)) hC dX12_keep_57 bi_95 ?_
  refine zr_aload_n (pc := 59) (i := 0) 0 hC dX12_keep_59 rfl rfl ?_
  refine zr_getI (pc := 60) (j := 32) hC mem_69 lay_69 rfl rfl (Nat.le_of_ble_eq_true rfl) iX12 m_1427 dX12_keep_60 ?_
  refine zr_imul (pc := 63) hC dX12_keep_63 ?_
  refine zr_callVv (pc := 64) (As := fun ad => [.ref (ad 89), .int ((95 : Int32) * (s 69 32))]) (st1 := []) hC (Nat.le_of_ble_eq_true rfl) (kX12_pack _ ar_89 ((95 : Int32) * (s 69 32)) _) (Nat.le_of_ble_eq_true rfl) mc_yX12_pack m_1836 m_1838 m_p92 mem_69 lay_69 rfl rfl rfl rfl (Nat.le_of_ble_eq_true rfl) dX12_keep_64 (fun y_1 s_1 => ?_)
  refine zr_aload_n (pc := 67) (i := 0) 0 hC dX12_keep_67 rfl rfl ?_
  refine zr_dup (pc := 68) hC dX12_keep_68 rfl ?_
  refine zr_getI (pc := 69) (j := 32) hC mem_69 lay_69 rfl rfl (Nat.le_of_ble_eq_true rfl) iX12 m_1427 dX12_keep_69 ?_
  refine zr_iconst (pc := 72) (v := (1 : Int32)) hC dX12_keep_72 ic_1 ?_
  refine zr_iadd (pc := 73) hC dX12_keep_73 ?_
  refine zr_putInt (pc := 74) (j := 32) hC mem_69 lay_69 rfl rfl (Nat.le_of_ble_eq_true rfl) iX12 tyX12_ok nmX12 m_1427 rfl (by decide +kernel) dX12_keep_74 ?_
  exact zr_vret (pc := 77) hC hR dX12_keep_77
def fX12_keep_L12 (k42 : St → Option (Int32 × St)) : Nat → Int32 → St → Option (Int32 × St)
  | 0, _, _ => none
  | n + 1, v1, s =>
    if (Int32.ofNat 3800) ≤ v1 then
    (k42 s)
  else
    (if inA v1 3800 then
    (if inA (v1 - (95 : Int32)) 3800 then
    (let s_3 := wr s 89 (v1 - (95 : Int32)).toNatClampNeg (s 89 v1.toNatClampNeg);
    fX12_keep_L12 k42 n (v1 + (1 : Int32)) s_3) else none) else none)
set_option maxRecDepth 100000 in
set_option maxHeartbeats 4000000 in
theorem tX12_keep_L12 (k42 : St → Option (Int32 × St)) (X : KX) (hC : Ctx X RX12 cX12_keep FULL 2 0) (hR : RC X none) (hN : X_nL X = 2) (hk42 : ∀ (s : St), Zr X (QFN X none) 0 s 42 [(0, .ref (X_ad X 69))] [] (k42 s)) : ∀ (n : Nat) (v1 : Int32) (s : St), Zr X (QFN X none) 0 s 12 [(0, .ref (X_ad X 69)), (1, .int v1)] [] (fX12_keep_L12 k42 n v1 s) := by
  intro n
  induction n with
  | zero =>
    intro v1 s
    exact zr_none
  | succ n ih =>
    intro v1 s
    rw [fX12_keep_L12]
    refine zr_iload_n (pc := 12) (i := 1) 1 hC dX12_keep_12 rfl rfl ?_
    refine zr_aload_n (pc := 13) (i := 0) 0 hC dX12_keep_13 rfl rfl ?_
    refine zr_getR (pc := 14) (j := 31) (k1 := 89) hC mem_69 lay_69 rfl rfl (Nat.le_of_ble_eq_true rfl) iX12 m_1426 dX12_keep_14 ?_
    refine zr_alen (pc := 17) hC mem_89 lay_89 dX12_keep_17 ?_
    refine zr_icmp_ge (pc := 18) (tgt := 42) hC dX12_keep_18 (by decide) (fun c_ => ?_) (fun c_ => ?_)
    · refine zr_sub (ls' := [(0, _)]) [0] rfl ?_
      exact hk42 s
    · refine zr_aload_n (pc := 21) (i := 0) 0 hC dX12_keep_21 rfl rfl ?_
      refine zr_getR (pc := 22) (j := 31) (k1 := 89) hC mem_69 lay_69 rfl rfl (Nat.le_of_ble_eq_true rfl) iX12 m_1426 dX12_keep_22 ?_
      refine zr_iload_n (pc := 25) (i := 1) 1 hC dX12_keep_25 rfl rfl ?_
      refine zr_bipush (pc := 26) (v := (95 : Int32)) hC dX12_keep_26 bi_95 ?_
      refine zr_isub (pc := 28) hC dX12_keep_28 ?_
      refine zr_aload_n (pc := 29) (i := 0) 0 hC dX12_keep_29 rfl rfl ?_
      refine zr_getR (pc := 30) (j := 31) (k1 := 89) hC mem_69 lay_69 rfl rfl (Nat.le_of_ble_eq_true rfl) iX12 m_1426 dX12_keep_30 ?_
      refine zr_iload_n (pc := 33) (i := 1) 1 hC dX12_keep_33 rfl rfl ?_
      refine zr_iald (pc := 34) hC mem_89 lay_89 dX12_keep_34 ?_
      refine zr_iast (pc := 35) hC mem_89 lay_89 dX12_keep_35 ?_
      refine zr_iinc (pc := 36) (q := 1) (ls' := [(1, _), (0, _)]) hC dX12_keep_36 rfl (inc_1 _) (nlt hN (Nat.le_of_ble_eq_true rfl)) rfl ?_
      refine zr_goto (pc := 39) (tgt := 12) hC dX12_keep_39 (by decide) ?_
      refine zr_sub (ls' := [(0, _), (1, _)]) [1, 0] rfl ?_
      exact ih (v1 + (1 : Int32)) (wr s 89 (v1 - (95 : Int32)).toNatClampNeg (s 89 v1.toNatClampNeg))
def fX12_keep (s : St) : Option (Int32 × St) :=
  if (s 69 32) = (40 : Int32) then
    (fX12_keep_L12 (fun s_4 => let s_5 := wr s_4 69 32 ((s_4 69 32) - (1 : Int32));
    fX12_keep_J52 s_5) FU (95 : Int32) s)
  else
    (fX12_keep_J52 s)
set_option maxRecDepth 100000 in
set_option maxHeartbeats 4000000 in
theorem kX12_keep (l : Launch)  (s : St) : CN l yX12_keep cX12_keep 2 none 2 FULL (fun ad => [.ref (ad 69)]) s (fX12_keep s) := by
  refine cn_of (by decide) (fun _ => (Nat.le_of_ble_eq_true rfl)) (fun X hC hR hl hN => ?_)
  subst hl
  show Zr X (QFN X none) 0 s 0 [(0, .ref (X_ad X 69))] [] _
  rw [fX12_keep]
  refine zr_aload_n (pc := 0) (i := 0) 0 hC dX12_keep_0 rfl rfl ?_
  refine zr_getI (pc := 1) (j := 32) hC mem_69 lay_69 rfl rfl (Nat.le_of_ble_eq_true rfl) iX12 m_1427 dX12_keep_1 ?_
  refine zr_bipush (pc := 4) (v := (40 : Int32)) hC dX12_keep_4 bi_40 ?_
  refine zr_icmp_ne (pc := 6) (tgt := 52) hC dX12_keep_6 (by decide) (fun c_ => ?_) (fun c_ => ?_)
  · refine zr_bipush (pc := 9) (v := (95 : Int32)) hC dX12_keep_9 bi_95 ?_
    refine zr_istore_n (pc := 11) (i := 1) (ls' := [(1, _), (0, _)]) hC dX12_keep_11 rfl (nlt hN (Nat.le_of_ble_eq_true rfl)) rfl ?_
    refine zr_sub (ls' := [(0, _), (1, _)]) [1, 0] rfl ?_
    refine tX12_keep_L12 _ X hC hR hN (fun s_4 => ?_) FU (95 : Int32) _
    · refine zr_aload_n (pc := 42) (i := 0) 0 hC dX12_keep_42 rfl rfl ?_
      refine zr_dup (pc := 43) hC dX12_keep_43 rfl ?_
      refine zr_getI (pc := 44) (j := 32) hC mem_69 lay_69 rfl rfl (Nat.le_of_ble_eq_true rfl) iX12 m_1427 dX12_keep_44 ?_
      refine zr_iconst (pc := 47) (v := (1 : Int32)) hC dX12_keep_47 ic_1 ?_
      refine zr_isub (pc := 48) hC dX12_keep_48 ?_
      refine zr_putInt (pc := 49) (j := 32) hC mem_69 lay_69 rfl rfl (Nat.le_of_ble_eq_true rfl) iX12 tyX12_ok nmX12 m_1427 rfl (by decide +kernel) dX12_keep_49 ?_
      exact tX12_keep_J52  X hC hR hN  _
  · exact tX12_keep_J52  X hC hR hN  _
def fX12_go (a1 : Int32) (a2 : Int32) (s : St) : Option (Int32 × St) :=
  let s_1 := wr s 69 1 (0 : Int32);
    bd (fX12_isPerson a1 s_1) (fun y_2 s_2 =>
    if y_2 = 0 then
    (bd (fX12_fail (1 : Int32) s_2) (fun y_9 s_9 =>
    some (y_9, s_9)))
  else
    (bd (fX12_isAlive a1 s_2) (fun y_3 s_3 =>
    if y_3 = 0 then
    (bd (fX12_refuse (1 : Int32) s_3) (fun y_4 s_4 =>
    some (y_4, s_4)))
  else
    (bd (fX12_isIn (Int32.toInt64 a2) (0 : Int64) (9 : Int64) s_3) (fun y_5 s_5 =>
    if y_5 = 0 then
    (bd (fX12_refuse (1 : Int32) s_5) (fun y_8 s_8 =>
    some (y_8, s_8)))
  else
    (bd (fX12_keep s_5) (fun y_6 s_6 =>
    if inA a1 24 then
    (if inA a1 24 then
    (let s_7 := wr s_6 73 a1.toNatClampNeg a2;
    some ((s_6 73 a1.toNatClampNeg), s_7)) else none) else none)))))))
set_option maxRecDepth 100000 in
set_option maxHeartbeats 4000000 in
theorem kX12_go (l : Launch)  (a1 : Int32) (a2 : Int32) (s : St) : CN l yX12_go cX12_go 4 (some .int) 3 FULL (fun ad => [.ref (ad 69), .int a1, .int a2]) s (fX12_go a1 a2 s) := by
  refine cn_of (by decide) (fun _ => (Nat.le_of_ble_eq_true rfl)) (fun X hC hR hl hN => ?_)
  subst hl
  show Zr X (QFN X (some .int)) 0 s 0 [(0, .ref (X_ad X 69)), (1, .int a1), (2, .int a2)] [] _
  rw [fX12_go]
  refine zr_aload_n (pc := 0) (i := 0) 0 hC dX12_go_0 rfl rfl ?_
  refine zr_iconst (pc := 1) (v := (0 : Int32)) hC dX12_go_1 ic_0 ?_
  refine zr_putInt (pc := 2) (j := 1) hC mem_69 lay_69 rfl rfl (Nat.le_of_ble_eq_true rfl) iX12 tyX12_ok nmX12 m_1396 rfl (by decide +kernel) dX12_go_2 ?_
  refine zr_aload_n (pc := 5) (i := 0) 0 hC dX12_go_5 rfl rfl ?_
  refine zr_iload_n (pc := 6) (i := 1) 1 hC dX12_go_6 rfl rfl ?_
  refine zr_callV (pc := 7) (As := fun ad => [.int a1]) (st1 := []) hC (Nat.le_of_ble_eq_true rfl) (kX12_isPerson _ a1 _) (Nat.le_of_ble_eq_true rfl) mc_yX12_isPerson m_1762 m_1764 m_p82 mem_69 lay_69 rfl rfl rfl rfl (Nat.le_of_ble_eq_true rfl) dX12_go_7 (fun y_2 s_2 => ?_)
  refine zr_if_ne (pc := 10) (tgt := 19) hC dX12_go_10 (by decide) (fun c_ => ?_) (fun c_ => ?_)
  · refine zr_aload_n (pc := 13) (i := 0) 0 hC dX12_go_13 rfl rfl ?_
    refine zr_iconst (pc := 14) (v := (1 : Int32)) hC dX12_go_14 ic_1 ?_
    refine zr_callV (pc := 15) (As := fun ad => [.int (1 : Int32)]) (st1 := []) hC (Nat.le_of_ble_eq_true rfl) (kX12_fail _ (1 : Int32) _) (Nat.le_of_ble_eq_true rfl) mc_yX12_fail m_1606 m_1608 m_p53 mem_69 lay_69 rfl rfl rfl rfl (Nat.le_of_ble_eq_true rfl) dX12_go_15 (fun y_9 s_9 => ?_)
    exact zr_iret (pc := 18) hC hR dX12_go_18
  · refine zr_aload_n (pc := 19) (i := 0) 0 hC dX12_go_19 rfl rfl ?_
    refine zr_iload_n (pc := 20) (i := 1) 1 hC dX12_go_20 rfl rfl ?_
    refine zr_callV (pc := 21) (As := fun ad => [.int a1]) (st1 := []) hC (Nat.le_of_ble_eq_true rfl) (kX12_isAlive _ a1 _) (Nat.le_of_ble_eq_true rfl) mc_yX12_isAlive m_1769 m_1771 m_p83 mem_69 lay_69 rfl rfl rfl rfl (Nat.le_of_ble_eq_true rfl) dX12_go_21 (fun y_3 s_3 => ?_)
    refine zr_if_eq (pc := 24) (tgt := 39) hC dX12_go_24 (by decide) (fun c_ => ?_) (fun c_ => ?_)
    · refine zr_aload_n (pc := 39) (i := 0) 0 hC dX12_go_39 rfl rfl ?_
      refine zr_iconst (pc := 40) (v := (1 : Int32)) hC dX12_go_40 ic_1 ?_
      refine zr_callV (pc := 41) (As := fun ad => [.int (1 : Int32)]) (st1 := []) hC (Nat.le_of_ble_eq_true rfl) (kX12_refuse _ (1 : Int32) _) (Nat.le_of_ble_eq_true rfl) mc_yX12_refuse m_1828 m_1830 m_p90 mem_69 lay_69 rfl rfl rfl rfl (Nat.le_of_ble_eq_true rfl) dX12_go_41 (fun y_4 s_4 => ?_)
      exact zr_iret (pc := 44) hC hR dX12_go_44
    · refine zr_iload_n (pc := 27) (i := 2) 2 hC dX12_go_27 rfl rfl ?_
      refine zr_i2l (pc := 28) hC dX12_go_28 ?_
      refine zr_lconst (pc := 29) (v := (0 : Int64)) hC dX12_go_29 rfl ?_
      refine zr_ldc2 (pc := 30) hC dX12_go_30 m_1785 ?_
      refine zr_callS (pc := 33) (As := fun ad => [.long (Int32.toInt64 a2), .long (0 : Int64), .long (9 : Int64)]) (st1 := []) hC (Nat.le_of_ble_eq_true rfl) (kX12_isIn _ (Int32.toInt64 a2) (0 : Int64) (9 : Int64) _) (Nat.le_of_ble_eq_true rfl) mc_yX12_isIn m_1766 m_1767 rfl rfl rfl (Nat.le_of_ble_eq_true rfl) dX12_go_33 (fun y_5 s_5 => ?_)
      refine zr_if_ne (pc := 36) (tgt := 45) hC dX12_go_36 (by decide) (fun c_ => ?_) (fun c_ => ?_)
      · refine zr_aload_n (pc := 39) (i := 0) 0 hC dX12_go_39 rfl rfl ?_
        refine zr_iconst (pc := 40) (v := (1 : Int32)) hC dX12_go_40 ic_1 ?_
        refine zr_callV (pc := 41) (As := fun ad => [.int (1 : Int32)]) (st1 := []) hC (Nat.le_of_ble_eq_true rfl) (kX12_refuse _ (1 : Int32) _) (Nat.le_of_ble_eq_true rfl) mc_yX12_refuse m_1828 m_1830 m_p90 mem_69 lay_69 rfl rfl rfl rfl (Nat.le_of_ble_eq_true rfl) dX12_go_41 (fun y_8 s_8 => ?_)
        exact zr_iret (pc := 44) hC hR dX12_go_44
      · refine zr_aload_n (pc := 45) (i := 0) 0 hC dX12_go_45 rfl rfl ?_
        refine zr_callVv (pc := 46) (As := fun ad => []) (st1 := []) hC (Nat.le_of_ble_eq_true rfl) (kX12_keep _  _) (Nat.le_of_ble_eq_true rfl) mc_yX12_keep m_1832 m_1834 m_p91 mem_69 lay_69 rfl rfl rfl rfl (Nat.le_of_ble_eq_true rfl) dX12_go_46 (fun y_6 s_6 => ?_)
        refine zr_aload_n (pc := 49) (i := 0) 0 hC dX12_go_49 rfl rfl ?_
        refine zr_getR (pc := 50) (j := 4) (k1 := 73) hC mem_69 lay_69 rfl rfl (Nat.le_of_ble_eq_true rfl) iX12 m_1399 dX12_go_50 ?_
        refine zr_iload_n (pc := 53) (i := 1) 1 hC dX12_go_53 rfl rfl ?_
        refine zr_iald (pc := 54) hC mem_73 lay_73 dX12_go_54 ?_
        refine zr_istore_n (pc := 55) (i := 3) (ls' := [(3, _), (0, _), (1, _), (2, _)]) hC dX12_go_55 rfl (nlt hN (Nat.le_of_ble_eq_true rfl)) rfl ?_
        refine zr_aload_n (pc := 56) (i := 0) 1 hC dX12_go_56 rfl rfl ?_
        refine zr_getR (pc := 57) (j := 4) (k1 := 73) hC mem_69 lay_69 rfl rfl (Nat.le_of_ble_eq_true rfl) iX12 m_1399 dX12_go_57 ?_
        refine zr_iload_n (pc := 60) (i := 1) 2 hC dX12_go_60 rfl rfl ?_
        refine zr_iload_n (pc := 61) (i := 2) 3 hC dX12_go_61 rfl rfl ?_
        refine zr_iast (pc := 62) hC mem_73 lay_73 dX12_go_62 ?_
        refine zr_iload_n (pc := 63) (i := 3) 0 hC dX12_go_63 rfl rfl ?_
        exact zr_iret (pc := 64) hC hR dX12_go_64
def fX12_isBound (a1 : Int32) (s : St) : Option (Int32 × St) :=
  if inA a1 24 then
    (if (s 77 a1.toNatClampNeg) = (-1 : Int32) then
    (some ((0 : Int32), s))
  else
    (if inA a1 24 then
    (bd (fX12_isAlive (s 77 a1.toNatClampNeg) s) (fun y_1 s_1 =>
    if y_1 = 0 then
    (some ((0 : Int32), s_1))
  else
    (some ((1 : Int32), s_1)))) else none)) else none
set_option maxRecDepth 100000 in
set_option maxHeartbeats 4000000 in
theorem kX12_isBound (l : Launch)  (a1 : Int32) (s : St) : CN l yX12_isBound cX12_isBound 2 (some .boolean) 2 FULL (fun ad => [.ref (ad 69), .int a1]) s (fX12_isBound a1 s) := by
  refine cn_of (by decide) (fun _ => (Nat.le_of_ble_eq_true rfl)) (fun X hC hR hl hN => ?_)
  subst hl
  show Zr X (QFN X (some .boolean)) 0 s 0 [(0, .ref (X_ad X 69)), (1, .int a1)] [] _
  rw [fX12_isBound]
  refine zr_aload_n (pc := 0) (i := 0) 0 hC dX12_isBound_0 rfl rfl ?_
  refine zr_getR (pc := 1) (j := 8) (k1 := 77) hC mem_69 lay_69 rfl rfl (Nat.le_of_ble_eq_true rfl) iX12 m_1403 dX12_isBound_1 ?_
  refine zr_iload_n (pc := 4) (i := 1) 1 hC dX12_isBound_4 rfl rfl ?_
  refine zr_iald (pc := 5) hC mem_77 lay_77 dX12_isBound_5 ?_
  refine zr_iconst (pc := 6) (v := (-1 : Int32)) hC dX12_isBound_6 ic_m1 ?_
  refine zr_icmp_eq (pc := 7) (tgt := 27) hC dX12_isBound_7 (by decide) (fun c_ => ?_) (fun c_ => ?_)
  · refine zr_iconst (pc := 27) (v := (0 : Int32)) hC dX12_isBound_27 ic_0 ?_
    exact zr_zret (pc := 28) (by decide) hC hR dX12_isBound_28
  · refine zr_aload_n (pc := 10) (i := 0) 0 hC dX12_isBound_10 rfl rfl ?_
    refine zr_aload_n (pc := 11) (i := 0) 0 hC dX12_isBound_11 rfl rfl ?_
    refine zr_getR (pc := 12) (j := 8) (k1 := 77) hC mem_69 lay_69 rfl rfl (Nat.le_of_ble_eq_true rfl) iX12 m_1403 dX12_isBound_12 ?_
    refine zr_iload_n (pc := 15) (i := 1) 1 hC dX12_isBound_15 rfl rfl ?_
    refine zr_iald (pc := 16) hC mem_77 lay_77 dX12_isBound_16 ?_
    refine zr_callV (pc := 17) (As := fun ad => [.int (s 77 a1.toNatClampNeg)]) (st1 := []) hC (Nat.le_of_ble_eq_true rfl) (kX12_isAlive _ (s 77 a1.toNatClampNeg) _) (Nat.le_of_ble_eq_true rfl) mc_yX12_isAlive m_1769 m_1771 m_p83 mem_69 lay_69 rfl rfl rfl rfl (Nat.le_of_ble_eq_true rfl) dX12_isBound_17 (fun y_1 s_1 => ?_)
    refine zr_if_eq (pc := 20) (tgt := 27) hC dX12_isBound_20 (by decide) (fun c_ => ?_) (fun c_ => ?_)
    · refine zr_iconst (pc := 27) (v := (0 : Int32)) hC dX12_isBound_27 ic_0 ?_
      exact zr_zret (pc := 28) (by decide) hC hR dX12_isBound_28
    · refine zr_iconst (pc := 23) (v := (1 : Int32)) hC dX12_isBound_23 ic_1 ?_
      refine zr_goto (pc := 24) (tgt := 28) hC dX12_isBound_24 (by decide) ?_
      exact zr_zret (pc := 28) (by decide) hC hR dX12_isBound_28
def fX12_unbind (a1 : Int32) (s : St) : Option (Int32 × St) :=
  if inA a1 24 then
    (if (s 77 a1.toNatClampNeg) = (-1 : Int32) then
    (some (0, s))
  else
    (if inA a1 24 then
    (if inA (s 77 a1.toNatClampNeg) 24 then
    (let s_1 := wr s 77 (s 77 a1.toNatClampNeg).toNatClampNeg (-1 : Int32);
    if inA a1 24 then
    (let s_2 := wr s_1 77 a1.toNatClampNeg (-1 : Int32);
    some (0, s_2)) else none) else none) else none)) else none
set_option maxRecDepth 100000 in
set_option maxHeartbeats 4000000 in
theorem kX12_unbind (l : Launch)  (a1 : Int32) (s : St) : CN l yX12_unbind cX12_unbind 2 none 1 FULL (fun ad => [.ref (ad 69), .int a1]) s (fX12_unbind a1 s) := by
  refine cn_of (by decide) (fun _ => (Nat.le_of_ble_eq_true rfl)) (fun X hC hR hl hN => ?_)
  subst hl
  show Zr X (QFN X none) 0 s 0 [(0, .ref (X_ad X 69)), (1, .int a1)] [] _
  rw [fX12_unbind]
  refine zr_aload_n (pc := 0) (i := 0) 0 hC dX12_unbind_0 rfl rfl ?_
  refine zr_getR (pc := 1) (j := 8) (k1 := 77) hC mem_69 lay_69 rfl rfl (Nat.le_of_ble_eq_true rfl) iX12 m_1403 dX12_unbind_1 ?_
  refine zr_iload_n (pc := 4) (i := 1) 1 hC dX12_unbind_4 rfl rfl ?_
  refine zr_iald (pc := 5) hC mem_77 lay_77 dX12_unbind_5 ?_
  refine zr_iconst (pc := 6) (v := (-1 : Int32)) hC dX12_unbind_6 ic_m1 ?_
  refine zr_icmp_ne (pc := 7) (tgt := 11) hC dX12_unbind_7 (by decide) (fun c_ => ?_) (fun c_ => ?_)
  · exact zr_vret (pc := 10) hC hR dX12_unbind_10
  · refine zr_aload_n (pc := 11) (i := 0) 0 hC dX12_unbind_11 rfl rfl ?_
    refine zr_getR (pc := 12) (j := 8) (k1 := 77) hC mem_69 lay_69 rfl rfl (Nat.le_of_ble_eq_true rfl) iX12 m_1403 dX12_unbind_12 ?_
    refine zr_aload_n (pc := 15) (i := 0) 0 hC dX12_unbind_15 rfl rfl ?_
    refine zr_getR (pc := 16) (j := 8) (k1 := 77) hC mem_69 lay_69 rfl rfl (Nat.le_of_ble_eq_true rfl) iX12 m_1403 dX12_unbind_16 ?_
    refine zr_iload_n (pc := 19) (i := 1) 1 hC dX12_unbind_19 rfl rfl ?_
    refine zr_iald (pc := 20) hC mem_77 lay_77 dX12_unbind_20 ?_
    refine zr_iconst (pc := 21) (v := (-1 : Int32)) hC dX12_unbind_21 ic_m1 ?_
    refine zr_iast (pc := 22) hC mem_77 lay_77 dX12_unbind_22 ?_
    refine zr_aload_n (pc := 23) (i := 0) 0 hC dX12_unbind_23 rfl rfl ?_
    refine zr_getR (pc := 24) (j := 8) (k1 := 77) hC mem_69 lay_69 rfl rfl (Nat.le_of_ble_eq_true rfl) iX12 m_1403 dX12_unbind_24 ?_
    refine zr_iload_n (pc := 27) (i := 1) 1 hC dX12_unbind_27 rfl rfl ?_
    refine zr_iconst (pc := 28) (v := (-1 : Int32)) hC dX12_unbind_28 ic_m1 ?_
    refine zr_iast (pc := 29) hC mem_77 lay_77 dX12_unbind_29 ?_
    exact zr_vret (pc := 30) hC hR dX12_unbind_30
def fX12_wed (a1 : Int32) (a2 : Int32) (s : St) : Option (Int32 × St) :=
  let s_1 := wr s 69 1 (0 : Int32);
    bd (fX12_isPerson a1 s_1) (fun y_2 s_2 =>
    if y_2 = 0 then
    (let s_3 := wr s_2 69 1 (1 : Int32);
    some ((0 : Int32), s_3))
  else
    (bd (fX12_isPerson a2 s_2) (fun y_4 s_4 =>
    if y_4 = 0 then
    (let s_19 := wr s_4 69 1 (1 : Int32);
    some ((0 : Int32), s_19))
  else
    (if a1 = a2 then
    (if inA (1 : Int32) 3 then
    (if inA (1 : Int32) 3 then
    (let s_5 := wr s_4 85 (1 : Int32).toNatClampNeg ((s_4 85 (1 : Int32).toNatClampNeg) + (1 : Int32));
    some ((0 : Int32), s_5)) else none) else none)
  else
    (bd (fX12_isAlive a1 s_4) (fun y_6 s_6 =>
    if y_6 = 0 then
    (if inA (1 : Int32) 3 then
    (if inA (1 : Int32) 3 then
    (let s_7 := wr s_6 85 (1 : Int32).toNatClampNeg ((s_6 85 (1 : Int32).toNatClampNeg) + (1 : Int32));
    some ((0 : Int32), s_7)) else none) else none)
  else
    (bd (fX12_isAlive a2 s_6) (fun y_8 s_8 =>
    if y_8 = 0 then
    (if inA (1 : Int32) 3 then
    (if inA (1 : Int32) 3 then
    (let s_9 := wr s_8 85 (1 : Int32).toNatClampNeg ((s_8 85 (1 : Int32).toNatClampNeg) + (1 : Int32));
    some ((0 : Int32), s_9)) else none) else none)
  else
    (bd (fX12_isBound a1 s_8) (fun y_10 s_10 =>
    if y_10 = 0 then
    (bd (fX12_isBound a2 s_10) (fun y_12 s_12 =>
    if y_12 = 0 then
    (bd (fX12_keep s_12) (fun y_13 s_13 =>
    bd (fX12_unbind a1 s_13) (fun y_14 s_14 =>
    bd (fX12_unbind a2 s_14) (fun y_15 s_15 =>
    if inA a1 24 then
    (let s_16 := wr s_15 77 a1.toNatClampNeg a2;
    if inA a2 24 then
    (let s_17 := wr s_16 77 a2.toNatClampNeg a1;
    some ((1 : Int32), s_17)) else none) else none))))
  else
    (if inA (1 : Int32) 3 then
    (if inA (1 : Int32) 3 then
    (let s_18 := wr s_12 85 (1 : Int32).toNatClampNeg ((s_12 85 (1 : Int32).toNatClampNeg) + (1 : Int32));
    some ((0 : Int32), s_18)) else none) else none)))
  else
    (if inA (1 : Int32) 3 then
    (if inA (1 : Int32) 3 then
    (let s_11 := wr s_10 85 (1 : Int32).toNatClampNeg ((s_10 85 (1 : Int32).toNatClampNeg) + (1 : Int32));
    some ((0 : Int32), s_11)) else none) else none)))))))))))
set_option maxRecDepth 100000 in
set_option maxHeartbeats 4000000 in
theorem kX12_wed (l : Launch)  (a1 : Int32) (a2 : Int32) (s : St) : CN l yX12_wed cX12_wed 3 (some .boolean) 3 FULL (fun ad => [.ref (ad 69), .int a1, .int a2]) s (fX12_wed a1 a2 s) := by
  refine cn_of (by decide) (fun _ => (Nat.le_of_ble_eq_true rfl)) (fun X hC hR hl hN => ?_)
  subst hl
  show Zr X (QFN X (some .boolean)) 0 s 0 [(0, .ref (X_ad X 69)), (1, .int a1), (2, .int a2)] [] _
  rw [fX12_wed]
  refine zr_aload_n (pc := 0) (i := 0) 0 hC dX12_wed_0 rfl rfl ?_
  refine zr_iconst (pc := 1) (v := (0 : Int32)) hC dX12_wed_1 ic_0 ?_
  refine zr_putInt (pc := 2) (j := 1) hC mem_69 lay_69 rfl rfl (Nat.le_of_ble_eq_true rfl) iX12 tyX12_ok nmX12 m_1396 rfl (by decide +kernel) dX12_wed_2 ?_
  refine zr_aload_n (pc := 5) (i := 0) 0 hC dX12_wed_5 rfl rfl ?_
  refine zr_iload_n (pc := 6) (i := 1) 1 hC dX12_wed_6 rfl rfl ?_
  refine zr_callV (pc := 7) (As := fun ad => [.int a1]) (st1 := []) hC (Nat.le_of_ble_eq_true rfl) (kX12_isPerson _ a1 _) (Nat.le_of_ble_eq_true rfl) mc_yX12_isPerson m_1762 m_1764 m_p82 mem_69 lay_69 rfl rfl rfl rfl (Nat.le_of_ble_eq_true rfl) dX12_wed_7 (fun y_2 s_2 => ?_)
  refine zr_if_eq (pc := 10) (tgt := 21) hC dX12_wed_10 (by decide) (fun c_ => ?_) (fun c_ => ?_)
  · refine zr_aload_n (pc := 21) (i := 0) 0 hC dX12_wed_21 rfl rfl ?_
    refine zr_iconst (pc := 22) (v := (1 : Int32)) hC dX12_wed_22 ic_1 ?_
    refine zr_putInt (pc := 23) (j := 1) hC mem_69 lay_69 rfl rfl (Nat.le_of_ble_eq_true rfl) iX12 tyX12_ok nmX12 m_1396 rfl (by decide +kernel) dX12_wed_23 ?_
    refine zr_iconst (pc := 26) (v := (0 : Int32)) hC dX12_wed_26 ic_0 ?_
    exact zr_zret (pc := 27) (by decide) hC hR dX12_wed_27
  · refine zr_aload_n (pc := 13) (i := 0) 0 hC dX12_wed_13 rfl rfl ?_
    refine zr_iload_n (pc := 14) (i := 2) 2 hC dX12_wed_14 rfl rfl ?_
    refine zr_callV (pc := 15) (As := fun ad => [.int a2]) (st1 := []) hC (Nat.le_of_ble_eq_true rfl) (kX12_isPerson _ a2 _) (Nat.le_of_ble_eq_true rfl) mc_yX12_isPerson m_1762 m_1764 m_p82 mem_69 lay_69 rfl rfl rfl rfl (Nat.le_of_ble_eq_true rfl) dX12_wed_15 (fun y_4 s_4 => ?_)
    refine zr_if_ne (pc := 18) (tgt := 28) hC dX12_wed_18 (by decide) (fun c_ => ?_) (fun c_ => ?_)
    · refine zr_aload_n (pc := 21) (i := 0) 0 hC dX12_wed_21 rfl rfl ?_
      refine zr_iconst (pc := 22) (v := (1 : Int32)) hC dX12_wed_22 ic_1 ?_
      refine zr_putInt (pc := 23) (j := 1) hC mem_69 lay_69 rfl rfl (Nat.le_of_ble_eq_true rfl) iX12 tyX12_ok nmX12 m_1396 rfl (by decide +kernel) dX12_wed_23 ?_
      refine zr_iconst (pc := 26) (v := (0 : Int32)) hC dX12_wed_26 ic_0 ?_
      exact zr_zret (pc := 27) (by decide) hC hR dX12_wed_27
    · refine zr_iload_n (pc := 28) (i := 1) 1 hC dX12_wed_28 rfl rfl ?_
      refine zr_iload_n (pc := 29) (i := 2) 2 hC dX12_wed_29 rfl rfl ?_
      refine zr_icmp_eq (pc := 30) (tgt := 65) hC dX12_wed_30 (by decide) (fun c_ => ?_) (fun c_ => ?_)
      · refine zr_aload_n (pc := 65) (i := 0) 0 hC dX12_wed_65 rfl rfl ?_
        refine zr_getR (pc := 66) (j := 16) (k1 := 85) hC mem_69 lay_69 rfl rfl (Nat.le_of_ble_eq_true rfl) iX12 m_1411 dX12_wed_66 ?_
        refine zr_iconst (pc := 69) (v := (1 : Int32)) hC dX12_wed_69 ic_1 ?_
        refine zr_dup2 (pc := 70) hC dX12_wed_70 rfl rfl ?_
        refine zr_iald (pc := 71) hC mem_85 lay_85 dX12_wed_71 ?_
        refine zr_iconst (pc := 72) (v := (1 : Int32)) hC dX12_wed_72 ic_1 ?_
        refine zr_iadd (pc := 73) hC dX12_wed_73 ?_
        refine zr_iast (pc := 74) hC mem_85 lay_85 dX12_wed_74 ?_
        refine zr_iconst (pc := 75) (v := (0 : Int32)) hC dX12_wed_75 ic_0 ?_
        exact zr_zret (pc := 76) (by decide) hC hR dX12_wed_76
      · refine zr_aload_n (pc := 33) (i := 0) 0 hC dX12_wed_33 rfl rfl ?_
        refine zr_iload_n (pc := 34) (i := 1) 1 hC dX12_wed_34 rfl rfl ?_
        refine zr_callV (pc := 35) (As := fun ad => [.int a1]) (st1 := []) hC (Nat.le_of_ble_eq_true rfl) (kX12_isAlive _ a1 _) (Nat.le_of_ble_eq_true rfl) mc_yX12_isAlive m_1769 m_1771 m_p83 mem_69 lay_69 rfl rfl rfl rfl (Nat.le_of_ble_eq_true rfl) dX12_wed_35 (fun y_6 s_6 => ?_)
        refine zr_if_eq (pc := 38) (tgt := 65) hC dX12_wed_38 (by decide) (fun c_ => ?_) (fun c_ => ?_)
        · refine zr_aload_n (pc := 65) (i := 0) 0 hC dX12_wed_65 rfl rfl ?_
          refine zr_getR (pc := 66) (j := 16) (k1 := 85) hC mem_69 lay_69 rfl rfl (Nat.le_of_ble_eq_true rfl) iX12 m_1411 dX12_wed_66 ?_
          refine zr_iconst (pc := 69) (v := (1 : Int32)) hC dX12_wed_69 ic_1 ?_
          refine zr_dup2 (pc := 70) hC dX12_wed_70 rfl rfl ?_
          refine zr_iald (pc := 71) hC mem_85 lay_85 dX12_wed_71 ?_
          refine zr_iconst (pc := 72) (v := (1 : Int32)) hC dX12_wed_72 ic_1 ?_
          refine zr_iadd (pc := 73) hC dX12_wed_73 ?_
          refine zr_iast (pc := 74) hC mem_85 lay_85 dX12_wed_74 ?_
          refine zr_iconst (pc := 75) (v := (0 : Int32)) hC dX12_wed_75 ic_0 ?_
          exact zr_zret (pc := 76) (by decide) hC hR dX12_wed_76
        · refine zr_aload_n (pc := 41) (i := 0) 0 hC dX12_wed_41 rfl rfl ?_
          refine zr_iload_n (pc := 42) (i := 2) 2 hC dX12_wed_42 rfl rfl ?_
          refine zr_callV (pc := 43) (As := fun ad => [.int a2]) (st1 := []) hC (Nat.le_of_ble_eq_true rfl) (kX12_isAlive _ a2 _) (Nat.le_of_ble_eq_true rfl) mc_yX12_isAlive m_1769 m_1771 m_p83 mem_69 lay_69 rfl rfl rfl rfl (Nat.le_of_ble_eq_true rfl) dX12_wed_43 (fun y_8 s_8 => ?_)
          refine zr_if_eq (pc := 46) (tgt := 65) hC dX12_wed_46 (by decide) (fun c_ => ?_) (fun c_ => ?_)
          · refine zr_aload_n (pc := 65) (i := 0) 0 hC dX12_wed_65 rfl rfl ?_
            refine zr_getR (pc := 66) (j := 16) (k1 := 85) hC mem_69 lay_69 rfl rfl (Nat.le_of_ble_eq_true rfl) iX12 m_1411 dX12_wed_66 ?_
            refine zr_iconst (pc := 69) (v := (1 : Int32)) hC dX12_wed_69 ic_1 ?_
            refine zr_dup2 (pc := 70) hC dX12_wed_70 rfl rfl ?_
            refine zr_iald (pc := 71) hC mem_85 lay_85 dX12_wed_71 ?_
            refine zr_iconst (pc := 72) (v := (1 : Int32)) hC dX12_wed_72 ic_1 ?_
            refine zr_iadd (pc := 73) hC dX12_wed_73 ?_
            refine zr_iast (pc := 74) hC mem_85 lay_85 dX12_wed_74 ?_
            refine zr_iconst (pc := 75) (v := (0 : Int32)) hC dX12_wed_75 ic_0 ?_
            exact zr_zret (pc := 76) (by decide) hC hR dX12_wed_76
          · refine zr_aload_n (pc := 49) (i := 0) 0 hC dX12_wed_49 rfl rfl ?_
            refine zr_iload_n (pc := 50) (i := 1) 1 hC dX12_wed_50 rfl rfl ?_
            refine zr_callV (pc := 51) (As := fun ad => [.int a1]) (st1 := []) hC (Nat.le_of_ble_eq_true rfl) (kX12_isBound _ a1 _) (Nat.le_of_ble_eq_true rfl) mc_yX12_isBound m_1844 m_1846 m_p93 mem_69 lay_69 rfl rfl rfl rfl (Nat.le_of_ble_eq_true rfl) dX12_wed_51 (fun y_10 s_10 => ?_)
            refine zr_if_ne (pc := 54) (tgt := 65) hC dX12_wed_54 (by decide) (fun c_ => ?_) (fun c_ => ?_)
            · refine zr_aload_n (pc := 57) (i := 0) 0 hC dX12_wed_57 rfl rfl ?_
              refine zr_iload_n (pc := 58) (i := 2) 2 hC dX12_wed_58 rfl rfl ?_
              refine zr_callV (pc := 59) (As := fun ad => [.int a2]) (st1 := []) hC (Nat.le_of_ble_eq_true rfl) (kX12_isBound _ a2 _) (Nat.le_of_ble_eq_true rfl) mc_yX12_isBound m_1844 m_1846 m_p93 mem_69 lay_69 rfl rfl rfl rfl (Nat.le_of_ble_eq_true rfl) dX12_wed_59 (fun y_12 s_12 => ?_)
              refine zr_if_eq (pc := 62) (tgt := 77) hC dX12_wed_62 (by decide) (fun c_ => ?_) (fun c_ => ?_)
              · refine zr_aload_n (pc := 77) (i := 0) 0 hC dX12_wed_77 rfl rfl ?_
                refine zr_callVv (pc := 78) (As := fun ad => []) (st1 := []) hC (Nat.le_of_ble_eq_true rfl) (kX12_keep _  _) (Nat.le_of_ble_eq_true rfl) mc_yX12_keep m_1832 m_1834 m_p91 mem_69 lay_69 rfl rfl rfl rfl (Nat.le_of_ble_eq_true rfl) dX12_wed_78 (fun y_13 s_13 => ?_)
                refine zr_aload_n (pc := 81) (i := 0) 0 hC dX12_wed_81 rfl rfl ?_
                refine zr_iload_n (pc := 82) (i := 1) 1 hC dX12_wed_82 rfl rfl ?_
                refine zr_callVv (pc := 83) (As := fun ad => [.int a1]) (st1 := []) hC (Nat.le_of_ble_eq_true rfl) (kX12_unbind _ a1 _) (Nat.le_of_ble_eq_true rfl) mc_yX12_unbind m_1848 m_1850 m_p94 mem_69 lay_69 rfl rfl rfl rfl (Nat.le_of_ble_eq_true rfl) dX12_wed_83 (fun y_14 s_14 => ?_)
                refine zr_aload_n (pc := 86) (i := 0) 0 hC dX12_wed_86 rfl rfl ?_
                refine zr_iload_n (pc := 87) (i := 2) 2 hC dX12_wed_87 rfl rfl ?_
                refine zr_callVv (pc := 88) (As := fun ad => [.int a2]) (st1 := []) hC (Nat.le_of_ble_eq_true rfl) (kX12_unbind _ a2 _) (Nat.le_of_ble_eq_true rfl) mc_yX12_unbind m_1848 m_1850 m_p94 mem_69 lay_69 rfl rfl rfl rfl (Nat.le_of_ble_eq_true rfl) dX12_wed_88 (fun y_15 s_15 => ?_)
                refine zr_aload_n (pc := 91) (i := 0) 0 hC dX12_wed_91 rfl rfl ?_
                refine zr_getR (pc := 92) (j := 8) (k1 := 77) hC mem_69 lay_69 rfl rfl (Nat.le_of_ble_eq_true rfl) iX12 m_1403 dX12_wed_92 ?_
                refine zr_iload_n (pc := 95) (i := 1) 1 hC dX12_wed_95 rfl rfl ?_
                refine zr_iload_n (pc := 96) (i := 2) 2 hC dX12_wed_96 rfl rfl ?_
                refine zr_iast (pc := 97) hC mem_77 lay_77 dX12_wed_97 ?_
                refine zr_aload_n (pc := 98) (i := 0) 0 hC dX12_wed_98 rfl rfl ?_
                refine zr_getR (pc := 99) (j := 8) (k1 := 77) hC mem_69 lay_69 rfl rfl (Nat.le_of_ble_eq_true rfl) iX12 m_1403 dX12_wed_99 ?_
                refine zr_iload_n (pc := 102) (i := 2) 2 hC dX12_wed_102 rfl rfl ?_
                refine zr_iload_n (pc := 103) (i := 1) 1 hC dX12_wed_103 rfl rfl ?_
                refine zr_iast (pc := 104) hC mem_77 lay_77 dX12_wed_104 ?_
                refine zr_iconst (pc := 105) (v := (1 : Int32)) hC dX12_wed_105 ic_1 ?_
                exact zr_zret (pc := 106) (by decide) hC hR dX12_wed_106
              · refine zr_aload_n (pc := 65) (i := 0) 0 hC dX12_wed_65 rfl rfl ?_
                refine zr_getR (pc := 66) (j := 16) (k1 := 85) hC mem_69 lay_69 rfl rfl (Nat.le_of_ble_eq_true rfl) iX12 m_1411 dX12_wed_66 ?_
                refine zr_iconst (pc := 69) (v := (1 : Int32)) hC dX12_wed_69 ic_1 ?_
                refine zr_dup2 (pc := 70) hC dX12_wed_70 rfl rfl ?_
                refine zr_iald (pc := 71) hC mem_85 lay_85 dX12_wed_71 ?_
                refine zr_iconst (pc := 72) (v := (1 : Int32)) hC dX12_wed_72 ic_1 ?_
                refine zr_iadd (pc := 73) hC dX12_wed_73 ?_
                refine zr_iast (pc := 74) hC mem_85 lay_85 dX12_wed_74 ?_
                refine zr_iconst (pc := 75) (v := (0 : Int32)) hC dX12_wed_75 ic_0 ?_
                exact zr_zret (pc := 76) (by decide) hC hR dX12_wed_76
            · refine zr_aload_n (pc := 65) (i := 0) 0 hC dX12_wed_65 rfl rfl ?_
              refine zr_getR (pc := 66) (j := 16) (k1 := 85) hC mem_69 lay_69 rfl rfl (Nat.le_of_ble_eq_true rfl) iX12 m_1411 dX12_wed_66 ?_
              refine zr_iconst (pc := 69) (v := (1 : Int32)) hC dX12_wed_69 ic_1 ?_
              refine zr_dup2 (pc := 70) hC dX12_wed_70 rfl rfl ?_
              refine zr_iald (pc := 71) hC mem_85 lay_85 dX12_wed_71 ?_
              refine zr_iconst (pc := 72) (v := (1 : Int32)) hC dX12_wed_72 ic_1 ?_
              refine zr_iadd (pc := 73) hC dX12_wed_73 ?_
              refine zr_iast (pc := 74) hC mem_85 lay_85 dX12_wed_74 ?_
              refine zr_iconst (pc := 75) (v := (0 : Int32)) hC dX12_wed_75 ic_0 ?_
              exact zr_zret (pc := 76) (by decide) hC hR dX12_wed_76
def fX12_hasParent (a1 : Int32) (a2 : Int32) (s : St) : Option (Int32 × St) :=
  if a2 = (-1 : Int32) then
    (some ((0 : Int32), s))
  else
    (bd (fX12_isOf a1 a2 s) (fun y_1 s_1 =>
    if y_1 = 0 then
    (some ((0 : Int32), s_1))
  else
    (some ((1 : Int32), s_1))))
set_option maxRecDepth 100000 in
set_option maxHeartbeats 4000000 in
theorem kX12_hasParent (l : Launch)  (a1 : Int32) (a2 : Int32) (s : St) : CN l yX12_hasParent cX12_hasParent 3 (some .boolean) 2 FULL (fun ad => [.ref (ad 69), .int a1, .int a2]) s (fX12_hasParent a1 a2 s) := by
  refine cn_of (by decide) (fun _ => (Nat.le_of_ble_eq_true rfl)) (fun X hC hR hl hN => ?_)
  subst hl
  show Zr X (QFN X (some .boolean)) 0 s 0 [(0, .ref (X_ad X 69)), (1, .int a1), (2, .int a2)] [] _
  rw [fX12_hasParent]
  refine zr_iload_n (pc := 0) (i := 2) 2 hC dX12_hasParent_0 rfl rfl ?_
  refine zr_iconst (pc := 1) (v := (-1 : Int32)) hC dX12_hasParent_1 ic_m1 ?_
  refine zr_icmp_eq (pc := 2) (tgt := 18) hC dX12_hasParent_2 (by decide) (fun c_ => ?_) (fun c_ => ?_)
  · refine zr_iconst (pc := 18) (v := (0 : Int32)) hC dX12_hasParent_18 ic_0 ?_
    exact zr_zret (pc := 19) (by decide) hC hR dX12_hasParent_19
  · refine zr_aload_n (pc := 5) (i := 0) 0 hC dX12_hasParent_5 rfl rfl ?_
    refine zr_iload_n (pc := 6) (i := 1) 1 hC dX12_hasParent_6 rfl rfl ?_
    refine zr_iload_n (pc := 7) (i := 2) 2 hC dX12_hasParent_7 rfl rfl ?_
    refine zr_callV (pc := 8) (As := fun ad => [.int a1, .int a2]) (st1 := []) hC (Nat.le_of_ble_eq_true rfl) (kX12_isOf _ a1 a2 _) (Nat.le_of_ble_eq_true rfl) mc_yX12_isOf m_1820 m_1822 m_p89 mem_69 lay_69 rfl rfl rfl rfl (Nat.le_of_ble_eq_true rfl) dX12_hasParent_8 (fun y_1 s_1 => ?_)
    refine zr_if_eq (pc := 11) (tgt := 18) hC dX12_hasParent_11 (by decide) (fun c_ => ?_) (fun c_ => ?_)
    · refine zr_iconst (pc := 18) (v := (0 : Int32)) hC dX12_hasParent_18 ic_0 ?_
      exact zr_zret (pc := 19) (by decide) hC hR dX12_hasParent_19
    · refine zr_iconst (pc := 14) (v := (1 : Int32)) hC dX12_hasParent_14 ic_1 ?_
      refine zr_goto (pc := 15) (tgt := 19) hC dX12_hasParent_15 (by decide) ?_
      exact zr_zret (pc := 19) (by decide) hC hR dX12_hasParent_19
def fX12_reckon (a0 : Int32) (a1 : Int32) (a2 : Int32) (s : St) : Option (Int32 × St) :=
  if a0 = (-26 : Int32) then
    (if a1 = 0 then
    (some ((0 : Int32), s))
  else
    (if a2 = 0 then
    (some ((0 : Int32), s))
  else
    (some ((1 : Int32), s))))
  else
    (if a0 = (-25 : Int32) then
    (if a1 = a2 then
    (some ((1 : Int32), s))
  else
    (some ((0 : Int32), s)))
  else
    (if a0 = (-24 : Int32) then
    (if a2 ≤ a1 then
    (some ((0 : Int32), s))
  else
    (some ((1 : Int32), s)))
  else
    (if a0 = (-23 : Int32) then
    (if a2 = 0 then
    (some ((0 : Int32), s))
  else
    (if a2 = 0 then none else
    some ((a1 / a2), s)))
  else
    (if a0 = (-22 : Int32) then
    (some ((a1 * a2), s))
  else
    (if a0 = (-21 : Int32) then
    (some ((a1 - a2), s))
  else
    (if a0 = (-20 : Int32) then
    (some ((a1 + a2), s))
  else
    (if a1 = 0 then
    (if a2 = 0 then
    (some ((0 : Int32), s))
  else
    (some ((1 : Int32), s)))
  else
    (some ((1 : Int32), s)))))))))
set_option maxRecDepth 100000 in
set_option maxHeartbeats 4000000 in
theorem kX12_reckon (l : Launch)  (a0 : Int32) (a1 : Int32) (a2 : Int32) (s : St) : CN l yX12_reckon cX12_reckon 3 (some .int) 1 FULL (fun ad => [.int a0, .int a1, .int a2]) s (fX12_reckon a0 a1 a2 s) := by
  refine cn_of (by decide) (fun _ => (Nat.le_of_ble_eq_true rfl)) (fun X hC hR hl hN => ?_)
  subst hl
  show Zr X (QFN X (some .int)) 0 s 0 [(0, .int a0), (1, .int a1), (2, .int a2)] [] _
  rw [fX12_reckon]
  refine zr_iload_n (pc := 0) (i := 0) 0 hC dX12_reckon_0 rfl rfl ?_
  refine zr_tcase (pc := 1) (v := (-26 : Int32)) (off := 89) (tgt := 90) hC dX12_reckon_1 (by decide) (by decide) (by decide) (by decide) ?_ (fun e0 => ?_)
  · refine zr_iload_n (pc := 90) (i := 1) 1 hC dX12_reckon_90 rfl rfl ?_
    refine zr_if_eq (pc := 91) (tgt := 102) hC dX12_reckon_91 (by decide) (fun c_ => ?_) (fun c_ => ?_)
    · refine zr_iconst (pc := 102) (v := (0 : Int32)) hC dX12_reckon_102 ic_0 ?_
      exact zr_iret (pc := 103) hC hR dX12_reckon_103
    · refine zr_iload_n (pc := 94) (i := 2) 2 hC dX12_reckon_94 rfl rfl ?_
      refine zr_if_eq (pc := 95) (tgt := 102) hC dX12_reckon_95 (by decide) (fun c_ => ?_) (fun c_ => ?_)
      · refine zr_iconst (pc := 102) (v := (0 : Int32)) hC dX12_reckon_102 ic_0 ?_
        exact zr_iret (pc := 103) hC hR dX12_reckon_103
      · refine zr_iconst (pc := 98) (v := (1 : Int32)) hC dX12_reckon_98 ic_1 ?_
        refine zr_goto (pc := 99) (tgt := 103) hC dX12_reckon_99 (by decide) ?_
        exact zr_iret (pc := 103) hC hR dX12_reckon_103
  refine zr_tcase (pc := 1) (v := (-25 : Int32)) (off := 78) (tgt := 79) hC dX12_reckon_1 (by decide) (by decide) (by decide) (by decide) ?_ (fun e1 => ?_)
  · refine zr_iload_n (pc := 79) (i := 1) 1 hC dX12_reckon_79 rfl rfl ?_
    refine zr_iload_n (pc := 80) (i := 2) 2 hC dX12_reckon_80 rfl rfl ?_
    refine zr_icmp_ne (pc := 81) (tgt := 88) hC dX12_reckon_81 (by decide) (fun c_ => ?_) (fun c_ => ?_)
    · refine zr_iconst (pc := 84) (v := (1 : Int32)) hC dX12_reckon_84 ic_1 ?_
      refine zr_goto (pc := 85) (tgt := 89) hC dX12_reckon_85 (by decide) ?_
      exact zr_iret (pc := 89) hC hR dX12_reckon_89
    · refine zr_iconst (pc := 88) (v := (0 : Int32)) hC dX12_reckon_88 ic_0 ?_
      exact zr_iret (pc := 89) hC hR dX12_reckon_89
  refine zr_tcase (pc := 1) (v := (-24 : Int32)) (off := 67) (tgt := 68) hC dX12_reckon_1 (by decide) (by decide) (by decide) (by decide) ?_ (fun e2 => ?_)
  · refine zr_iload_n (pc := 68) (i := 1) 1 hC dX12_reckon_68 rfl rfl ?_
    refine zr_iload_n (pc := 69) (i := 2) 2 hC dX12_reckon_69 rfl rfl ?_
    refine zr_icmp_ge (pc := 70) (tgt := 77) hC dX12_reckon_70 (by decide) (fun c_ => ?_) (fun c_ => ?_)
    · refine zr_iconst (pc := 77) (v := (0 : Int32)) hC dX12_reckon_77 ic_0 ?_
      exact zr_iret (pc := 78) hC hR dX12_reckon_78
    · refine zr_iconst (pc := 73) (v := (1 : Int32)) hC dX12_reckon_73 ic_1 ?_
      refine zr_goto (pc := 74) (tgt := 78) hC dX12_reckon_74 (by decide) ?_
      exact zr_iret (pc := 78) hC hR dX12_reckon_78
  refine zr_tcase (pc := 1) (v := (-23 : Int32)) (off := 55) (tgt := 56) hC dX12_reckon_1 (by decide) (by decide) (by decide) (by decide) ?_ (fun e3 => ?_)
  · refine zr_iload_n (pc := 56) (i := 2) 2 hC dX12_reckon_56 rfl rfl ?_
    refine zr_if_ne (pc := 57) (tgt := 64) hC dX12_reckon_57 (by decide) (fun c_ => ?_) (fun c_ => ?_)
    · refine zr_iconst (pc := 60) (v := (0 : Int32)) hC dX12_reckon_60 ic_0 ?_
      refine zr_goto (pc := 61) (tgt := 67) hC dX12_reckon_61 (by decide) ?_
      exact zr_iret (pc := 67) hC hR dX12_reckon_67
    · refine zr_iload_n (pc := 64) (i := 1) 1 hC dX12_reckon_64 rfl rfl ?_
      refine zr_iload_n (pc := 65) (i := 2) 2 hC dX12_reckon_65 rfl rfl ?_
      refine zr_idiv (pc := 66) hC dX12_reckon_66 ?_
      exact zr_iret (pc := 67) hC hR dX12_reckon_67
  refine zr_tcase (pc := 1) (v := (-22 : Int32)) (off := 51) (tgt := 52) hC dX12_reckon_1 (by decide) (by decide) (by decide) (by decide) ?_ (fun e4 => ?_)
  · refine zr_iload_n (pc := 52) (i := 1) 1 hC dX12_reckon_52 rfl rfl ?_
    refine zr_iload_n (pc := 53) (i := 2) 2 hC dX12_reckon_53 rfl rfl ?_
    refine zr_imul (pc := 54) hC dX12_reckon_54 ?_
    exact zr_iret (pc := 55) hC hR dX12_reckon_55
  refine zr_tcase (pc := 1) (v := (-21 : Int32)) (off := 47) (tgt := 48) hC dX12_reckon_1 (by decide) (by decide) (by decide) (by decide) ?_ (fun e5 => ?_)
  · refine zr_iload_n (pc := 48) (i := 1) 1 hC dX12_reckon_48 rfl rfl ?_
    refine zr_iload_n (pc := 49) (i := 2) 2 hC dX12_reckon_49 rfl rfl ?_
    refine zr_isub (pc := 50) hC dX12_reckon_50 ?_
    exact zr_iret (pc := 51) hC hR dX12_reckon_51
  refine zr_tcase (pc := 1) (v := (-20 : Int32)) (off := 43) (tgt := 44) hC dX12_reckon_1 (by decide) (by decide) (by decide) (by decide) ?_ (fun e6 => ?_)
  · refine zr_iload_n (pc := 44) (i := 1) 1 hC dX12_reckon_44 rfl rfl ?_
    refine zr_iload_n (pc := 45) (i := 2) 2 hC dX12_reckon_45 rfl rfl ?_
    refine zr_iadd (pc := 46) hC dX12_reckon_46 ?_
    exact zr_iret (pc := 47) hC hR dX12_reckon_47
  refine zr_tdef (pc := 1) (tgt := 104) [(-26 : Int32), (-25 : Int32), (-24 : Int32), (-23 : Int32), (-22 : Int32), (-21 : Int32), (-20 : Int32)] hC dX12_reckon_1 (List.forall_mem_cons.mpr ⟨e0, List.forall_mem_cons.mpr ⟨e1, List.forall_mem_cons.mpr ⟨e2, List.forall_mem_cons.mpr ⟨e3, List.forall_mem_cons.mpr ⟨e4, List.forall_mem_cons.mpr ⟨e5, List.forall_mem_cons.mpr ⟨e6, fun _ h => absurd h List.not_mem_nil⟩⟩⟩⟩⟩⟩⟩) (by decide) (by decide) (by decide) ?_
  refine zr_iload_n (pc := 104) (i := 1) 1 hC dX12_reckon_104 rfl rfl ?_
  refine zr_if_ne (pc := 105) (tgt := 112) hC dX12_reckon_105 (by decide) (fun c_ => ?_) (fun c_ => ?_)
  · refine zr_iload_n (pc := 108) (i := 2) 2 hC dX12_reckon_108 rfl rfl ?_
    refine zr_if_eq (pc := 109) (tgt := 116) hC dX12_reckon_109 (by decide) (fun c_ => ?_) (fun c_ => ?_)
    · refine zr_iconst (pc := 116) (v := (0 : Int32)) hC dX12_reckon_116 ic_0 ?_
      exact zr_iret (pc := 117) hC hR dX12_reckon_117
    · refine zr_iconst (pc := 112) (v := (1 : Int32)) hC dX12_reckon_112 ic_1 ?_
      refine zr_goto (pc := 113) (tgt := 117) hC dX12_reckon_113 (by decide) ?_
      exact zr_iret (pc := 117) hC hR dX12_reckon_117
  · refine zr_iconst (pc := 112) (v := (1 : Int32)) hC dX12_reckon_112 ic_1 ?_
    refine zr_goto (pc := 113) (tgt := 117) hC dX12_reckon_113 (by decide) ?_
    exact zr_iret (pc := 117) hC hR dX12_reckon_117
def fX12_valueNow_L4 : Nat → Int32 → Int32 → St → Option (Int32 × St)
  | 0, _, _, _ => none
  | n + 1, v1, v2, s =>
    if inA (4 : Int32) 10 then
    (if (s 71 (4 : Int32).toNatClampNeg) ≤ v2 then
    (if inA (0 : Int32) 64 then
    (some ((s 91 (0 : Int32).toNatClampNeg), s)) else none)
  else
    (if inA v2 1400 then
    (if (s 84 v2.toNatClampNeg) ≤ (-20 : Int32) then
    (if (s 84 v2.toNatClampNeg) = (-28 : Int32) then
    (if inA (v1 - (1 : Int32)) 64 then
    (if (s 91 (v1 - (1 : Int32)).toNatClampNeg) = 0 then
    (if inA (v1 - (1 : Int32)) 64 then
    (let s_3 := wr s 91 (v1 - (1 : Int32)).toNatClampNeg (1 : Int32);
    fX12_valueNow_L4 n v1 (v2 + (1 : Int32)) s_3) else none)
  else
    (if inA (v1 - (1 : Int32)) 64 then
    (let s_4 := wr s 91 (v1 - (1 : Int32)).toNatClampNeg (0 : Int32);
    fX12_valueNow_L4 n v1 (v2 + (1 : Int32)) s_4) else none)) else none)
  else
    (if inA ((v1 + (-1 : Int32)) - (1 : Int32)) 64 then
    (if inA (v1 + (-1 : Int32)) 64 then
    (bd (fX12_reckon (s 84 v2.toNatClampNeg) (s 91 ((v1 + (-1 : Int32)) - (1 : Int32)).toNatClampNeg) (s 91 (v1 + (-1 : Int32)).toNatClampNeg) s) (fun y_1 s_1 =>
    if inA ((v1 + (-1 : Int32)) - (1 : Int32)) 64 then
    (let s_2 := wr s_1 91 ((v1 + (-1 : Int32)) - (1 : Int32)).toNatClampNeg y_1;
    fX12_valueNow_L4 n (v1 + (-1 : Int32)) (v2 + (1 : Int32)) s_2) else none)) else none) else none))
  else
    (if (s 84 v2.toNatClampNeg) < 0 then
    (if inA ((-1 : Int32) - (s 84 v2.toNatClampNeg)) 7 then
    (if inA v1 64 then
    (let s_5 := wr s 91 v1.toNatClampNeg (s 90 ((-1 : Int32) - (s 84 v2.toNatClampNeg)).toNatClampNeg);
    fX12_valueNow_L4 n (v1 + (1 : Int32)) (v2 + (1 : Int32)) s_5) else none) else none)
  else
    (if inA v1 64 then
    (let s_6 := wr s 91 v1.toNatClampNeg (s 84 v2.toNatClampNeg);
    fX12_valueNow_L4 n (v1 + (1 : Int32)) (v2 + (1 : Int32)) s_6) else none))) else none)) else none
set_option maxRecDepth 100000 in
set_option maxHeartbeats 4000000 in
theorem tX12_valueNow_L4 (X : KX) (hC : Ctx X RX12 cX12_valueNow FULL 2 0) (hR : RC X (some .int)) (hN : X_nL X = 4) : ∀ (n : Nat) (v1 : Int32) (v2 : Int32) (s : St), Zr X (QFN X (some .int)) 0 s 4 [(0, .ref (X_ad X 69)), (1, .int v1), (2, .int v2)] [] (fX12_valueNow_L4 n v1 v2 s) := by
  intro n
  induction n with
  | zero =>
    intro v1 v2 s
    exact zr_none
  | succ n ih =>
    intro v1 v2 s
    rw [fX12_valueNow_L4]
    refine zr_iload_n (pc := 4) (i := 2) 2 hC dX12_valueNow_4 rfl rfl ?_
    refine zr_aload_n (pc := 5) (i := 0) 0 hC dX12_valueNow_5 rfl rfl ?_
    refine zr_getR (pc := 6) (j := 2) (k1 := 71) hC mem_69 lay_69 rfl rfl (Nat.le_of_ble_eq_true rfl) iX12 m_1397 dX12_valueNow_6 ?_
    refine zr_iconst (pc := 9) (v := (4 : Int32)) hC dX12_valueNow_9 ic_4 ?_
    refine zr_iald (pc := 10) hC mem_71 lay_71 dX12_valueNow_10 ?_
    refine zr_icmp_ge (pc := 11) (tgt := 123) hC dX12_valueNow_11 (by decide) (fun c_ => ?_) (fun c_ => ?_)
    · refine zr_aload_n (pc := 123) (i := 0) 0 hC dX12_valueNow_123 rfl rfl ?_
      refine zr_getR (pc := 124) (j := 35) (k1 := 91) hC mem_69 lay_69 rfl rfl (Nat.le_of_ble_eq_true rfl) iX12 m_1430 dX12_valueNow_124 ?_
      refine zr_iconst (pc := 127) (v := (0 : Int32)) hC dX12_valueNow_127 ic_0 ?_
      refine zr_iald (pc := 128) hC mem_91 lay_91 dX12_valueNow_128 ?_
      exact zr_iret (pc := 129) hC hR dX12_valueNow_129
    · refine zr_aload_n (pc := 14) (i := 0) 0 hC dX12_valueNow_14 rfl rfl ?_
      refine zr_getR (pc := 15) (j := 15) (k1 := 84) hC mem_69 lay_69 rfl rfl (Nat.le_of_ble_eq_true rfl) iX12 m_1410 dX12_valueNow_15 ?_
      refine zr_iload_n (pc := 18) (i := 2) 2 hC dX12_valueNow_18 rfl rfl ?_
      refine zr_iald (pc := 19) hC mem_84 lay_84 dX12_valueNow_19 ?_
      refine zr_istore_n (pc := 20) (i := 3) (ls' := [(3, _), (0, _), (1, _), (2, _)]) hC dX12_valueNow_20 rfl (nlt hN (Nat.le_of_ble_eq_true rfl)) rfl ?_
      refine zr_iload_n (pc := 21) (i := 3) 0 hC dX12_valueNow_21 rfl rfl ?_
      refine zr_bipush (pc := 22) (v := (-20 : Int32)) hC dX12_valueNow_22 bi_m20 ?_
      refine zr_icmp_le (pc := 24) (tgt := 55) hC dX12_valueNow_24 (by decide) (fun c_ => ?_) (fun c_ => ?_)
      · refine zr_iload_n (pc := 55) (i := 3) 0 hC dX12_valueNow_55 rfl rfl ?_
        refine zr_bipush (pc := 56) (v := (-28 : Int32)) hC dX12_valueNow_56 bi_m28 ?_
        refine zr_icmp_ne (pc := 58) (tgt := 88) hC dX12_valueNow_58 (by decide) (fun c_ => ?_) (fun c_ => ?_)
        · refine zr_aload_n (pc := 61) (i := 0) 1 hC dX12_valueNow_61 rfl rfl ?_
          refine zr_getR (pc := 62) (j := 35) (k1 := 91) hC mem_69 lay_69 rfl rfl (Nat.le_of_ble_eq_true rfl) iX12 m_1430 dX12_valueNow_62 ?_
          refine zr_iload_n (pc := 65) (i := 1) 2 hC dX12_valueNow_65 rfl rfl ?_
          refine zr_iconst (pc := 66) (v := (1 : Int32)) hC dX12_valueNow_66 ic_1 ?_
          refine zr_isub (pc := 67) hC dX12_valueNow_67 ?_
          refine zr_aload_n (pc := 68) (i := 0) 1 hC dX12_valueNow_68 rfl rfl ?_
          refine zr_getR (pc := 69) (j := 35) (k1 := 91) hC mem_69 lay_69 rfl rfl (Nat.le_of_ble_eq_true rfl) iX12 m_1430 dX12_valueNow_69 ?_
          refine zr_iload_n (pc := 72) (i := 1) 2 hC dX12_valueNow_72 rfl rfl ?_
          refine zr_iconst (pc := 73) (v := (1 : Int32)) hC dX12_valueNow_73 ic_1 ?_
          refine zr_isub (pc := 74) hC dX12_valueNow_74 ?_
          refine zr_iald (pc := 75) hC mem_91 lay_91 dX12_valueNow_75 ?_
          refine zr_if_eq (pc := 76) (tgt := 83) hC dX12_valueNow_76 (by decide) (fun c_ => ?_) (fun c_ => ?_)
          · refine zr_iconst (pc := 83) (v := (1 : Int32)) hC dX12_valueNow_83 ic_1 ?_
            refine zr_iast (pc := 84) hC mem_91 lay_91 dX12_valueNow_84 ?_
            refine zr_goto (pc := 85) (tgt := 117) hC dX12_valueNow_85 (by decide) ?_
            refine zr_iinc (pc := 117) (q := 3) (ls' := [(2, _), (3, _), (0, _), (1, _)]) hC dX12_valueNow_117 rfl (inc_1 _) (nlt hN (Nat.le_of_ble_eq_true rfl)) rfl ?_
            refine zr_goto (pc := 120) (tgt := 4) hC dX12_valueNow_120 (by decide) ?_
            refine zr_sub (ls' := [(0, _), (1, _), (2, _)]) [2, 3, 0] rfl ?_
            exact ih v1 (v2 + (1 : Int32)) (wr s 91 (v1 - (1 : Int32)).toNatClampNeg (1 : Int32))
          · refine zr_iconst (pc := 79) (v := (0 : Int32)) hC dX12_valueNow_79 ic_0 ?_
            refine zr_goto (pc := 80) (tgt := 84) hC dX12_valueNow_80 (by decide) ?_
            refine zr_iast (pc := 84) hC mem_91 lay_91 dX12_valueNow_84 ?_
            refine zr_goto (pc := 85) (tgt := 117) hC dX12_valueNow_85 (by decide) ?_
            refine zr_iinc (pc := 117) (q := 3) (ls' := [(2, _), (3, _), (0, _), (1, _)]) hC dX12_valueNow_117 rfl (inc_1 _) (nlt hN (Nat.le_of_ble_eq_true rfl)) rfl ?_
            refine zr_goto (pc := 120) (tgt := 4) hC dX12_valueNow_120 (by decide) ?_
            refine zr_sub (ls' := [(0, _), (1, _), (2, _)]) [2, 3, 0] rfl ?_
            exact ih v1 (v2 + (1 : Int32)) (wr s 91 (v1 - (1 : Int32)).toNatClampNeg (0 : Int32))
        · refine zr_iinc (pc := 88) (q := 2) (ls' := [(1, _), (3, _), (0, _), (2, _)]) hC dX12_valueNow_88 rfl (inc_m1 _) (nlt hN (Nat.le_of_ble_eq_true rfl)) rfl ?_
          refine zr_aload_n (pc := 91) (i := 0) 2 hC dX12_valueNow_91 rfl rfl ?_
          refine zr_getR (pc := 92) (j := 35) (k1 := 91) hC mem_69 lay_69 rfl rfl (Nat.le_of_ble_eq_true rfl) iX12 m_1430 dX12_valueNow_92 ?_
          refine zr_iload_n (pc := 95) (i := 1) 0 hC dX12_valueNow_95 rfl rfl ?_
          refine zr_iconst (pc := 96) (v := (1 : Int32)) hC dX12_valueNow_96 ic_1 ?_
          refine zr_isub (pc := 97) hC dX12_valueNow_97 ?_
          refine zr_iload_n (pc := 98) (i := 3) 1 hC dX12_valueNow_98 rfl rfl ?_
          refine zr_aload_n (pc := 99) (i := 0) 2 hC dX12_valueNow_99 rfl rfl ?_
          refine zr_getR (pc := 100) (j := 35) (k1 := 91) hC mem_69 lay_69 rfl rfl (Nat.le_of_ble_eq_true rfl) iX12 m_1430 dX12_valueNow_100 ?_
          refine zr_iload_n (pc := 103) (i := 1) 0 hC dX12_valueNow_103 rfl rfl ?_
          refine zr_iconst (pc := 104) (v := (1 : Int32)) hC dX12_valueNow_104 ic_1 ?_
          refine zr_isub (pc := 105) hC dX12_valueNow_105 ?_
          refine zr_iald (pc := 106) hC mem_91 lay_91 dX12_valueNow_106 ?_
          refine zr_aload_n (pc := 107) (i := 0) 2 hC dX12_valueNow_107 rfl rfl ?_
          refine zr_getR (pc := 108) (j := 35) (k1 := 91) hC mem_69 lay_69 rfl rfl (Nat.le_of_ble_eq_true rfl) iX12 m_1430 dX12_valueNow_108 ?_
          refine zr_iload_n (pc := 111) (i := 1) 0 hC dX12_valueNow_111 rfl rfl ?_
          refine zr_iald (pc := 112) hC mem_91 lay_91 dX12_valueNow_112 ?_
          refine zr_callS (pc := 113) (As := fun ad => [.int (s 84 v2.toNatClampNeg), .int (s 91 ((v1 + (-1 : Int32)) - (1 : Int32)).toNatClampNeg), .int (s 91 (v1 + (-1 : Int32)).toNatClampNeg)]) (st1 := [.int ((v1 + (-1 : Int32)) - (1 : Int32)), .ref (X_ad X 91)]) hC (Nat.le_of_ble_eq_true rfl) (kX12_reckon _ (s 84 v2.toNatClampNeg) (s 91 ((v1 + (-1 : Int32)) - (1 : Int32)).toNatClampNeg) (s 91 (v1 + (-1 : Int32)).toNatClampNeg) _) (Nat.le_of_ble_eq_true rfl) mc_yX12_reckon m_1876 m_1877 rfl rfl rfl (Nat.le_of_ble_eq_true rfl) dX12_valueNow_113 (fun y_1 s_1 => ?_)
          refine zr_iast (pc := 116) hC mem_91 lay_91 dX12_valueNow_116 ?_
          refine zr_iinc (pc := 117) (q := 3) (ls' := [(2, _), (1, _), (3, _), (0, _)]) hC dX12_valueNow_117 rfl (inc_1 _) (nlt hN (Nat.le_of_ble_eq_true rfl)) rfl ?_
          refine zr_goto (pc := 120) (tgt := 4) hC dX12_valueNow_120 (by decide) ?_
          refine zr_sub (ls' := [(0, _), (1, _), (2, _)]) [3, 1, 0] rfl ?_
          exact ih (v1 + (-1 : Int32)) (v2 + (1 : Int32)) (wr s_1 91 ((v1 + (-1 : Int32)) - (1 : Int32)).toNatClampNeg y_1)
      · refine zr_aload_n (pc := 27) (i := 0) 1 hC dX12_valueNow_27 rfl rfl ?_
        refine zr_getR (pc := 28) (j := 35) (k1 := 91) hC mem_69 lay_69 rfl rfl (Nat.le_of_ble_eq_true rfl) iX12 m_1430 dX12_valueNow_28 ?_
        refine zr_iload_n (pc := 31) (i := 1) 2 hC dX12_valueNow_31 rfl rfl ?_
        refine zr_iload_n (pc := 32) (i := 3) 0 hC dX12_valueNow_32 rfl rfl ?_
        refine zr_if_lt (pc := 33) (tgt := 40) hC dX12_valueNow_33 (by decide) (fun c_ => ?_) (fun c_ => ?_)
        · refine zr_aload_n (pc := 40) (i := 0) 1 hC dX12_valueNow_40 rfl rfl ?_
          refine zr_getR (pc := 41) (j := 34) (k1 := 90) hC mem_69 lay_69 rfl rfl (Nat.le_of_ble_eq_true rfl) iX12 m_1429 dX12_valueNow_41 ?_
          refine zr_iconst (pc := 44) (v := (-1 : Int32)) hC dX12_valueNow_44 ic_m1 ?_
          refine zr_iload_n (pc := 45) (i := 3) 0 hC dX12_valueNow_45 rfl rfl ?_
          refine zr_isub (pc := 46) hC dX12_valueNow_46 ?_
          refine zr_iald (pc := 47) hC mem_90 lay_90 dX12_valueNow_47 ?_
          refine zr_iast (pc := 48) hC mem_91 lay_91 dX12_valueNow_48 ?_
          refine zr_iinc (pc := 49) (q := 2) (ls' := [(1, _), (3, _), (0, _), (2, _)]) hC dX12_valueNow_49 rfl (inc_1 _) (nlt hN (Nat.le_of_ble_eq_true rfl)) rfl ?_
          refine zr_goto (pc := 52) (tgt := 117) hC dX12_valueNow_52 (by decide) ?_
          refine zr_iinc (pc := 117) (q := 3) (ls' := [(2, _), (1, _), (3, _), (0, _)]) hC dX12_valueNow_117 rfl (inc_1 _) (nlt hN (Nat.le_of_ble_eq_true rfl)) rfl ?_
          refine zr_goto (pc := 120) (tgt := 4) hC dX12_valueNow_120 (by decide) ?_
          refine zr_sub (ls' := [(0, _), (1, _), (2, _)]) [3, 1, 0] rfl ?_
          exact ih (v1 + (1 : Int32)) (v2 + (1 : Int32)) (wr s 91 v1.toNatClampNeg (s 90 ((-1 : Int32) - (s 84 v2.toNatClampNeg)).toNatClampNeg))
        · refine zr_iload_n (pc := 36) (i := 3) 0 hC dX12_valueNow_36 rfl rfl ?_
          refine zr_goto (pc := 37) (tgt := 48) hC dX12_valueNow_37 (by decide) ?_
          refine zr_iast (pc := 48) hC mem_91 lay_91 dX12_valueNow_48 ?_
          refine zr_iinc (pc := 49) (q := 2) (ls' := [(1, _), (3, _), (0, _), (2, _)]) hC dX12_valueNow_49 rfl (inc_1 _) (nlt hN (Nat.le_of_ble_eq_true rfl)) rfl ?_
          refine zr_goto (pc := 52) (tgt := 117) hC dX12_valueNow_52 (by decide) ?_
          refine zr_iinc (pc := 117) (q := 3) (ls' := [(2, _), (1, _), (3, _), (0, _)]) hC dX12_valueNow_117 rfl (inc_1 _) (nlt hN (Nat.le_of_ble_eq_true rfl)) rfl ?_
          refine zr_goto (pc := 120) (tgt := 4) hC dX12_valueNow_120 (by decide) ?_
          refine zr_sub (ls' := [(0, _), (1, _), (2, _)]) [3, 1, 0] rfl ?_
          exact ih (v1 + (1 : Int32)) (v2 + (1 : Int32)) (wr s 91 v1.toNatClampNeg (s 84 v2.toNatClampNeg))
def fX12_valueNow (s : St) : Option (Int32 × St) :=
  fX12_valueNow_L4 FU (0 : Int32) (0 : Int32) s
set_option maxRecDepth 100000 in
set_option maxHeartbeats 4000000 in
theorem kX12_valueNow (l : Launch)  (s : St) : CN l yX12_valueNow cX12_valueNow 4 (some .int) 2 FULL (fun ad => [.ref (ad 69)]) s (fX12_valueNow s) := by
  refine cn_of (by decide) (fun _ => (Nat.le_of_ble_eq_true rfl)) (fun X hC hR hl hN => ?_)
  subst hl
  show Zr X (QFN X (some .int)) 0 s 0 [(0, .ref (X_ad X 69))] [] _
  rw [fX12_valueNow]
  refine zr_iconst (pc := 0) (v := (0 : Int32)) hC dX12_valueNow_0 ic_0 ?_
  refine zr_istore_n (pc := 1) (i := 1) (ls' := [(1, _), (0, _)]) hC dX12_valueNow_1 rfl (nlt hN (Nat.le_of_ble_eq_true rfl)) rfl ?_
  refine zr_iconst (pc := 2) (v := (0 : Int32)) hC dX12_valueNow_2 ic_0 ?_
  refine zr_istore_n (pc := 3) (i := 2) (ls' := [(2, _), (1, _), (0, _)]) hC dX12_valueNow_3 rfl (nlt hN (Nat.le_of_ble_eq_true rfl)) rfl ?_
  refine zr_sub (ls' := [(0, _), (1, _), (2, _)]) [2, 1, 0] rfl ?_
  exact tX12_valueNow_L4  X hC hR hN FU (0 : Int32) (0 : Int32) _
