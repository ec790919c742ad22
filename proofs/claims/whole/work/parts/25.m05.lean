def fX11_die (a1 : Int32) (s : St) : Option (RT × St) :=
  bx (fX11_needPerson a1 s) (fun y_1 s_1 =>
    bd (fX10_alive 33 a1 s_1) (fun y_2 s_2 =>
    if y_2 = 0 then
    (bd (fX11_refusedAct s_2) (fun y_5 s_5 =>
    some (.inl y_5, s_5)))
  else
    (bd (fX8_keepAct 32 s_2) (fun y_3 s_3 =>
    bd (fX11_bury 33 a1 s_3) (fun y_4 s_4 =>
    some (.inl y_4, s_4))))))
set_option maxRecDepth 100000 in
set_option maxHeartbeats 4000000 in
theorem kX11_die (l : Launch) (hst : l.stackTraces = false)  (a1 : Int32) (s : St) : CX l yX11_die cX11_die 2 (some .int) 10 1 FULL (fun ad => [.ref (ad 0), .int a1]) s (fX11_die a1 s) := by
  refine cx_of hst (by decide) (fun _ => (Nat.le_of_ble_eq_true rfl)) (fun X hC hR hl hN => ?_)
  subst hl
  show Zr X (QFX X (some .int) 1) 0 s 0 [(0, .ref (X_ad X 0)), (1, .int a1)] [] _
  rw [fX11_die]
  refine zr_aload_n (pc := 0) (i := 0) 0 hC dX11_die_0 rfl rfl ?_
  refine zr_iload_n (pc := 1) (i := 1) 1 hC dX11_die_1 rfl rfl ?_
  refine zx_callV (pc := 2) (As := fun ad => [.int a1]) (st1 := []) hC hR (Nat.le_of_ble_eq_true rfl) (kX11_needPerson _ hR.2.2 a1 _) (Nat.le_of_ble_eq_true rfl) mc_yX11_needPerson m_1013 m_1015 m_p35 mem_0 lay_0 rfl rfl rfl rfl (Nat.le_of_ble_eq_true rfl) dX11_die_2 (fun y_1 s_1 => ?_)
  show Zr X (QFX X (some .int) 1) 1 s_1 5 _ [] _
  refine zr_aload_n (pc := 5) (i := 0) 0 hC dX11_die_5 rfl rfl ?_
  refine zr_getR (pc := 6) (j := 5) (k1 := 32) hC mem_0 lay_0 rfl rfl (Nat.le_of_ble_eq_true rfl) iX11 m_387 dX11_die_6 ?_
  refine zr_getR (pc := 9) (j := 0) (k1 := 33) hC mem_32 lay_32 rfl rfl (Nat.le_of_ble_eq_true rfl) iX8 m_215 dX11_die_9 ?_
  refine zr_iload_n (pc := 12) (i := 1) 1 hC dX11_die_12 rfl rfl ?_
  refine zr_callV (pc := 13) (As := fun ad => [.int a1]) (st1 := []) hC (Nat.le_of_ble_eq_true rfl) (kX10_alive _ is_33 a1 _) (Nat.le_of_ble_eq_true rfl) mc_yX10_alive m_523 m_524 m_525 mem_33 lay_33 rfl rfl rfl rfl (Nat.le_of_ble_eq_true rfl) dX11_die_13 (fun y_2 s_2 => ?_)
  refine zr_if_ne (pc := 16) (tgt := 24) hC dX11_die_16 (by decide) (fun c_ => ?_) (fun c_ => ?_)
  · refine zr_aload_n (pc := 19) (i := 0) 0 hC dX11_die_19 rfl rfl ?_
    refine zr_callV (pc := 20) (As := fun ad => []) (st1 := []) hC (Nat.le_of_ble_eq_true rfl) (kX11_refusedAct _  _) (Nat.le_of_ble_eq_true rfl) mc_yX11_refusedAct m_444 m_446 m_p1 mem_0 lay_0 rfl rfl rfl rfl (Nat.le_of_ble_eq_true rfl) dX11_die_20 (fun y_5 s_5 => ?_)
    exact zx_iret (pc := 23) hC (Nat.le_of_ble_eq_true rfl) hR dX11_die_23
  · refine zr_aload_n (pc := 24) (i := 0) 0 hC dX11_die_24 rfl rfl ?_
    refine zr_getR (pc := 25) (j := 5) (k1 := 32) hC mem_0 lay_0 rfl rfl (Nat.le_of_ble_eq_true rfl) iX11 m_387 dX11_die_25 ?_
    refine zr_callVv (pc := 28) (As := fun ad => []) (st1 := []) hC (Nat.le_of_ble_eq_true rfl) (kX8_keepAct _ is_32 _) (Nat.le_of_ble_eq_true rfl) mc_yX8_keepAct m_456 m_457 m_458 mem_32 lay_32 rfl rfl rfl rfl (Nat.le_of_ble_eq_true rfl) dX11_die_28 (fun y_3 s_3 => ?_)
    refine zr_aload_n (pc := 31) (i := 0) 0 hC dX11_die_31 rfl rfl ?_
    refine zr_aload_n (pc := 32) (i := 0) 0 hC dX11_die_32 rfl rfl ?_
    refine zr_getR (pc := 33) (j := 5) (k1 := 32) hC mem_0 lay_0 rfl rfl (Nat.le_of_ble_eq_true rfl) iX11 m_387 dX11_die_33 ?_
    refine zr_getR (pc := 36) (j := 0) (k1 := 33) hC mem_32 lay_32 rfl rfl (Nat.le_of_ble_eq_true rfl) iX8 m_215 dX11_die_36 ?_
    refine zr_iload_n (pc := 39) (i := 1) 1 hC dX11_die_39 rfl rfl ?_
    refine zr_callV (pc := 40) (As := fun ad => [.ref (ad 33), .int a1]) (st1 := []) hC (Nat.le_of_ble_eq_true rfl) (kX11_bury _ is_33 a1 _) (Nat.le_of_ble_eq_true rfl) mc_yX11_bury m_1132 m_1134 m_p39 mem_0 lay_0 rfl rfl rfl rfl (Nat.le_of_ble_eq_true rfl) dX11_die_40 (fun y_4 s_4 => ?_)
    exact zx_iret (pc := 43) hC (Nat.le_of_ble_eq_true rfl) hR dX11_die_43
def fX11_pawn (a1 : Int32) (a2 : Int32) (a3 : Int32) (a4 : Int32) (s : St) : Option (RT × St) :=
  bx (fX11_needPerson a1 s) (fun y_1 s_1 =>
    bx (fX11_needPerson a2 s_1) (fun y_2 s_2 =>
    bx (fX11_needPart a3 s_2) (fun y_3 s_3 =>
    if a1 = a2 then
    (bd (fX11_refusedAct s_3) (fun y_4 s_4 =>
    some (.inl y_4, s_4)))
  else
    (bd (fX10_alive 33 a1 s_3) (fun y_5 s_5 =>
    if y_5 = 0 then
    (bd (fX11_refusedAct s_5) (fun y_6 s_6 =>
    some (.inl y_6, s_6)))
  else
    (bd (fX10_alive 33 a2 s_5) (fun y_7 s_7 =>
    if y_7 = 0 then
    (bd (fX11_refusedAct s_7) (fun y_15 s_15 =>
    some (.inl y_15, s_15)))
  else
    (if a4 < (1 : Int32) then
    (bd (fX11_refusedAct s_7) (fun y_8 s_8 =>
    some (.inl y_8, s_8)))
  else
    (bd (fX10_part 33 a1 a3 s_7) (fun y_9 s_9 =>
    if a4 ≤ y_9 then
    (bd (fX8_keepAct 32 s_9) (fun y_10 s_10 =>
    bd (fX10_addPart 33 a1 a3 (-a4) s_10) (fun y_11 s_11 =>
    bd (fX10_addPart 33 a2 a3 a4 s_11) (fun y_12 s_12 =>
    bd (fX10_part 33 a2 a3 s_12) (fun y_13 s_13 =>
    some (.inl y_13, s_13))))))
  else
    (bd (fX11_refusedAct s_9) (fun y_14 s_14 =>
    some (.inl y_14, s_14)))))))))))))
set_option maxRecDepth 100000 in
set_option maxHeartbeats 4000000 in
theorem kX11_pawn (l : Launch) (hst : l.stackTraces = false)  (a1 : Int32) (a2 : Int32) (a3 : Int32) (a4 : Int32) (s : St) : CX l yX11_pawn cX11_pawn 6 (some .int) 10 3 FULL (fun ad => [.ref (ad 0), .int a1, .int a2, .int a3, .int a4]) s (fX11_pawn a1 a2 a3 a4 s) := by
  refine cx_of hst (by decide) (fun _ => (Nat.le_of_ble_eq_true rfl)) (fun X hC hR hl hN => ?_)
  subst hl
  show Zr X (QFX X (some .int) 3) 0 s 0 [(0, .ref (X_ad X 0)), (1, .int a1), (2, .int a2), (3, .int a3), (4, .int a4)] [] _
  rw [fX11_pawn]
  refine zr_aload_n (pc := 0) (i := 0) 0 hC dX11_pawn_0 rfl rfl ?_
  refine zr_iload_n (pc := 1) (i := 1) 1 hC dX11_pawn_1 rfl rfl ?_
  refine zx_callV (pc := 2) (As := fun ad => [.int a1]) (st1 := []) hC hR (Nat.le_of_ble_eq_true rfl) (kX11_needPerson _ hR.2.2 a1 _) (Nat.le_of_ble_eq_true rfl) mc_yX11_needPerson m_1013 m_1015 m_p35 mem_0 lay_0 rfl rfl rfl rfl (Nat.le_of_ble_eq_true rfl) dX11_pawn_2 (fun y_1 s_1 => ?_)
  show Zr X (QFX X (some .int) 3) 1 s_1 5 _ [] _
  refine zr_aload_n (pc := 5) (i := 0) 0 hC dX11_pawn_5 rfl rfl ?_
  refine zr_iload_n (pc := 6) (i := 2) 2 hC dX11_pawn_6 rfl rfl ?_
  refine zx_callV (pc := 7) (As := fun ad => [.int a2]) (st1 := []) hC hR (Nat.le_of_ble_eq_true rfl) (kX11_needPerson _ hR.2.2 a2 _) (Nat.le_of_ble_eq_true rfl) mc_yX11_needPerson m_1013 m_1015 m_p35 mem_0 lay_0 rfl rfl rfl rfl (Nat.le_of_ble_eq_true rfl) dX11_pawn_7 (fun y_2 s_2 => ?_)
  show Zr X (QFX X (some .int) 3) 2 s_2 10 _ [] _
  refine zr_iload_n (pc := 10) (i := 3) 3 hC dX11_pawn_10 rfl rfl ?_
  refine zx_callS (pc := 11) (As := fun ad => [.int a3]) (st1 := []) hC hR (Nat.le_of_ble_eq_true rfl) (kX11_needPart _ hR.2.2 a3 _) (Nat.le_of_ble_eq_true rfl) mc_yX11_needPart m_1030 m_1031 rfl rfl rfl (Nat.le_of_ble_eq_true rfl) dX11_pawn_11 (fun y_3 s_3 => ?_)
  show Zr X (QFX X (some .int) 3) 3 s_3 14 _ [] _
  refine zr_aload_n (pc := 14) (i := 0) 0 hC dX11_pawn_14 rfl rfl ?_
  refine zr_getR (pc := 15) (j := 5) (k1 := 32) hC mem_0 lay_0 rfl rfl (Nat.le_of_ble_eq_true rfl) iX11 m_387 dX11_pawn_15 ?_
  refine zr_getR (pc := 18) (j := 0) (k1 := 33) hC mem_32 lay_32 rfl rfl (Nat.le_of_ble_eq_true rfl) iX8 m_215 dX11_pawn_18 ?_
  refine zr_astore (pc := 21) (ls' := [(5, _), (0, _), (1, _), (2, _), (3, _), (4, _)]) hC dX11_pawn_21 (nlt hN (Nat.le_of_ble_eq_true rfl)) rfl ?_
  refine zr_iload_n (pc := 23) (i := 1) 2 hC dX11_pawn_23 rfl rfl ?_
  refine zr_iload_n (pc := 24) (i := 2) 3 hC dX11_pawn_24 rfl rfl ?_
  refine zr_icmp_eq (pc := 25) (tgt := 46) hC dX11_pawn_25 (by decide) (fun c_ => ?_) (fun c_ => ?_)
  · refine zr_aload_n (pc := 46) (i := 0) 1 hC dX11_pawn_46 rfl rfl ?_
    refine zr_callV (pc := 47) (As := fun ad => []) (st1 := []) hC (Nat.le_of_ble_eq_true rfl) (kX11_refusedAct _  _) (Nat.le_of_ble_eq_true rfl) mc_yX11_refusedAct m_444 m_446 m_p1 mem_0 lay_0 rfl rfl rfl rfl (Nat.le_of_ble_eq_true rfl) dX11_pawn_47 (fun y_4 s_4 => ?_)
    exact zx_iret (pc := 50) hC (Nat.le_of_ble_eq_true rfl) hR dX11_pawn_50
  · refine zr_aload (pc := 28) 0 hC dX11_pawn_28 rfl ?_
    refine zr_iload_n (pc := 30) (i := 1) 2 hC dX11_pawn_30 rfl rfl ?_
    refine zr_callV (pc := 31) (As := fun ad => [.int a1]) (st1 := []) hC (Nat.le_of_ble_eq_true rfl) (kX10_alive _ is_33 a1 _) (Nat.le_of_ble_eq_true rfl) mc_yX10_alive m_523 m_524 m_525 mem_33 lay_33 rfl rfl rfl rfl (Nat.le_of_ble_eq_true rfl) dX11_pawn_31 (fun y_5 s_5 => ?_)
    refine zr_if_eq (pc := 34) (tgt := 46) hC dX11_pawn_34 (by decide) (fun c_ => ?_) (fun c_ => ?_)
    · refine zr_aload_n (pc := 46) (i := 0) 1 hC dX11_pawn_46 rfl rfl ?_
      refine zr_callV (pc := 47) (As := fun ad => []) (st1 := []) hC (Nat.le_of_ble_eq_true rfl) (kX11_refusedAct _  _) (Nat.le_of_ble_eq_true rfl) mc_yX11_refusedAct m_444 m_446 m_p1 mem_0 lay_0 rfl rfl rfl rfl (Nat.le_of_ble_eq_true rfl) dX11_pawn_47 (fun y_6 s_6 => ?_)
      exact zx_iret (pc := 50) hC (Nat.le_of_ble_eq_true rfl) hR dX11_pawn_50
    · refine zr_aload (pc := 37) 0 hC dX11_pawn_37 rfl ?_
      refine zr_iload_n (pc := 39) (i := 2) 3 hC dX11_pawn_39 rfl rfl ?_
      refine zr_callV (pc := 40) (As := fun ad => [.int a2]) (st1 := []) hC (Nat.le_of_ble_eq_true rfl) (kX10_alive _ is_33 a2 _) (Nat.le_of_ble_eq_true rfl) mc_yX10_alive m_523 m_524 m_525 mem_33 lay_33 rfl rfl rfl rfl (Nat.le_of_ble_eq_true rfl) dX11_pawn_40 (fun y_7 s_7 => ?_)
      refine zr_if_ne (pc := 43) (tgt := 51) hC dX11_pawn_43 (by decide) (fun c_ => ?_) (fun c_ => ?_)
      · refine zr_aload_n (pc := 46) (i := 0) 1 hC dX11_pawn_46 rfl rfl ?_
        refine zr_callV (pc := 47) (As := fun ad => []) (st1 := []) hC (Nat.le_of_ble_eq_true rfl) (kX11_refusedAct _  _) (Nat.le_of_ble_eq_true rfl) mc_yX11_refusedAct m_444 m_446 m_p1 mem_0 lay_0 rfl rfl rfl rfl (Nat.le_of_ble_eq_true rfl) dX11_pawn_47 (fun y_15 s_15 => ?_)
        exact zx_iret (pc := 50) hC (Nat.le_of_ble_eq_true rfl) hR dX11_pawn_50
      · refine zr_iload (pc := 51) 5 hC dX11_pawn_51 rfl ?_
        refine zr_iconst (pc := 53) (v := (1 : Int32)) hC dX11_pawn_53 ic_1 ?_
        refine zr_icmp_lt (pc := 54) (tgt := 69) hC dX11_pawn_54 (by decide) (fun c_ => ?_) (fun c_ => ?_)
        · refine zr_aload_n (pc := 69) (i := 0) 1 hC dX11_pawn_69 rfl rfl ?_
          refine zr_callV (pc := 70) (As := fun ad => []) (st1 := []) hC (Nat.le_of_ble_eq_true rfl) (kX11_refusedAct _  _) (Nat.le_of_ble_eq_true rfl) mc_yX11_refusedAct m_444 m_446 m_p1 mem_0 lay_0 rfl rfl rfl rfl (Nat.le_of_ble_eq_true rfl) dX11_pawn_70 (fun y_8 s_8 => ?_)
          exact zx_iret (pc := 73) hC (Nat.le_of_ble_eq_true rfl) hR dX11_pawn_73
        · refine zr_iload (pc := 57) 5 hC dX11_pawn_57 rfl ?_
          refine zr_aload (pc := 59) 0 hC dX11_pawn_59 rfl ?_
          refine zr_iload_n (pc := 61) (i := 1) 2 hC dX11_pawn_61 rfl rfl ?_
          refine zr_iload_n (pc := 62) (i := 3) 4 hC dX11_pawn_62 rfl rfl ?_
          refine zr_callV (pc := 63) (As := fun ad => [.int a1, .int a3]) (st1 := [.int a4]) hC (Nat.le_of_ble_eq_true rfl) (kX10_part _ is_33 a1 a3 _) (Nat.le_of_ble_eq_true rfl) mc_yX10_part m_1033 m_492 m_493 mem_33 lay_33 rfl rfl rfl rfl (Nat.le_of_ble_eq_true rfl) dX11_pawn_63 (fun y_9 s_9 => ?_)
          refine zr_icmp_le (pc := 66) (tgt := 74) hC dX11_pawn_66 (by decide) (fun c_ => ?_) (fun c_ => ?_)
          · refine zr_aload_n (pc := 74) (i := 0) 1 hC dX11_pawn_74 rfl rfl ?_
            refine zr_getR (pc := 75) (j := 5) (k1 := 32) hC mem_0 lay_0 rfl rfl (Nat.le_of_ble_eq_true rfl) iX11 m_387 dX11_pawn_75 ?_
            refine zr_callVv (pc := 78) (As := fun ad => []) (st1 := []) hC (Nat.le_of_ble_eq_true rfl) (kX8_keepAct _ is_32 _) (Nat.le_of_ble_eq_true rfl) mc_yX8_keepAct m_456 m_457 m_458 mem_32 lay_32 rfl rfl rfl rfl (Nat.le_of_ble_eq_true rfl) dX11_pawn_78 (fun y_10 s_10 => ?_)
            refine zr_aload (pc := 81) 0 hC dX11_pawn_81 rfl ?_
            refine zr_iload_n (pc := 83) (i := 1) 2 hC dX11_pawn_83 rfl rfl ?_
            refine zr_iload_n (pc := 84) (i := 3) 4 hC dX11_pawn_84 rfl rfl ?_
            refine zr_iload (pc := 85) 5 hC dX11_pawn_85 rfl ?_
            refine zr_ineg (pc := 87) hC dX11_pawn_87 ?_
            refine zr_callVv (pc := 88) (As := fun ad => [.int a1, .int a3, .int (-a4)]) (st1 := []) hC (Nat.le_of_ble_eq_true rfl) (kX10_addPart _ is_33 a1 a3 (-a4) _) (Nat.le_of_ble_eq_true rfl) mc_yX10_addPart m_1219 m_1201 m_1202 mem_33 lay_33 rfl rfl rfl rfl (Nat.le_of_ble_eq_true rfl) dX11_pawn_88 (fun y_11 s_11 => ?_)
            refine zr_aload (pc := 91) 0 hC dX11_pawn_91 rfl ?_
            refine zr_iload_n (pc := 93) (i := 2) 3 hC dX11_pawn_93 rfl rfl ?_
            refine zr_iload_n (pc := 94) (i := 3) 4 hC dX11_pawn_94 rfl rfl ?_
            refine zr_iload (pc := 95) 5 hC dX11_pawn_95 rfl ?_
            refine zr_callVv (pc := 97) (As := fun ad => [.int a2, .int a3, .int a4]) (st1 := []) hC (Nat.le_of_ble_eq_true rfl) (kX10_addPart _ is_33 a2 a3 a4 _) (Nat.le_of_ble_eq_true rfl) mc_yX10_addPart m_1219 m_1201 m_1202 mem_33 lay_33 rfl rfl rfl rfl (Nat.le_of_ble_eq_true rfl) dX11_pawn_97 (fun y_12 s_12 => ?_)
            refine zr_aload (pc := 100) 0 hC dX11_pawn_100 rfl ?_
            refine zr_iload_n (pc := 102) (i := 2) 3 hC dX11_pawn_102 rfl rfl ?_
            refine zr_iload_n (pc := 103) (i := 3) 4 hC dX11_pawn_103 rfl rfl ?_
            refine zr_callV (pc := 104) (As := fun ad => [.int a2, .int a3]) (st1 := []) hC (Nat.le_of_ble_eq_true rfl) (kX10_part _ is_33 a2 a3 _) (Nat.le_of_ble_eq_true rfl) mc_yX10_part m_1033 m_492 m_493 mem_33 lay_33 rfl rfl rfl rfl (Nat.le_of_ble_eq_true rfl) dX11_pawn_104 (fun y_13 s_13 => ?_)
            exact zx_iret (pc := 107) hC (Nat.le_of_ble_eq_true rfl) hR dX11_pawn_107
          · refine zr_aload_n (pc := 69) (i := 0) 1 hC dX11_pawn_69 rfl rfl ?_
            refine zr_callV (pc := 70) (As := fun ad => []) (st1 := []) hC (Nat.le_of_ble_eq_true rfl) (kX11_refusedAct _  _) (Nat.le_of_ble_eq_true rfl) mc_yX11_refusedAct m_444 m_446 m_p1 mem_0 lay_0 rfl rfl rfl rfl (Nat.le_of_ble_eq_true rfl) dX11_pawn_70 (fun y_14 s_14 => ?_)
            exact zx_iret (pc := 73) hC (Nat.le_of_ble_eq_true rfl) hR dX11_pawn_73
def fX2_leftOver_L4 (c1 : Int32) : Nat → Int32 → Int32 → St → Option (Int32 × St)
  | 0, _, _, _ => none
  | n + 1, v2, v3, s =>
    if (12 : Int32) ≤ v3 then
    (some (v2, s))
  else
    (bd (fX2_cut v3 c1 s) (fun y_1 s_1 =>
    fX2_leftOver_L4 c1 n (v2 - y_1) (v3 + (1 : Int32)) s_1))
set_option maxRecDepth 100000 in
set_option maxHeartbeats 4000000 in
theorem tX2_leftOver_L4 (c1 : Int32) (X : KX) (hC : Ctx X RX2 cX2_leftOver FULL 3 0) (hR : RC X (some .int)) (hN : X_nL X = 4) : ∀ (n : Nat) (v2 : Int32) (v3 : Int32) (s : St), Zr X (QFN X (some .int)) 0 s 4 [(0, .ref (X_ad X 48)), (1, .int c1), (2, .int v2), (3, .int v3)] [] (fX2_leftOver_L4 c1 n v2 v3 s) := by
  intro n
  induction n with
  | zero =>
    intro v2 v3 s
    exact zr_none
  | succ n ih =>
    intro v2 v3 s
    rw [fX2_leftOver_L4]
    refine zr_iload_n (pc := 4) (i := 3) 3 hC dX2_leftOver_4 rfl rfl ?_
    refine zr_bipush (pc := 5) (v := (12 : Int32)) hC dX2_leftOver_5 bi_12 ?_
    refine zr_icmp_ge (pc := 7) (tgt := 25) hC dX2_leftOver_7 (by decide) (fun c_ => ?_) (fun c_ => ?_)
    · refine zr_iload_n (pc := 25) (i := 2) 2 hC dX2_leftOver_25 rfl rfl ?_
      exact zr_iret (pc := 26) hC hR dX2_leftOver_26
    · refine zr_iload_n (pc := 10) (i := 2) 2 hC dX2_leftOver_10 rfl rfl ?_
      refine zr_aload_n (pc := 11) (i := 0) 0 hC dX2_leftOver_11 rfl rfl ?_
      refine zr_iload_n (pc := 12) (i := 3) 3 hC dX2_leftOver_12 rfl rfl ?_
      refine zr_iload_n (pc := 13) (i := 1) 1 hC dX2_leftOver_13 rfl rfl ?_
      refine zr_callV (pc := 14) (As := fun ad => [.int v3, .int c1]) (st1 := [.int v2]) hC (Nat.le_of_ble_eq_true rfl) (kX2_cut _ v3 c1 _) (Nat.le_of_ble_eq_true rfl) mc_yX2_cut m_1196 m_1198 m_p43 mem_48 lay_48 rfl rfl rfl rfl (Nat.le_of_ble_eq_true rfl) dX2_leftOver_14 (fun y_1 s_1 => ?_)
      refine zr_isub (pc := 17) hC dX2_leftOver_17 ?_
      refine zr_istore_n (pc := 18) (i := 2) (ls' := [(2, _), (0, _), (1, _), (3, _)]) hC dX2_leftOver_18 rfl (nlt hN (Nat.le_of_ble_eq_true rfl)) rfl ?_
      refine zr_iinc (pc := 19) (q := 3) (ls' := [(3, _), (2, _), (0, _), (1, _)]) hC dX2_leftOver_19 rfl (inc_1 _) (nlt hN (Nat.le_of_ble_eq_true rfl)) rfl ?_
      refine zr_goto (pc := 22) (tgt := 4) hC dX2_leftOver_22 (by decide) ?_
      refine zr_sub (ls' := [(0, _), (1, _), (2, _), (3, _)]) [2, 3, 1, 0] rfl ?_
      exact ih (v2 - y_1) (v3 + (1 : Int32)) s_1
def fX2_leftOver (a1 : Int32) (s : St) : Option (Int32 × St) :=
  fX2_leftOver_L4 a1 FU a1 (0 : Int32) s
set_option maxRecDepth 100000 in
set_option maxHeartbeats 4000000 in
theorem kX2_leftOver (l : Launch)  (a1 : Int32) (s : St) : CN l yX2_leftOver cX2_leftOver 4 (some .int) 3 FULL (fun ad => [.ref (ad 48), .int a1]) s (fX2_leftOver a1 s) := by
  refine cn_of (by decide) (fun _ => (Nat.le_of_ble_eq_true rfl)) (fun X hC hR hl hN => ?_)
  subst hl
  show Zr X (QFN X (some .int)) 0 s 0 [(0, .ref (X_ad X 48)), (1, .int a1)] [] _
  rw [fX2_leftOver]
  refine zr_iload_n (pc := 0) (i := 1) 1 hC dX2_leftOver_0 rfl rfl ?_
  refine zr_istore_n (pc := 1) (i := 2) (ls' := [(2, _), (0, _), (1, _)]) hC dX2_leftOver_1 rfl (nlt hN (Nat.le_of_ble_eq_true rfl)) rfl ?_
  refine zr_iconst (pc := 2) (v := (0 : Int32)) hC dX2_leftOver_2 ic_0 ?_
  refine zr_istore_n (pc := 3) (i := 3) (ls' := [(3, _), (2, _), (0, _), (1, _)]) hC dX2_leftOver_3 rfl (nlt hN (Nat.le_of_ble_eq_true rfl)) rfl ?_
  refine zr_sub (ls' := [(0, _), (1, _), (2, _), (3, _)]) [2, 3, 1, 0] rfl ?_
  exact tX2_leftOver_L4 a1 X hC hR hN FU a1 (0 : Int32) _
def fX2_portion (a1 : Int32) (a2 : Int32) (s : St) : Option (Int32 × St) :=
  bd (fX2_cut a1 a2 s) (fun y_1 s_1 =>
    if a1 = (s_1 48 4) then
    (bd (fX2_leftOver a2 s_1) (fun y_2 s_2 =>
    some ((y_1 + y_2), s_2)))
  else
    (some (y_1, s_1)))
set_option maxRecDepth 100000 in
set_option maxHeartbeats 4000000 in
theorem kX2_portion (l : Launch)  (a1 : Int32) (a2 : Int32) (s : St) : CN l yX2_portion cX2_portion 4 (some .int) 4 FULL (fun ad => [.ref (ad 48), .int a1, .int a2]) s (fX2_portion a1 a2 s) := by
  refine cn_of (by decide) (fun _ => (Nat.le_of_ble_eq_true rfl)) (fun X hC hR hl hN => ?_)
  subst hl
  show Zr X (QFN X (some .int)) 0 s 0 [(0, .ref (X_ad X 48)), (1, .int a1), (2, .int a2)] [] _
  rw [fX2_portion]
  refine zr_aload_n (pc := 0) (i := 0) 0 hC dX2_portion_0 rfl rfl ?_
  refine zr_iload_n (pc := 1) (i := 1) 1 hC dX2_portion_1 rfl rfl ?_
  refine zr_iload_n (pc := 2) (i := 2) 2 hC dX2_portion_2 rfl rfl ?_
  refine zr_callV (pc := 3) (As := fun ad => [.int a1, .int a2]) (st1 := []) hC (Nat.le_of_ble_eq_true rfl) (kX2_cut _ a1 a2 _) (Nat.le_of_ble_eq_true rfl) mc_yX2_cut m_1196 m_1198 m_p43 mem_48 lay_48 rfl rfl rfl rfl (Nat.le_of_ble_eq_true rfl) dX2_portion_3 (fun y_1 s_1 => ?_)
  refine zr_istore_n (pc := 6) (i := 3) (ls' := [(3, _), (0, _), (1, _), (2, _)]) hC dX2_portion_6 rfl (nlt hN (Nat.le_of_ble_eq_true rfl)) rfl ?_
  refine zr_iload_n (pc := 7) (i := 1) 2 hC dX2_portion_7 rfl rfl ?_
  refine zr_aload_n (pc := 8) (i := 0) 1 hC dX2_portion_8 rfl rfl ?_
  refine zr_getI (pc := 9) (j := 4) hC mem_48 lay_48 rfl rfl (Nat.le_of_ble_eq_true rfl) iX2 m_259 dX2_portion_9 ?_
  refine zr_icmp_ne (pc := 12) (tgt := 25) hC dX2_portion_12 (by decide) (fun c_ => ?_) (fun c_ => ?_)
  · refine zr_iload_n (pc := 15) (i := 3) 0 hC dX2_portion_15 rfl rfl ?_
    refine zr_aload_n (pc := 16) (i := 0) 1 hC dX2_portion_16 rfl rfl ?_
    refine zr_iload_n (pc := 17) (i := 2) 3 hC dX2_portion_17 rfl rfl ?_
    refine zr_callV (pc := 18) (As := fun ad => [.int a2]) (st1 := [.int y_1]) hC (Nat.le_of_ble_eq_true rfl) (kX2_leftOver _ a2 _) (Nat.le_of_ble_eq_true rfl) mc_yX2_leftOver m_1231 m_1233 m_p44 mem_48 lay_48 rfl rfl rfl rfl (Nat.le_of_ble_eq_true rfl) dX2_portion_18 (fun y_2 s_2 => ?_)
    refine zr_iadd (pc := 21) hC dX2_portion_21 ?_
    refine zr_goto (pc := 22) (tgt := 26) hC dX2_portion_22 (by decide) ?_
    exact zr_iret (pc := 26) hC hR dX2_portion_26
  · refine zr_iload_n (pc := 25) (i := 3) 0 hC dX2_portion_25 rfl rfl ?_
    exact zr_iret (pc := 26) hC hR dX2_portion_26
def fX11_heir (a1 : Int32) (a2 : Int32) (a3 : Int32) (s : St) : Option (RT × St) :=
  bx (fX11_needPerson a1 s) (fun y_1 s_1 =>
    bx (fX11_needPerson a2 s_1) (fun y_2 s_2 =>
    bx (fX11_needPart a3 s_2) (fun y_3 s_3 =>
    if a1 = a2 then
    (some (.inr 1, s_3))
  else
    (bd (fX10_alive 33 a1 s_3) (fun y_4 s_4 =>
    if y_4 = 0 then
    (some (.inr 1, s_4))
  else
    (bd (fX2_learn 21 33 a1 s_4) (fun y_5 s_5 =>
    bd (fX2_settle 21 33 a1 s_5) (fun y_6 s_6 =>
    bd (fX10_part 33 a1 a3 s_6) (fun y_7 s_7 =>
    bd (fX2_portion a2 y_7 s_7) (fun y_8 s_8 =>
    some (.inl y_8, s_8)))))))))))
set_option maxRecDepth 100000 in
set_option maxHeartbeats 4000000 in
theorem kX11_heir (l : Launch) (hst : l.stackTraces = false)  (a1 : Int32) (a2 : Int32) (a3 : Int32) (s : St) : CX l yX11_heir cX11_heir 4 (some .int) 9 4 FULL (fun ad => [.ref (ad 0), .int a1, .int a2, .int a3]) s (fX11_heir a1 a2 a3 s) := by
  refine cx_of hst (by decide) (fun _ => (Nat.le_of_ble_eq_true rfl)) (fun X hC hR hl hN => ?_)
  subst hl
  show Zr X (QFX X (some .int) 4) 0 s 0 [(0, .ref (X_ad X 0)), (1, .int a1), (2, .int a2), (3, .int a3)] [] _
  rw [fX11_heir]
  refine zr_aload_n (pc := 0) (i := 0) 0 hC dX11_heir_0 rfl rfl ?_
  refine zr_iload_n (pc := 1) (i := 1) 1 hC dX11_heir_1 rfl rfl ?_
  refine zx_callV (pc := 2) (As := fun ad => [.int a1]) (st1 := []) hC hR (Nat.le_of_ble_eq_true rfl) (kX11_needPerson _ hR.2.2 a1 _) (Nat.le_of_ble_eq_true rfl) mc_yX11_needPerson m_1013 m_1015 m_p35 mem_0 lay_0 rfl rfl rfl rfl (Nat.le_of_ble_eq_true rfl) dX11_heir_2 (fun y_1 s_1 => ?_)
  show Zr X (QFX X (some .int) 4) 1 s_1 5 _ [] _
  refine zr_aload_n (pc := 5) (i := 0) 0 hC dX11_heir_5 rfl rfl ?_
  refine zr_iload_n (pc := 6) (i := 2) 2 hC dX11_heir_6 rfl rfl ?_
  refine zx_callV (pc := 7) (As := fun ad => [.int a2]) (st1 := []) hC hR (Nat.le_of_ble_eq_true rfl) (kX11_needPerson _ hR.2.2 a2 _) (Nat.le_of_ble_eq_true rfl) mc_yX11_needPerson m_1013 m_1015 m_p35 mem_0 lay_0 rfl rfl rfl rfl (Nat.le_of_ble_eq_true rfl) dX11_heir_7 (fun y_2 s_2 => ?_)
  show Zr X (QFX X (some .int) 4) 2 s_2 10 _ [] _
  refine zr_iload_n (pc := 10) (i := 3) 3 hC dX11_heir_10 rfl rfl ?_
  refine zx_callS (pc := 11) (As := fun ad => [.int a3]) (st1 := []) hC hR (Nat.le_of_ble_eq_true rfl) (kX11_needPart _ hR.2.2 a3 _) (Nat.le_of_ble_eq_true rfl) mc_yX11_needPart m_1030 m_1031 rfl rfl rfl (Nat.le_of_ble_eq_true rfl) dX11_heir_11 (fun y_3 s_3 => ?_)
  show Zr X (QFX X (some .int) 4) 3 s_3 14 _ [] _
  refine zr_iload_n (pc := 14) (i := 1) 1 hC dX11_heir_14 rfl rfl ?_
  refine zr_iload_n (pc := 15) (i := 2) 2 hC dX11_heir_15 rfl rfl ?_
  refine zr_icmp_eq (pc := 16) (tgt := 33) hC dX11_heir_16 (by decide) (fun c_ => ?_) (fun c_ => ?_)
  · exact zx_thr1 (pc := 33) hC (Nat.le_of_ble_eq_true rfl) hR (Nat.le_of_ble_eq_true rfl) (Nat.le_of_ble_eq_true rfl) dX11_heir_33 dX11_heir_36 dX11_heir_37 dX11_heir_40
  · refine zr_aload_n (pc := 19) (i := 0) 0 hC dX11_heir_19 rfl rfl ?_
    refine zr_getR (pc := 20) (j := 5) (k1 := 32) hC mem_0 lay_0 rfl rfl (Nat.le_of_ble_eq_true rfl) iX11 m_387 dX11_heir_20 ?_
    refine zr_getR (pc := 23) (j := 0) (k1 := 33) hC mem_32 lay_32 rfl rfl (Nat.le_of_ble_eq_true rfl) iX8 m_215 dX11_heir_23 ?_
    refine zr_iload_n (pc := 26) (i := 1) 1 hC dX11_heir_26 rfl rfl ?_
    refine zr_callV (pc := 27) (As := fun ad => [.int a1]) (st1 := []) hC (Nat.le_of_ble_eq_true rfl) (kX10_alive _ is_33 a1 _) (Nat.le_of_ble_eq_true rfl) mc_yX10_alive m_523 m_524 m_525 mem_33 lay_33 rfl rfl rfl rfl (Nat.le_of_ble_eq_true rfl) dX11_heir_27 (fun y_4 s_4 => ?_)
    refine zr_if_ne (pc := 30) (tgt := 41) hC dX11_heir_30 (by decide) (fun c_ => ?_) (fun c_ => ?_)
    · exact zx_thr1 (pc := 33) hC (Nat.le_of_ble_eq_true rfl) hR (Nat.le_of_ble_eq_true rfl) (Nat.le_of_ble_eq_true rfl) dX11_heir_33 dX11_heir_36 dX11_heir_37 dX11_heir_40
    · refine zr_aload_n (pc := 41) (i := 0) 0 hC dX11_heir_41 rfl rfl ?_
      refine zr_getR (pc := 42) (j := 9) (k1 := 48) hC mem_0 lay_0 rfl rfl (Nat.le_of_ble_eq_true rfl) iX11 m_391 dX11_heir_42 ?_
      refine zr_aload_n (pc := 45) (i := 0) 0 hC dX11_heir_45 rfl rfl ?_
      refine zr_getR (pc := 46) (j := 4) (k1 := 21) hC mem_0 lay_0 rfl rfl (Nat.le_of_ble_eq_true rfl) iX11 m_386 dX11_heir_46 ?_
      refine zr_aload_n (pc := 49) (i := 0) 0 hC dX11_heir_49 rfl rfl ?_
      refine zr_getR (pc := 50) (j := 5) (k1 := 32) hC mem_0 lay_0 rfl rfl (Nat.le_of_ble_eq_true rfl) iX11 m_387 dX11_heir_50 ?_
      refine zr_getR (pc := 53) (j := 0) (k1 := 33) hC mem_32 lay_32 rfl rfl (Nat.le_of_ble_eq_true rfl) iX8 m_215 dX11_heir_53 ?_
      refine zr_iload_n (pc := 56) (i := 1) 1 hC dX11_heir_56 rfl rfl ?_
      refine zr_callVv (pc := 57) (As := fun ad => [.ref (ad 21), .ref (ad 33), .int a1]) (st1 := []) hC (Nat.le_of_ble_eq_true rfl) (kX2_learn _ is_21 is_33 a1 _) (Nat.le_of_ble_eq_true rfl) mc_yX2_learn m_1136 m_1137 m_1138 mem_48 lay_48 rfl rfl rfl rfl (Nat.le_of_ble_eq_true rfl) dX11_heir_57 (fun y_5 s_5 => ?_)
      refine zr_aload_n (pc := 60) (i := 0) 0 hC dX11_heir_60 rfl rfl ?_
      refine zr_getR (pc := 61) (j := 9) (k1 := 48) hC mem_0 lay_0 rfl rfl (Nat.le_of_ble_eq_true rfl) iX11 m_391 dX11_heir_61 ?_
      refine zr_aload_n (pc := 64) (i := 0) 0 hC dX11_heir_64 rfl rfl ?_
      refine zr_getR (pc := 65) (j := 4) (k1 := 21) hC mem_0 lay_0 rfl rfl (Nat.le_of_ble_eq_true rfl) iX11 m_386 dX11_heir_65 ?_
      refine zr_aload_n (pc := 68) (i := 0) 0 hC dX11_heir_68 rfl rfl ?_
      refine zr_getR (pc := 69) (j := 5) (k1 := 32) hC mem_0 lay_0 rfl rfl (Nat.le_of_ble_eq_true rfl) iX11 m_387 dX11_heir_69 ?_
      refine zr_getR (pc := 72) (j := 0) (k1 := 33) hC mem_32 lay_32 rfl rfl (Nat.le_of_ble_eq_true rfl) iX8 m_215 dX11_heir_72 ?_
      refine zr_iload_n (pc := 75) (i := 1) 1 hC dX11_heir_75 rfl rfl ?_
      refine zr_callVv (pc := 76) (As := fun ad => [.ref (ad 21), .ref (ad 33), .int a1]) (st1 := []) hC (Nat.le_of_ble_eq_true rfl) (kX2_settle _ is_21 is_33 a1 _) (Nat.le_of_ble_eq_true rfl) mc_yX2_settle m_1169 m_1170 m_1171 mem_48 lay_48 rfl rfl rfl rfl (Nat.le_of_ble_eq_true rfl) dX11_heir_76 (fun y_6 s_6 => ?_)
      refine zr_aload_n (pc := 79) (i := 0) 0 hC dX11_heir_79 rfl rfl ?_
      refine zr_getR (pc := 80) (j := 9) (k1 := 48) hC mem_0 lay_0 rfl rfl (Nat.le_of_ble_eq_true rfl) iX11 m_391 dX11_heir_80 ?_
      refine zr_iload_n (pc := 83) (i := 2) 2 hC dX11_heir_83 rfl rfl ?_
      refine zr_aload_n (pc := 84) (i := 0) 0 hC dX11_heir_84 rfl rfl ?_
      refine zr_getR (pc := 85) (j := 5) (k1 := 32) hC mem_0 lay_0 rfl rfl (Nat.le_of_ble_eq_true rfl) iX11 m_387 dX11_heir_85 ?_
      refine zr_getR (pc := 88) (j := 0) (k1 := 33) hC mem_32 lay_32 rfl rfl (Nat.le_of_ble_eq_true rfl) iX8 m_215 dX11_heir_88 ?_
      refine zr_iload_n (pc := 91) (i := 1) 1 hC dX11_heir_91 rfl rfl ?_
      refine zr_iload_n (pc := 92) (i := 3) 3 hC dX11_heir_92 rfl rfl ?_
      refine zr_callV (pc := 93) (As := fun ad => [.int a1, .int a3]) (st1 := [.int a2, .ref (X_ad X 48)]) hC (Nat.le_of_ble_eq_true rfl) (kX10_part _ is_33 a1 a3 _) (Nat.le_of_ble_eq_true rfl) mc_yX10_part m_1033 m_492 m_493 mem_33 lay_33 rfl rfl rfl rfl (Nat.le_of_ble_eq_true rfl) dX11_heir_93 (fun y_7 s_7 => ?_)
      refine zr_callV (pc := 96) (As := fun ad => [.int a2, .int y_7]) (st1 := []) hC (Nat.le_of_ble_eq_true rfl) (kX2_portion _ a2 y_7 _) (Nat.le_of_ble_eq_true rfl) mc_yX2_portion m_1227 m_1228 m_1229 mem_48 lay_48 rfl rfl rfl rfl (Nat.le_of_ble_eq_true rfl) dX11_heir_96 (fun y_8 s_8 => ?_)
      exact zx_iret (pc := 99) hC (Nat.le_of_ble_eq_true rfl) hR dX11_heir_99
def fX2_portions_L6 (w : Nat) (c2 : Int32) (c3 : Int32) : Nat → Int32 → Int32 → St → Option (Int32 × St)
  | 0, _, _, _ => none
  | n + 1, v4, v5, s =>
    if (4 : Int32) ≤ v5 then
    (some (v4, s))
  else
    (bd (fX10_part w c2 v5 s) (fun y_1 s_1 =>
    bd (fX2_portion c3 y_1 s_1) (fun y_2 s_2 =>
    fX2_portions_L6 w c2 c3 n (v4 + y_2) (v5 + (1 : Int32)) s_2)))
set_option maxRecDepth 100000 in
set_option maxHeartbeats 4000000 in
theorem tX2_portions_L6 (w : Nat) (c2 : Int32) (c3 : Int32) (X : KX) (hC : Ctx X RX2 cX2_portions FULL 5 0) (hR : RC X (some .int)) (hN : X_nL X = 6) (hw : isWd w) : ∀ (n : Nat) (v4 : Int32) (v5 : Int32) (s : St), Zr X (QFN X (some .int)) 0 s 6 [(0, .ref (X_ad X 48)), (1, .ref (X_ad X w)), (2, .int c2), (3, .int c3), (4, .int v4), (5, .int v5)] [] (fX2_portions_L6 w c2 c3 n v4 v5 s) := by
  intro n
  induction n with
  | zero =>
    intro v4 v5 s
    exact zr_none
  | succ n ih =>
    intro v4 v5 s
    rw [fX2_portions_L6]
    refine zr_iload (pc := 6) 5 hC dX2_portions_6 rfl ?_
    refine zr_iconst (pc := 8) (v := (4 : Int32)) hC dX2_portions_8 ic_4 ?_
    refine zr_icmp_ge (pc := 9) (tgt := 35) hC dX2_portions_9 (by decide) (fun c_ => ?_) (fun c_ => ?_)
    · refine zr_iload (pc := 35) 4 hC dX2_portions_35 rfl ?_
      exact zr_iret (pc := 37) hC hR dX2_portions_37
    · refine zr_iload (pc := 12) 4 hC dX2_portions_12 rfl ?_
      refine zr_aload_n (pc := 14) (i := 0) 0 hC dX2_portions_14 rfl rfl ?_
      refine zr_iload_n (pc := 15) (i := 3) 3 hC dX2_portions_15 rfl rfl ?_
      refine zr_aload_n (pc := 16) (i := 1) 1 hC dX2_portions_16 rfl rfl ?_
      refine zr_iload_n (pc := 17) (i := 2) 2 hC dX2_portions_17 rfl rfl ?_
      refine zr_iload (pc := 18) 5 hC dX2_portions_18 rfl ?_
      refine zr_callV (pc := 20) (As := fun ad => [.int c2, .int v5]) (st1 := [.int c3, .ref (X_ad X 48), .int v4]) hC (Nat.le_of_ble_eq_true rfl) (kX10_part _ hw c2 v5 _) (Nat.le_of_ble_eq_true rfl) mc_yX10_part m_1191 m_492 m_493 hw.1.1 hw.1.2 rfl rfl rfl rfl (Nat.le_of_ble_eq_true rfl) dX2_portions_20 (fun y_1 s_1 => ?_)
      refine zr_callV (pc := 23) (As := fun ad => [.int c3, .int y_1]) (st1 := [.int v4]) hC (Nat.le_of_ble_eq_true rfl) (kX2_portion _ c3 y_1 _) (Nat.le_of_ble_eq_true rfl) mc_yX2_portion m_1246 m_1228 m_1229 mem_48 lay_48 rfl rfl rfl rfl (Nat.le_of_ble_eq_true rfl) dX2_portions_23 (fun y_2 s_2 => ?_)
      refine zr_iadd (pc := 26) hC dX2_portions_26 ?_
      refine zr_istore (pc := 27) (ls' := [(4, _), (0, _), (1, _), (2, _), (3, _), (5, _)]) hC dX2_portions_27 (nlt hN (Nat.le_of_ble_eq_true rfl)) rfl ?_
      refine zr_iinc (pc := 29) (q := 5) (ls' := [(5, _), (4, _), (0, _), (1, _), (2, _), (3, _)]) hC dX2_portions_29 rfl (inc_1 _) (nlt hN (Nat.le_of_ble_eq_true rfl)) rfl ?_
      refine zr_goto (pc := 32) (tgt := 6) hC dX2_portions_32 (by decide) ?_
      refine zr_sub (ls' := [(0, _), (1, _), (2, _), (3, _), (4, _), (5, _)]) [2, 3, 4, 5, 1, 0] rfl ?_
      exact ih (v4 + y_2) (v5 + (1 : Int32)) s_2
def fX2_portions (w : Nat) (a2 : Int32) (a3 : Int32) (s : St) : Option (Int32 × St) :=
  fX2_portions_L6 w a2 a3 FU (0 : Int32) (0 : Int32) s
set_option maxRecDepth 100000 in
set_option maxHeartbeats 4000000 in
theorem kX2_portions (l : Launch)  {w : Nat} (hw : isWd w) (a2 : Int32) (a3 : Int32) (s : St) : CN l yX2_portions cX2_portions 6 (some .int) 5 FULL (fun ad => [.ref (ad 48), .ref (ad w), .int a2, .int a3]) s (fX2_portions w a2 a3 s) := by
  refine cn_of (by decide) (fun _ => (Nat.le_of_ble_eq_true rfl)) (fun X hC hR hl hN => ?_)
  subst hl
  show Zr X (QFN X (some .int)) 0 s 0 [(0, .ref (X_ad X 48)), (1, .ref (X_ad X w)), (2, .int a2), (3, .int a3)] [] _
  rw [fX2_portions]
  refine zr_iconst (pc := 0) (v := (0 : Int32)) hC dX2_portions_0 ic_0 ?_
  refine zr_istore (pc := 1) (ls' := [(4, _), (0, _), (1, _), (2, _), (3, _)]) hC dX2_portions_1 (nlt hN (Nat.le_of_ble_eq_true rfl)) rfl ?_
  refine zr_iconst (pc := 3) (v := (0 : Int32)) hC dX2_portions_3 ic_0 ?_
  refine zr_istore (pc := 4) (ls' := [(5, _), (4, _), (0, _), (1, _), (2, _), (3, _)]) hC dX2_portions_4 (nlt hN (Nat.le_of_ble_eq_true rfl)) rfl ?_
  refine zr_sub (ls' := [(0, _), (1, _), (2, _), (3, _), (4, _), (5, _)]) [2, 3, 4, 5, 1, 0] rfl ?_
  exact tX2_portions_L6 w a2 a3 X hC hR hN hw FU (0 : Int32) (0 : Int32) _
def fX11_contested_L44 (c1 : Int32) : Nat → Int32 → Int32 → St → Option (RT × St)
  | 0, _, _, _ => none
  | n + 1, v2, v3, s =>
    if (s 21 0) ≤ v3 then
    (some (.inl v2, s))
  else
    (bd (fX2_settle 21 33 c1 s) (fun y_4 s_4 =>
    bd (fX2_portions 33 c1 v3 s_4) (fun y_5 s_5 =>
    bd (fX2_settleByLaw 33 c1 s_5) (fun y_6 s_6 =>
    bd (fX2_portions 33 c1 v3 s_6) (fun y_7 s_7 =>
    if y_7 ≤ y_5 then
    (fX11_contested_L44 c1 n v2 (v3 + (1 : Int32)) s_7)
  else
    (fX11_contested_L44 c1 n (v2 ||| (jshl (1 : Int32) v3)) (v3 + (1 : Int32)) s_7))))))
set_option maxRecDepth 100000 in
set_option maxHeartbeats 4000000 in
theorem tX11_contested_L44 (c1 : Int32) (X : KX) (hC : Ctx X RX11 cX11_contested FULL 9 1) (hR : RX X (some .int)) (hN : X_nL X = 5) : ∀ (n : Nat) (v2 : Int32) (v3 : Int32) (s : St), Zr X (QFX X (some .int) 1) 1 s 44 [(0, .ref (X_ad X 0)), (1, .int c1), (2, .int v2), (3, .int v3)] [] (fX11_contested_L44 c1 n v2 v3 s) := by
  intro n
  induction n with
  | zero =>
    intro v2 v3 s
    exact zr_none
  | succ n ih =>
    intro v2 v3 s
    rw [fX11_contested_L44]
    refine zr_iload_n (pc := 44) (i := 3) 3 hC dX11_contested_44 rfl rfl ?_
    refine zr_aload_n (pc := 45) (i := 0) 0 hC dX11_contested_45 rfl rfl ?_
    refine zr_getR (pc := 46) (j := 4) (k1 := 21) hC mem_0 lay_0 rfl rfl (Nat.le_of_ble_eq_true rfl) iX11 m_386 dX11_contested_46 ?_
    refine zr_getI (pc := 49) (j := 0) hC mem_21 lay_21 rfl rfl (Nat.le_of_ble_eq_true rfl) iX4 m_70 dX11_contested_49 ?_
    refine zr_icmp_ge (pc := 52) (tgt := 140) hC dX11_contested_52 (by decide) (fun c_ => ?_) (fun c_ => ?_)
    · refine zr_iload_n (pc := 140) (i := 2) 2 hC dX11_contested_140 rfl rfl ?_
      exact zx_iret (pc := 141) hC (Nat.le_of_ble_eq_true rfl) hR dX11_contested_141
    · refine zr_aload_n (pc := 55) (i := 0) 0 hC dX11_contested_55 rfl rfl ?_
      refine zr_getR (pc := 56) (j := 9) (k1 := 48) hC mem_0 lay_0 rfl rfl (Nat.le_of_ble_eq_true rfl) iX11 m_391 dX11_contested_56 ?_
      refine zr_aload_n (pc := 59) (i := 0) 0 hC dX11_contested_59 rfl rfl ?_
      refine zr_getR (pc := 60) (j := 4) (k1 := 21) hC mem_0 lay_0 rfl rfl (Nat.le_of_ble_eq_true rfl) iX11 m_386 dX11_contested_60 ?_
      refine zr_aload_n (pc := 63) (i := 0) 0 hC dX11_contested_63 rfl rfl ?_
      refine zr_getR (pc := 64) (j := 5) (k1 := 32) hC mem_0 lay_0 rfl rfl (Nat.le_of_ble_eq_true rfl) iX11 m_387 dX11_contested_64 ?_
      refine zr_getR (pc := 67) (j := 0) (k1 := 33) hC mem_32 lay_32 rfl rfl (Nat.le_of_ble_eq_true rfl) iX8 m_215 dX11_contested_67 ?_
      refine zr_iload_n (pc := 70) (i := 1) 1 hC dX11_contested_70 rfl rfl ?_
      refine zr_callVv (pc := 71) (As := fun ad => [.ref (ad 21), .ref (ad 33), .int c1]) (st1 := []) hC (Nat.le_of_ble_eq_true rfl) (kX2_settle _ is_21 is_33 c1 _) (Nat.le_of_ble_eq_true rfl) mc_yX2_settle m_1169 m_1170 m_1171 mem_48 lay_48 rfl rfl rfl rfl (Nat.le_of_ble_eq_true rfl) dX11_contested_71 (fun y_4 s_4 => ?_)
      refine zr_aload_n (pc := 74) (i := 0) 0 hC dX11_contested_74 rfl rfl ?_
      refine zr_getR (pc := 75) (j := 9) (k1 := 48) hC mem_0 lay_0 rfl rfl (Nat.le_of_ble_eq_true rfl) iX11 m_391 dX11_contested_75 ?_
      refine zr_aload_n (pc := 78) (i := 0) 0 hC dX11_contested_78 rfl rfl ?_
      refine zr_getR (pc := 79) (j := 5) (k1 := 32) hC mem_0 lay_0 rfl rfl (Nat.le_of_ble_eq_true rfl) iX11 m_387 dX11_contested_79 ?_
      refine zr_getR (pc := 82) (j := 0) (k1 := 33) hC mem_32 lay_32 rfl rfl (Nat.le_of_ble_eq_true rfl) iX8 m_215 dX11_contested_82 ?_
      refine zr_iload_n (pc := 85) (i := 1) 1 hC dX11_contested_85 rfl rfl ?_
      refine zr_iload_n (pc := 86) (i := 3) 3 hC dX11_contested_86 rfl rfl ?_
      refine zr_callV (pc := 87) (As := fun ad => [.ref (ad 33), .int c1, .int v3]) (st1 := []) hC (Nat.le_of_ble_eq_true rfl) (kX2_portions _ is_33 c1 v3 _) (Nat.le_of_ble_eq_true rfl) mc_yX2_portions m_1242 m_1243 m_1244 mem_48 lay_48 rfl rfl rfl rfl (Nat.le_of_ble_eq_true rfl) dX11_contested_87 (fun y_5 s_5 => ?_)
      refine zr_istore (pc := 90) (ls' := [(4, _), (0, _), (1, _), (2, _), (3, _)]) hC dX11_contested_90 (nlt hN (Nat.le_of_ble_eq_true rfl)) rfl ?_
      refine zr_aload_n (pc := 92) (i := 0) 1 hC dX11_contested_92 rfl rfl ?_
      refine zr_getR (pc := 93) (j := 9) (k1 := 48) hC mem_0 lay_0 rfl rfl (Nat.le_of_ble_eq_true rfl) iX11 m_391 dX11_contested_93 ?_
      refine zr_aload_n (pc := 96) (i := 0) 1 hC dX11_contested_96 rfl rfl ?_
      refine zr_getR (pc := 97) (j := 5) (k1 := 32) hC mem_0 lay_0 rfl rfl (Nat.le_of_ble_eq_true rfl) iX11 m_387 dX11_contested_97 ?_
      refine zr_getR (pc := 100) (j := 0) (k1 := 33) hC mem_32 lay_32 rfl rfl (Nat.le_of_ble_eq_true rfl) iX8 m_215 dX11_contested_100 ?_
      refine zr_iload_n (pc := 103) (i := 1) 2 hC dX11_contested_103 rfl rfl ?_
      refine zr_callVv (pc := 104) (As := fun ad => [.ref (ad 33), .int c1]) (st1 := []) hC (Nat.le_of_ble_eq_true rfl) (kX2_settleByLaw _ is_33 c1 _) (Nat.le_of_ble_eq_true rfl) mc_yX2_settleByLaw m_1247 m_1183 m_1184 mem_48 lay_48 rfl rfl rfl rfl (Nat.le_of_ble_eq_true rfl) dX11_contested_104 (fun y_6 s_6 => ?_)
      refine zr_aload_n (pc := 107) (i := 0) 1 hC dX11_contested_107 rfl rfl ?_
      refine zr_getR (pc := 108) (j := 9) (k1 := 48) hC mem_0 lay_0 rfl rfl (Nat.le_of_ble_eq_true rfl) iX11 m_391 dX11_contested_108 ?_
      refine zr_aload_n (pc := 111) (i := 0) 1 hC dX11_contested_111 rfl rfl ?_
      refine zr_getR (pc := 112) (j := 5) (k1 := 32) hC mem_0 lay_0 rfl rfl (Nat.le_of_ble_eq_true rfl) iX11 m_387 dX11_contested_112 ?_
      refine zr_getR (pc := 115) (j := 0) (k1 := 33) hC mem_32 lay_32 rfl rfl (Nat.le_of_ble_eq_true rfl) iX8 m_215 dX11_contested_115 ?_
      refine zr_iload_n (pc := 118) (i := 1) 2 hC dX11_contested_118 rfl rfl ?_
      refine zr_iload_n (pc := 119) (i := 3) 4 hC dX11_contested_119 rfl rfl ?_
      refine zr_callV (pc := 120) (As := fun ad => [.ref (ad 33), .int c1, .int v3]) (st1 := []) hC (Nat.le_of_ble_eq_true rfl) (kX2_portions _ is_33 c1 v3 _) (Nat.le_of_ble_eq_true rfl) mc_yX2_portions m_1242 m_1243 m_1244 mem_48 lay_48 rfl rfl rfl rfl (Nat.le_of_ble_eq_true rfl) dX11_contested_120 (fun y_7 s_7 => ?_)
      refine zr_iload (pc := 123) 0 hC dX11_contested_123 rfl ?_
      refine zr_icmp_le (pc := 125) (tgt := 134) hC dX11_contested_125 (by decide) (fun c_ => ?_) (fun c_ => ?_)
      · refine zr_iinc (pc := 134) (q := 4) (ls' := [(3, _), (4, _), (0, _), (1, _), (2, _)]) hC dX11_contested_134 rfl (inc_1 _) (nlt hN (Nat.le_of_ble_eq_true rfl)) rfl ?_
        refine zr_goto (pc := 137) (tgt := 44) hC dX11_contested_137 (by decide) ?_
        refine zr_sub (ls' := [(0, _), (1, _), (2, _), (3, _)]) [2, 3, 4, 0] rfl ?_
        exact ih v2 (v3 + (1 : Int32)) s_7
      · refine zr_iload_n (pc := 128) (i := 2) 3 hC dX11_contested_128 rfl rfl ?_
        refine zr_iconst (pc := 129) (v := (1 : Int32)) hC dX11_contested_129 ic_1 ?_
        refine zr_iload_n (pc := 130) (i := 3) 4 hC dX11_contested_130 rfl rfl ?_
        refine zr_ishl (pc := 131) hC dX11_contested_131 ?_
        refine zr_ior (pc := 132) hC dX11_contested_132 ?_
        refine zr_istore_n (pc := 133) (i := 2) (ls' := [(2, _), (4, _), (0, _), (1, _), (3, _)]) hC dX11_contested_133 rfl (nlt hN (Nat.le_of_ble_eq_true rfl)) rfl ?_
        refine zr_iinc (pc := 134) (q := 4) (ls' := [(3, _), (2, _), (4, _), (0, _), (1, _)]) hC dX11_contested_134 rfl (inc_1 _) (nlt hN (Nat.le_of_ble_eq_true rfl)) rfl ?_
        refine zr_goto (pc := 137) (tgt := 44) hC dX11_contested_137 (by decide) ?_
        refine zr_sub (ls' := [(0, _), (1, _), (2, _), (3, _)]) [3, 4, 1, 0] rfl ?_
        exact ih (v2 ||| (jshl (1 : Int32) v3)) (v3 + (1 : Int32)) s_7
def fX11_contested (a1 : Int32) (s : St) : Option (RT × St) :=
  bx (fX11_needPerson a1 s) (fun y_1 s_1 =>
    bd (fX10_alive 33 a1 s_1) (fun y_2 s_2 =>
    if y_2 = 0 then
    (some (.inl (0 : Int32), s_2))
  else
    (bd (fX2_learn 21 33 a1 s_2) (fun y_3 s_3 =>
    fX11_contested_L44 a1 FU (0 : Int32) (0 : Int32) s_3))))
set_option maxRecDepth 100000 in
set_option maxHeartbeats 4000000 in
theorem kX11_contested (l : Launch) (hst : l.stackTraces = false)  (a1 : Int32) (s : St) : CX l yX11_contested cX11_contested 5 (some .int) 9 1 FULL (fun ad => [.ref (ad 0), .int a1]) s (fX11_contested a1 s) := by
  refine cx_of hst (by decide) (fun _ => (Nat.le_of_ble_eq_true rfl)) (fun X hC hR hl hN => ?_)
  subst hl
  show Zr X (QFX X (some .int) 1) 0 s 0 [(0, .ref (X_ad X 0)), (1, .int a1)] [] _
  rw [fX11_contested]
  refine zr_aload_n (pc := 0) (i := 0) 0 hC dX11_contested_0 rfl rfl ?_
  refine zr_iload_n (pc := 1) (i := 1) 1 hC dX11_contested_1 rfl rfl ?_
  refine zx_callV (pc := 2) (As := fun ad => [.int a1]) (st1 := []) hC hR (Nat.le_of_ble_eq_true rfl) (kX11_needPerson _ hR.2.2 a1 _) (Nat.le_of_ble_eq_true rfl) mc_yX11_needPerson m_1013 m_1015 m_p35 mem_0 lay_0 rfl rfl rfl rfl (Nat.le_of_ble_eq_true rfl) dX11_contested_2 (fun y_1 s_1 => ?_)
  show Zr X (QFX X (some .int) 1) 1 s_1 5 _ [] _
  refine zr_aload_n (pc := 5) (i := 0) 0 hC dX11_contested_5 rfl rfl ?_
  refine zr_getR (pc := 6) (j := 5) (k1 := 32) hC mem_0 lay_0 rfl rfl (Nat.le_of_ble_eq_true rfl) iX11 m_387 dX11_contested_6 ?_
  refine zr_getR (pc := 9) (j := 0) (k1 := 33) hC mem_32 lay_32 rfl rfl (Nat.le_of_ble_eq_true rfl) iX8 m_215 dX11_contested_9 ?_
  refine zr_iload_n (pc := 12) (i := 1) 1 hC dX11_contested_12 rfl rfl ?_
  refine zr_callV (pc := 13) (As := fun ad => [.int a1]) (st1 := []) hC (Nat.le_of_ble_eq_true rfl) (kX10_alive _ is_33 a1 _) (Nat.le_of_ble_eq_true rfl) mc_yX10_alive m_523 m_524 m_525 mem_33 lay_33 rfl rfl rfl rfl (Nat.le_of_ble_eq_true rfl) dX11_contested_13 (fun y_2 s_2 => ?_)
  refine zr_if_ne (pc := 16) (tgt := 21) hC dX11_contested_16 (by decide) (fun c_ => ?_) (fun c_ => ?_)
  · refine zr_iconst (pc := 19) (v := (0 : Int32)) hC dX11_contested_19 ic_0 ?_
    exact zx_iret (pc := 20) hC (Nat.le_of_ble_eq_true rfl) hR dX11_contested_20
  · refine zr_aload_n (pc := 21) (i := 0) 0 hC dX11_contested_21 rfl rfl ?_
    refine zr_getR (pc := 22) (j := 9) (k1 := 48) hC mem_0 lay_0 rfl rfl (Nat.le_of_ble_eq_true rfl) iX11 m_391 dX11_contested_22 ?_
    refine zr_aload_n (pc := 25) (i := 0) 0 hC dX11_contested_25 rfl rfl ?_
    refine zr_getR (pc := 26) (j := 4) (k1 := 21) hC mem_0 lay_0 rfl rfl (Nat.le_of_ble_eq_true rfl) iX11 m_386 dX11_contested_26 ?_
    refine zr_aload_n (pc := 29) (i := 0) 0 hC dX11_contested_29 rfl rfl ?_
    refine zr_getR (pc := 30) (j := 5) (k1 := 32) hC mem_0 lay_0 rfl rfl (Nat.le_of_ble_eq_true rfl) iX11 m_387 dX11_contested_30 ?_
    refine zr_getR (pc := 33) (j := 0) (k1 := 33) hC mem_32 lay_32 rfl rfl (Nat.le_of_ble_eq_true rfl) iX8 m_215 dX11_contested_33 ?_
    refine zr_iload_n (pc := 36) (i := 1) 1 hC dX11_contested_36 rfl rfl ?_
    refine zr_callVv (pc := 37) (As := fun ad => [.ref (ad 21), .ref (ad 33), .int a1]) (st1 := []) hC (Nat.le_of_ble_eq_true rfl) (kX2_learn _ is_21 is_33 a1 _) (Nat.le_of_ble_eq_true rfl) mc_yX2_learn m_1136 m_1137 m_1138 mem_48 lay_48 rfl rfl rfl rfl (Nat.le_of_ble_eq_true rfl) dX11_contested_37 (fun y_3 s_3 => ?_)
    refine zr_iconst (pc := 40) (v := (0 : Int32)) hC dX11_contested_40 ic_0 ?_
    refine zr_istore_n (pc := 41) (i := 2) (ls' := [(2, _), (0, _), (1, _)]) hC dX11_contested_41 rfl (nlt hN (Nat.le_of_ble_eq_true rfl)) rfl ?_
    refine zr_iconst (pc := 42) (v := (0 : Int32)) hC dX11_contested_42 ic_0 ?_
    refine zr_istore_n (pc := 43) (i := 3) (ls' := [(3, _), (2, _), (0, _), (1, _)]) hC dX11_contested_43 rfl (nlt hN (Nat.le_of_ble_eq_true rfl)) rfl ?_
    refine zr_sub (ls' := [(0, _), (1, _), (2, _), (3, _)]) [2, 3, 1, 0] rfl ?_
    exact tX11_contested_L44 a1 X hC hR hN FU (0 : Int32) (0 : Int32) _
def fX1_aim (a1 : Int32) (a2 : Int32) (a3 : Int32) (s : St) : Option (Int32 × St) :=
  let s_1 := wr s 51 5 a1;
    let s_2 := wr s_1 51 6 a2;
    let s_3 := wr s_2 51 7 a3;
    some (0, s_3)
set_option maxRecDepth 100000 in
set_option maxHeartbeats 4000000 in
theorem kX1_aim (l : Launch)  (a1 : Int32) (a2 : Int32) (a3 : Int32) (s : St) : CN l yX1_aim cX1_aim 4 none 1 FULL (fun ad => [.ref (ad 51), .int a1, .int a2, .int a3]) s (fX1_aim a1 a2 a3 s) := by
  refine cn_of (by decide) (fun _ => (Nat.le_of_ble_eq_true rfl)) (fun X hC hR hl hN => ?_)
  subst hl
  show Zr X (QFN X none) 0 s 0 [(0, .ref (X_ad X 51)), (1, .int a1), (2, .int a2), (3, .int a3)] [] _
  rw [fX1_aim]
  refine zr_aload_n (pc := 0) (i := 0) 0 hC dX1_aim_0 rfl rfl ?_
  refine zr_iload_n (pc := 1) (i := 1) 1 hC dX1_aim_1 rfl rfl ?_
  refine zr_putInt (pc := 2) (j := 5) hC mem_51 lay_51 rfl rfl (Nat.le_of_ble_eq_true rfl) iX1 tyX1_ok nmX1 m_286 rfl (by decide +kernel) dX1_aim_2 ?_
  refine zr_aload_n (pc := 5) (i := 0) 0 hC dX1_aim_5 rfl rfl ?_
  refine zr_iload_n (pc := 6) (i := 2) 2 hC dX1_aim_6 rfl rfl ?_
  refine zr_putInt (pc := 7) (j := 6) hC mem_51 lay_51 rfl rfl (Nat.le_of_ble_eq_true rfl) iX1 tyX1_ok nmX1 m_287 rfl (by decide +kernel) dX1_aim_7 ?_
  refine zr_aload_n (pc := 10) (i := 0) 0 hC dX1_aim_10 rfl rfl ?_
  refine zr_iload_n (pc := 11) (i := 3) 3 hC dX1_aim_11 rfl rfl ?_
  refine zr_putInt (pc := 12) (j := 7) hC mem_51 lay_51 rfl rfl (Nat.le_of_ble_eq_true rfl) iX1 tyX1_ok nmX1 m_288 rfl (by decide +kernel) dX1_aim_12 ?_
  exact zr_vret (pc := 15) hC hR dX1_aim_15
def fX1_reaches_L49 (rc : Int32 → Int32 → St → Option (Int32 × St)) (g : Nat) (c3 : Int32) (c4 : Int32) : Nat → Int32 → St → Option (Int32 × St)
  | 0, _, _ => none
  | n + 1, v5, s =>
    if (s g 0) ≤ v5 then
    (some ((0 : Int32), s))
  else
    (if v5 = (s 51 5) then
    (fX1_reaches_L49 rc g c3 c4 n (v5 + (1 : Int32)) s)
  else
    (bd (fX10_alive 52 v5 s) (fun y_2 s_2 =>
    if y_2 = 0 then
    (fX1_reaches_L49 rc g c3 c4 n (v5 + (1 : Int32)) s_2)
  else
    (bd (fX2_settle g 52 v5 s_2) (fun y_3 s_3 =>
    bd (fX2_handOver 52 v5 s_3) (fun y_4 s_4 =>
    bd (fX11_put 55 c3 v5 s_4) (fun y_5 s_5 =>
    bd (rc (c3 + (1 : Int32)) c4 s_5) (fun y_6 s_6 =>
    if y_6 = 0 then
    (bd (fX10_loadFrom 52 54 c3 s_6) (fun y_7 s_7 =>
    fX1_reaches_L49 rc g c3 c4 n (v5 + (1 : Int32)) s_7))
  else
    (some ((1 : Int32), s_6))))))))))
set_option maxRecDepth 100000 in
set_option maxHeartbeats 4000000 in
theorem tX1_reaches_L49 (rc : Int32 → Int32 → St → Option (Int32 × St)) (g : Nat) (c3 : Int32) (c4 : Int32) (dd : Nat) (hdd : 8 ≤ dd) (X : KX) (hC : Ctx X RX1 cX1_reaches FULL (dd + 1) 0) (hR : RC X (some .boolean)) (hN : X_nL X = 6) (hg : isLand g) (hrc : ∀ (z0 z1 : Int32) (s : St), CN (X_l X) yX1_reaches cX1_reaches 6 (some .boolean) dd FULL (fun ad => [.ref (ad 51), .ref (ad g), .ref (ad 48), .int z0, .int z1]) s (rc z0 z1 s)) : ∀ (n : Nat) (v5 : Int32) (s : St), Zr X (QFN X (some .boolean)) 0 s 49 [(0, .ref (X_ad X 51)), (1, .ref (X_ad X g)), (2, .ref (X_ad X 48)), (3, .int c3), (4, .int c4), (5, .int v5)] [] (fX1_reaches_L49 rc g c3 c4 n v5 s) := by
  intro n
  induction n with
  | zero =>
    intro v5 s
    exact zr_none
  | succ n ih =>
    intro v5 s
    rw [fX1_reaches_L49]
    refine zr_iload (pc := 49) 5 hC dX1_reaches_49 rfl ?_
    refine zr_aload_n (pc := 51) (i := 1) 1 hC dX1_reaches_51 rfl rfl ?_
    refine zr_getI (pc := 52) (j := 0) hC hg.1.1 hg.1.2 rfl rfl (Nat.le_of_ble_eq_true rfl) iX4 m_69 dX1_reaches_52 ?_
    refine zr_icmp_ge (pc := 55) (tgt := 144) hC dX1_reaches_55 (by decide) (fun c_ => ?_) (fun c_ => ?_)
    · refine zr_iconst (pc := 144) (v := (0 : Int32)) hC dX1_reaches_144 ic_0 ?_
      exact zr_zret (pc := 145) (by decide) hC hR dX1_reaches_145
    · refine zr_iload (pc := 58) 5 hC dX1_reaches_58 rfl ?_
      refine zr_aload_n (pc := 60) (i := 0) 0 hC dX1_reaches_60 rfl rfl ?_
      refine zr_getI (pc := 61) (j := 5) hC mem_51 lay_51 rfl rfl (Nat.le_of_ble_eq_true rfl) iX1 m_286 dX1_reaches_61 ?_
      refine zr_icmp_eq (pc := 64) (tgt := 138) hC dX1_reaches_64 (by decide) (fun c_ => ?_) (fun c_ => ?_)
      · refine zr_iinc (pc := 138) (q := 5) (ls' := [(5, _), (0, _), (1, _), (2, _), (3, _), (4, _)]) hC dX1_reaches_138 rfl (inc_1 _) (nlt hN (Nat.le_of_ble_eq_true rfl)) rfl ?_
        refine zr_goto (pc := 141) (tgt := 49) hC dX1_reaches_141 (by decide) ?_
        refine zr_sub (ls' := [(0, _), (1, _), (2, _), (3, _), (4, _), (5, _)]) [1, 2, 3, 4, 5, 0] rfl ?_
        exact ih (v5 + (1 : Int32)) s
      · refine zr_aload_n (pc := 67) (i := 0) 0 hC dX1_reaches_67 rfl rfl ?_
        refine zr_getR (pc := 68) (j := 0) (k1 := 52) hC mem_51 lay_51 rfl rfl (Nat.le_of_ble_eq_true rfl) iX1 m_279 dX1_reaches_68 ?_
        refine zr_iload (pc := 71) 5 hC dX1_reaches_71 rfl ?_
        refine zr_callV (pc := 73) (As := fun ad => [.int v5]) (st1 := []) hC (Nat.le_of_ble_eq_true rfl) (kX10_alive _ is_52 v5 _) (by omega) mc_yX10_alive m_1270 m_524 m_525 mem_52 lay_52 rfl rfl rfl rfl (Nat.le_of_ble_eq_true rfl) dX1_reaches_73 (fun y_2 s_2 => ?_)
        refine zr_if_eq (pc := 76) (tgt := 138) hC dX1_reaches_76 (by decide) (fun c_ => ?_) (fun c_ => ?_)
        · refine zr_iinc (pc := 138) (q := 5) (ls' := [(5, _), (0, _), (1, _), (2, _), (3, _), (4, _)]) hC dX1_reaches_138 rfl (inc_1 _) (nlt hN (Nat.le_of_ble_eq_true rfl)) rfl ?_
          refine zr_goto (pc := 141) (tgt := 49) hC dX1_reaches_141 (by decide) ?_
          refine zr_sub (ls' := [(0, _), (1, _), (2, _), (3, _), (4, _), (5, _)]) [1, 2, 3, 4, 5, 0] rfl ?_
          exact ih (v5 + (1 : Int32)) s_2
        · refine zr_aload_n (pc := 79) (i := 2) 2 hC dX1_reaches_79 rfl rfl ?_
          refine zr_aload_n (pc := 80) (i := 1) 1 hC dX1_reaches_80 rfl rfl ?_
          refine zr_aload_n (pc := 81) (i := 0) 0 hC dX1_reaches_81 rfl rfl ?_
          refine zr_getR (pc := 82) (j := 0) (k1 := 52) hC mem_51 lay_51 rfl rfl (Nat.le_of_ble_eq_true rfl) iX1 m_279 dX1_reaches_82 ?_
          refine zr_iload (pc := 85) 5 hC dX1_reaches_85 rfl ?_
          refine zr_callVv (pc := 87) (As := fun ad => [.ref (ad g), .ref (ad 52), .int v5]) (st1 := []) hC (Nat.le_of_ble_eq_true rfl) (kX2_settle _ hg is_52 v5 _) (by omega) mc_yX2_settle m_1271 m_1170 m_1171 mem_48 lay_48 rfl rfl rfl rfl (Nat.le_of_ble_eq_true rfl) dX1_reaches_87 (fun y_3 s_3 => ?_)
          refine zr_aload_n (pc := 90) (i := 2) 2 hC dX1_reaches_90 rfl rfl ?_
          refine zr_aload_n (pc := 91) (i := 0) 0 hC dX1_reaches_91 rfl rfl ?_
          refine zr_getR (pc := 92) (j := 0) (k1 := 52) hC mem_51 lay_51 rfl rfl (Nat.le_of_ble_eq_true rfl) iX1 m_279 dX1_reaches_92 ?_
          refine zr_iload (pc := 95) 5 hC dX1_reaches_95 rfl ?_
          refine zr_callVv (pc := 97) (As := fun ad => [.ref (ad 52), .int v5]) (st1 := []) hC (Nat.le_of_ble_eq_true rfl) (kX2_handOver _ is_52 v5 _) (by omega) mc_yX2_handOver m_1272 m_1188 m_1189 mem_48 lay_48 rfl rfl rfl rfl (Nat.le_of_ble_eq_true rfl) dX1_reaches_97 (fun y_4 s_4 => ?_)
          refine zr_aload_n (pc := 100) (i := 0) 0 hC dX1_reaches_100 rfl rfl ?_
          refine zr_getR (pc := 101) (j := 2) (k1 := 55) hC mem_51 lay_51 rfl rfl (Nat.le_of_ble_eq_true rfl) iX1 m_281 dX1_reaches_101 ?_
          refine zr_iload_n (pc := 104) (i := 3) 3 hC dX1_reaches_104 rfl rfl ?_
          refine zr_iload (pc := 105) 5 hC dX1_reaches_105 rfl ?_
          refine zr_callSNv (pc := 107) (As := fun ad => [.ref (ad 55), .int c3, .int v5]) (st1 := []) hC (Nat.le_of_ble_eq_true rfl) (kX11_put _ ar_55 c3 v5 _) (by omega) mc_yX11_put m_1273 m_141 rfl rfl (Nat.le_of_ble_eq_true rfl) dX1_reaches_107 (fun y_5 s_5 => ?_)
          refine zr_aload_n (pc := 110) (i := 0) 0 hC dX1_reaches_110 rfl rfl ?_
          refine zr_aload_n (pc := 111) (i := 1) 1 hC dX1_reaches_111 rfl rfl ?_
          refine zr_aload_n (pc := 112) (i := 2) 2 hC dX1_reaches_112 rfl rfl ?_
          refine zr_iload_n (pc := 113) (i := 3) 3 hC dX1_reaches_113 rfl rfl ?_
          refine zr_iconst (pc := 114) (v := (1 : Int32)) hC dX1_reaches_114 ic_1 ?_
          refine zr_iadd (pc := 115) hC dX1_reaches_115 ?_
          refine zr_iload (pc := 116) 4 hC dX1_reaches_116 rfl ?_
          refine zr_callV (pc := 118) (As := fun ad => [.ref (ad g), .ref (ad 48), .int (c3 + (1 : Int32)), .int c4]) (st1 := []) hC (Nat.le_of_ble_eq_true rfl) (hrc (c3 + (1 : Int32)) c4 _) (by omega) mc_yX1_reaches m_1264 m_1266 m_p45 mem_51 lay_51 rfl rfl rfl rfl (Nat.le_of_ble_eq_true rfl) dX1_reaches_118 (fun y_6 s_6 => ?_)
          refine zr_if_eq (pc := 121) (tgt := 126) hC dX1_reaches_121 (by decide) (fun c_ => ?_) (fun c_ => ?_)
          · refine zr_aload_n (pc := 126) (i := 0) 0 hC dX1_reaches_126 rfl rfl ?_
            refine zr_getR (pc := 127) (j := 0) (k1 := 52) hC mem_51 lay_51 rfl rfl (Nat.le_of_ble_eq_true rfl) iX1 m_279 dX1_reaches_127 ?_
            refine zr_aload_n (pc := 130) (i := 0) 0 hC dX1_reaches_130 rfl rfl ?_
            refine zr_getR (pc := 131) (j := 1) (k1 := 54) hC mem_51 lay_51 rfl rfl (Nat.le_of_ble_eq_true rfl) iX1 m_280 dX1_reaches_131 ?_
            refine zr_iload_n (pc := 134) (i := 3) 3 hC dX1_reaches_134 rfl rfl ?_
            refine zr_callVv (pc := 135) (As := fun ad => [.ref (ad 54), .int c3]) (st1 := []) hC (Nat.le_of_ble_eq_true rfl) (kX10_loadFrom _ is_52 ar_54 c3 _) (by omega) mc_yX10_loadFrom m_1274 m_516 m_517 mem_52 lay_52 rfl rfl rfl rfl (Nat.le_of_ble_eq_true rfl) dX1_reaches_135 (fun y_7 s_7 => ?_)
            refine zr_iinc (pc := 138) (q := 5) (ls' := [(5, _), (0, _), (1, _), (2, _), (3, _), (4, _)]) hC dX1_reaches_138 rfl (inc_1 _) (nlt hN (Nat.le_of_ble_eq_true rfl)) rfl ?_
            refine zr_goto (pc := 141) (tgt := 49) hC dX1_reaches_141 (by decide) ?_
            refine zr_sub (ls' := [(0, _), (1, _), (2, _), (3, _), (4, _), (5, _)]) [1, 2, 3, 4, 5, 0] rfl ?_
            exact ih (v5 + (1 : Int32)) s_7
          · refine zr_iconst (pc := 124) (v := (1 : Int32)) hC dX1_reaches_124 ic_1 ?_
            exact zr_zret (pc := 125) (by decide) hC hR dX1_reaches_125
def gX1_reaches (rc : Int32 → Int32 → St → Option (Int32 × St)) (g : Nat) (a3 : Int32) (a4 : Int32) (s : St) : Option (Int32 × St) :=
  if a3 < a4 then
    (bd (fX10_saveTo 52 54 a3 s) (fun y_1 s_1 =>
    fX1_reaches_L49 rc g a3 a4 FU (0 : Int32) s_1))
  else
    (bd (fX10_part 52 (s 51 5) (s 51 6) s) (fun y_8 s_8 =>
    if y_8 < (s_8 51 7) then
    (some ((0 : Int32), s_8))
  else
    (some ((1 : Int32), s_8))))
set_option maxRecDepth 100000 in
set_option maxHeartbeats 4000000 in
theorem gkX1_reaches (l : Launch) (rc : Int32 → Int32 → St → Option (Int32 × St)) (dd : Nat) (hdd : 8 ≤ dd)  {g : Nat} (hrc : ∀ (z0 z1 : Int32) (s : St), CN l yX1_reaches cX1_reaches 6 (some .boolean) dd FULL (fun ad => [.ref (ad 51), .ref (ad g), .ref (ad 48), .int z0, .int z1]) s (rc z0 z1 s)) (hg : isLand g) (a3 : Int32) (a4 : Int32) (s : St) : CN l yX1_reaches cX1_reaches 6 (some .boolean) (dd + 1) FULL (fun ad => [.ref (ad 51), .ref (ad g), .ref (ad 48), .int a3, .int a4]) s (gX1_reaches rc g a3 a4 s) := by
  refine cn_of (by decide) (fun _ => (Nat.le_of_ble_eq_true rfl)) (fun X hC hR hl hN => ?_)
  subst hl
  show Zr X (QFN X (some .boolean)) 0 s 0 [(0, .ref (X_ad X 51)), (1, .ref (X_ad X g)), (2, .ref (X_ad X 48)), (3, .int a3), (4, .int a4)] [] _
  rw [gX1_reaches]
  refine zr_iload_n (pc := 0) (i := 3) 3 hC dX1_reaches_0 rfl rfl ?_
  refine zr_iload (pc := 1) 4 hC dX1_reaches_1 rfl ?_
  refine zr_icmp_lt (pc := 3) (tgt := 34) hC dX1_reaches_3 (by decide) (fun c_ => ?_) (fun c_ => ?_)
  · refine zr_aload_n (pc := 34) (i := 0) 0 hC dX1_reaches_34 rfl rfl ?_
    refine zr_getR (pc := 35) (j := 0) (k1 := 52) hC mem_51 lay_51 rfl rfl (Nat.le_of_ble_eq_true rfl) iX1 m_279 dX1_reaches_35 ?_
    refine zr_aload_n (pc := 38) (i := 0) 0 hC dX1_reaches_38 rfl rfl ?_
    refine zr_getR (pc := 39) (j := 1) (k1 := 54) hC mem_51 lay_51 rfl rfl (Nat.le_of_ble_eq_true rfl) iX1 m_280 dX1_reaches_39 ?_
    refine zr_iload_n (pc := 42) (i := 3) 3 hC dX1_reaches_42 rfl rfl ?_
    refine zr_callVv (pc := 43) (As := fun ad => [.ref (ad 54), .int a3]) (st1 := []) hC (Nat.le_of_ble_eq_true rfl) (kX10_saveTo _ is_52 ar_54 a3 _) (by omega) mc_yX10_saveTo m_1269 m_461 m_462 mem_52 lay_52 rfl rfl rfl rfl (Nat.le_of_ble_eq_true rfl) dX1_reaches_43 (fun y_1 s_1 => ?_)
    refine zr_iconst (pc := 46) (v := (0 : Int32)) hC dX1_reaches_46 ic_0 ?_
    refine zr_istore (pc := 47) (ls' := [(5, _), (0, _), (1, _), (2, _), (3, _), (4, _)]) hC dX1_reaches_47 (nlt hN (Nat.le_of_ble_eq_true rfl)) rfl ?_
    refine zr_sub (ls' := [(0, _), (1, _), (2, _), (3, _), (4, _), (5, _)]) [1, 2, 3, 4, 5, 0] rfl ?_
    exact tX1_reaches_L49 rc g a3 a4 dd hdd X hC hR hN hg hrc FU (0 : Int32) _
  · refine zr_aload_n (pc := 6) (i := 0) 0 hC dX1_reaches_6 rfl rfl ?_
    refine zr_getR (pc := 7) (j := 0) (k1 := 52) hC mem_51 lay_51 rfl rfl (Nat.le_of_ble_eq_true rfl) iX1 m_279 dX1_reaches_7 ?_
    refine zr_aload_n (pc := 10) (i := 0) 0 hC dX1_reaches_10 rfl rfl ?_
    refine zr_getI (pc := 11) (j := 5) hC mem_51 lay_51 rfl rfl (Nat.le_of_ble_eq_true rfl) iX1 m_286 dX1_reaches_11 ?_
    refine zr_aload_n (pc := 14) (i := 0) 0 hC dX1_reaches_14 rfl rfl ?_
    refine zr_getI (pc := 15) (j := 6) hC mem_51 lay_51 rfl rfl (Nat.le_of_ble_eq_true rfl) iX1 m_287 dX1_reaches_15 ?_
    refine zr_callV (pc := 18) (As := fun ad => [.int (s 51 5), .int (s 51 6)]) (st1 := []) hC (Nat.le_of_ble_eq_true rfl) (kX10_part _ is_52 (s 51 5) (s 51 6) _) (by omega) mc_yX10_part m_1268 m_492 m_493 mem_52 lay_52 rfl rfl rfl rfl (Nat.le_of_ble_eq_true rfl) dX1_reaches_18 (fun y_8 s_8 => ?_)
    refine zr_aload_n (pc := 21) (i := 0) 0 hC dX1_reaches_21 rfl rfl ?_
    refine zr_getI (pc := 22) (j := 7) hC mem_51 lay_51 rfl rfl (Nat.le_of_ble_eq_true rfl) iX1 m_288 dX1_reaches_22 ?_
    refine zr_icmp_lt (pc := 25) (tgt := 32) hC dX1_reaches_25 (by decide) (fun c_ => ?_) (fun c_ => ?_)
    · refine zr_iconst (pc := 32) (v := (0 : Int32)) hC dX1_reaches_32 ic_0 ?_
      exact zr_zret (pc := 33) (by decide) hC hR dX1_reaches_33
    · refine zr_iconst (pc := 28) (v := (1 : Int32)) hC dX1_reaches_28 ic_1 ?_
      refine zr_goto (pc := 29) (tgt := 33) hC dX1_reaches_29 (by decide) ?_
      exact zr_zret (pc := 33) (by decide) hC hR dX1_reaches_33
def fX1_reaches (g : Nat) : Nat → Int32 → Int32 → St → Option (Int32 × St)
  | 0, _, _, _ => none
  | n + 1, a3, a4, s => gX1_reaches (fX1_reaches g n) g a3 a4 s
theorem kX1_reaches (l : Launch) {g : Nat} (hg : isLand g) : ∀ (n : Nat) (a3 : Int32) (a4 : Int32) (s : St), CN l yX1_reaches cX1_reaches 6 (some .boolean) (8 + 1 * n) FULL (fun ad => [.ref (ad 51), .ref (ad g), .ref (ad 48), .int a3, .int a4]) s (fX1_reaches g n a3 a4 s)
  | 0, _, _, _ => fun _ _ h => by cases h
  | n + 1, a3, a4, s => gkX1_reaches l (fX1_reaches g n) (8 + 1 * n) (Nat.le_add_right _ _) (fun z0 z1 s => kX1_reaches l hg n z0 z1 s) hg a3 a4 s
def fX1_find_L3 (k29 : Int32 → St → Option (Int32 × St)) (g : Nat) (w : Nat) : Nat → Int32 → St → Option (Int32 × St)
  | 0, _, _ => none
  | n + 1, v4, s =>
    if (3 : Int32) < v4 then
    (some ((-1 : Int32), s))
  else
    (bd (fX10_copyFrom 52 w s) (fun y_1 s_1 =>
    bd (fX1_reaches g 5 (0 : Int32) v4 s_1) (fun y_2 s_2 =>
    if y_2 = 0 then
    (fX1_find_L3 k29 g w n (v4 + (1 : Int32)) s_2)
  else
    (k29 v4 s_2))))
set_option maxRecDepth 100000 in
set_option maxHeartbeats 4000000 in
theorem tX1_find_L3 (g : Nat) (w : Nat) (k29 : Int32 → St → Option (Int32 × St)) (X : KX) (hC : Ctx X RX1 cX1_find FULL 15 0) (hR : RC X (some .int)) (hN : X_nL X = 5) (hg : isLand g) (hw : isWd w) (hk29 : ∀ (v4 : Int32) (s : St), Zr X (QFN X (some .int)) 0 s 29 [(0, .ref (X_ad X 51)), (4, .int v4)] [] (k29 v4 s)) : ∀ (n : Nat) (v4 : Int32) (s : St), Zr X (QFN X (some .int)) 0 s 3 [(0, .ref (X_ad X 51)), (1, .ref (X_ad X g)), (2, .ref (X_ad X w)), (3, .ref (X_ad X 48)), (4, .int v4)] [] (fX1_find_L3 k29 g w n v4 s) := by
  intro n
  induction n with
  | zero =>
    intro v4 s
    exact zr_none
  | succ n ih =>
    intro v4 s
    rw [fX1_find_L3]
    refine zr_iload (pc := 3) 4 hC dX1_find_3 rfl ?_
    refine zr_iconst (pc := 5) (v := (3 : Int32)) hC dX1_find_5 ic_3 ?_
    refine zr_icmp_gt (pc := 6) (tgt := 55) hC dX1_find_6 (by decide) (fun c_ => ?_) (fun c_ => ?_)
    · refine zr_iconst (pc := 55) (v := (-1 : Int32)) hC dX1_find_55 ic_m1 ?_
      exact zr_iret (pc := 56) hC hR dX1_find_56
    · refine zr_aload_n (pc := 9) (i := 0) 0 hC dX1_find_9 rfl rfl ?_
      refine zr_getR (pc := 10) (j := 0) (k1 := 52) hC mem_51 lay_51 rfl rfl (Nat.le_of_ble_eq_true rfl) iX1 m_279 dX1_find_10 ?_
      refine zr_aload_n (pc := 13) (i := 2) 2 hC dX1_find_13 rfl rfl ?_
      refine zr_callVv (pc := 14) (As := fun ad => [.ref (ad w)]) (st1 := []) hC (Nat.le_of_ble_eq_true rfl) (kX10_copyFrom _ is_52 hw _) (Nat.le_of_ble_eq_true rfl) mc_yX10_copyFrom m_1263 m_619 m_620 mem_52 lay_52 rfl rfl rfl rfl (Nat.le_of_ble_eq_true rfl) dX1_find_14 (fun y_1 s_1 => ?_)
      refine zr_aload_n (pc := 17) (i := 0) 0 hC dX1_find_17 rfl rfl ?_
      refine zr_aload_n (pc := 18) (i := 1) 1 hC dX1_find_18 rfl rfl ?_
      refine zr_aload_n (pc := 19) (i := 3) 3 hC dX1_find_19 rfl rfl ?_
      refine zr_iconst (pc := 20) (v := (0 : Int32)) hC dX1_find_20 ic_0 ?_
      refine zr_iload (pc := 21) 4 hC dX1_find_21 rfl ?_
      refine zr_callV (pc := 23) (As := fun ad => [.ref (ad g), .ref (ad 48), .int (0 : Int32), .int v4]) (st1 := []) hC (Nat.le_of_ble_eq_true rfl) (kX1_reaches _ hg 5 (0 : Int32) v4 _) (Nat.le_of_ble_eq_true rfl) mc_yX1_reaches m_1264 m_1266 m_p45 mem_51 lay_51 rfl rfl rfl rfl (Nat.le_of_ble_eq_true rfl) dX1_find_23 (fun y_2 s_2 => ?_)
      refine zr_if_eq (pc := 26) (tgt := 49) hC dX1_find_26 (by decide) (fun c_ => ?_) (fun c_ => ?_)
      · refine zr_iinc (pc := 49) (q := 4) (ls' := [(4, _), (0, _), (1, _), (2, _), (3, _)]) hC dX1_find_49 rfl (inc_1 _) (nlt hN (Nat.le_of_ble_eq_true rfl)) rfl ?_
        refine zr_goto (pc := 52) (tgt := 3) hC dX1_find_52 (by decide) ?_
        refine zr_sub (ls' := [(0, _), (1, _), (2, _), (3, _), (4, _)]) [1, 2, 3, 4, 0] rfl ?_
        exact ih (v4 + (1 : Int32)) s_2
      · refine zr_sub (ls' := [(0, _), (4, _)]) [0, 4] rfl ?_
        exact hk29 v4 s_2
def fX1_find (g : Nat) (w : Nat) (s : St) : Option (Int32 × St) :=
  fX1_find_L3 (fun v4_3 s_3 => bd (fX11_copyRow 55 56 s_3) (fun y_4 s_4 =>
    let s_5 := wr s_4 51 4 v4_3;
    some (v4_3, s_5))) g w FU (0 : Int32) s
set_option maxRecDepth 100000 in
set_option maxHeartbeats 4000000 in
theorem kX1_find (l : Launch)  {g : Nat} {w : Nat} (hg : isLand g) (hw : isWd w) (s : St) : CN l yX1_find cX1_find 5 (some .int) 15 FULL (fun ad => [.ref (ad 51), .ref (ad g), .ref (ad w), .ref (ad 48)]) s (fX1_find g w s) := by
  refine cn_of (by decide) (fun _ => (Nat.le_of_ble_eq_true rfl)) (fun X hC hR hl hN => ?_)
  subst hl
  show Zr X (QFN X (some .int)) 0 s 0 [(0, .ref (X_ad X 51)), (1, .ref (X_ad X g)), (2, .ref (X_ad X w)), (3, .ref (X_ad X 48))] [] _
  rw [fX1_find]
  refine zr_iconst (pc := 0) (v := (0 : Int32)) hC dX1_find_0 ic_0 ?_
  refine zr_istore (pc := 1) (ls' := [(4, _), (0, _), (1, _), (2, _), (3, _)]) hC dX1_find_1 (nlt hN (Nat.le_of_ble_eq_true rfl)) rfl ?_
  refine zr_sub (ls' := [(0, _), (1, _), (2, _), (3, _), (4, _)]) [1, 2, 3, 4, 0] rfl ?_
  refine tX1_find_L3 g w _ X hC hR hN hg hw (fun v4_3 s_3 => ?_) FU (0 : Int32) _
  · refine zr_aload_n (pc := 29) (i := 0) 0 hC dX1_find_29 rfl rfl ?_
    refine zr_getR (pc := 30) (j := 2) (k1 := 55) hC mem_51 lay_51 rfl rfl (Nat.le_of_ble_eq_true rfl) iX1 m_281 dX1_find_30 ?_
    refine zr_aload_n (pc := 33) (i := 0) 0 hC dX1_find_33 rfl rfl ?_
    refine zr_getR (pc := 34) (j := 3) (k1 := 56) hC mem_51 lay_51 rfl rfl (Nat.le_of_ble_eq_true rfl) iX1 m_282 dX1_find_34 ?_
    refine zr_callSNv (pc := 37) (As := fun ad => [.ref (ad 55), .ref (ad 56)]) (st1 := []) hC (Nat.le_of_ble_eq_true rfl) (kX11_copyRow _ ar_55 ar_56 _) (Nat.le_of_ble_eq_true rfl) mc_yX11_copyRow m_1275 m_567 rfl rfl (Nat.le_of_ble_eq_true rfl) dX1_find_37 (fun y_4 s_4 => ?_)
    refine zr_aload_n (pc := 40) (i := 0) 0 hC dX1_find_40 rfl rfl ?_
    refine zr_iload (pc := 41) 1 hC dX1_find_41 rfl ?_
    refine zr_putInt (pc := 43) (j := 4) hC mem_51 lay_51 rfl rfl (Nat.le_of_ble_eq_true rfl) iX1 tyX1_ok nmX1 m_284 rfl (by decide +kernel) dX1_find_43 ?_
    refine zr_iload (pc := 46) 1 hC dX1_find_46 rfl ?_
    exact zr_iret (pc := 48) hC hR dX1_find_48
def fX11_deaths_L46 (k84 : St → Option (RT × St)) (c1 : Int32) (c2 : Int32) (c3 : Int32) : Nat → Int32 → St → Option (RT × St)
  | 0, _, _ => none
  | n + 1, v4, s =>
    if (s 21 0) ≤ v4 then
    (k84 s)
  else
    (bd (fX2_learn 21 33 v4 s) (fun y_4 s_4 =>
    fX11_deaths_L46 k84 c1 c2 c3 n (v4 + (1 : Int32)) s_4))
set_option maxRecDepth 100000 in
set_option maxHeartbeats 4000000 in
theorem tX11_deaths_L46 (c1 : Int32) (c2 : Int32) (c3 : Int32) (k84 : St → Option (RT × St)) (X : KX) (hC : Ctx X RX11 cX11_deaths FULL 16 3) (hR : RX X (some .int)) (hN : X_nL X = 5) (hk84 : ∀ (s : St), Zr X (QFX X (some .int) 3) 2 s 84 [(0, .ref (X_ad X 0)), (1, .int c1), (2, .int c2), (3, .int c3)] [] (k84 s)) : ∀ (n : Nat) (v4 : Int32) (s : St), Zr X (QFX X (some .int) 3) 2 s 46 [(0, .ref (X_ad X 0)), (1, .int c1), (2, .int c2), (3, .int c3), (4, .int v4)] [] (fX11_deaths_L46 k84 c1 c2 c3 n v4 s) := by
  intro n
  induction n with
  | zero =>
    intro v4 s
    exact zr_none
  | succ n ih =>
    intro v4 s
    rw [fX11_deaths_L46]
    refine zr_iload (pc := 46) 4 hC dX11_deaths_46 rfl ?_
    refine zr_aload_n (pc := 48) (i := 0) 0 hC dX11_deaths_48 rfl rfl ?_
    refine zr_getR (pc := 49) (j := 4) (k1 := 21) hC mem_0 lay_0 rfl rfl (Nat.le_of_ble_eq_true rfl) iX11 m_386 dX11_deaths_49 ?_
    refine zr_getI (pc := 52) (j := 0) hC mem_21 lay_21 rfl rfl (Nat.le_of_ble_eq_true rfl) iX4 m_70 dX11_deaths_52 ?_
    refine zr_icmp_ge (pc := 55) (tgt := 84) hC dX11_deaths_55 (by decide) (fun c_ => ?_) (fun c_ => ?_)
    · refine zr_sub (ls' := [(0, _), (1, _), (2, _), (3, _)]) [0, 1, 2, 3] rfl ?_
      exact hk84 s
    · refine zr_aload_n (pc := 58) (i := 0) 0 hC dX11_deaths_58 rfl rfl ?_
      refine zr_getR (pc := 59) (j := 9) (k1 := 48) hC mem_0 lay_0 rfl rfl (Nat.le_of_ble_eq_true rfl) iX11 m_391 dX11_deaths_59 ?_
      refine zr_aload_n (pc := 62) (i := 0) 0 hC dX11_deaths_62 rfl rfl ?_
      refine zr_getR (pc := 63) (j := 4) (k1 := 21) hC mem_0 lay_0 rfl rfl (Nat.le_of_ble_eq_true rfl) iX11 m_386 dX11_deaths_63 ?_
      refine zr_aload_n (pc := 66) (i := 0) 0 hC dX11_deaths_66 rfl rfl ?_
      refine zr_getR (pc := 67) (j := 5) (k1 := 32) hC mem_0 lay_0 rfl rfl (Nat.le_of_ble_eq_true rfl) iX11 m_387 dX11_deaths_67 ?_
      refine zr_getR (pc := 70) (j := 0) (k1 := 33) hC mem_32 lay_32 rfl rfl (Nat.le_of_ble_eq_true rfl) iX8 m_215 dX11_deaths_70 ?_
      refine zr_iload (pc := 73) 4 hC dX11_deaths_73 rfl ?_
      refine zr_callVv (pc := 75) (As := fun ad => [.ref (ad 21), .ref (ad 33), .int v4]) (st1 := []) hC (Nat.le_of_ble_eq_true rfl) (kX2_learn _ is_21 is_33 v4 _) (Nat.le_of_ble_eq_true rfl) mc_yX2_learn m_1136 m_1137 m_1138 mem_48 lay_48 rfl rfl rfl rfl (Nat.le_of_ble_eq_true rfl) dX11_deaths_75 (fun y_4 s_4 => ?_)
      refine zr_iinc (pc := 78) (q := 4) (ls' := [(4, _), (0, _), (1, _), (2, _), (3, _)]) hC dX11_deaths_78 rfl (inc_1 _) (nlt hN (Nat.le_of_ble_eq_true rfl)) rfl ?_
      refine zr_goto (pc := 81) (tgt := 46) hC dX11_deaths_81 (by decide) ?_
      refine zr_sub (ls' := [(0, _), (1, _), (2, _), (3, _), (4, _)]) [1, 2, 3, 4, 0] rfl ?_
      exact ih (v4 + (1 : Int32)) s_4
def fX11_deaths (a1 : Int32) (a2 : Int32) (a3 : Int32) (s : St) : Option (RT × St) :=
  bx (fX11_needPerson a1 s) (fun y_1 s_1 =>
    bx (fX11_needPart a2 s_1) (fun y_2 s_2 =>
    if a3 < (1 : Int32) then
    (some (.inr 1, s_2))
  else
    (if (9999 : Int32) < a3 then
    (some (.inr 1, s_2))
  else
    (bd (fX10_alive 33 a1 s_2) (fun y_3 s_3 =>
    if y_3 = 0 then
    (some (.inr 1, s_3))
  else
    (fX11_deaths_L46 (fun s_5 => bd (fX1_aim a1 a2 a3 s_5) (fun y_6 s_6 =>
    bd (fX1_find 21 33 s_6) (fun y_7 s_7 =>
    some (.inl y_7, s_7)))) a1 a2 a3 FU (0 : Int32) s_3))))))
set_option maxRecDepth 100000 in
set_option maxHeartbeats 4000000 in
theorem kX11_deaths (l : Launch) (hst : l.stackTraces = false)  (a1 : Int32) (a2 : Int32) (a3 : Int32) (s : St) : CX l yX11_deaths cX11_deaths 5 (some .int) 16 3 FULL (fun ad => [.ref (ad 0), .int a1, .int a2, .int a3]) s (fX11_deaths a1 a2 a3 s) := by
  refine cx_of hst (by decide) (fun _ => (Nat.le_of_ble_eq_true rfl)) (fun X hC hR hl hN => ?_)
  subst hl
  show Zr X (QFX X (some .int) 3) 0 s 0 [(0, .ref (X_ad X 0)), (1, .int a1), (2, .int a2), (3, .int a3)] [] _
  rw [fX11_deaths]
  refine zr_aload_n (pc := 0) (i := 0) 0 hC dX11_deaths_0 rfl rfl ?_
  refine zr_iload_n (pc := 1) (i := 1) 1 hC dX11_deaths_1 rfl rfl ?_
  refine zx_callV (pc := 2) (As := fun ad => [.int a1]) (st1 := []) hC hR (Nat.le_of_ble_eq_true rfl) (kX11_needPerson _ hR.2.2 a1 _) (Nat.le_of_ble_eq_true rfl) mc_yX11_needPerson m_1013 m_1015 m_p35 mem_0 lay_0 rfl rfl rfl rfl (Nat.le_of_ble_eq_true rfl) dX11_deaths_2 (fun y_1 s_1 => ?_)
  show Zr X (QFX X (some .int) 3) 1 s_1 5 _ [] _
  refine zr_iload_n (pc := 5) (i := 2) 2 hC dX11_deaths_5 rfl rfl ?_
  refine zx_callS (pc := 6) (As := fun ad => [.int a2]) (st1 := []) hC hR (Nat.le_of_ble_eq_true rfl) (kX11_needPart _ hR.2.2 a2 _) (Nat.le_of_ble_eq_true rfl) mc_yX11_needPart m_1030 m_1031 rfl rfl rfl (Nat.le_of_ble_eq_true rfl) dX11_deaths_6 (fun y_2 s_2 => ?_)
  show Zr X (QFX X (some .int) 3) 2 s_2 9 _ [] _
  refine zr_iload_n (pc := 9) (i := 3) 3 hC dX11_deaths_9 rfl rfl ?_
  refine zr_iconst (pc := 10) (v := (1 : Int32)) hC dX11_deaths_10 ic_1 ?_
  refine zr_icmp_lt (pc := 11) (tgt := 35) hC dX11_deaths_11 (by decide) (fun c_ => ?_) (fun c_ => ?_)
  · exact zx_thr1 (pc := 35) hC (Nat.le_of_ble_eq_true rfl) hR (Nat.le_of_ble_eq_true rfl) (Nat.le_of_ble_eq_true rfl) dX11_deaths_35 dX11_deaths_38 dX11_deaths_39 dX11_deaths_42
  · refine zr_iload_n (pc := 14) (i := 3) 3 hC dX11_deaths_14 rfl rfl ?_
    refine zr_sipush (pc := 15) (v := (9999 : Int32)) hC dX11_deaths_15 si_9999 ?_
    refine zr_icmp_gt (pc := 18) (tgt := 35) hC dX11_deaths_18 (by decide) (fun c_ => ?_) (fun c_ => ?_)
    · exact zx_thr1 (pc := 35) hC (Nat.le_of_ble_eq_true rfl) hR (Nat.le_of_ble_eq_true rfl) (Nat.le_of_ble_eq_true rfl) dX11_deaths_35 dX11_deaths_38 dX11_deaths_39 dX11_deaths_42
    · refine zr_aload_n (pc := 21) (i := 0) 0 hC dX11_deaths_21 rfl rfl ?_
      refine zr_getR (pc := 22) (j := 5) (k1 := 32) hC mem_0 lay_0 rfl rfl (Nat.le_of_ble_eq_true rfl) iX11 m_387 dX11_deaths_22 ?_
      refine zr_getR (pc := 25) (j := 0) (k1 := 33) hC mem_32 lay_32 rfl rfl (Nat.le_of_ble_eq_true rfl) iX8 m_215 dX11_deaths_25 ?_
      refine zr_iload_n (pc := 28) (i := 1) 1 hC dX11_deaths_28 rfl rfl ?_
      refine zr_callV (pc := 29) (As := fun ad => [.int a1]) (st1 := []) hC (Nat.le_of_ble_eq_true rfl) (kX10_alive _ is_33 a1 _) (Nat.le_of_ble_eq_true rfl) mc_yX10_alive m_523 m_524 m_525 mem_33 lay_33 rfl rfl rfl rfl (Nat.le_of_ble_eq_true rfl) dX11_deaths_29 (fun y_3 s_3 => ?_)
      refine zr_if_ne (pc := 32) (tgt := 43) hC dX11_deaths_32 (by decide) (fun c_ => ?_) (fun c_ => ?_)
      · exact zx_thr1 (pc := 35) hC (Nat.le_of_ble_eq_true rfl) hR (Nat.le_of_ble_eq_true rfl) (Nat.le_of_ble_eq_true rfl) dX11_deaths_35 dX11_deaths_38 dX11_deaths_39 dX11_deaths_42
      · refine zr_iconst (pc := 43) (v := (0 : Int32)) hC dX11_deaths_43 ic_0 ?_
        refine zr_istore (pc := 44) (ls' := [(4, _), (0, _), (1, _), (2, _), (3, _)]) hC dX11_deaths_44 (nlt hN (Nat.le_of_ble_eq_true rfl)) rfl ?_
        refine zr_sub (ls' := [(0, _), (1, _), (2, _), (3, _), (4, _)]) [1, 2, 3, 4, 0] rfl ?_
        refine tX11_deaths_L46 a1 a2 a3 _ X hC hR hN (fun s_5 => ?_) FU (0 : Int32) _
        · refine zr_aload_n (pc := 84) (i := 0) 0 hC dX11_deaths_84 rfl rfl ?_
          refine zr_getR (pc := 85) (j := 10) (k1 := 51) hC mem_0 lay_0 rfl rfl (Nat.le_of_ble_eq_true rfl) iX11 m_392 dX11_deaths_85 ?_
          refine zr_iload_n (pc := 88) (i := 1) 1 hC dX11_deaths_88 rfl rfl ?_
          refine zr_iload_n (pc := 89) (i := 2) 2 hC dX11_deaths_89 rfl rfl ?_
          refine zr_iload_n (pc := 90) (i := 3) 3 hC dX11_deaths_90 rfl rfl ?_
          refine zr_callVv (pc := 91) (As := fun ad => [.int a1, .int a2, .int a3]) (st1 := []) hC (Nat.le_of_ble_eq_true rfl) (kX1_aim _ a1 a2 a3 _) (Nat.le_of_ble_eq_true rfl) mc_yX1_aim m_1255 m_1256 m_1257 mem_51 lay_51 rfl rfl rfl rfl (Nat.le_of_ble_eq_true rfl) dX11_deaths_91 (fun y_6 s_6 => ?_)
          refine zr_aload_n (pc := 94) (i := 0) 0 hC dX11_deaths_94 rfl rfl ?_
          refine zr_getR (pc := 95) (j := 10) (k1 := 51) hC mem_0 lay_0 rfl rfl (Nat.le_of_ble_eq_true rfl) iX11 m_392 dX11_deaths_95 ?_
          refine zr_aload_n (pc := 98) (i := 0) 0 hC dX11_deaths_98 rfl rfl ?_
          refine zr_getR (pc := 99) (j := 4) (k1 := 21) hC mem_0 lay_0 rfl rfl (Nat.le_of_ble_eq_true rfl) iX11 m_386 dX11_deaths_99 ?_
          refine zr_aload_n (pc := 102) (i := 0) 0 hC dX11_deaths_102 rfl rfl ?_
          refine zr_getR (pc := 103) (j := 5) (k1 := 32) hC mem_0 lay_0 rfl rfl (Nat.le_of_ble_eq_true rfl) iX11 m_387 dX11_deaths_103 ?_
          refine zr_getR (pc := 106) (j := 0) (k1 := 33) hC mem_32 lay_32 rfl rfl (Nat.le_of_ble_eq_true rfl) iX8 m_215 dX11_deaths_106 ?_
          refine zr_aload_n (pc := 109) (i := 0) 0 hC dX11_deaths_109 rfl rfl ?_
          refine zr_getR (pc := 110) (j := 9) (k1 := 48) hC mem_0 lay_0 rfl rfl (Nat.le_of_ble_eq_true rfl) iX11 m_391 dX11_deaths_110 ?_
          refine zr_callV (pc := 113) (As := fun ad => [.ref (ad 21), .ref (ad 33), .ref (ad 48)]) (st1 := []) hC (Nat.le_of_ble_eq_true rfl) (kX1_find _ is_21 is_33 _) (Nat.le_of_ble_eq_true rfl) mc_yX1_find m_1259 m_1260 m_1261 mem_51 lay_51 rfl rfl rfl rfl (Nat.le_of_ble_eq_true rfl) dX11_deaths_113 (fun y_7 s_7 => ?_)
          exact zx_iret (pc := 116) hC (Nat.le_of_ble_eq_true rfl) hR dX11_deaths_116
def fX11_death (a1 : Int32) (s : St) : Option (RT × St) :=
  if a1 < 0 then
    (some (.inr 0, s))
  else
    (if a1 < (s 51 4) then
    (bd (fX11_at 56 a1 s) (fun y_1 s_1 =>
    some (.inl y_1, s_1)))
  else
    (some (.inr 0, s)))
set_option maxRecDepth 100000 in
set_option maxHeartbeats 4000000 in
theorem kX11_death (l : Launch) (hst : l.stackTraces = false)  (a1 : Int32) (s : St) : CX l yX11_death cX11_death 2 (some .int) 7 1 FULL (fun ad => [.ref (ad 0), .int a1]) s (fX11_death a1 s) := by
  refine cx_of hst (by decide) (fun _ => (Nat.le_of_ble_eq_true rfl)) (fun X hC hR hl hN => ?_)
  subst hl
  show Zr X (QFX X (some .int) 1) 0 s 0 [(0, .ref (X_ad X 0)), (1, .int a1)] [] _
  rw [fX11_death]
  refine zr_iload_n (pc := 0) (i := 1) 1 hC dX11_death_0 rfl rfl ?_
  refine zr_if_lt (pc := 1) (tgt := 15) hC dX11_death_1 (by decide) (fun c_ => ?_) (fun c_ => ?_)
  · exact zx_thr0 (pc := 15) hC (Nat.le_of_ble_eq_true rfl) hR (Nat.le_of_ble_eq_true rfl) (Nat.le_of_ble_eq_true rfl) dX11_death_15 dX11_death_18 dX11_death_19 dX11_death_22
  · refine zr_iload_n (pc := 4) (i := 1) 1 hC dX11_death_4 rfl rfl ?_
    refine zr_aload_n (pc := 5) (i := 0) 0 hC dX11_death_5 rfl rfl ?_
    refine zr_getR (pc := 6) (j := 10) (k1 := 51) hC mem_0 lay_0 rfl rfl (Nat.le_of_ble_eq_true rfl) iX11 m_392 dX11_death_6 ?_
    refine zr_getI (pc := 9) (j := 4) hC mem_51 lay_51 rfl rfl (Nat.le_of_ble_eq_true rfl) iX1 m_285 dX11_death_9 ?_
    refine zr_icmp_lt (pc := 12) (tgt := 23) hC dX11_death_12 (by decide) (fun c_ => ?_) (fun c_ => ?_)
    · refine zr_aload_n (pc := 23) (i := 0) 0 hC dX11_death_23 rfl rfl ?_
      refine zr_getR (pc := 24) (j := 10) (k1 := 51) hC mem_0 lay_0 rfl rfl (Nat.le_of_ble_eq_true rfl) iX11 m_392 dX11_death_24 ?_
      refine zr_getR (pc := 27) (j := 3) (k1 := 56) hC mem_51 lay_51 rfl rfl (Nat.le_of_ble_eq_true rfl) iX1 m_283 dX11_death_27 ?_
      refine zr_iload_n (pc := 30) (i := 1) 1 hC dX11_death_30 rfl rfl ?_
      refine zr_callS (pc := 31) (As := fun ad => [.ref (ad 56), .int a1]) (st1 := []) hC (Nat.le_of_ble_eq_true rfl) (kX11_at _ ar_56 a1 _) (Nat.le_of_ble_eq_true rfl) mc_yX11_at m_990 m_453 rfl rfl rfl (Nat.le_of_ble_eq_true rfl) dX11_death_31 (fun y_1 s_1 => ?_)
      exact zx_iret (pc := 34) hC (Nat.le_of_ble_eq_true rfl) hR dX11_death_34
    · exact zx_thr0 (pc := 15) hC (Nat.le_of_ble_eq_true rfl) hR (Nat.le_of_ble_eq_true rfl) (Nat.le_of_ble_eq_true rfl) dX11_death_15 dX11_death_18 dX11_death_19 dX11_death_22
def fX11_post (a1 : Int32) (s : St) : Option (RT × St) :=
  bx (fX11_needPerson a1 s) (fun y_1 s_1 =>
    if ((jshr (s_1 57 2) a1) &&& (1 : Int32)) = 0 then
    (some (.inr 0, s_1))
  else
    (bd (fX11_at 59 a1 s_1) (fun y_2 s_2 =>
    some (.inl y_2, s_2))))
set_option maxRecDepth 100000 in
set_option maxHeartbeats 4000000 in
theorem kX11_post (l : Launch) (hst : l.stackTraces = false)  (a1 : Int32) (s : St) : CX l yX11_post cX11_post 2 (some .int) 8 2 FULL (fun ad => [.ref (ad 0), .int a1]) s (fX11_post a1 s) := by
  refine cx_of hst (by decide) (fun _ => (Nat.le_of_ble_eq_true rfl)) (fun X hC hR hl hN => ?_)
  subst hl
  show Zr X (QFX X (some .int) 2) 0 s 0 [(0, .ref (X_ad X 0)), (1, .int a1)] [] _
  rw [fX11_post]
  refine zr_aload_n (pc := 0) (i := 0) 0 hC dX11_post_0 rfl rfl ?_
  refine zr_iload_n (pc := 1) (i := 1) 1 hC dX11_post_1 rfl rfl ?_
  refine zx_callV (pc := 2) (As := fun ad => [.int a1]) (st1 := []) hC hR (Nat.le_of_ble_eq_true rfl) (kX11_needPerson _ hR.2.2 a1 _) (Nat.le_of_ble_eq_true rfl) mc_yX11_needPerson m_1013 m_1015 m_p35 mem_0 lay_0 rfl rfl rfl rfl (Nat.le_of_ble_eq_true rfl) dX11_post_2 (fun y_1 s_1 => ?_)
  show Zr X (QFX X (some .int) 2) 1 s_1 5 _ [] _
  refine zr_aload_n (pc := 5) (i := 0) 0 hC dX11_post_5 rfl rfl ?_
  refine zr_getR (pc := 6) (j := 11) (k1 := 57) hC mem_0 lay_0 rfl rfl (Nat.le_of_ble_eq_true rfl) iX11 m_393 dX11_post_6 ?_
  refine zr_getI (pc := 9) (j := 2) hC mem_57 lay_57 rfl rfl (Nat.le_of_ble_eq_true rfl) iX0 m_316 dX11_post_9 ?_
  refine zr_iload_n (pc := 12) (i := 1) 1 hC dX11_post_12 rfl rfl ?_
  refine zr_ishr (pc := 13) hC dX11_post_13 ?_
  refine zr_iconst (pc := 14) (v := (1 : Int32)) hC dX11_post_14 ic_1 ?_
  refine zr_iand (pc := 15) hC dX11_post_15 ?_
  refine zr_if_ne (pc := 16) (tgt := 27) hC dX11_post_16 (by decide) (fun c_ => ?_) (fun c_ => ?_)
  · exact zx_thr0 (pc := 19) hC (Nat.le_of_ble_eq_true rfl) hR (Nat.le_of_ble_eq_true rfl) (Nat.le_of_ble_eq_true rfl) dX11_post_19 dX11_post_22 dX11_post_23 dX11_post_26
  · refine zr_aload_n (pc := 27) (i := 0) 0 hC dX11_post_27 rfl rfl ?_
    refine zr_getR (pc := 28) (j := 11) (k1 := 57) hC mem_0 lay_0 rfl rfl (Nat.le_of_ble_eq_true rfl) iX11 m_393 dX11_post_28 ?_
    refine zr_getR (pc := 31) (j := 1) (k1 := 59) hC mem_57 lay_57 rfl rfl (Nat.le_of_ble_eq_true rfl) iX0 m_314 dX11_post_31 ?_
    refine zr_iload_n (pc := 34) (i := 1) 1 hC dX11_post_34 rfl rfl ?_
    refine zr_callS (pc := 35) (As := fun ad => [.ref (ad 59), .int a1]) (st1 := []) hC (Nat.le_of_ble_eq_true rfl) (kX11_at _ ar_59 a1 _) (Nat.le_of_ble_eq_true rfl) mc_yX11_at m_990 m_453 rfl rfl rfl (Nat.le_of_ble_eq_true rfl) dX11_post_35 (fun y_2 s_2 => ?_)
    exact zx_iret (pc := 38) hC (Nat.le_of_ble_eq_true rfl) hR dX11_post_38
def fX11_seat (a1 : Int32) (s : St) : Option (RT × St) :=
  if a1 < 0 then
    (some (.inr 0, s))
  else
    (if a1 < (s 62 2) then
    (bd (fX11_at 64 a1 s) (fun y_1 s_1 =>
    some (.inl y_1, s_1)))
  else
    (some (.inr 0, s)))
set_option maxRecDepth 100000 in
set_option maxHeartbeats 4000000 in
theorem kX11_seat (l : Launch) (hst : l.stackTraces = false)  (a1 : Int32) (s : St) : CX l yX11_seat cX11_seat 2 (some .int) 7 1 FULL (fun ad => [.ref (ad 0), .int a1]) s (fX11_seat a1 s) := by
  refine cx_of hst (by decide) (fun _ => (Nat.le_of_ble_eq_true rfl)) (fun X hC hR hl hN => ?_)
  subst hl
  show Zr X (QFX X (some .int) 1) 0 s 0 [(0, .ref (X_ad X 0)), (1, .int a1)] [] _
  rw [fX11_seat]
  refine zr_iload_n (pc := 0) (i := 1) 1 hC dX11_seat_0 rfl rfl ?_
  refine zr_if_lt (pc := 1) (tgt := 15) hC dX11_seat_1 (by decide) (fun c_ => ?_) (fun c_ => ?_)
  · exact zx_thr0 (pc := 15) hC (Nat.le_of_ble_eq_true rfl) hR (Nat.le_of_ble_eq_true rfl) (Nat.le_of_ble_eq_true rfl) dX11_seat_15 dX11_seat_18 dX11_seat_19 dX11_seat_22
  · refine zr_iload_n (pc := 4) (i := 1) 1 hC dX11_seat_4 rfl rfl ?_
    refine zr_aload_n (pc := 5) (i := 0) 0 hC dX11_seat_5 rfl rfl ?_
    refine zr_getR (pc := 6) (j := 12) (k1 := 62) hC mem_0 lay_0 rfl rfl (Nat.le_of_ble_eq_true rfl) iX11 m_394 dX11_seat_6 ?_
    refine zr_getI (pc := 9) (j := 2) hC mem_62 lay_62 rfl rfl (Nat.le_of_ble_eq_true rfl) iX7 m_343 dX11_seat_9 ?_
    refine zr_icmp_lt (pc := 12) (tgt := 23) hC dX11_seat_12 (by decide) (fun c_ => ?_) (fun c_ => ?_)
    · refine zr_aload_n (pc := 23) (i := 0) 0 hC dX11_seat_23 rfl rfl ?_
      refine zr_getR (pc := 24) (j := 12) (k1 := 62) hC mem_0 lay_0 rfl rfl (Nat.le_of_ble_eq_true rfl) iX11 m_394 dX11_seat_24 ?_
      refine zr_getR (pc := 27) (j := 1) (k1 := 64) hC mem_62 lay_62 rfl rfl (Nat.le_of_ble_eq_true rfl) iX7 m_341 dX11_seat_27 ?_
      refine zr_iload_n (pc := 30) (i := 1) 1 hC dX11_seat_30 rfl rfl ?_
      refine zr_callS (pc := 31) (As := fun ad => [.ref (ad 64), .int a1]) (st1 := []) hC (Nat.le_of_ble_eq_true rfl) (kX11_at _ ar_64 a1 _) (Nat.le_of_ble_eq_true rfl) mc_yX11_at m_990 m_453 rfl rfl rfl (Nat.le_of_ble_eq_true rfl) dX11_seat_31 (fun y_1 s_1 => ?_)
      exact zx_iret (pc := 34) hC (Nat.le_of_ble_eq_true rfl) hR dX11_seat_34
    · exact zx_thr0 (pc := 15) hC (Nat.le_of_ble_eq_true rfl) hR (Nat.le_of_ble_eq_true rfl) (Nat.le_of_ble_eq_true rfl) dX11_seat_15 dX11_seat_18 dX11_seat_19 dX11_seat_22
def fX8_addSeen (o : Nat) (a1 : Int32) (a2 : Int32) (s : St) : Option (Int32 × St) :=
  bd (fX11_put (o + 4) (s o 6) a1 s) (fun y_1 s_1 =>
    bd (fX11_put (o + 5) (s_1 o 6) a2 s_1) (fun y_2 s_2 =>
    let s_3 := wr s_2 o 6 ((s_2 o 6) + (1 : Int32));
    some (0, s_3)))
set_option maxRecDepth 100000 in
set_option maxHeartbeats 4000000 in
theorem kX8_addSeen (l : Launch)  {o : Nat} (ho : isStory o) (a1 : Int32) (a2 : Int32) (s : St) : CN l yX8_addSeen cX8_addSeen 3 none 2 FULL (fun ad => [.ref (ad o), .int a1, .int a2]) s (fX8_addSeen o a1 a2 s) := by
  refine cn_of (by decide) (fun _ => (Nat.le_of_ble_eq_true rfl)) (fun X hC hR hl hN => ?_)
  subst hl
  show Zr X (QFN X none) 0 s 0 [(0, .ref (X_ad X o)), (1, .int a1), (2, .int a2)] [] _
  rw [fX8_addSeen]
  refine zr_aload_n (pc := 0) (i := 0) 0 hC dX8_addSeen_0 rfl rfl ?_
  refine zr_getR (pc := 1) (j := 4) (k1 := (o + 4)) hC ho.1.1 ho.1.2 rfl rfl (Nat.le_of_ble_eq_true rfl) iX8 m_220 dX8_addSeen_1 ?_
  refine zr_aload_n (pc := 4) (i := 0) 0 hC dX8_addSeen_4 rfl rfl ?_
  refine zr_getI (pc := 5) (j := 6) hC ho.1.1 ho.1.2 rfl rfl (Nat.le_of_ble_eq_true rfl) iX8 m_224 dX8_addSeen_5 ?_
  refine zr_iload_n (pc := 8) (i := 1) 1 hC dX8_addSeen_8 rfl rfl ?_
  refine zr_callSNv (pc := 9) (As := fun ad => [.ref (ad (o + 4)), .int (s o 6), .int a1]) (st1 := []) hC (Nat.le_of_ble_eq_true rfl) (kX11_put _ (isArr_of ho.2.2.2.1) (s o 6) a1 _) (Nat.le_of_ble_eq_true rfl) mc_yX11_put m_455 m_141 rfl rfl (Nat.le_of_ble_eq_true rfl) dX8_addSeen_9 (fun y_1 s_1 => ?_)
  refine zr_aload_n (pc := 12) (i := 0) 0 hC dX8_addSeen_12 rfl rfl ?_
  refine zr_getR (pc := 13) (j := 5) (k1 := (o + 5)) hC ho.1.1 ho.1.2 rfl rfl (Nat.le_of_ble_eq_true rfl) iX8 m_222 dX8_addSeen_13 ?_
  refine zr_aload_n (pc := 16) (i := 0) 0 hC dX8_addSeen_16 rfl rfl ?_
  refine zr_getI (pc := 17) (j := 6) hC ho.1.1 ho.1.2 rfl rfl (Nat.le_of_ble_eq_true rfl) iX8 m_224 dX8_addSeen_17 ?_
  refine zr_iload_n (pc := 20) (i := 2) 2 hC dX8_addSeen_20 rfl rfl ?_
  refine zr_callSNv (pc := 21) (As := fun ad => [.ref (ad (o + 5)), .int (s_1 o 6), .int a2]) (st1 := []) hC (Nat.le_of_ble_eq_true rfl) (kX11_put _ (isArr_of ho.2.2.2.2.1) (s_1 o 6) a2 _) (Nat.le_of_ble_eq_true rfl) mc_yX11_put m_455 m_141 rfl rfl (Nat.le_of_ble_eq_true rfl) dX8_addSeen_21 (fun y_2 s_2 => ?_)
  refine zr_aload_n (pc := 24) (i := 0) 0 hC dX8_addSeen_24 rfl rfl ?_
  refine zr_dup (pc := 25) hC dX8_addSeen_25 rfl ?_
  refine zr_getI (pc := 26) (j := 6) hC ho.1.1 ho.1.2 rfl rfl (Nat.le_of_ble_eq_true rfl) iX8 m_224 dX8_addSeen_26 ?_
  refine zr_iconst (pc := 29) (v := (1 : Int32)) hC dX8_addSeen_29 ic_1 ?_
  refine zr_iadd (pc := 30) hC dX8_addSeen_30 ?_
  refine zr_putInt (pc := 31) (j := 6) hC ho.1.1 ho.1.2 rfl rfl (Nat.le_of_ble_eq_true rfl) iX8 tyX8_ok nmX8 m_224 rfl (by decide +kernel) dX8_addSeen_31 ?_
  exact zr_vret (pc := 34) hC hR dX8_addSeen_34
def fX11_see (a1 : Int32) (a2 : Int32) (s : St) : Option (RT × St) :=
  bx (fX11_needPart a1 s) (fun y_1 s_1 =>
    if (4 : Int32) ≤ (s_1 32 6) then
    (bd (fX8_refuse 32 (2 : Int32) s_1) (fun y_2 s_2 =>
    some (.inl (-1 : Int32), s_2)))
  else
    (if a2 < 0 then
    (bd (fX8_refuse 32 (2 : Int32) s_1) (fun y_3 s_3 =>
    some (.inl (-1 : Int32), s_3)))
  else
    (if a2 ≤ (9999 : Int32) then
    (bd (fX8_addSeen 32 a1 a2 s_1) (fun y_4 s_4 =>
    some (.inl (s_4 32 6), s_4)))
  else
    (bd (fX8_refuse 32 (2 : Int32) s_1) (fun y_5 s_5 =>
    some (.inl (-1 : Int32), s_5))))))
set_option maxRecDepth 100000 in
set_option maxHeartbeats 4000000 in
theorem kX11_see (l : Launch) (hst : l.stackTraces = false)  (a1 : Int32) (a2 : Int32) (s : St) : CX l yX11_see cX11_see 3 (some .int) 8 1 FULL (fun ad => [.ref (ad 0), .int a1, .int a2]) s (fX11_see a1 a2 s) := by
  refine cx_of hst (by decide) (fun _ => (Nat.le_of_ble_eq_true rfl)) (fun X hC hR hl hN => ?_)
  subst hl
  show Zr X (QFX X (some .int) 1) 0 s 0 [(0, .ref (X_ad X 0)), (1, .int a1), (2, .int a2)] [] _
  rw [fX11_see]
  refine zr_iload_n (pc := 0) (i := 1) 1 hC dX11_see_0 rfl rfl ?_
  refine zx_callS (pc := 1) (As := fun ad => [.int a1]) (st1 := []) hC hR (Nat.le_of_ble_eq_true rfl) (kX11_needPart _ hR.2.2 a1 _) (Nat.le_of_ble_eq_true rfl) mc_yX11_needPart m_1030 m_1031 rfl rfl rfl (Nat.le_of_ble_eq_true rfl) dX11_see_1 (fun y_1 s_1 => ?_)
  show Zr X (QFX X (some .int) 1) 1 s_1 4 _ [] _
  refine zr_aload_n (pc := 4) (i := 0) 0 hC dX11_see_4 rfl rfl ?_
  refine zr_getR (pc := 5) (j := 5) (k1 := 32) hC mem_0 lay_0 rfl rfl (Nat.le_of_ble_eq_true rfl) iX11 m_387 dX11_see_5 ?_
  refine zr_getI (pc := 8) (j := 6) hC mem_32 lay_32 rfl rfl (Nat.le_of_ble_eq_true rfl) iX8 m_226 dX11_see_8 ?_
  refine zr_iconst (pc := 11) (v := (4 : Int32)) hC dX11_see_11 ic_4 ?_
  refine zr_icmp_ge (pc := 12) (tgt := 26) hC dX11_see_12 (by decide) (fun c_ => ?_) (fun c_ => ?_)
  · refine zr_aload_n (pc := 26) (i := 0) 0 hC dX11_see_26 rfl rfl ?_
    refine zr_getR (pc := 27) (j := 5) (k1 := 32) hC mem_0 lay_0 rfl rfl (Nat.le_of_ble_eq_true rfl) iX11 m_387 dX11_see_27 ?_
    refine zr_iconst (pc := 30) (v := (2 : Int32)) hC dX11_see_30 ic_2 ?_
    refine zr_callVv (pc := 31) (As := fun ad => [.int (2 : Int32)]) (st1 := []) hC (Nat.le_of_ble_eq_true rfl) (kX8_refuse _ is_32 (2 : Int32) _) (Nat.le_of_ble_eq_true rfl) mc_yX8_refuse m_448 m_449 m_450 mem_32 lay_32 rfl rfl rfl rfl (Nat.le_of_ble_eq_true rfl) dX11_see_31 (fun y_2 s_2 => ?_)
    refine zr_iconst (pc := 34) (v := (-1 : Int32)) hC dX11_see_34 ic_m1 ?_
    exact zx_iret (pc := 35) hC (Nat.le_of_ble_eq_true rfl) hR dX11_see_35
  · refine zr_iload_n (pc := 15) (i := 2) 2 hC dX11_see_15 rfl rfl ?_
    refine zr_if_lt (pc := 16) (tgt := 26) hC dX11_see_16 (by decide) (fun c_ => ?_) (fun c_ => ?_)
    · refine zr_aload_n (pc := 26) (i := 0) 0 hC dX11_see_26 rfl rfl ?_
      refine zr_getR (pc := 27) (j := 5) (k1 := 32) hC mem_0 lay_0 rfl rfl (Nat.le_of_ble_eq_true rfl) iX11 m_387 dX11_see_27 ?_
      refine zr_iconst (pc := 30) (v := (2 : Int32)) hC dX11_see_30 ic_2 ?_
      refine zr_callVv (pc := 31) (As := fun ad => [.int (2 : Int32)]) (st1 := []) hC (Nat.le_of_ble_eq_true rfl) (kX8_refuse _ is_32 (2 : Int32) _) (Nat.le_of_ble_eq_true rfl) mc_yX8_refuse m_448 m_449 m_450 mem_32 lay_32 rfl rfl rfl rfl (Nat.le_of_ble_eq_true rfl) dX11_see_31 (fun y_3 s_3 => ?_)
      refine zr_iconst (pc := 34) (v := (-1 : Int32)) hC dX11_see_34 ic_m1 ?_
      exact zx_iret (pc := 35) hC (Nat.le_of_ble_eq_true rfl) hR dX11_see_35
    · refine zr_iload_n (pc := 19) (i := 2) 2 hC dX11_see_19 rfl rfl ?_
      refine zr_sipush (pc := 20) (v := (9999 : Int32)) hC dX11_see_20 si_9999 ?_
      refine zr_icmp_le (pc := 23) (tgt := 36) hC dX11_see_23 (by decide) (fun c_ => ?_) (fun c_ => ?_)
      · refine zr_aload_n (pc := 36) (i := 0) 0 hC dX11_see_36 rfl rfl ?_
        refine zr_getR (pc := 37) (j := 5) (k1 := 32) hC mem_0 lay_0 rfl rfl (Nat.le_of_ble_eq_true rfl) iX11 m_387 dX11_see_37 ?_
        refine zr_iload_n (pc := 40) (i := 1) 1 hC dX11_see_40 rfl rfl ?_
        refine zr_iload_n (pc := 41) (i := 2) 2 hC dX11_see_41 rfl rfl ?_
        refine zr_callVv (pc := 42) (As := fun ad => [.int a1, .int a2]) (st1 := []) hC (Nat.le_of_ble_eq_true rfl) (kX8_addSeen _ is_32 a1 a2 _) (Nat.le_of_ble_eq_true rfl) mc_yX8_addSeen m_1304 m_1305 m_1306 mem_32 lay_32 rfl rfl rfl rfl (Nat.le_of_ble_eq_true rfl) dX11_see_42 (fun y_4 s_4 => ?_)
        refine zr_aload_n (pc := 45) (i := 0) 0 hC dX11_see_45 rfl rfl ?_
        refine zr_getR (pc := 46) (j := 5) (k1 := 32) hC mem_0 lay_0 rfl rfl (Nat.le_of_ble_eq_true rfl) iX11 m_387 dX11_see_46 ?_
        refine zr_getI (pc := 49) (j := 6) hC mem_32 lay_32 rfl rfl (Nat.le_of_ble_eq_true rfl) iX8 m_226 dX11_see_49 ?_
        exact zx_iret (pc := 52) hC (Nat.le_of_ble_eq_true rfl) hR dX11_see_52
      · refine zr_aload_n (pc := 26) (i := 0) 0 hC dX11_see_26 rfl rfl ?_
        refine zr_getR (pc := 27) (j := 5) (k1 := 32) hC mem_0 lay_0 rfl rfl (Nat.le_of_ble_eq_true rfl) iX11 m_387 dX11_see_27 ?_
        refine zr_iconst (pc := 30) (v := (2 : Int32)) hC dX11_see_30 ic_2 ?_
        refine zr_callVv (pc := 31) (As := fun ad => [.int (2 : Int32)]) (st1 := []) hC (Nat.le_of_ble_eq_true rfl) (kX8_refuse _ is_32 (2 : Int32) _) (Nat.le_of_ble_eq_true rfl) mc_yX8_refuse m_448 m_449 m_450 mem_32 lay_32 rfl rfl rfl rfl (Nat.le_of_ble_eq_true rfl) dX11_see_31 (fun y_5 s_5 => ?_)
        refine zr_iconst (pc := 34) (v := (-1 : Int32)) hC dX11_see_34 ic_m1 ?_
        exact zx_iret (pc := 35) hC (Nat.le_of_ble_eq_true rfl) hR dX11_see_35
def fX3_countSet_L2 (k28 : St → Option (Int32 × St)) (o : Nat) (c2 : Int32) : Nat → Int32 → St → Option (Int32 × St)
  | 0, _, _ => none
  | n + 1, v3, s =>
    if (s o 6) ≤ v3 then
    (k28 s)
  else
    (bd (fX11_at 66 v3 s) (fun y_1 s_1 =>
    if y_1 = 0 then
    (fX3_countSet_L2 k28 o c2 n (v3 + (1 : Int32)) s_1)
  else
    (some (0, s_1))))
set_option maxRecDepth 100000 in
set_option maxHeartbeats 4000000 in
theorem tX3_countSet_L2 (o : Nat) (c2 : Int32) (k28 : St → Option (Int32 × St)) (X : KX) (hC : Ctx X RX3 cX3_countSet FULL 2 0) (hR : RC X none) (hN : X_nL X = 4) (ho : isStory o) (hk28 : ∀ (s : St), Zr X (QFN X none) 0 s 28 [(0, .ref (X_ad X 65)), (2, .int c2)] [] (k28 s)) : ∀ (n : Nat) (v3 : Int32) (s : St), Zr X (QFN X none) 0 s 2 [(0, .ref (X_ad X 65)), (1, .ref (X_ad X o)), (2, .int c2), (3, .int v3)] [] (fX3_countSet_L2 k28 o c2 n v3 s) := by
  intro n
  induction n with
  | zero =>
    intro v3 s
    exact zr_none
  | succ n ih =>
    intro v3 s
    rw [fX3_countSet_L2]
    refine zr_iload_n (pc := 2) (i := 3) 3 hC dX3_countSet_2 rfl rfl ?_
    refine zr_aload_n (pc := 3) (i := 1) 1 hC dX3_countSet_3 rfl rfl ?_
    refine zr_getI (pc := 4) (j := 6) hC ho.1.1 ho.1.2 rfl rfl (Nat.le_of_ble_eq_true rfl) iX8 m_225 dX3_countSet_4 ?_
    refine zr_icmp_ge (pc := 7) (tgt := 28) hC dX3_countSet_7 (by decide) (fun c_ => ?_) (fun c_ => ?_)
    · refine zr_sub (ls' := [(0, _), (2, _)]) [0, 2] rfl ?_
      exact hk28 s
    · refine zr_aload_n (pc := 10) (i := 0) 0 hC dX3_countSet_10 rfl rfl ?_
      refine zr_getR (pc := 11) (j := 0) (k1 := 66) hC mem_65 lay_65 rfl rfl (Nat.le_of_ble_eq_true rfl) iX3 m_363 dX3_countSet_11 ?_
      refine zr_iload_n (pc := 14) (i := 3) 3 hC dX3_countSet_14 rfl rfl ?_
      refine zr_callSN (pc := 15) (As := fun ad => [.ref (ad 66), .int v3]) (st1 := []) hC (Nat.le_of_ble_eq_true rfl) (kX11_at _ ar_66 v3 _) (Nat.le_of_ble_eq_true rfl) mc_yX11_at m_1329 m_453 rfl rfl (Nat.le_of_ble_eq_true rfl) dX3_countSet_15 (fun y_1 s_1 => ?_)
      refine zr_if_eq (pc := 18) (tgt := 22) hC dX3_countSet_18 (by decide) (fun c_ => ?_) (fun c_ => ?_)
      · refine zr_iinc (pc := 22) (q := 3) (ls' := [(3, _), (0, _), (1, _), (2, _)]) hC dX3_countSet_22 rfl (inc_1 _) (nlt hN (Nat.le_of_ble_eq_true rfl)) rfl ?_
        refine zr_goto (pc := 25) (tgt := 2) hC dX3_countSet_25 (by decide) ?_
        refine zr_sub (ls' := [(0, _), (1, _), (2, _), (3, _)]) [1, 2, 3, 0] rfl ?_
        exact ih (v3 + (1 : Int32)) s_1
      · exact zr_vret (pc := 21) hC hR dX3_countSet_21
def fX3_countSet_L69 (o : Nat) (c2 : Int32) : Nat → Int32 → St → Option (Int32 × St)
  | 0, _, _ => none
  | n + 1, v3, s =>
    if (12 : Int32) ≤ v3 then
    (some (0, s))
  else
    (bd (fX11_at 67 v3 s) (fun y_6 s_6 =>
    bd (fX11_put 67 v3 (y_6 + ((jshr c2 v3) &&& (1 : Int32))) s_6) (fun y_7 s_7 =>
    fX3_countSet_L69 o c2 n (v3 + (1 : Int32)) s_7)))
set_option maxRecDepth 100000 in
set_option maxHeartbeats 4000000 in
theorem tX3_countSet_L69 (o : Nat) (c2 : Int32) (X : KX) (hC : Ctx X RX3 cX3_countSet FULL 2 0) (hR : RC X none) (hN : X_nL X = 4) (ho : isStory o) : ∀ (n : Nat) (v3 : Int32) (s : St), Zr X (QFN X none) 0 s 69 [(0, .ref (X_ad X 65)), (2, .int c2), (3, .int v3)] [] (fX3_countSet_L69 o c2 n v3 s) := by
  intro n
  induction n with
  | zero =>
    intro v3 s
    exact zr_none
  | succ n ih =>
    intro v3 s
    rw [fX3_countSet_L69]
    refine zr_iload_n (pc := 69) (i := 3) 2 hC dX3_countSet_69 rfl rfl ?_
    refine zr_bipush (pc := 70) (v := (12 : Int32)) hC dX3_countSet_70 bi_12 ?_
    refine zr_icmp_ge (pc := 72) (tgt := 103) hC dX3_countSet_72 (by decide) (fun c_ => ?_) (fun c_ => ?_)
    · exact zr_vret (pc := 103) hC hR dX3_countSet_103
    · refine zr_aload_n (pc := 75) (i := 0) 0 hC dX3_countSet_75 rfl rfl ?_
      refine zr_getR (pc := 76) (j := 1) (k1 := 67) hC mem_65 lay_65 rfl rfl (Nat.le_of_ble_eq_true rfl) iX3 m_364 dX3_countSet_76 ?_
      refine zr_iload_n (pc := 79) (i := 3) 2 hC dX3_countSet_79 rfl rfl ?_
      refine zr_aload_n (pc := 80) (i := 0) 0 hC dX3_countSet_80 rfl rfl ?_
      refine zr_getR (pc := 81) (j := 1) (k1 := 67) hC mem_65 lay_65 rfl rfl (Nat.le_of_ble_eq_true rfl) iX3 m_364 dX3_countSet_81 ?_
      refine zr_iload_n (pc := 84) (i := 3) 2 hC dX3_countSet_84 rfl rfl ?_
      refine zr_callSN (pc := 85) (As := fun ad => [.ref (ad 67), .int v3]) (st1 := [.int v3, .ref (X_ad X 67)]) hC (Nat.le_of_ble_eq_true rfl) (kX11_at _ ar_67 v3 _) (Nat.le_of_ble_eq_true rfl) mc_yX11_at m_1329 m_453 rfl rfl (Nat.le_of_ble_eq_true rfl) dX3_countSet_85 (fun y_6 s_6 => ?_)
      refine zr_iload_n (pc := 88) (i := 2) 1 hC dX3_countSet_88 rfl rfl ?_
      refine zr_iload_n (pc := 89) (i := 3) 2 hC dX3_countSet_89 rfl rfl ?_
      refine zr_ishr (pc := 90) hC dX3_countSet_90 ?_
      refine zr_iconst (pc := 91) (v := (1 : Int32)) hC dX3_countSet_91 ic_1 ?_
      refine zr_iand (pc := 92) hC dX3_countSet_92 ?_
      refine zr_iadd (pc := 93) hC dX3_countSet_93 ?_
      refine zr_callSNv (pc := 94) (As := fun ad => [.ref (ad 67), .int v3, .int (y_6 + ((jshr c2 v3) &&& (1 : Int32)))]) (st1 := []) hC (Nat.le_of_ble_eq_true rfl) (kX11_put _ ar_67 v3 (y_6 + ((jshr c2 v3) &&& (1 : Int32))) _) (Nat.le_of_ble_eq_true rfl) mc_yX11_put m_1330 m_141 rfl rfl (Nat.le_of_ble_eq_true rfl) dX3_countSet_94 (fun y_7 s_7 => ?_)
      refine zr_iinc (pc := 97) (q := 2) (ls' := [(3, _), (0, _), (2, _)]) hC dX3_countSet_97 rfl (inc_1 _) (nlt hN (Nat.le_of_ble_eq_true rfl)) rfl ?_
      refine zr_goto (pc := 100) (tgt := 69) hC dX3_countSet_100 (by decide) ?_
      refine zr_sub (ls' := [(0, _), (2, _), (3, _)]) [1, 2, 0] rfl ?_
      exact ih (v3 + (1 : Int32)) s_7
def fX3_countSet_J44 (o : Nat) (v2 : Int32) (q0 : Int32) (s : St) : Option (Int32 × St) :=
  let s_3 := wr s 65 3 q0;
    let s_4 := wr s_3 65 2 ((s_3 65 2) + (1 : Int32));
    let s_5 := wr s_4 65 4 ((s_4 65 4) &&& v2);
    fX3_countSet_L69 o v2 FU (0 : Int32) s_5
set_option maxRecDepth 100000 in
set_option maxHeartbeats 4000000 in
theorem tX3_countSet_J44 (o : Nat) (v2 : Int32) (q0 : Int32) (X : KX) (hC : Ctx X RX3 cX3_countSet FULL 2 0) (hR : RC X none) (hN : X_nL X = 4) (ho : isStory o) (s : St) : Zr X (QFN X none) 0 s 44 [(0, .ref (X_ad X 65)), (2, .int v2)] [.int q0, .ref (X_ad X 65)] (fX3_countSet_J44 o v2 q0 s) := by
  rw [fX3_countSet_J44]
  refine zr_putInt (pc := 44) (j := 3) hC mem_65 lay_65 rfl rfl (Nat.le_of_ble_eq_true rfl) iX3 tyX3_ok nmX3 m_367 rfl (by decide +kernel) dX3_countSet_44 ?_
  refine zr_aload_n (pc := 47) (i := 0) 0 hC dX3_countSet_47 rfl rfl ?_
  refine zr_dup (pc := 48) hC dX3_countSet_48 rfl ?_
  refine zr_getI (pc := 49) (j := 2) hC mem_65 lay_65 rfl rfl (Nat.le_of_ble_eq_true rfl) iX3 m_365 dX3_countSet_49 ?_
  refine zr_iconst (pc := 52) (v := (1 : Int32)) hC dX3_countSet_52 ic_1 ?_
  refine zr_iadd (pc := 53) hC dX3_countSet_53 ?_
  refine zr_putInt (pc := 54) (j := 2) hC mem_65 lay_65 rfl rfl (Nat.le_of_ble_eq_true rfl) iX3 tyX3_ok nmX3 m_365 rfl (by decide +kernel) dX3_countSet_54 ?_
  refine zr_aload_n (pc := 57) (i := 0) 0 hC dX3_countSet_57 rfl rfl ?_
  refine zr_dup (pc := 58) hC dX3_countSet_58 rfl ?_
  refine zr_getI (pc := 59) (j := 4) hC mem_65 lay_65 rfl rfl (Nat.le_of_ble_eq_true rfl) iX3 m_369 dX3_countSet_59 ?_
  refine zr_iload_n (pc := 62) (i := 2) 1 hC dX3_countSet_62 rfl rfl ?_
  refine zr_iand (pc := 63) hC dX3_countSet_63 ?_
  refine zr_putInt (pc := 64) (j := 4) hC mem_65 lay_65 rfl rfl (Nat.le_of_ble_eq_true rfl) iX3 tyX3_ok nmX3 m_369 rfl (by decide +kernel) dX3_countSet_64 ?_
  refine zr_iconst (pc := 67) (v := (0 : Int32)) hC dX3_countSet_67 ic_0 ?_
  refine zr_istore_n (pc := 68) (i := 3) (ls' := [(3, _), (0, _), (2, _)]) hC dX3_countSet_68 rfl (nlt hN (Nat.le_of_ble_eq_true rfl)) rfl ?_
  refine zr_sub (ls' := [(0, _), (2, _), (3, _)]) [1, 2, 0] rfl ?_
  exact tX3_countSet_L69 o v2 X hC hR hN ho FU (0 : Int32) _
def fX3_countSet (o : Nat) (a2 : Int32) (s : St) : Option (Int32 × St) :=
  fX3_countSet_L2 (fun s_2 => if (s_2 65 2) = 0 then
    (fX3_countSet_J44 o a2 a2 s_2)
  else
    (fX3_countSet_J44 o a2 (s_2 65 3) s_2)) o a2 FU (0 : Int32) s
set_option maxRecDepth 100000 in
set_option maxHeartbeats 4000000 in
theorem kX3_countSet (l : Launch)  {o : Nat} (ho : isStory o) (a2 : Int32) (s : St) : CN l yX3_countSet cX3_countSet 4 none 2 FULL (fun ad => [.ref (ad 65), .ref (ad o), .int a2]) s (fX3_countSet o a2 s) := by
  refine cn_of (by decide) (fun _ => (Nat.le_of_ble_eq_true rfl)) (fun X hC hR hl hN => ?_)
  subst hl
  show Zr X (QFN X none) 0 s 0 [(0, .ref (X_ad X 65)), (1, .ref (X_ad X o)), (2, .int a2)] [] _
  rw [fX3_countSet]
  refine zr_iconst (pc := 0) (v := (0 : Int32)) hC dX3_countSet_0 ic_0 ?_
  refine zr_istore_n (pc := 1) (i := 3) (ls' := [(3, _), (0, _), (1, _), (2, _)]) hC dX3_countSet_1 rfl (nlt hN (Nat.le_of_ble_eq_true rfl)) rfl ?_
  refine zr_sub (ls' := [(0, _), (1, _), (2, _), (3, _)]) [1, 2, 3, 0] rfl ?_
  refine tX3_countSet_L2 o a2 _ X hC hR hN ho (fun s_2 => ?_) FU (0 : Int32) _
  · refine zr_aload_n (pc := 28) (i := 0) 0 hC dX3_countSet_28 rfl rfl ?_
    refine zr_aload_n (pc := 29) (i := 0) 0 hC dX3_countSet_29 rfl rfl ?_
    refine zr_getI (pc := 30) (j := 2) hC mem_65 lay_65 rfl rfl (Nat.le_of_ble_eq_true rfl) iX3 m_365 dX3_countSet_30 ?_
    refine zr_if_ne (pc := 33) (tgt := 40) hC dX3_countSet_33 (by decide) (fun c_ => ?_) (fun c_ => ?_)
    · refine zr_iload_n (pc := 36) (i := 2) 1 hC dX3_countSet_36 rfl rfl ?_
      refine zr_goto (pc := 37) (tgt := 44) hC dX3_countSet_37 (by decide) ?_
      exact tX3_countSet_J44 o a2 a2 X hC hR hN ho  _
    · refine zr_aload_n (pc := 40) (i := 0) 0 hC dX3_countSet_40 rfl rfl ?_
      refine zr_getI (pc := 41) (j := 3) hC mem_65 lay_65 rfl rfl (Nat.le_of_ble_eq_true rfl) iX3 m_367 dX3_countSet_41 ?_
      exact tX3_countSet_J44 o a2 (s_2 65 3) X hC hR hN ho  _
def fX3_take_L6 (o : Nat) (c2 : Int32) (c3 : Int32) : Nat → Int32 → Int32 → St → Option (Int32 × St)
  | 0, _, _, _ => none
  | n + 1, v4, v5, s =>
    if (s o 6) ≤ v5 then
    (if v4 = 0 ∨ v4 = 1 then some (v4, s) else none)
  else
    (bd (fX11_at 66 v5 s) (fun y_1 s_1 =>
    bd (fX11_at (o + 4) v5 s_1) (fun y_2 s_2 =>
    bd (fX10_part (o + 1) c2 y_2 s_2) (fun y_3 s_3 =>
    bd (fX11_put 66 v5 (y_1 - (c3 * y_3)) s_3) (fun y_4 s_4 =>
    if v4 = 0 then
    (fX3_take_L6 o c2 c3 n (0 : Int32) (v5 + (1 : Int32)) s_4)
  else
    (if (y_1 - (c3 * y_3)) < 0 then
    (fX3_take_L6 o c2 c3 n (0 : Int32) (v5 + (1 : Int32)) s_4)
  else
    (fX3_take_L6 o c2 c3 n (1 : Int32) (v5 + (1 : Int32)) s_4)))))))
set_option maxRecDepth 100000 in
set_option maxHeartbeats 4000000 in
theorem tX3_take_L6 (o : Nat) (c2 : Int32) (c3 : Int32) (X : KX) (hC : Ctx X RX3 cX3_take FULL 3 0) (hR : RC X (some .boolean)) (hN : X_nL X = 7) (ho : isStory o) : ∀ (n : Nat) (v4 : Int32) (v5 : Int32) (s : St), Zr X (QFN X (some .boolean)) 0 s 6 [(0, .ref (X_ad X 65)), (1, .ref (X_ad X o)), (2, .int c2), (3, .int c3), (4, .int v4), (5, .int v5)] [] (fX3_take_L6 o c2 c3 n v4 v5 s) := by
  intro n
  induction n with
  | zero =>
    intro v4 v5 s
    exact zr_none
  | succ n ih =>
    intro v4 v5 s
    rw [fX3_take_L6]
    refine zr_iload (pc := 6) 5 hC dX3_take_6 rfl ?_
    refine zr_aload_n (pc := 8) (i := 1) 1 hC dX3_take_8 rfl rfl ?_
    refine zr_getI (pc := 9) (j := 6) hC ho.1.1 ho.1.2 rfl rfl (Nat.le_of_ble_eq_true rfl) iX8 m_225 dX3_take_9 ?_
    refine zr_icmp_ge (pc := 12) (tgt := 80) hC dX3_take_12 (by decide) (fun c_ => ?_) (fun c_ => ?_)
    · refine zr_iload (pc := 80) 4 hC dX3_take_80 rfl ?_
      exact zr_zretG (pc := 82) hC hR dX3_take_82
    · refine zr_aload_n (pc := 15) (i := 0) 0 hC dX3_take_15 rfl rfl ?_
      refine zr_getR (pc := 16) (j := 0) (k1 := 66) hC mem_65 lay_65 rfl rfl (Nat.le_of_ble_eq_true rfl) iX3 m_363 dX3_take_16 ?_
      refine zr_iload (pc := 19) 5 hC dX3_take_19 rfl ?_
      refine zr_callSN (pc := 21) (As := fun ad => [.ref (ad 66), .int v5]) (st1 := []) hC (Nat.le_of_ble_eq_true rfl) (kX11_at _ ar_66 v5 _) (Nat.le_of_ble_eq_true rfl) mc_yX11_at m_1329 m_453 rfl rfl (Nat.le_of_ble_eq_true rfl) dX3_take_21 (fun y_1 s_1 => ?_)
      refine zr_iload_n (pc := 24) (i := 3) 3 hC dX3_take_24 rfl rfl ?_
      refine zr_aload_n (pc := 25) (i := 1) 1 hC dX3_take_25 rfl rfl ?_
      refine zr_getR (pc := 26) (j := 0) (k1 := (o + 1)) hC ho.1.1 ho.1.2 rfl rfl (Nat.le_of_ble_eq_true rfl) iX8 m_214 dX3_take_26 ?_
      refine zr_iload_n (pc := 29) (i := 2) 2 hC dX3_take_29 rfl rfl ?_
      refine zr_aload_n (pc := 30) (i := 1) 1 hC dX3_take_30 rfl rfl ?_
      refine zr_getR (pc := 31) (j := 4) (k1 := (o + 4)) hC ho.1.1 ho.1.2 rfl rfl (Nat.le_of_ble_eq_true rfl) iX8 m_221 dX3_take_31 ?_
      refine zr_iload (pc := 34) 5 hC dX3_take_34 rfl ?_
      refine zr_callSN (pc := 36) (As := fun ad => [.ref (ad (o + 4)), .int v5]) (st1 := [.int c2, .ref (X_ad X (o + 1)), .int c3, .int y_1]) hC (Nat.le_of_ble_eq_true rfl) (kX11_at _ (isArr_of ho.2.2.2.1) v5 _) (Nat.le_of_ble_eq_true rfl) mc_yX11_at m_1329 m_453 rfl rfl (Nat.le_of_ble_eq_true rfl) dX3_take_36 (fun y_2 s_2 => ?_)
      refine zr_callV (pc := 39) (As := fun ad => [.int c2, .int y_2]) (st1 := [.int c3, .int y_1]) hC (Nat.le_of_ble_eq_true rfl) (kX10_part _ ho.2.1 c2 y_2 _) (Nat.le_of_ble_eq_true rfl) mc_yX10_part m_1336 m_492 m_493 ho.2.1.1.1 ho.2.1.1.2 rfl rfl rfl rfl (Nat.le_of_ble_eq_true rfl) dX3_take_39 (fun y_3 s_3 => ?_)
      refine zr_imul (pc := 42) hC dX3_take_42 ?_
      refine zr_isub (pc := 43) hC dX3_take_43 ?_
      refine zr_istore (pc := 44) (ls' := [(6, _), (0, _), (1, _), (2, _), (3, _), (4, _), (5, _)]) hC dX3_take_44 (nlt hN (Nat.le_of_ble_eq_true rfl)) rfl ?_
      refine zr_aload_n (pc := 46) (i := 0) 1 hC dX3_take_46 rfl rfl ?_
      refine zr_getR (pc := 47) (j := 0) (k1 := 66) hC mem_65 lay_65 rfl rfl (Nat.le_of_ble_eq_true rfl) iX3 m_363 dX3_take_47 ?_
      refine zr_iload (pc := 50) 6 hC dX3_take_50 rfl ?_
      refine zr_iload (pc := 52) 0 hC dX3_take_52 rfl ?_
      refine zr_callSNv (pc := 54) (As := fun ad => [.ref (ad 66), .int v5, .int (y_1 - (c3 * y_3))]) (st1 := []) hC (Nat.le_of_ble_eq_true rfl) (kX11_put _ ar_66 v5 (y_1 - (c3 * y_3)) _) (Nat.le_of_ble_eq_true rfl) mc_yX11_put m_1330 m_141 rfl rfl (Nat.le_of_ble_eq_true rfl) dX3_take_54 (fun y_4 s_4 => ?_)
      refine zr_iload (pc := 57) 5 hC dX3_take_57 rfl ?_
      refine zr_if_eq (pc := 59) (tgt := 71) hC dX3_take_59 (by decide) (fun c_ => ?_) (fun c_ => ?_)
      · refine zr_iconst (pc := 71) (v := (0 : Int32)) hC dX3_take_71 ic_0 ?_
        refine zr_istore (pc := 72) (ls' := [(4, _), (6, _), (0, _), (1, _), (2, _), (3, _), (5, _)]) hC dX3_take_72 (nlt hN (Nat.le_of_ble_eq_true rfl)) rfl ?_
        refine zr_iinc (pc := 74) (q := 6) (ls' := [(5, _), (4, _), (6, _), (0, _), (1, _), (2, _), (3, _)]) hC dX3_take_74 rfl (inc_1 _) (nlt hN (Nat.le_of_ble_eq_true rfl)) rfl ?_
        refine zr_goto (pc := 77) (tgt := 6) hC dX3_take_77 (by decide) ?_
        refine zr_sub (ls' := [(0, _), (1, _), (2, _), (3, _), (4, _), (5, _)]) [3, 4, 5, 6, 1, 0] rfl ?_
        exact ih (0 : Int32) (v5 + (1 : Int32)) s_4
      · refine zr_iload (pc := 62) 0 hC dX3_take_62 rfl ?_
        refine zr_if_lt (pc := 64) (tgt := 71) hC dX3_take_64 (by decide) (fun c_ => ?_) (fun c_ => ?_)
        · refine zr_iconst (pc := 71) (v := (0 : Int32)) hC dX3_take_71 ic_0 ?_
          refine zr_istore (pc := 72) (ls' := [(4, _), (6, _), (0, _), (1, _), (2, _), (3, _), (5, _)]) hC dX3_take_72 (nlt hN (Nat.le_of_ble_eq_true rfl)) rfl ?_
          refine zr_iinc (pc := 74) (q := 6) (ls' := [(5, _), (4, _), (6, _), (0, _), (1, _), (2, _), (3, _)]) hC dX3_take_74 rfl (inc_1 _) (nlt hN (Nat.le_of_ble_eq_true rfl)) rfl ?_
          refine zr_goto (pc := 77) (tgt := 6) hC dX3_take_77 (by decide) ?_
          refine zr_sub (ls' := [(0, _), (1, _), (2, _), (3, _), (4, _), (5, _)]) [3, 4, 5, 6, 1, 0] rfl ?_
          exact ih (0 : Int32) (v5 + (1 : Int32)) s_4
        · refine zr_iconst (pc := 67) (v := (1 : Int32)) hC dX3_take_67 ic_1 ?_
          refine zr_goto (pc := 68) (tgt := 72) hC dX3_take_68 (by decide) ?_
          refine zr_istore (pc := 72) (ls' := [(4, _), (6, _), (0, _), (1, _), (2, _), (3, _), (5, _)]) hC dX3_take_72 (nlt hN (Nat.le_of_ble_eq_true rfl)) rfl ?_
          refine zr_iinc (pc := 74) (q := 6) (ls' := [(5, _), (4, _), (6, _), (0, _), (1, _), (2, _), (3, _)]) hC dX3_take_74 rfl (inc_1 _) (nlt hN (Nat.le_of_ble_eq_true rfl)) rfl ?_
          refine zr_goto (pc := 77) (tgt := 6) hC dX3_take_77 (by decide) ?_
          refine zr_sub (ls' := [(0, _), (1, _), (2, _), (3, _), (4, _), (5, _)]) [3, 4, 5, 6, 1, 0] rfl ?_
          exact ih (1 : Int32) (v5 + (1 : Int32)) s_4
def fX3_take (o : Nat) (a2 : Int32) (a3 : Int32) (s : St) : Option (Int32 × St) :=
  fX3_take_L6 o a2 a3 FU (1 : Int32) (0 : Int32) s
set_option maxRecDepth 100000 in
set_option maxHeartbeats 4000000 in
theorem kX3_take (l : Launch)  {o : Nat} (ho : isStory o) (a2 : Int32) (a3 : Int32) (s : St) : CN l yX3_take cX3_take 7 (some .boolean) 3 FULL (fun ad => [.ref (ad 65), .ref (ad o), .int a2, .int a3]) s (fX3_take o a2 a3 s) := by
  refine cn_of (by decide) (fun _ => (Nat.le_of_ble_eq_true rfl)) (fun X hC hR hl hN => ?_)
  subst hl
  show Zr X (QFN X (some .boolean)) 0 s 0 [(0, .ref (X_ad X 65)), (1, .ref (X_ad X o)), (2, .int a2), (3, .int a3)] [] _
  rw [fX3_take]
  refine zr_iconst (pc := 0) (v := (1 : Int32)) hC dX3_take_0 ic_1 ?_
  refine zr_istore (pc := 1) (ls' := [(4, _), (0, _), (1, _), (2, _), (3, _)]) hC dX3_take_1 (nlt hN (Nat.le_of_ble_eq_true rfl)) rfl ?_
  refine zr_iconst (pc := 3) (v := (0 : Int32)) hC dX3_take_3 ic_0 ?_
  refine zr_istore (pc := 4) (ls' := [(5, _), (4, _), (0, _), (1, _), (2, _), (3, _)]) hC dX3_take_4 (nlt hN (Nat.le_of_ble_eq_true rfl)) rfl ?_
  refine zr_sub (ls' := [(0, _), (1, _), (2, _), (3, _), (4, _), (5, _)]) [2, 3, 4, 5, 1, 0] rfl ?_
  exact tX3_take_L6 o a2 a3 X hC hR hN ho FU (1 : Int32) (0 : Int32) _
def gX3_descend (rc : Int32 → Int32 → St → Option (Int32 × St)) (o : Nat) (a2 : Int32) (a3 : Int32) (s : St) : Option (Int32 × St) :=
  if 0 ≤ a2 then
    (bd (rc (a2 - (1 : Int32)) a3 s) (fun y_1 s_1 =>
    bd (fX10_alive (o + 1) a2 s_1) (fun y_2 s_2 =>
    if y_2 = 0 then
    (some (0, s_2))
  else
    (bd (fX3_take o a2 (1 : Int32) s_2) (fun y_3 s_3 =>
    if y_3 = 0 then
    (bd (fX3_take o a2 (-1 : Int32) s_3) (fun y_4 s_4 =>
    some (0, s_4)))
  else
    (bd (rc (a2 - (1 : Int32)) (a3 ||| (jshl (1 : Int32) a2)) s_3) (fun y_5 s_5 =>
    bd (fX3_take o a2 (-1 : Int32) s_5) (fun y_6 s_6 =>
    some (0, s_6)))))))))
  else
    (bd (fX3_countSet o a3 s) (fun y_7 s_7 =>
    some (0, s_7)))
set_option maxRecDepth 100000 in
set_option maxHeartbeats 4000000 in
theorem gkX3_descend (l : Launch) (rc : Int32 → Int32 → St → Option (Int32 × St)) (dd : Nat) (hdd : 3 ≤ dd)  {o : Nat} (hrc : ∀ (z0 z1 : Int32) (s : St), CN l yX3_descend cX3_descend 4 none dd FULL (fun ad => [.ref (ad 65), .ref (ad o), .int z0, .int z1]) s (rc z0 z1 s)) (ho : isStory o) (a2 : Int32) (a3 : Int32) (s : St) : CN l yX3_descend cX3_descend 4 none (dd + 1) FULL (fun ad => [.ref (ad 65), .ref (ad o), .int a2, .int a3]) s (gX3_descend rc o a2 a3 s) := by
  refine cn_of (by decide) (fun _ => (Nat.le_of_ble_eq_true rfl)) (fun X hC hR hl hN => ?_)
  subst hl
  show Zr X (QFN X none) 0 s 0 [(0, .ref (X_ad X 65)), (1, .ref (X_ad X o)), (2, .int a2), (3, .int a3)] [] _
  rw [gX3_descend]
  refine zr_iload_n (pc := 0) (i := 2) 2 hC dX3_descend_0 rfl rfl ?_
  refine zr_if_ge (pc := 1) (tgt := 11) hC dX3_descend_1 (by decide) (fun c_ => ?_) (fun c_ => ?_)
  · refine zr_aload_n (pc := 11) (i := 0) 0 hC dX3_descend_11 rfl rfl ?_
    refine zr_aload_n (pc := 12) (i := 1) 1 hC dX3_descend_12 rfl rfl ?_
    refine zr_iload_n (pc := 13) (i := 2) 2 hC dX3_descend_13 rfl rfl ?_
    refine zr_iconst (pc := 14) (v := (1 : Int32)) hC dX3_descend_14 ic_1 ?_
    refine zr_isub (pc := 15) hC dX3_descend_15 ?_
    refine zr_iload_n (pc := 16) (i := 3) 3 hC dX3_descend_16 rfl rfl ?_
    refine zr_callVv (pc := 17) (As := fun ad => [.ref (ad o), .int (a2 - (1 : Int32)), .int a3]) (st1 := []) hC (Nat.le_of_ble_eq_true rfl) (hrc (a2 - (1 : Int32)) a3 _) (by omega) mc_yX3_descend m_1321 m_1323 m_p46 mem_65 lay_65 rfl rfl rfl rfl (Nat.le_of_ble_eq_true rfl) dX3_descend_17 (fun y_1 s_1 => ?_)
    refine zr_aload_n (pc := 20) (i := 1) 1 hC dX3_descend_20 rfl rfl ?_
    refine zr_getR (pc := 21) (j := 0) (k1 := (o + 1)) hC ho.1.1 ho.1.2 rfl rfl (Nat.le_of_ble_eq_true rfl) iX8 m_214 dX3_descend_21 ?_
    refine zr_iload_n (pc := 24) (i := 2) 2 hC dX3_descend_24 rfl rfl ?_
    refine zr_callV (pc := 25) (As := fun ad => [.int a2]) (st1 := []) hC (Nat.le_of_ble_eq_true rfl) (kX10_alive _ ho.2.1 a2 _) (by omega) mc_yX10_alive m_1331 m_524 m_525 ho.2.1.1.1 ho.2.1.1.2 rfl rfl rfl rfl (Nat.le_of_ble_eq_true rfl) dX3_descend_25 (fun y_2 s_2 => ?_)
    refine zr_if_eq (pc := 28) (tgt := 62) hC dX3_descend_28 (by decide) (fun c_ => ?_) (fun c_ => ?_)
    · exact zr_vret (pc := 62) hC hR dX3_descend_62
    · refine zr_aload_n (pc := 31) (i := 0) 0 hC dX3_descend_31 rfl rfl ?_
      refine zr_aload_n (pc := 32) (i := 1) 1 hC dX3_descend_32 rfl rfl ?_
      refine zr_iload_n (pc := 33) (i := 2) 2 hC dX3_descend_33 rfl rfl ?_
      refine zr_iconst (pc := 34) (v := (1 : Int32)) hC dX3_descend_34 ic_1 ?_
      refine zr_callV (pc := 35) (As := fun ad => [.ref (ad o), .int a2, .int (1 : Int32)]) (st1 := []) hC (Nat.le_of_ble_eq_true rfl) (kX3_take _ ho a2 (1 : Int32) _) (by omega) mc_yX3_take m_1332 m_1334 m_p48 mem_65 lay_65 rfl rfl rfl rfl (Nat.le_of_ble_eq_true rfl) dX3_descend_35 (fun y_3 s_3 => ?_)
      refine zr_if_eq (pc := 38) (tgt := 54) hC dX3_descend_38 (by decide) (fun c_ => ?_) (fun c_ => ?_)
      · refine zr_aload_n (pc := 54) (i := 0) 0 hC dX3_descend_54 rfl rfl ?_
        refine zr_aload_n (pc := 55) (i := 1) 1 hC dX3_descend_55 rfl rfl ?_
        refine zr_iload_n (pc := 56) (i := 2) 2 hC dX3_descend_56 rfl rfl ?_
        refine zr_iconst (pc := 57) (v := (-1 : Int32)) hC dX3_descend_57 ic_m1 ?_
        refine zr_callV (pc := 58) (As := fun ad => [.ref (ad o), .int a2, .int (-1 : Int32)]) (st1 := []) hC (Nat.le_of_ble_eq_true rfl) (kX3_take _ ho a2 (-1 : Int32) _) (by omega) mc_yX3_take m_1332 m_1334 m_p48 mem_65 lay_65 rfl rfl rfl rfl (Nat.le_of_ble_eq_true rfl) dX3_descend_58 (fun y_4 s_4 => ?_)
        refine zr_pop (pc := 61) hC dX3_descend_61 rfl ?_
        exact zr_vret (pc := 62) hC hR dX3_descend_62
      · refine zr_aload_n (pc := 41) (i := 0) 0 hC dX3_descend_41 rfl rfl ?_
        refine zr_aload_n (pc := 42) (i := 1) 1 hC dX3_descend_42 rfl rfl ?_
        refine zr_iload_n (pc := 43) (i := 2) 2 hC dX3_descend_43 rfl rfl ?_
        refine zr_iconst (pc := 44) (v := (1 : Int32)) hC dX3_descend_44 ic_1 ?_
        refine zr_isub (pc := 45) hC dX3_descend_45 ?_
        refine zr_iload_n (pc := 46) (i := 3) 3 hC dX3_descend_46 rfl rfl ?_
        refine zr_iconst (pc := 47) (v := (1 : Int32)) hC dX3_descend_47 ic_1 ?_
        refine zr_iload_n (pc := 48) (i := 2) 2 hC dX3_descend_48 rfl rfl ?_
        refine zr_ishl (pc := 49) hC dX3_descend_49 ?_
        refine zr_ior (pc := 50) hC dX3_descend_50 ?_
        refine zr_callVv (pc := 51) (As := fun ad => [.ref (ad o), .int (a2 - (1 : Int32)), .int (a3 ||| (jshl (1 : Int32) a2))]) (st1 := []) hC (Nat.le_of_ble_eq_true rfl) (hrc (a2 - (1 : Int32)) (a3 ||| (jshl (1 : Int32) a2)) _) (by omega) mc_yX3_descend m_1321 m_1323 m_p46 mem_65 lay_65 rfl rfl rfl rfl (Nat.le_of_ble_eq_true rfl) dX3_descend_51 (fun y_5 s_5 => ?_)
        refine zr_aload_n (pc := 54) (i := 0) 0 hC dX3_descend_54 rfl rfl ?_
        refine zr_aload_n (pc := 55) (i := 1) 1 hC dX3_descend_55 rfl rfl ?_
        refine zr_iload_n (pc := 56) (i := 2) 2 hC dX3_descend_56 rfl rfl ?_
        refine zr_iconst (pc := 57) (v := (-1 : Int32)) hC dX3_descend_57 ic_m1 ?_
        refine zr_callV (pc := 58) (As := fun ad => [.ref (ad o), .int a2, .int (-1 : Int32)]) (st1 := []) hC (Nat.le_of_ble_eq_true rfl) (kX3_take _ ho a2 (-1 : Int32) _) (by omega) mc_yX3_take m_1332 m_1334 m_p48 mem_65 lay_65 rfl rfl rfl rfl (Nat.le_of_ble_eq_true rfl) dX3_descend_58 (fun y_6 s_6 => ?_)
        refine zr_pop (pc := 61) hC dX3_descend_61 rfl ?_
        exact zr_vret (pc := 62) hC hR dX3_descend_62
  · refine zr_aload_n (pc := 4) (i := 0) 0 hC dX3_descend_4 rfl rfl ?_
    refine zr_aload_n (pc := 5) (i := 1) 1 hC dX3_descend_5 rfl rfl ?_
    refine zr_iload_n (pc := 6) (i := 3) 3 hC dX3_descend_6 rfl rfl ?_
    refine zr_callVv (pc := 7) (As := fun ad => [.ref (ad o), .int a3]) (st1 := []) hC (Nat.le_of_ble_eq_true rfl) (kX3_countSet _ ho a3 _) (by omega) mc_yX3_countSet m_1325 m_1327 m_p47 mem_65 lay_65 rfl rfl rfl rfl (Nat.le_of_ble_eq_true rfl) dX3_descend_7 (fun y_7 s_7 => ?_)
    exact zr_vret (pc := 10) hC hR dX3_descend_10
def fX3_descend (o : Nat) : Nat → Int32 → Int32 → St → Option (Int32 × St)
  | 0, _, _, _ => none
  | n + 1, a2, a3, s => gX3_descend (fX3_descend o n) o a2 a3 s
theorem kX3_descend (l : Launch) {o : Nat} (ho : isStory o) : ∀ (n : Nat) (a2 : Int32) (a3 : Int32) (s : St), CN l yX3_descend cX3_descend 4 none (3 + 1 * n) FULL (fun ad => [.ref (ad 65), .ref (ad o), .int a2, .int a3]) s (fX3_descend o n a2 a3 s)
  | 0, _, _, _ => fun _ _ h => by cases h
  | n + 1, a2, a3, s => gkX3_descend l (fX3_descend o n) (3 + 1 * n) (Nat.le_add_right _ _) (fun z0 z1 s => kX3_descend l ho n z0 z1 s) ho a2 a3 s
def fX3_search (o : Nat) (s : St) : Option (Int32 × St) :=
  let s_1 := wr s 65 2 (0 : Int32);
    let s_2 := wr s_1 65 3 (-1 : Int32);
    let s_3 := wr s_2 65 4 (4095 : Int32);
    bd (fX11_fill 67 (0 : Int32) (12 : Int32) (0 : Int32) s_3) (fun y_4 s_4 =>
    bd (fX11_copyRow (o + 5) 66 s_4) (fun y_5 s_5 =>
    bd (fX3_descend o 15 (11 : Int32) (0 : Int32) s_5) (fun y_6 s_6 =>
    some (0, s_6))))
set_option maxRecDepth 100000 in
set_option maxHeartbeats 4000000 in
theorem kX3_search (l : Launch)  {o : Nat} (ho : isStory o) (s : St) : CN l yX3_search cX3_search 2 none 20 FULL (fun ad => [.ref (ad 65), .ref (ad o)]) s (fX3_search o s) := by
  refine cn_of (by decide) (fun _ => (Nat.le_of_ble_eq_true rfl)) (fun X hC hR hl hN => ?_)
  subst hl
  show Zr X (QFN X none) 0 s 0 [(0, .ref (X_ad X 65)), (1, .ref (X_ad X o))] [] _
  rw [fX3_search]
  refine zr_aload_n (pc := 0) (i := 0) 0 hC dX3_search_0 rfl rfl ?_
  refine zr_iconst (pc := 1) (v := (0 : Int32)) hC dX3_search_1 ic_0 ?_
  refine zr_putInt (pc := 2) (j := 2) hC mem_65 lay_65 rfl rfl (Nat.le_of_ble_eq_true rfl) iX3 tyX3_ok nmX3 m_365 rfl (by decide +kernel) dX3_search_2 ?_
  refine zr_aload_n (pc := 5) (i := 0) 0 hC dX3_search_5 rfl rfl ?_
  refine zr_iconst (pc := 6) (v := (-1 : Int32)) hC dX3_search_6 ic_m1 ?_
  refine zr_putInt (pc := 7) (j := 3) hC mem_65 lay_65 rfl rfl (Nat.le_of_ble_eq_true rfl) iX3 tyX3_ok nmX3 m_367 rfl (by decide +kernel) dX3_search_7 ?_
  refine zr_aload_n (pc := 10) (i := 0) 0 hC dX3_search_10 rfl rfl ?_
  refine zr_sipush (pc := 11) (v := (4095 : Int32)) hC dX3_search_11 si_4095 ?_
  refine zr_putInt (pc := 14) (j := 4) hC mem_65 lay_65 rfl rfl (Nat.le_of_ble_eq_true rfl) iX3 tyX3_ok nmX3 m_369 rfl (by decide +kernel) dX3_search_14 ?_
  refine zr_aload_n (pc := 17) (i := 0) 0 hC dX3_search_17 rfl rfl ?_
  refine zr_getR (pc := 18) (j := 1) (k1 := 67) hC mem_65 lay_65 rfl rfl (Nat.le_of_ble_eq_true rfl) iX3 m_364 dX3_search_18 ?_
  refine zr_iconst (pc := 21) (v := (0 : Int32)) hC dX3_search_21 ic_0 ?_
  refine zr_bipush (pc := 22) (v := (12 : Int32)) hC dX3_search_22 bi_12 ?_
  refine zr_iconst (pc := 24) (v := (0 : Int32)) hC dX3_search_24 ic_0 ?_
  refine zr_callSNv (pc := 25) (As := fun ad => [.ref (ad 67), .int (0 : Int32), .int (12 : Int32), .int (0 : Int32)]) (st1 := []) hC (Nat.le_of_ble_eq_true rfl) (kX11_fill _ ar_67 (0 : Int32) (12 : Int32) (0 : Int32) _) (Nat.le_of_ble_eq_true rfl) mc_yX11_fill m_1319 m_138 rfl rfl (Nat.le_of_ble_eq_true rfl) dX3_search_25 (fun y_4 s_4 => ?_)
  refine zr_aload_n (pc := 28) (i := 1) 1 hC dX3_search_28 rfl rfl ?_
  refine zr_getR (pc := 29) (j := 5) (k1 := (o + 5)) hC ho.1.1 ho.1.2 rfl rfl (Nat.le_of_ble_eq_true rfl) iX8 m_223 dX3_search_29 ?_
  refine zr_aload_n (pc := 32) (i := 0) 0 hC dX3_search_32 rfl rfl ?_
  refine zr_getR (pc := 33) (j := 0) (k1 := 66) hC mem_65 lay_65 rfl rfl (Nat.le_of_ble_eq_true rfl) iX3 m_363 dX3_search_33 ?_
  refine zr_callSNv (pc := 36) (As := fun ad => [.ref (ad (o + 5)), .ref (ad 66)]) (st1 := []) hC (Nat.le_of_ble_eq_true rfl) (kX11_copyRow _ (isArr_of ho.2.2.2.2.1) ar_66 _) (Nat.le_of_ble_eq_true rfl) mc_yX11_copyRow m_1320 m_567 rfl rfl (Nat.le_of_ble_eq_true rfl) dX3_search_36 (fun y_5 s_5 => ?_)
  refine zr_aload_n (pc := 39) (i := 0) 0 hC dX3_search_39 rfl rfl ?_
  refine zr_aload_n (pc := 40) (i := 1) 1 hC dX3_search_40 rfl rfl ?_
  refine zr_bipush (pc := 41) (v := (11 : Int32)) hC dX3_search_41 bi_11 ?_
  refine zr_iconst (pc := 43) (v := (0 : Int32)) hC dX3_search_43 ic_0 ?_
  refine zr_callVv (pc := 44) (As := fun ad => [.ref (ad o), .int (11 : Int32), .int (0 : Int32)]) (st1 := []) hC (Nat.le_of_ble_eq_true rfl) (kX3_descend _ ho 15 (11 : Int32) (0 : Int32) _) (Nat.le_of_ble_eq_true rfl) mc_yX3_descend m_1321 m_1323 m_p46 mem_65 lay_65 rfl rfl rfl rfl (Nat.le_of_ble_eq_true rfl) dX3_search_44 (fun y_6 s_6 => ?_)
  exact zr_vret (pc := 47) hC hR dX3_search_47
def fX3_askNext_L7 (w : Nat) : Nat → Int32 → Int32 → Int32 → St → Option (Int32 × St)
  | 0, _, _, _, _ => none
  | n + 1, v2, v3, v4, s =>
    if (12 : Int32) ≤ v4 then
    (some (v2, s))
  else
    (bd (fX11_at 67 v4 s) (fun y_1 s_1 =>
    bd (fX10_alive w v4 s_1) (fun y_2 s_2 =>
    if y_2 = 0 then
    (fX3_askNext_L7 w n v2 v3 (v4 + (1 : Int32)) s_2)
  else
    (if v2 = (-1 : Int32) then
    (fX3_askNext_L7 w n v4 (jabs (((2 : Int32) * y_1) - (s_1 65 2))) (v4 + (1 : Int32)) s_2)
  else
    (if v3 ≤ (jabs (((2 : Int32) * y_1) - (s_1 65 2))) then
    (fX3_askNext_L7 w n v2 v3 (v4 + (1 : Int32)) s_2)
  else
    (fX3_askNext_L7 w n v4 (jabs (((2 : Int32) * y_1) - (s_1 65 2))) (v4 + (1 : Int32)) s_2))))))
set_option maxRecDepth 100000 in
set_option maxHeartbeats 4000000 in
theorem tX3_askNext_L7 (w : Nat) (X : KX) (hC : Ctx X RX3 cX3_askNext FULL 7 0) (hR : RC X (some .int)) (hN : X_nL X = 6) (hw : isWd w) : ∀ (n : Nat) (v2 : Int32) (v3 : Int32) (v4 : Int32) (s : St), Zr X (QFN X (some .int)) 0 s 7 [(0, .ref (X_ad X 65)), (1, .ref (X_ad X w)), (2, .int v2), (3, .int v3), (4, .int v4)] [] (fX3_askNext_L7 w n v2 v3 v4 s) := by
  intro n
  induction n with
  | zero =>
    intro v2 v3 v4 s
    exact zr_none
  | succ n ih =>
    intro v2 v3 v4 s
    rw [fX3_askNext_L7]
    refine zr_iload (pc := 7) 4 hC dX3_askNext_7 rfl ?_
    refine zr_bipush (pc := 9) (v := (12 : Int32)) hC dX3_askNext_9 bi_12 ?_
    refine zr_icmp_ge (pc := 11) (tgt := 67) hC dX3_askNext_11 (by decide) (fun c_ => ?_) (fun c_ => ?_)
    · refine zr_iload_n (pc := 67) (i := 2) 2 hC dX3_askNext_67 rfl rfl ?_
      exact zr_iret (pc := 68) hC hR dX3_askNext_68
    · refine zr_iconst (pc := 14) (v := (2 : Int32)) hC dX3_askNext_14 ic_2 ?_
      refine zr_aload_n (pc := 15) (i := 0) 0 hC dX3_askNext_15 rfl rfl ?_
      refine zr_getR (pc := 16) (j := 1) (k1 := 67) hC mem_65 lay_65 rfl rfl (Nat.le_of_ble_eq_true rfl) iX3 m_364 dX3_askNext_16 ?_
      refine zr_iload (pc := 19) 4 hC dX3_askNext_19 rfl ?_
      refine zr_callSN (pc := 21) (As := fun ad => [.ref (ad 67), .int v4]) (st1 := [.int (2 : Int32)]) hC (Nat.le_of_ble_eq_true rfl) (kX11_at _ ar_67 v4 _) (Nat.le_of_ble_eq_true rfl) mc_yX11_at m_1329 m_453 rfl rfl (Nat.le_of_ble_eq_true rfl) dX3_askNext_21 (fun y_1 s_1 => ?_)
      refine zr_imul (pc := 24) hC dX3_askNext_24 ?_
      refine zr_aload_n (pc := 25) (i := 0) 0 hC dX3_askNext_25 rfl rfl ?_
      refine zr_getI (pc := 26) (j := 2) hC mem_65 lay_65 rfl rfl (Nat.le_of_ble_eq_true rfl) iX3 m_365 dX3_askNext_26 ?_
      refine zr_isub (pc := 29) hC dX3_askNext_29 ?_
      refine zr_mabs (pc := 30) hC (Nat.le_of_ble_eq_true rfl) (Nat.le_of_ble_eq_true rfl) m_1341 m_599 m_23 m_600 (Nat.le_of_ble_eq_true rfl) dX3_askNext_30 ?_
      refine zr_istore (pc := 33) (ls' := [(5, _), (0, _), (1, _), (2, _), (3, _), (4, _)]) hC dX3_askNext_33 (nlt hN (Nat.le_of_ble_eq_true rfl)) rfl ?_
      refine zr_aload_n (pc := 35) (i := 1) 2 hC dX3_askNext_35 rfl rfl ?_
      refine zr_iload (pc := 36) 5 hC dX3_askNext_36 rfl ?_
      refine zr_callV (pc := 38) (As := fun ad => [.int v4]) (st1 := []) hC (Nat.le_of_ble_eq_true rfl) (kX10_alive _ hw v4 _) (Nat.le_of_ble_eq_true rfl) mc_yX10_alive m_1331 m_524 m_525 hw.1.1 hw.1.2 rfl rfl rfl rfl (Nat.le_of_ble_eq_true rfl) dX3_askNext_38 (fun y_2 s_2 => ?_)
      refine zr_if_eq (pc := 41) (tgt := 61) hC dX3_askNext_41 (by decide) (fun c_ => ?_) (fun c_ => ?_)
      · refine zr_iinc (pc := 61) (q := 5) (ls' := [(4, _), (5, _), (0, _), (1, _), (2, _), (3, _)]) hC dX3_askNext_61 rfl (inc_1 _) (nlt hN (Nat.le_of_ble_eq_true rfl)) rfl ?_
        refine zr_goto (pc := 64) (tgt := 7) hC dX3_askNext_64 (by decide) ?_
        refine zr_sub (ls' := [(0, _), (1, _), (2, _), (3, _), (4, _)]) [2, 3, 4, 5, 0] rfl ?_
        exact ih v2 v3 (v4 + (1 : Int32)) s_2
      · refine zr_iload_n (pc := 44) (i := 2) 3 hC dX3_askNext_44 rfl rfl ?_
        refine zr_iconst (pc := 45) (v := (-1 : Int32)) hC dX3_askNext_45 ic_m1 ?_
        refine zr_icmp_eq (pc := 46) (tgt := 55) hC dX3_askNext_46 (by decide) (fun c_ => ?_) (fun c_ => ?_)
        · refine zr_iload (pc := 55) 5 hC dX3_askNext_55 rfl ?_
          refine zr_istore_n (pc := 57) (i := 2) (ls' := [(2, _), (5, _), (0, _), (1, _), (3, _), (4, _)]) hC dX3_askNext_57 rfl (nlt hN (Nat.le_of_ble_eq_true rfl)) rfl ?_
          refine zr_iload (pc := 58) 1 hC dX3_askNext_58 rfl ?_
          refine zr_istore_n (pc := 60) (i := 3) (ls' := [(3, _), (2, _), (5, _), (0, _), (1, _), (4, _)]) hC dX3_askNext_60 rfl (nlt hN (Nat.le_of_ble_eq_true rfl)) rfl ?_
          refine zr_iinc (pc := 61) (q := 5) (ls' := [(4, _), (3, _), (2, _), (5, _), (0, _), (1, _)]) hC dX3_askNext_61 rfl (inc_1 _) (nlt hN (Nat.le_of_ble_eq_true rfl)) rfl ?_
          refine zr_goto (pc := 64) (tgt := 7) hC dX3_askNext_64 (by decide) ?_
          refine zr_sub (ls' := [(0, _), (1, _), (2, _), (3, _), (4, _)]) [4, 5, 2, 1, 0] rfl ?_
          exact ih v4 (jabs (((2 : Int32) * y_1) - (s_1 65 2))) (v4 + (1 : Int32)) s_2
        · refine zr_iload (pc := 49) 0 hC dX3_askNext_49 rfl ?_
          refine zr_iload_n (pc := 51) (i := 3) 4 hC dX3_askNext_51 rfl rfl ?_
          refine zr_icmp_ge (pc := 52) (tgt := 61) hC dX3_askNext_52 (by decide) (fun c_ => ?_) (fun c_ => ?_)
          · refine zr_iinc (pc := 61) (q := 5) (ls' := [(4, _), (5, _), (0, _), (1, _), (2, _), (3, _)]) hC dX3_askNext_61 rfl (inc_1 _) (nlt hN (Nat.le_of_ble_eq_true rfl)) rfl ?_
            refine zr_goto (pc := 64) (tgt := 7) hC dX3_askNext_64 (by decide) ?_
            refine zr_sub (ls' := [(0, _), (1, _), (2, _), (3, _), (4, _)]) [2, 3, 4, 5, 0] rfl ?_
            exact ih v2 v3 (v4 + (1 : Int32)) s_2
          · refine zr_iload (pc := 55) 5 hC dX3_askNext_55 rfl ?_
            refine zr_istore_n (pc := 57) (i := 2) (ls' := [(2, _), (5, _), (0, _), (1, _), (3, _), (4, _)]) hC dX3_askNext_57 rfl (nlt hN (Nat.le_of_ble_eq_true rfl)) rfl ?_
            refine zr_iload (pc := 58) 1 hC dX3_askNext_58 rfl ?_
            refine zr_istore_n (pc := 60) (i := 3) (ls' := [(3, _), (2, _), (5, _), (0, _), (1, _), (4, _)]) hC dX3_askNext_60 rfl (nlt hN (Nat.le_of_ble_eq_true rfl)) rfl ?_
            refine zr_iinc (pc := 61) (q := 5) (ls' := [(4, _), (3, _), (2, _), (5, _), (0, _), (1, _)]) hC dX3_askNext_61 rfl (inc_1 _) (nlt hN (Nat.le_of_ble_eq_true rfl)) rfl ?_
            refine zr_goto (pc := 64) (tgt := 7) hC dX3_askNext_64 (by decide) ?_
            refine zr_sub (ls' := [(0, _), (1, _), (2, _), (3, _), (4, _)]) [4, 5, 2, 1, 0] rfl ?_
            exact ih v4 (jabs (((2 : Int32) * y_1) - (s_1 65 2))) (v4 + (1 : Int32)) s_2
def fX3_askNext (w : Nat) (s : St) : Option (Int32 × St) :=
  fX3_askNext_L7 w FU (-1 : Int32) (0 : Int32) (0 : Int32) s
set_option maxRecDepth 100000 in
set_option maxHeartbeats 4000000 in
theorem kX3_askNext (l : Launch)  {w : Nat} (hw : isWd w) (s : St) : CN l yX3_askNext cX3_askNext 6 (some .int) 7 FULL (fun ad => [.ref (ad 65), .ref (ad w)]) s (fX3_askNext w s) := by
  refine cn_of (by decide) (fun _ => (Nat.le_of_ble_eq_true rfl)) (fun X hC hR hl hN => ?_)
  subst hl
  show Zr X (QFN X (some .int)) 0 s 0 [(0, .ref (X_ad X 65)), (1, .ref (X_ad X w))] [] _
  rw [fX3_askNext]
  refine zr_iconst (pc := 0) (v := (-1 : Int32)) hC dX3_askNext_0 ic_m1 ?_
  refine zr_istore_n (pc := 1) (i := 2) (ls' := [(2, _), (0, _), (1, _)]) hC dX3_askNext_1 rfl (nlt hN (Nat.le_of_ble_eq_true rfl)) rfl ?_
  refine zr_iconst (pc := 2) (v := (0 : Int32)) hC dX3_askNext_2 ic_0 ?_
  refine zr_istore_n (pc := 3) (i := 3) (ls' := [(3, _), (2, _), (0, _), (1, _)]) hC dX3_askNext_3 rfl (nlt hN (Nat.le_of_ble_eq_true rfl)) rfl ?_
  refine zr_iconst (pc := 4) (v := (0 : Int32)) hC dX3_askNext_4 ic_0 ?_
  refine zr_istore (pc := 5) (ls' := [(4, _), (3, _), (2, _), (0, _), (1, _)]) hC dX3_askNext_5 (nlt hN (Nat.le_of_ble_eq_true rfl)) rfl ?_
  refine zr_sub (ls' := [(0, _), (1, _), (2, _), (3, _), (4, _)]) [3, 4, 2, 1, 0] rfl ?_
  exact tX3_askNext_L7 w X hC hR hN hw FU (-1 : Int32) (0 : Int32) (0 : Int32) _
def fX11_fits (a1 : Int32) (s : St) : Option (RT × St) :=
  if a1 < 0 then
    (some (.inr 0, s))
  else
    (if a1 ≤ (3 : Int32) then
    (bd (fX3_search 32 s) (fun y_1 s_1 =>
    if a1 = (0 : Int32) then
    (some (.inl (s_1 65 2), s_1))
  else
    (if a1 = (1 : Int32) then
    (some (.inl (s_1 65 3), s_1))
  else
    (if a1 = (2 : Int32) then
    (if (s_1 65 2) ≤ 0 then
    (some (.inl (0 : Int32), s_1))
  else
    (some (.inl (s_1 65 4), s_1)))
  else
    (bd (fX3_askNext 33 s_1) (fun y_2 s_2 =>
    some (.inl y_2, s_2)))))))
  else
    (some (.inr 0, s)))
set_option maxRecDepth 100000 in
set_option maxHeartbeats 4000000 in
theorem kX11_fits (l : Launch) (hst : l.stackTraces = false)  (a1 : Int32) (s : St) : CX l yX11_fits cX11_fits 2 (some .int) 21 1 FULL (fun ad => [.ref (ad 0), .int a1]) s (fX11_fits a1 s) := by
  refine cx_of hst (by decide) (fun _ => (Nat.le_of_ble_eq_true rfl)) (fun X hC hR hl hN => ?_)
  subst hl
  show Zr X (QFX X (some .int) 1) 0 s 0 [(0, .ref (X_ad X 0)), (1, .int a1)] [] _
  rw [fX11_fits]
  refine zr_iload_n (pc := 0) (i := 1) 1 hC dX11_fits_0 rfl rfl ?_
  refine zr_if_lt (pc := 1) (tgt := 9) hC dX11_fits_1 (by decide) (fun c_ => ?_) (fun c_ => ?_)
  · exact zx_thr0 (pc := 9) hC (Nat.le_of_ble_eq_true rfl) hR (Nat.le_of_ble_eq_true rfl) (Nat.le_of_ble_eq_true rfl) dX11_fits_9 dX11_fits_12 dX11_fits_13 dX11_fits_16
  · refine zr_iload_n (pc := 4) (i := 1) 1 hC dX11_fits_4 rfl rfl ?_
    refine zr_iconst (pc := 5) (v := (3 : Int32)) hC dX11_fits_5 ic_3 ?_
    refine zr_icmp_le (pc := 6) (tgt := 17) hC dX11_fits_6 (by decide) (fun c_ => ?_) (fun c_ => ?_)
    · refine zr_aload_n (pc := 17) (i := 0) 0 hC dX11_fits_17 rfl rfl ?_
      refine zr_getR (pc := 18) (j := 13) (k1 := 65) hC mem_0 lay_0 rfl rfl (Nat.le_of_ble_eq_true rfl) iX11 m_395 dX11_fits_18 ?_
      refine zr_aload_n (pc := 21) (i := 0) 0 hC dX11_fits_21 rfl rfl ?_
      refine zr_getR (pc := 22) (j := 5) (k1 := 32) hC mem_0 lay_0 rfl rfl (Nat.le_of_ble_eq_true rfl) iX11 m_387 dX11_fits_22 ?_
      refine zr_callVv (pc := 25) (As := fun ad => [.ref (ad 32)]) (st1 := []) hC (Nat.le_of_ble_eq_true rfl) (kX3_search _ is_32 _) (Nat.le_of_ble_eq_true rfl) mc_yX3_search m_1315 m_1316 m_1317 mem_65 lay_65 rfl rfl rfl rfl (Nat.le_of_ble_eq_true rfl) dX11_fits_25 (fun y_1 s_1 => ?_)
      refine zr_iload_n (pc := 28) (i := 1) 1 hC dX11_fits_28 rfl rfl ?_
      refine zr_tcase (pc := 29) (v := (0 : Int32)) (off := 27) (tgt := 56) hC dX11_fits_29 (by decide) (by decide) (by decide) (by decide) ?_ (fun e0 => ?_)
      · refine zr_aload_n (pc := 56) (i := 0) 0 hC dX11_fits_56 rfl rfl ?_
        refine zr_getR (pc := 57) (j := 13) (k1 := 65) hC mem_0 lay_0 rfl rfl (Nat.le_of_ble_eq_true rfl) iX11 m_395 dX11_fits_57 ?_
        refine zr_getI (pc := 60) (j := 2) hC mem_65 lay_65 rfl rfl (Nat.le_of_ble_eq_true rfl) iX3 m_366 dX11_fits_60 ?_
        exact zx_iret (pc := 63) hC (Nat.le_of_ble_eq_true rfl) hR dX11_fits_63
      refine zr_tcase (pc := 29) (v := (1 : Int32)) (off := 35) (tgt := 64) hC dX11_fits_29 (by decide) (by decide) (by decide) (by decide) ?_ (fun e1 => ?_)
      · refine zr_aload_n (pc := 64) (i := 0) 0 hC dX11_fits_64 rfl rfl ?_
        refine zr_getR (pc := 65) (j := 13) (k1 := 65) hC mem_0 lay_0 rfl rfl (Nat.le_of_ble_eq_true rfl) iX11 m_395 dX11_fits_65 ?_
        refine zr_getI (pc := 68) (j := 3) hC mem_65 lay_65 rfl rfl (Nat.le_of_ble_eq_true rfl) iX3 m_368 dX11_fits_68 ?_
        exact zx_iret (pc := 71) hC (Nat.le_of_ble_eq_true rfl) hR dX11_fits_71
      refine zr_tcase (pc := 29) (v := (2 : Int32)) (off := 43) (tgt := 72) hC dX11_fits_29 (by decide) (by decide) (by decide) (by decide) ?_ (fun e2 => ?_)
      · refine zr_aload_n (pc := 72) (i := 0) 0 hC dX11_fits_72 rfl rfl ?_
        refine zr_getR (pc := 73) (j := 13) (k1 := 65) hC mem_0 lay_0 rfl rfl (Nat.le_of_ble_eq_true rfl) iX11 m_395 dX11_fits_73 ?_
        refine zr_getI (pc := 76) (j := 2) hC mem_65 lay_65 rfl rfl (Nat.le_of_ble_eq_true rfl) iX3 m_366 dX11_fits_76 ?_
        refine zr_if_le (pc := 79) (tgt := 92) hC dX11_fits_79 (by decide) (fun c_ => ?_) (fun c_ => ?_)
        · refine zr_iconst (pc := 92) (v := (0 : Int32)) hC dX11_fits_92 ic_0 ?_
          exact zx_iret (pc := 93) hC (Nat.le_of_ble_eq_true rfl) hR dX11_fits_93
        · refine zr_aload_n (pc := 82) (i := 0) 0 hC dX11_fits_82 rfl rfl ?_
          refine zr_getR (pc := 83) (j := 13) (k1 := 65) hC mem_0 lay_0 rfl rfl (Nat.le_of_ble_eq_true rfl) iX11 m_395 dX11_fits_83 ?_
          refine zr_getI (pc := 86) (j := 4) hC mem_65 lay_65 rfl rfl (Nat.le_of_ble_eq_true rfl) iX3 m_370 dX11_fits_86 ?_
          refine zr_goto (pc := 89) (tgt := 93) hC dX11_fits_89 (by decide) ?_
          exact zx_iret (pc := 93) hC (Nat.le_of_ble_eq_true rfl) hR dX11_fits_93
      refine zr_tdef (pc := 29) (tgt := 94) [(0 : Int32), (1 : Int32), (2 : Int32)] hC dX11_fits_29 (List.forall_mem_cons.mpr ⟨e0, List.forall_mem_cons.mpr ⟨e1, List.forall_mem_cons.mpr ⟨e2, fun _ h => absurd h List.not_mem_nil⟩⟩⟩) (by decide) (by decide) (by decide) ?_
      refine zr_aload_n (pc := 94) (i := 0) 0 hC dX11_fits_94 rfl rfl ?_
      refine zr_getR (pc := 95) (j := 13) (k1 := 65) hC mem_0 lay_0 rfl rfl (Nat.le_of_ble_eq_true rfl) iX11 m_395 dX11_fits_95 ?_
      refine zr_aload_n (pc := 98) (i := 0) 0 hC dX11_fits_98 rfl rfl ?_
      refine zr_getR (pc := 99) (j := 5) (k1 := 32) hC mem_0 lay_0 rfl rfl (Nat.le_of_ble_eq_true rfl) iX11 m_387 dX11_fits_99 ?_
      refine zr_getR (pc := 102) (j := 0) (k1 := 33) hC mem_32 lay_32 rfl rfl (Nat.le_of_ble_eq_true rfl) iX8 m_215 dX11_fits_102 ?_
      refine zr_callV (pc := 105) (As := fun ad => [.ref (ad 33)]) (st1 := []) hC (Nat.le_of_ble_eq_true rfl) (kX3_askNext _ is_33 _) (Nat.le_of_ble_eq_true rfl) mc_yX3_askNext m_1337 m_1338 m_1339 mem_65 lay_65 rfl rfl rfl rfl (Nat.le_of_ble_eq_true rfl) dX11_fits_105 (fun y_2 s_2 => ?_)
      exact zx_iret (pc := 108) hC (Nat.le_of_ble_eq_true rfl) hR dX11_fits_108
    · exact zx_thr0 (pc := 9) hC (Nat.le_of_ble_eq_true rfl) hR (Nat.le_of_ble_eq_true rfl) (Nat.le_of_ble_eq_true rfl) dX11_fits_9 dX11_fits_12 dX11_fits_13 dX11_fits_16
