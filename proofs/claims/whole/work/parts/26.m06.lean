def fX11_surveyGround_J74 (lp : Int32 → St → Option (Int32 × St)) (v1 : Int32) (v2 : Int32) (v3 : Int32) (v4 : Int32) (v5 : Int32) (s : St) : Option (Int32 × St) :=
  bd (fX10_place 33 v2 s) (fun y_4 s_4 =>
    if y_4 = v4 then
    (bd (fX10_part 33 v2 (0 : Int32) s_4) (fun y_6 s_6 =>
    bd (fX11_put 68 v3 (v5 - y_6) s_6) (fun y_7 s_7 =>
    lp (v3 + (1 : Int32)) s_7)))
  else
    (bd (fX11_put 68 v3 v5 s_4) (fun y_5 s_5 =>
    lp (v3 + (1 : Int32)) s_5)))
set_option maxRecDepth 100000 in
set_option maxHeartbeats 4000000 in
theorem tX11_surveyGround_J74 (v1 : Int32) (v2 : Int32) (v3 : Int32) (v4 : Int32) (v5 : Int32) (lp : Int32 → St → Option (Int32 × St)) (X : KX) (hC : Ctx X RX11 cX11_surveyGround FULL 4 0) (hR : RC X none) (hN : X_nL X = 6) (ih : ∀ (u3 : Int32) (s : St), Zr X (QFN X none) 0 s 2 [(0, .ref (X_ad X 0)), (1, .int v1), (2, .int v2), (3, .int u3)] [] (lp u3 s)) (s : St) : Zr X (QFN X none) 0 s 74 [(0, .ref (X_ad X 0)), (1, .int v1), (2, .int v2), (3, .int v3), (4, .int v4), (5, .int v5)] [] (fX11_surveyGround_J74 lp v1 v2 v3 v4 v5 s) := by
  rw [fX11_surveyGround_J74]
  refine zr_aload_n (pc := 74) (i := 0) 0 hC dX11_surveyGround_74 rfl rfl ?_
  refine zr_getR (pc := 75) (j := 5) (k1 := 32) hC mem_0 lay_0 rfl rfl (Nat.le_of_ble_eq_true rfl) iX11 m_387 dX11_surveyGround_75 ?_
  refine zr_getR (pc := 78) (j := 0) (k1 := 33) hC mem_32 lay_32 rfl rfl (Nat.le_of_ble_eq_true rfl) iX8 m_215 dX11_surveyGround_78 ?_
  refine zr_iload_n (pc := 81) (i := 2) 2 hC dX11_surveyGround_81 rfl rfl ?_
  refine zr_callV (pc := 82) (As := fun ad => [.int v2]) (st1 := []) hC (Nat.le_of_ble_eq_true rfl) (kX10_place _ is_33 v2 _) (Nat.le_of_ble_eq_true rfl) mc_yX10_place m_1017 m_488 m_489 mem_33 lay_33 rfl rfl rfl rfl (Nat.le_of_ble_eq_true rfl) dX11_surveyGround_82 (fun y_4 s_4 => ?_)
  refine zr_iload (pc := 85) 4 hC dX11_surveyGround_85 rfl ?_
  refine zr_icmp_ne (pc := 87) (tgt := 107) hC dX11_surveyGround_87 (by decide) (fun c_ => ?_) (fun c_ => ?_)
  · refine zr_iload (pc := 90) 5 hC dX11_surveyGround_90 rfl ?_
    refine zr_aload_n (pc := 92) (i := 0) 0 hC dX11_surveyGround_92 rfl rfl ?_
    refine zr_getR (pc := 93) (j := 5) (k1 := 32) hC mem_0 lay_0 rfl rfl (Nat.le_of_ble_eq_true rfl) iX11 m_387 dX11_surveyGround_93 ?_
    refine zr_getR (pc := 96) (j := 0) (k1 := 33) hC mem_32 lay_32 rfl rfl (Nat.le_of_ble_eq_true rfl) iX8 m_215 dX11_surveyGround_96 ?_
    refine zr_iload_n (pc := 99) (i := 2) 2 hC dX11_surveyGround_99 rfl rfl ?_
    refine zr_iconst (pc := 100) (v := (0 : Int32)) hC dX11_surveyGround_100 ic_0 ?_
    refine zr_callV (pc := 101) (As := fun ad => [.int v2, .int (0 : Int32)]) (st1 := [.int v5]) hC (Nat.le_of_ble_eq_true rfl) (kX10_part _ is_33 v2 (0 : Int32) _) (Nat.le_of_ble_eq_true rfl) mc_yX10_part m_1033 m_492 m_493 mem_33 lay_33 rfl rfl rfl rfl (Nat.le_of_ble_eq_true rfl) dX11_surveyGround_101 (fun y_6 s_6 => ?_)
    refine zr_isub (pc := 104) hC dX11_surveyGround_104 ?_
    refine zr_istore (pc := 105) (ls' := [(5, _), (0, _), (1, _), (2, _), (3, _), (4, _)]) hC dX11_surveyGround_105 (nlt hN (Nat.le_of_ble_eq_true rfl)) rfl ?_
    refine zr_aload_n (pc := 107) (i := 0) 1 hC dX11_surveyGround_107 rfl rfl ?_
    refine zr_getR (pc := 108) (j := 14) (k1 := 68) hC mem_0 lay_0 rfl rfl (Nat.le_of_ble_eq_true rfl) iX11 m_396 dX11_surveyGround_108 ?_
    refine zr_iload_n (pc := 111) (i := 3) 4 hC dX11_surveyGround_111 rfl rfl ?_
    refine zr_iload (pc := 112) 0 hC dX11_surveyGround_112 rfl ?_
    refine zr_callSv (pc := 114) (As := fun ad => [.ref (ad 68), .int v3, .int (v5 - y_6)]) (st1 := []) hC (Nat.le_of_ble_eq_true rfl) (kX11_put _ ar_68 v3 (v5 - y_6) _) (Nat.le_of_ble_eq_true rfl) mc_yX11_put m_140 m_141 rfl rfl rfl (Nat.le_of_ble_eq_true rfl) dX11_surveyGround_114 (fun y_7 s_7 => ?_)
    refine zr_iinc (pc := 117) (q := 4) (ls' := [(3, _), (5, _), (0, _), (1, _), (2, _), (4, _)]) hC dX11_surveyGround_117 rfl (inc_1 _) (nlt hN (Nat.le_of_ble_eq_true rfl)) rfl ?_
    refine zr_goto (pc := 120) (tgt := 2) hC dX11_surveyGround_120 (by decide) ?_
    refine zr_sub (ls' := [(0, _), (1, _), (2, _), (3, _)]) [2, 3, 4, 0] rfl ?_
    exact ih (v3 + (1 : Int32)) s_7
  · refine zr_aload_n (pc := 107) (i := 0) 0 hC dX11_surveyGround_107 rfl rfl ?_
    refine zr_getR (pc := 108) (j := 14) (k1 := 68) hC mem_0 lay_0 rfl rfl (Nat.le_of_ble_eq_true rfl) iX11 m_396 dX11_surveyGround_108 ?_
    refine zr_iload_n (pc := 111) (i := 3) 3 hC dX11_surveyGround_111 rfl rfl ?_
    refine zr_iload (pc := 112) 5 hC dX11_surveyGround_112 rfl ?_
    refine zr_callSv (pc := 114) (As := fun ad => [.ref (ad 68), .int v3, .int v5]) (st1 := []) hC (Nat.le_of_ble_eq_true rfl) (kX11_put _ ar_68 v3 v5 _) (Nat.le_of_ble_eq_true rfl) mc_yX11_put m_140 m_141 rfl rfl rfl (Nat.le_of_ble_eq_true rfl) dX11_surveyGround_114 (fun y_5 s_5 => ?_)
    refine zr_iinc (pc := 117) (q := 3) (ls' := [(3, _), (0, _), (1, _), (2, _), (4, _), (5, _)]) hC dX11_surveyGround_117 rfl (inc_1 _) (nlt hN (Nat.le_of_ble_eq_true rfl)) rfl ?_
    refine zr_goto (pc := 120) (tgt := 2) hC dX11_surveyGround_120 (by decide) ?_
    refine zr_sub (ls' := [(0, _), (1, _), (2, _), (3, _)]) [1, 2, 3, 0] rfl ?_
    exact ih (v3 + (1 : Int32)) s_5
def fX11_surveyGround_L2 (c1 : Int32) (c2 : Int32) : Nat → Int32 → St → Option (Int32 × St)
  | 0, _, _ => none
  | n + 1, v3, s =>
    if (s 21 6) ≤ v3 then
    (some (0, s))
  else
    (bd (fX11_at 26 v3 s) (fun y_1 s_1 =>
    bd (fX10_falls 33 y_1 (0 : Int32) s_1) (fun y_2 s_2 =>
    bd (fX10_place 33 c1 s_2) (fun y_3 s_3 =>
    if y_3 = y_1 then
    (bd (fX10_part 33 c1 (0 : Int32) s_3) (fun y_8 s_8 =>
    fX11_surveyGround_J74 (fX11_surveyGround_L2 c1 c2 n) c1 c2 v3 y_1 (y_2 - y_8) s_8))
  else
    (fX11_surveyGround_J74 (fX11_surveyGround_L2 c1 c2 n) c1 c2 v3 y_1 y_2 s_3)))))
set_option maxRecDepth 100000 in
set_option maxHeartbeats 4000000 in
theorem tX11_surveyGround_L2 (c1 : Int32) (c2 : Int32) (X : KX) (hC : Ctx X RX11 cX11_surveyGround FULL 4 0) (hR : RC X none) (hN : X_nL X = 6) : ∀ (n : Nat) (v3 : Int32) (s : St), Zr X (QFN X none) 0 s 2 [(0, .ref (X_ad X 0)), (1, .int c1), (2, .int c2), (3, .int v3)] [] (fX11_surveyGround_L2 c1 c2 n v3 s) := by
  intro n
  induction n with
  | zero =>
    intro v3 s
    exact zr_none
  | succ n ih =>
    intro v3 s
    rw [fX11_surveyGround_L2]
    refine zr_iload_n (pc := 2) (i := 3) 3 hC dX11_surveyGround_2 rfl rfl ?_
    refine zr_aload_n (pc := 3) (i := 0) 0 hC dX11_surveyGround_3 rfl rfl ?_
    refine zr_getR (pc := 4) (j := 4) (k1 := 21) hC mem_0 lay_0 rfl rfl (Nat.le_of_ble_eq_true rfl) iX11 m_386 dX11_surveyGround_4 ?_
    refine zr_getI (pc := 7) (j := 6) hC mem_21 lay_21 rfl rfl (Nat.le_of_ble_eq_true rfl) iX4 m_84 dX11_surveyGround_7 ?_
    refine zr_icmp_ge (pc := 10) (tgt := 123) hC dX11_surveyGround_10 (by decide) (fun c_ => ?_) (fun c_ => ?_)
    · exact zr_vret (pc := 123) hC hR dX11_surveyGround_123
    · refine zr_aload_n (pc := 13) (i := 0) 0 hC dX11_surveyGround_13 rfl rfl ?_
      refine zr_getR (pc := 14) (j := 4) (k1 := 21) hC mem_0 lay_0 rfl rfl (Nat.le_of_ble_eq_true rfl) iX11 m_386 dX11_surveyGround_14 ?_
      refine zr_getR (pc := 17) (j := 7) (k1 := 26) hC mem_21 lay_21 rfl rfl (Nat.le_of_ble_eq_true rfl) iX4 m_89 dX11_surveyGround_17 ?_
      refine zr_iload_n (pc := 20) (i := 3) 3 hC dX11_surveyGround_20 rfl rfl ?_
      refine zr_callS (pc := 21) (As := fun ad => [.ref (ad 26), .int v3]) (st1 := []) hC (Nat.le_of_ble_eq_true rfl) (kX11_at _ ar_26 v3 _) (Nat.le_of_ble_eq_true rfl) mc_yX11_at m_990 m_453 rfl rfl rfl (Nat.le_of_ble_eq_true rfl) dX11_surveyGround_21 (fun y_1 s_1 => ?_)
      refine zr_istore (pc := 24) (ls' := [(4, _), (0, _), (1, _), (2, _), (3, _)]) hC dX11_surveyGround_24 (nlt hN (Nat.le_of_ble_eq_true rfl)) rfl ?_
      refine zr_aload_n (pc := 26) (i := 0) 1 hC dX11_surveyGround_26 rfl rfl ?_
      refine zr_getR (pc := 27) (j := 5) (k1 := 32) hC mem_0 lay_0 rfl rfl (Nat.le_of_ble_eq_true rfl) iX11 m_387 dX11_surveyGround_27 ?_
      refine zr_getR (pc := 30) (j := 0) (k1 := 33) hC mem_32 lay_32 rfl rfl (Nat.le_of_ble_eq_true rfl) iX8 m_215 dX11_surveyGround_30 ?_
      refine zr_iload (pc := 33) 0 hC dX11_surveyGround_33 rfl ?_
      refine zr_iconst (pc := 35) (v := (0 : Int32)) hC dX11_surveyGround_35 ic_0 ?_
      refine zr_callV (pc := 36) (As := fun ad => [.int y_1, .int (0 : Int32)]) (st1 := []) hC (Nat.le_of_ble_eq_true rfl) (kX10_falls _ is_33 y_1 (0 : Int32) _) (Nat.le_of_ble_eq_true rfl) mc_yX10_falls m_1044 m_480 m_481 mem_33 lay_33 rfl rfl rfl rfl (Nat.le_of_ble_eq_true rfl) dX11_surveyGround_36 (fun y_2 s_2 => ?_)
      refine zr_istore (pc := 39) (ls' := [(5, _), (4, _), (0, _), (1, _), (2, _), (3, _)]) hC dX11_surveyGround_39 (nlt hN (Nat.le_of_ble_eq_true rfl)) rfl ?_
      refine zr_aload_n (pc := 41) (i := 0) 2 hC dX11_surveyGround_41 rfl rfl ?_
      refine zr_getR (pc := 42) (j := 5) (k1 := 32) hC mem_0 lay_0 rfl rfl (Nat.le_of_ble_eq_true rfl) iX11 m_387 dX11_surveyGround_42 ?_
      refine zr_getR (pc := 45) (j := 0) (k1 := 33) hC mem_32 lay_32 rfl rfl (Nat.le_of_ble_eq_true rfl) iX8 m_215 dX11_surveyGround_45 ?_
      refine zr_iload_n (pc := 48) (i := 1) 3 hC dX11_surveyGround_48 rfl rfl ?_
      refine zr_callV (pc := 49) (As := fun ad => [.int c1]) (st1 := []) hC (Nat.le_of_ble_eq_true rfl) (kX10_place _ is_33 c1 _) (Nat.le_of_ble_eq_true rfl) mc_yX10_place m_1017 m_488 m_489 mem_33 lay_33 rfl rfl rfl rfl (Nat.le_of_ble_eq_true rfl) dX11_surveyGround_49 (fun y_3 s_3 => ?_)
      refine zr_iload (pc := 52) 1 hC dX11_surveyGround_52 rfl ?_
      refine zr_icmp_ne (pc := 54) (tgt := 74) hC dX11_surveyGround_54 (by decide) (fun c_ => ?_) (fun c_ => ?_)
      · refine zr_iload (pc := 57) 0 hC dX11_surveyGround_57 rfl ?_
        refine zr_aload_n (pc := 59) (i := 0) 2 hC dX11_surveyGround_59 rfl rfl ?_
        refine zr_getR (pc := 60) (j := 5) (k1 := 32) hC mem_0 lay_0 rfl rfl (Nat.le_of_ble_eq_true rfl) iX11 m_387 dX11_surveyGround_60 ?_
        refine zr_getR (pc := 63) (j := 0) (k1 := 33) hC mem_32 lay_32 rfl rfl (Nat.le_of_ble_eq_true rfl) iX8 m_215 dX11_surveyGround_63 ?_
        refine zr_iload_n (pc := 66) (i := 1) 3 hC dX11_surveyGround_66 rfl rfl ?_
        refine zr_iconst (pc := 67) (v := (0 : Int32)) hC dX11_surveyGround_67 ic_0 ?_
        refine zr_callV (pc := 68) (As := fun ad => [.int c1, .int (0 : Int32)]) (st1 := [.int y_2]) hC (Nat.le_of_ble_eq_true rfl) (kX10_part _ is_33 c1 (0 : Int32) _) (Nat.le_of_ble_eq_true rfl) mc_yX10_part m_1033 m_492 m_493 mem_33 lay_33 rfl rfl rfl rfl (Nat.le_of_ble_eq_true rfl) dX11_surveyGround_68 (fun y_8 s_8 => ?_)
        refine zr_isub (pc := 71) hC dX11_surveyGround_71 ?_
        refine zr_istore (pc := 72) (ls' := [(5, _), (4, _), (0, _), (1, _), (2, _), (3, _)]) hC dX11_surveyGround_72 (nlt hN (Nat.le_of_ble_eq_true rfl)) rfl ?_
        refine zr_sub (ls' := [(0, _), (1, _), (2, _), (3, _), (4, _), (5, _)]) [2, 3, 4, 5, 1, 0] rfl ?_
        exact tX11_surveyGround_J74 c1 c2 v3 y_1 (y_2 - y_8) _ X hC hR hN  ih _
      · refine zr_sub (ls' := [(0, _), (1, _), (2, _), (3, _), (4, _), (5, _)]) [2, 3, 4, 5, 1, 0] rfl ?_
        exact tX11_surveyGround_J74 c1 c2 v3 y_1 y_2 _ X hC hR hN  ih _
def fX11_surveyGround (a1 : Int32) (a2 : Int32) (s : St) : Option (Int32 × St) :=
  fX11_surveyGround_L2 a1 a2 FU (0 : Int32) s
set_option maxRecDepth 100000 in
set_option maxHeartbeats 4000000 in
theorem kX11_surveyGround (l : Launch)  (a1 : Int32) (a2 : Int32) (s : St) : CN l yX11_surveyGround cX11_surveyGround 6 none 4 FULL (fun ad => [.ref (ad 0), .int a1, .int a2]) s (fX11_surveyGround a1 a2 s) := by
  refine cn_of (by decide) (fun _ => (Nat.le_of_ble_eq_true rfl)) (fun X hC hR hl hN => ?_)
  subst hl
  show Zr X (QFN X none) 0 s 0 [(0, .ref (X_ad X 0)), (1, .int a1), (2, .int a2)] [] _
  rw [fX11_surveyGround]
  refine zr_iconst (pc := 0) (v := (0 : Int32)) hC dX11_surveyGround_0 ic_0 ?_
  refine zr_istore_n (pc := 1) (i := 3) (ls' := [(3, _), (0, _), (1, _), (2, _)]) hC dX11_surveyGround_1 rfl (nlt hN (Nat.le_of_ble_eq_true rfl)) rfl ?_
  refine zr_sub (ls' := [(0, _), (1, _), (2, _), (3, _)]) [1, 2, 3, 0] rfl ?_
  exact tX11_surveyGround_L2 a1 a2 X hC hR hN FU (0 : Int32) _
def fX11_gainAt_J18 (v1 : Int32) (v3 : Int32) (s : St) : Option (Int32 × St) :=
  bd (fX10_ripe 33 21 v1 s) (fun y_2 s_2 =>
    if y_2 = 0 then
    (some ((v3 + (5 : Int32)), s_2))
  else
    (some (v3, s_2)))
set_option maxRecDepth 100000 in
set_option maxHeartbeats 4000000 in
theorem tX11_gainAt_J18 (v1 : Int32) (v3 : Int32) (X : KX) (hC : Ctx X RX11 cX11_gainAt FULL 4 0) (hR : RC X (some .int)) (hN : X_nL X = 4) (s : St) : Zr X (QFN X (some .int)) 0 s 18 [(0, .ref (X_ad X 0)), (1, .int v1), (3, .int v3)] [] (fX11_gainAt_J18 v1 v3 s) := by
  rw [fX11_gainAt_J18]
  refine zr_aload_n (pc := 18) (i := 0) 0 hC dX11_gainAt_18 rfl rfl ?_
  refine zr_getR (pc := 19) (j := 5) (k1 := 32) hC mem_0 lay_0 rfl rfl (Nat.le_of_ble_eq_true rfl) iX11 m_387 dX11_gainAt_19 ?_
  refine zr_getR (pc := 22) (j := 0) (k1 := 33) hC mem_32 lay_32 rfl rfl (Nat.le_of_ble_eq_true rfl) iX8 m_215 dX11_gainAt_22 ?_
  refine zr_aload_n (pc := 25) (i := 0) 0 hC dX11_gainAt_25 rfl rfl ?_
  refine zr_getR (pc := 26) (j := 4) (k1 := 21) hC mem_0 lay_0 rfl rfl (Nat.le_of_ble_eq_true rfl) iX11 m_386 dX11_gainAt_26 ?_
  refine zr_iload_n (pc := 29) (i := 1) 1 hC dX11_gainAt_29 rfl rfl ?_
  refine zr_callV (pc := 30) (As := fun ad => [.ref (ad 21), .int v1]) (st1 := []) hC (Nat.le_of_ble_eq_true rfl) (kX10_ripe _ is_33 is_21 v1 _) (Nat.le_of_ble_eq_true rfl) mc_yX10_ripe m_1068 m_504 m_505 mem_33 lay_33 rfl rfl rfl rfl (Nat.le_of_ble_eq_true rfl) dX11_gainAt_30 (fun y_2 s_2 => ?_)
  refine zr_if_eq (pc := 33) (tgt := 40) hC dX11_gainAt_33 (by decide) (fun c_ => ?_) (fun c_ => ?_)
  · refine zr_iload_n (pc := 40) (i := 3) 2 hC dX11_gainAt_40 rfl rfl ?_
    refine zr_iconst (pc := 41) (v := (5 : Int32)) hC dX11_gainAt_41 ic_5 ?_
    refine zr_iadd (pc := 42) hC dX11_gainAt_42 ?_
    exact zr_iret (pc := 43) hC hR dX11_gainAt_43
  · refine zr_iload_n (pc := 36) (i := 3) 2 hC dX11_gainAt_36 rfl rfl ?_
    refine zr_goto (pc := 37) (tgt := 43) hC dX11_gainAt_37 (by decide) ?_
    exact zr_iret (pc := 43) hC hR dX11_gainAt_43
def fX11_gainAt (a1 : Int32) (a2 : Int32) (s : St) : Option (Int32 × St) :=
  bd (fX11_at 68 a1 s) (fun y_1 s_1 =>
    if a1 = a2 then
    (fX11_gainAt_J18 a1 (y_1 / (2 : Int32)) s_1)
  else
    (fX11_gainAt_J18 a1 y_1 s_1))
set_option maxRecDepth 100000 in
set_option maxHeartbeats 4000000 in
theorem kX11_gainAt (l : Launch)  (a1 : Int32) (a2 : Int32) (s : St) : CN l yX11_gainAt cX11_gainAt 4 (some .int) 4 FULL (fun ad => [.ref (ad 0), .int a1, .int a2]) s (fX11_gainAt a1 a2 s) := by
  refine cn_of (by decide) (fun _ => (Nat.le_of_ble_eq_true rfl)) (fun X hC hR hl hN => ?_)
  subst hl
  show Zr X (QFN X (some .int)) 0 s 0 [(0, .ref (X_ad X 0)), (1, .int a1), (2, .int a2)] [] _
  rw [fX11_gainAt]
  refine zr_aload_n (pc := 0) (i := 0) 0 hC dX11_gainAt_0 rfl rfl ?_
  refine zr_getR (pc := 1) (j := 14) (k1 := 68) hC mem_0 lay_0 rfl rfl (Nat.le_of_ble_eq_true rfl) iX11 m_396 dX11_gainAt_1 ?_
  refine zr_iload_n (pc := 4) (i := 1) 1 hC dX11_gainAt_4 rfl rfl ?_
  refine zr_callS (pc := 5) (As := fun ad => [.ref (ad 68), .int a1]) (st1 := []) hC (Nat.le_of_ble_eq_true rfl) (kX11_at _ ar_68 a1 _) (Nat.le_of_ble_eq_true rfl) mc_yX11_at m_990 m_453 rfl rfl rfl (Nat.le_of_ble_eq_true rfl) dX11_gainAt_5 (fun y_1 s_1 => ?_)
  refine zr_istore_n (pc := 8) (i := 3) (ls' := [(3, _), (0, _), (1, _), (2, _)]) hC dX11_gainAt_8 rfl (nlt hN (Nat.le_of_ble_eq_true rfl)) rfl ?_
  refine zr_iload_n (pc := 9) (i := 1) 2 hC dX11_gainAt_9 rfl rfl ?_
  refine zr_iload_n (pc := 10) (i := 2) 3 hC dX11_gainAt_10 rfl rfl ?_
  refine zr_icmp_ne (pc := 11) (tgt := 18) hC dX11_gainAt_11 (by decide) (fun c_ => ?_) (fun c_ => ?_)
  · refine zr_iload_n (pc := 14) (i := 3) 0 hC dX11_gainAt_14 rfl rfl ?_
    refine zr_iconst (pc := 15) (v := (2 : Int32)) hC dX11_gainAt_15 ic_2 ?_
    refine zr_idivL (by decide) (pc := 16) hC dX11_gainAt_16 ?_
    refine zr_istore_n (pc := 17) (i := 3) (ls' := [(3, _), (0, _), (1, _), (2, _)]) hC dX11_gainAt_17 rfl (nlt hN (Nat.le_of_ble_eq_true rfl)) rfl ?_
    refine zr_sub (ls' := [(0, _), (1, _), (3, _)]) [1, 2, 0] rfl ?_
    exact tX11_gainAt_J18 a1 (y_1 / (2 : Int32)) X hC hR hN  _
  · refine zr_sub (ls' := [(0, _), (1, _), (3, _)]) [1, 2, 0] rfl ?_
    exact tX11_gainAt_J18 a1 y_1 X hC hR hN  _
def fX11_contentAt_L10 (c2 : Int32) (c3 : Int32) : Nat → Int32 → St → Option (Int32 × St)
  | 0, _, _ => none
  | n + 1, v4, s =>
    if (s 21 6) ≤ v4 then
    (some ((1 : Int32), s))
  else
    (bd (fX11_gainAt v4 c2 s) (fun y_2 s_2 =>
    if y_2 ≤ c3 then
    (fX11_contentAt_L10 c2 c3 n (v4 + (1 : Int32)) s_2)
  else
    (some ((0 : Int32), s_2))))
set_option maxRecDepth 100000 in
set_option maxHeartbeats 4000000 in
theorem tX11_contentAt_L10 (c2 : Int32) (c3 : Int32) (X : KX) (hC : Ctx X RX11 cX11_contentAt FULL 5 0) (hR : RC X (some .boolean)) (hN : X_nL X = 5) : ∀ (n : Nat) (v4 : Int32) (s : St), Zr X (QFN X (some .boolean)) 0 s 10 [(0, .ref (X_ad X 0)), (2, .int c2), (3, .int c3), (4, .int v4)] [] (fX11_contentAt_L10 c2 c3 n v4 s) := by
  intro n
  induction n with
  | zero =>
    intro v4 s
    exact zr_none
  | succ n ih =>
    intro v4 s
    rw [fX11_contentAt_L10]
    refine zr_iload (pc := 10) 3 hC dX11_contentAt_10 rfl ?_
    refine zr_aload_n (pc := 12) (i := 0) 0 hC dX11_contentAt_12 rfl rfl ?_
    refine zr_getR (pc := 13) (j := 4) (k1 := 21) hC mem_0 lay_0 rfl rfl (Nat.le_of_ble_eq_true rfl) iX11 m_386 dX11_contentAt_13 ?_
    refine zr_getI (pc := 16) (j := 6) hC mem_21 lay_21 rfl rfl (Nat.le_of_ble_eq_true rfl) iX4 m_84 dX11_contentAt_16 ?_
    refine zr_icmp_ge (pc := 19) (tgt := 41) hC dX11_contentAt_19 (by decide) (fun c_ => ?_) (fun c_ => ?_)
    · refine zr_iconst (pc := 41) (v := (1 : Int32)) hC dX11_contentAt_41 ic_1 ?_
      exact zr_zret (pc := 42) (by decide) hC hR dX11_contentAt_42
    · refine zr_aload_n (pc := 22) (i := 0) 0 hC dX11_contentAt_22 rfl rfl ?_
      refine zr_iload (pc := 23) 3 hC dX11_contentAt_23 rfl ?_
      refine zr_iload_n (pc := 25) (i := 2) 1 hC dX11_contentAt_25 rfl rfl ?_
      refine zr_callV (pc := 26) (As := fun ad => [.int v4, .int c2]) (st1 := []) hC (Nat.le_of_ble_eq_true rfl) (kX11_gainAt _ v4 c2 _) (Nat.le_of_ble_eq_true rfl) mc_yX11_gainAt m_1357 m_1359 m_p51 mem_0 lay_0 rfl rfl rfl rfl (Nat.le_of_ble_eq_true rfl) dX11_contentAt_26 (fun y_2 s_2 => ?_)
      refine zr_iload_n (pc := 29) (i := 3) 2 hC dX11_contentAt_29 rfl rfl ?_
      refine zr_icmp_le (pc := 30) (tgt := 35) hC dX11_contentAt_30 (by decide) (fun c_ => ?_) (fun c_ => ?_)
      · refine zr_iinc (pc := 35) (q := 3) (ls' := [(4, _), (0, _), (2, _), (3, _)]) hC dX11_contentAt_35 rfl (inc_1 _) (nlt hN (Nat.le_of_ble_eq_true rfl)) rfl ?_
        refine zr_goto (pc := 38) (tgt := 10) hC dX11_contentAt_38 (by decide) ?_
        refine zr_sub (ls' := [(0, _), (2, _), (3, _), (4, _)]) [1, 2, 3, 0] rfl ?_
        exact ih (v4 + (1 : Int32)) s_2
      · refine zr_iconst (pc := 33) (v := (0 : Int32)) hC dX11_contentAt_33 ic_0 ?_
        exact zr_zret (pc := 34) (by decide) hC hR dX11_contentAt_34
def fX11_contentAt (a1 : Int32) (a2 : Int32) (s : St) : Option (Int32 × St) :=
  bd (fX11_gainAt a1 a2 s) (fun y_1 s_1 =>
    fX11_contentAt_L10 a2 y_1 FU (0 : Int32) s_1)
set_option maxRecDepth 100000 in
set_option maxHeartbeats 4000000 in
theorem kX11_contentAt (l : Launch)  (a1 : Int32) (a2 : Int32) (s : St) : CN l yX11_contentAt cX11_contentAt 5 (some .boolean) 5 FULL (fun ad => [.ref (ad 0), .int a1, .int a2]) s (fX11_contentAt a1 a2 s) := by
  refine cn_of (by decide) (fun _ => (Nat.le_of_ble_eq_true rfl)) (fun X hC hR hl hN => ?_)
  subst hl
  show Zr X (QFN X (some .boolean)) 0 s 0 [(0, .ref (X_ad X 0)), (1, .int a1), (2, .int a2)] [] _
  rw [fX11_contentAt]
  refine zr_aload_n (pc := 0) (i := 0) 0 hC dX11_contentAt_0 rfl rfl ?_
  refine zr_iload_n (pc := 1) (i := 1) 1 hC dX11_contentAt_1 rfl rfl ?_
  refine zr_iload_n (pc := 2) (i := 2) 2 hC dX11_contentAt_2 rfl rfl ?_
  refine zr_callV (pc := 3) (As := fun ad => [.int a1, .int a2]) (st1 := []) hC (Nat.le_of_ble_eq_true rfl) (kX11_gainAt _ a1 a2 _) (Nat.le_of_ble_eq_true rfl) mc_yX11_gainAt m_1357 m_1359 m_p51 mem_0 lay_0 rfl rfl rfl rfl (Nat.le_of_ble_eq_true rfl) dX11_contentAt_3 (fun y_1 s_1 => ?_)
  refine zr_istore_n (pc := 6) (i := 3) (ls' := [(3, _), (0, _), (1, _), (2, _)]) hC dX11_contentAt_6 rfl (nlt hN (Nat.le_of_ble_eq_true rfl)) rfl ?_
  refine zr_iconst (pc := 7) (v := (0 : Int32)) hC dX11_contentAt_7 ic_0 ?_
  refine zr_istore (pc := 8) (ls' := [(4, _), (3, _), (0, _), (1, _), (2, _)]) hC dX11_contentAt_8 (nlt hN (Nat.le_of_ble_eq_true rfl)) rfl ?_
  refine zr_sub (ls' := [(0, _), (2, _), (3, _), (4, _)]) [2, 4, 1, 0] rfl ?_
  exact tX11_contentAt_L10 a2 y_1 X hC hR hN FU (0 : Int32) _
def fX11_suitors_L63 (k127 : Int32 → Int32 → St → Option (RT × St)) (c3 : Int32) (c6 : Int32) : Nat → Int32 → Int32 → Int32 → St → Option (RT × St)
  | 0, _, _, _, _ => none
  | n + 1, v4, v5, v7, s =>
    if (s 21 6) ≤ v7 then
    (k127 v4 v5 s)
  else
    (bd (fX11_contentAt c6 v7 s) (fun y_5 s_5 =>
    if y_5 = 0 then
    (fX11_suitors_L63 k127 c3 c6 n v4 v5 (v7 + (1 : Int32)) s_5)
  else
    (bd (fX11_contentAt v7 c6 s_5) (fun y_6 s_6 =>
    if y_6 = 0 then
    (fX11_suitors_L63 k127 c3 c6 n v4 v5 (v7 + (1 : Int32)) s_6)
  else
    (if v5 = (-1 : Int32) then
    (fX11_suitors_L63 k127 c3 c6 n (v4 + (1 : Int32)) ((c6 * (10 : Int32)) + v7) (v7 + (1 : Int32)) s_6)
  else
    (fX11_suitors_L63 k127 c3 c6 n (v4 + (1 : Int32)) v5 (v7 + (1 : Int32)) s_6))))))
set_option maxRecDepth 100000 in
set_option maxHeartbeats 4000000 in
theorem tX11_suitors_L63 (c3 : Int32) (c6 : Int32) (k127 : Int32 → Int32 → St → Option (RT × St)) (X : KX) (hC : Ctx X RX11 cX11_suitors FULL 8 4) (hR : RX X (some .int)) (hN : X_nL X = 8) (hk127 : ∀ (v4 : Int32) (v5 : Int32) (s : St), Zr X (QFX X (some .int) 4) 3 s 127 [(0, .ref (X_ad X 0)), (3, .int c3), (4, .int v4), (5, .int v5), (6, .int c6)] [] (k127 v4 v5 s)) : ∀ (n : Nat) (v4 : Int32) (v5 : Int32) (v7 : Int32) (s : St), Zr X (QFX X (some .int) 4) 3 s 63 [(0, .ref (X_ad X 0)), (3, .int c3), (4, .int v4), (5, .int v5), (6, .int c6), (7, .int v7)] [] (fX11_suitors_L63 k127 c3 c6 n v4 v5 v7 s) := by
  intro n
  induction n with
  | zero =>
    intro v4 v5 v7 s
    exact zr_none
  | succ n ih =>
    intro v4 v5 v7 s
    rw [fX11_suitors_L63]
    refine zr_iload (pc := 63) 5 hC dX11_suitors_63 rfl ?_
    refine zr_aload_n (pc := 65) (i := 0) 0 hC dX11_suitors_65 rfl rfl ?_
    refine zr_getR (pc := 66) (j := 4) (k1 := 21) hC mem_0 lay_0 rfl rfl (Nat.le_of_ble_eq_true rfl) iX11 m_386 dX11_suitors_66 ?_
    refine zr_getI (pc := 69) (j := 6) hC mem_21 lay_21 rfl rfl (Nat.le_of_ble_eq_true rfl) iX4 m_84 dX11_suitors_69 ?_
    refine zr_icmp_ge (pc := 72) (tgt := 127) hC dX11_suitors_72 (by decide) (fun c_ => ?_) (fun c_ => ?_)
    · refine zr_sub (ls' := [(0, _), (3, _), (4, _), (5, _), (6, _)]) [0, 1, 2, 3, 4] rfl ?_
      exact hk127 v4 v5 s
    · refine zr_aload_n (pc := 75) (i := 0) 0 hC dX11_suitors_75 rfl rfl ?_
      refine zr_iload (pc := 76) 4 hC dX11_suitors_76 rfl ?_
      refine zr_iload (pc := 78) 5 hC dX11_suitors_78 rfl ?_
      refine zr_callV (pc := 80) (As := fun ad => [.int c6, .int v7]) (st1 := []) hC (Nat.le_of_ble_eq_true rfl) (kX11_contentAt _ c6 v7 _) (Nat.le_of_ble_eq_true rfl) mc_yX11_contentAt m_1353 m_1355 m_p50 mem_0 lay_0 rfl rfl rfl rfl (Nat.le_of_ble_eq_true rfl) dX11_suitors_80 (fun y_5 s_5 => ?_)
      refine zr_if_eq (pc := 83) (tgt := 121) hC dX11_suitors_83 (by decide) (fun c_ => ?_) (fun c_ => ?_)
      · refine zr_iinc (pc := 121) (q := 5) (ls' := [(7, _), (0, _), (3, _), (4, _), (5, _), (6, _)]) hC dX11_suitors_121 rfl (inc_1 _) (nlt hN (Nat.le_of_ble_eq_true rfl)) rfl ?_
        refine zr_goto (pc := 124) (tgt := 63) hC dX11_suitors_124 (by decide) ?_
        refine zr_sub (ls' := [(0, _), (3, _), (4, _), (5, _), (6, _), (7, _)]) [1, 2, 3, 4, 5, 0] rfl ?_
        exact ih v4 v5 (v7 + (1 : Int32)) s_5
      · refine zr_aload_n (pc := 86) (i := 0) 0 hC dX11_suitors_86 rfl rfl ?_
        refine zr_iload (pc := 87) 5 hC dX11_suitors_87 rfl ?_
        refine zr_iload (pc := 89) 4 hC dX11_suitors_89 rfl ?_
        refine zr_callV (pc := 91) (As := fun ad => [.int v7, .int c6]) (st1 := []) hC (Nat.le_of_ble_eq_true rfl) (kX11_contentAt _ v7 c6 _) (Nat.le_of_ble_eq_true rfl) mc_yX11_contentAt m_1353 m_1355 m_p50 mem_0 lay_0 rfl rfl rfl rfl (Nat.le_of_ble_eq_true rfl) dX11_suitors_91 (fun y_6 s_6 => ?_)
        refine zr_if_eq (pc := 94) (tgt := 121) hC dX11_suitors_94 (by decide) (fun c_ => ?_) (fun c_ => ?_)
        · refine zr_iinc (pc := 121) (q := 5) (ls' := [(7, _), (0, _), (3, _), (4, _), (5, _), (6, _)]) hC dX11_suitors_121 rfl (inc_1 _) (nlt hN (Nat.le_of_ble_eq_true rfl)) rfl ?_
          refine zr_goto (pc := 124) (tgt := 63) hC dX11_suitors_124 (by decide) ?_
          refine zr_sub (ls' := [(0, _), (3, _), (4, _), (5, _), (6, _), (7, _)]) [1, 2, 3, 4, 5, 0] rfl ?_
          exact ih v4 v5 (v7 + (1 : Int32)) s_6
        · refine zr_iinc (pc := 97) (q := 2) (ls' := [(4, _), (0, _), (3, _), (5, _), (6, _), (7, _)]) hC dX11_suitors_97 rfl (inc_1 _) (nlt hN (Nat.le_of_ble_eq_true rfl)) rfl ?_
          refine zr_iload (pc := 100) 3 hC dX11_suitors_100 rfl ?_
          refine zr_iconst (pc := 102) (v := (-1 : Int32)) hC dX11_suitors_102 ic_m1 ?_
          refine zr_icmp_ne (pc := 103) (tgt := 117) hC dX11_suitors_103 (by decide) (fun c_ => ?_) (fun c_ => ?_)
          · refine zr_iload (pc := 106) 4 hC dX11_suitors_106 rfl ?_
            refine zr_bipush (pc := 108) (v := (10 : Int32)) hC dX11_suitors_108 bi_10 ?_
            refine zr_imul (pc := 110) hC dX11_suitors_110 ?_
            refine zr_iload (pc := 111) 5 hC dX11_suitors_111 rfl ?_
            refine zr_iadd (pc := 113) hC dX11_suitors_113 ?_
            refine zr_goto (pc := 114) (tgt := 119) hC dX11_suitors_114 (by decide) ?_
            refine zr_istore (pc := 119) (ls' := [(5, _), (4, _), (0, _), (3, _), (6, _), (7, _)]) hC dX11_suitors_119 (nlt hN (Nat.le_of_ble_eq_true rfl)) rfl ?_
            refine zr_iinc (pc := 121) (q := 5) (ls' := [(7, _), (5, _), (4, _), (0, _), (3, _), (6, _)]) hC dX11_suitors_121 rfl (inc_1 _) (nlt hN (Nat.le_of_ble_eq_true rfl)) rfl ?_
            refine zr_goto (pc := 124) (tgt := 63) hC dX11_suitors_124 (by decide) ?_
            refine zr_sub (ls' := [(0, _), (3, _), (4, _), (5, _), (6, _), (7, _)]) [3, 4, 2, 1, 5, 0] rfl ?_
            exact ih (v4 + (1 : Int32)) ((c6 * (10 : Int32)) + v7) (v7 + (1 : Int32)) s_6
          · refine zr_iload (pc := 117) 3 hC dX11_suitors_117 rfl ?_
            refine zr_istore (pc := 119) (ls' := [(5, _), (4, _), (0, _), (3, _), (6, _), (7, _)]) hC dX11_suitors_119 (nlt hN (Nat.le_of_ble_eq_true rfl)) rfl ?_
            refine zr_iinc (pc := 121) (q := 5) (ls' := [(7, _), (5, _), (4, _), (0, _), (3, _), (6, _)]) hC dX11_suitors_121 rfl (inc_1 _) (nlt hN (Nat.le_of_ble_eq_true rfl)) rfl ?_
            refine zr_goto (pc := 124) (tgt := 63) hC dX11_suitors_124 (by decide) ?_
            refine zr_sub (ls' := [(0, _), (3, _), (4, _), (5, _), (6, _), (7, _)]) [3, 4, 2, 1, 5, 0] rfl ?_
            exact ih (v4 + (1 : Int32)) v5 (v7 + (1 : Int32)) s_6
def fX11_suitors_L48 (k133 : Int32 → Int32 → St → Option (RT × St)) (c3 : Int32) : Nat → Int32 → Int32 → Int32 → St → Option (RT × St)
  | 0, _, _, _, _ => none
  | n + 1, v4, v5, v6, s =>
    if (s 21 6) ≤ v6 then
    (k133 v4 v5 s)
  else
    (fX11_suitors_L63 (fun v4_7 v5_7 s_7 => fX11_suitors_L48 k133 c3 n v4_7 v5_7 (v6 + (1 : Int32)) s_7) c3 v6 FU v4 v5 (0 : Int32) s)
set_option maxRecDepth 100000 in
set_option maxHeartbeats 4000000 in
theorem tX11_suitors_L48 (c3 : Int32) (k133 : Int32 → Int32 → St → Option (RT × St)) (X : KX) (hC : Ctx X RX11 cX11_suitors FULL 8 4) (hR : RX X (some .int)) (hN : X_nL X = 8) (hk133 : ∀ (v4 : Int32) (v5 : Int32) (s : St), Zr X (QFX X (some .int) 4) 3 s 133 [(3, .int c3), (4, .int v4), (5, .int v5)] [] (k133 v4 v5 s)) : ∀ (n : Nat) (v4 : Int32) (v5 : Int32) (v6 : Int32) (s : St), Zr X (QFX X (some .int) 4) 3 s 48 [(0, .ref (X_ad X 0)), (3, .int c3), (4, .int v4), (5, .int v5), (6, .int v6)] [] (fX11_suitors_L48 k133 c3 n v4 v5 v6 s) := by
  intro n
  induction n with
  | zero =>
    intro v4 v5 v6 s
    exact zr_none
  | succ n ih =>
    intro v4 v5 v6 s
    rw [fX11_suitors_L48]
    refine zr_iload (pc := 48) 4 hC dX11_suitors_48 rfl ?_
    refine zr_aload_n (pc := 50) (i := 0) 0 hC dX11_suitors_50 rfl rfl ?_
    refine zr_getR (pc := 51) (j := 4) (k1 := 21) hC mem_0 lay_0 rfl rfl (Nat.le_of_ble_eq_true rfl) iX11 m_386 dX11_suitors_51 ?_
    refine zr_getI (pc := 54) (j := 6) hC mem_21 lay_21 rfl rfl (Nat.le_of_ble_eq_true rfl) iX4 m_84 dX11_suitors_54 ?_
    refine zr_icmp_ge (pc := 57) (tgt := 133) hC dX11_suitors_57 (by decide) (fun c_ => ?_) (fun c_ => ?_)
    · refine zr_sub (ls' := [(3, _), (4, _), (5, _)]) [1, 2, 3] rfl ?_
      exact hk133 v4 v5 s
    · refine zr_iconst (pc := 60) (v := (0 : Int32)) hC dX11_suitors_60 ic_0 ?_
      refine zr_istore (pc := 61) (ls' := [(7, _), (0, _), (3, _), (4, _), (5, _), (6, _)]) hC dX11_suitors_61 (nlt hN (Nat.le_of_ble_eq_true rfl)) rfl ?_
      refine zr_sub (ls' := [(0, _), (3, _), (4, _), (5, _), (6, _), (7, _)]) [1, 2, 3, 4, 5, 0] rfl ?_
      refine tX11_suitors_L63 c3 v6 _ X hC hR hN (fun v4_7 v5_7 s_7 => ?_) FU v4 v5 (0 : Int32) _
      · refine zr_iinc (pc := 127) (q := 4) (ls' := [(6, _), (0, _), (3, _), (4, _), (5, _)]) hC dX11_suitors_127 rfl (inc_1 _) (nlt hN (Nat.le_of_ble_eq_true rfl)) rfl ?_
        refine zr_goto (pc := 130) (tgt := 48) hC dX11_suitors_130 (by decide) ?_
        refine zr_sub (ls' := [(0, _), (3, _), (4, _), (5, _), (6, _)]) [1, 2, 3, 4, 0] rfl ?_
        exact ih v4_7 v5_7 (v6 + (1 : Int32)) s_7
def fX11_suitors (a1 : Int32) (a2 : Int32) (a3 : Int32) (s : St) : Option (RT × St) :=
  bx (fX11_needPerson a1 s) (fun y_1 s_1 =>
    bx (fX11_needPerson a2 s_1) (fun y_2 s_2 =>
    if a3 < 0 then
    (some (.inr 0, s_2))
  else
    (if a3 ≤ (1 : Int32) then
    (bx (fX11_needTwoAlive a1 a2 s_2) (fun y_3 s_3 =>
    bd (fX11_surveyGround a1 a2 s_3) (fun y_4 s_4 =>
    fX11_suitors_L48 (fun v4_8 v5_8 s_8 => if a3 = 0 then
    (some (.inl v4_8, s_8))
  else
    (some (.inl v5_8, s_8))) a3 FU (0 : Int32) (-1 : Int32) (0 : Int32) s_4)))
  else
    (some (.inr 0, s_2)))))
set_option maxRecDepth 100000 in
set_option maxHeartbeats 4000000 in
theorem kX11_suitors (l : Launch) (hst : l.stackTraces = false)  (a1 : Int32) (a2 : Int32) (a3 : Int32) (s : St) : CX l yX11_suitors cX11_suitors 8 (some .int) 8 4 FULL (fun ad => [.ref (ad 0), .int a1, .int a2, .int a3]) s (fX11_suitors a1 a2 a3 s) := by
  refine cx_of hst (by decide) (fun _ => (Nat.le_of_ble_eq_true rfl)) (fun X hC hR hl hN => ?_)
  subst hl
  show Zr X (QFX X (some .int) 4) 0 s 0 [(0, .ref (X_ad X 0)), (1, .int a1), (2, .int a2), (3, .int a3)] [] _
  rw [fX11_suitors]
  refine zr_aload_n (pc := 0) (i := 0) 0 hC dX11_suitors_0 rfl rfl ?_
  refine zr_iload_n (pc := 1) (i := 1) 1 hC dX11_suitors_1 rfl rfl ?_
  refine zx_callV (pc := 2) (As := fun ad => [.int a1]) (st1 := []) hC hR (Nat.le_of_ble_eq_true rfl) (kX11_needPerson _ hR.2.2 a1 _) (Nat.le_of_ble_eq_true rfl) mc_yX11_needPerson m_1013 m_1015 m_p35 mem_0 lay_0 rfl rfl rfl rfl (Nat.le_of_ble_eq_true rfl) dX11_suitors_2 (fun y_1 s_1 => ?_)
  show Zr X (QFX X (some .int) 4) 1 s_1 5 _ [] _
  refine zr_aload_n (pc := 5) (i := 0) 0 hC dX11_suitors_5 rfl rfl ?_
  refine zr_iload_n (pc := 6) (i := 2) 2 hC dX11_suitors_6 rfl rfl ?_
  refine zx_callV (pc := 7) (As := fun ad => [.int a2]) (st1 := []) hC hR (Nat.le_of_ble_eq_true rfl) (kX11_needPerson _ hR.2.2 a2 _) (Nat.le_of_ble_eq_true rfl) mc_yX11_needPerson m_1013 m_1015 m_p35 mem_0 lay_0 rfl rfl rfl rfl (Nat.le_of_ble_eq_true rfl) dX11_suitors_7 (fun y_2 s_2 => ?_)
  show Zr X (QFX X (some .int) 4) 2 s_2 10 _ [] _
  refine zr_iload_n (pc := 10) (i := 3) 3 hC dX11_suitors_10 rfl rfl ?_
  refine zr_if_lt (pc := 11) (tgt := 19) hC dX11_suitors_11 (by decide) (fun c_ => ?_) (fun c_ => ?_)
  · exact zx_thr0 (pc := 19) hC (Nat.le_of_ble_eq_true rfl) hR (Nat.le_of_ble_eq_true rfl) (Nat.le_of_ble_eq_true rfl) dX11_suitors_19 dX11_suitors_22 dX11_suitors_23 dX11_suitors_26
  · refine zr_iload_n (pc := 14) (i := 3) 3 hC dX11_suitors_14 rfl rfl ?_
    refine zr_iconst (pc := 15) (v := (1 : Int32)) hC dX11_suitors_15 ic_1 ?_
    refine zr_icmp_le (pc := 16) (tgt := 27) hC dX11_suitors_16 (by decide) (fun c_ => ?_) (fun c_ => ?_)
    · refine zr_aload_n (pc := 27) (i := 0) 0 hC dX11_suitors_27 rfl rfl ?_
      refine zr_iload_n (pc := 28) (i := 1) 1 hC dX11_suitors_28 rfl rfl ?_
      refine zr_iload_n (pc := 29) (i := 2) 2 hC dX11_suitors_29 rfl rfl ?_
      refine zx_callV (pc := 30) (As := fun ad => [.int a1, .int a2]) (st1 := []) hC hR (Nat.le_of_ble_eq_true rfl) (kX11_needTwoAlive _ hR.2.2 a1 a2 _) (Nat.le_of_ble_eq_true rfl) mc_yX11_needTwoAlive m_1076 m_1078 m_p36 mem_0 lay_0 rfl rfl rfl rfl (Nat.le_of_ble_eq_true rfl) dX11_suitors_30 (fun y_3 s_3 => ?_)
      show Zr X (QFX X (some .int) 4) 3 s_3 33 _ [] _
      refine zr_aload_n (pc := 33) (i := 0) 0 hC dX11_suitors_33 rfl rfl ?_
      refine zr_iload_n (pc := 34) (i := 1) 1 hC dX11_suitors_34 rfl rfl ?_
      refine zr_iload_n (pc := 35) (i := 2) 2 hC dX11_suitors_35 rfl rfl ?_
      refine zr_callVv (pc := 36) (As := fun ad => [.int a1, .int a2]) (st1 := []) hC (Nat.le_of_ble_eq_true rfl) (kX11_surveyGround _ a1 a2 _) (Nat.le_of_ble_eq_true rfl) mc_yX11_surveyGround m_1349 m_1351 m_p49 mem_0 lay_0 rfl rfl rfl rfl (Nat.le_of_ble_eq_true rfl) dX11_suitors_36 (fun y_4 s_4 => ?_)
      refine zr_iconst (pc := 39) (v := (0 : Int32)) hC dX11_suitors_39 ic_0 ?_
      refine zr_istore (pc := 40) (ls' := [(4, _), (0, _), (1, _), (2, _), (3, _)]) hC dX11_suitors_40 (nlt hN (Nat.le_of_ble_eq_true rfl)) rfl ?_
      refine zr_iconst (pc := 42) (v := (-1 : Int32)) hC dX11_suitors_42 ic_m1 ?_
      refine zr_istore (pc := 43) (ls' := [(5, _), (4, _), (0, _), (1, _), (2, _), (3, _)]) hC dX11_suitors_43 (nlt hN (Nat.le_of_ble_eq_true rfl)) rfl ?_
      refine zr_iconst (pc := 45) (v := (0 : Int32)) hC dX11_suitors_45 ic_0 ?_
      refine zr_istore (pc := 46) (ls' := [(6, _), (5, _), (4, _), (0, _), (1, _), (2, _), (3, _)]) hC dX11_suitors_46 (nlt hN (Nat.le_of_ble_eq_true rfl)) rfl ?_
      refine zr_sub (ls' := [(0, _), (3, _), (4, _), (5, _), (6, _)]) [3, 6, 2, 1, 0] rfl ?_
      refine tX11_suitors_L48 a3 _ X hC hR hN (fun v4_8 v5_8 s_8 => ?_) FU (0 : Int32) (-1 : Int32) (0 : Int32) _
      · refine zr_iload_n (pc := 133) (i := 3) 0 hC dX11_suitors_133 rfl rfl ?_
        refine zr_if_ne (pc := 134) (tgt := 142) hC dX11_suitors_134 (by decide) (fun c_ => ?_) (fun c_ => ?_)
        · refine zr_iload (pc := 137) 1 hC dX11_suitors_137 rfl ?_
          refine zr_goto (pc := 139) (tgt := 144) hC dX11_suitors_139 (by decide) ?_
          exact zx_iret (pc := 144) hC (Nat.le_of_ble_eq_true rfl) hR dX11_suitors_144
        · refine zr_iload (pc := 142) 2 hC dX11_suitors_142 rfl ?_
          exact zx_iret (pc := 144) hC (Nat.le_of_ble_eq_true rfl) hR dX11_suitors_144
    · exact zx_thr0 (pc := 19) hC (Nat.le_of_ble_eq_true rfl) hR (Nat.le_of_ble_eq_true rfl) (Nat.le_of_ble_eq_true rfl) dX11_suitors_19 dX11_suitors_22 dX11_suitors_23 dX11_suitors_26
def fX11_nextSeed (a0 : Int32) (s : St) : Option (Int32 × St) :=
  some (((a0 * (1103515245 : Int32)) + (12345 : Int32)), s)
set_option maxRecDepth 100000 in
set_option maxHeartbeats 4000000 in
theorem kX11_nextSeed (l : Launch)  (a0 : Int32) (s : St) : CN l yX11_nextSeed cX11_nextSeed 1 (some .int) 1 FULL (fun ad => [.int a0]) s (fX11_nextSeed a0 s) := by
  refine cn_of (by decide) (fun _ => (Nat.le_of_ble_eq_true rfl)) (fun X hC hR hl hN => ?_)
  subst hl
  show Zr X (QFN X (some .int)) 0 s 0 [(0, .int a0)] [] _
  rw [fX11_nextSeed]
  refine zr_iload_n (pc := 0) (i := 0) 0 hC dX11_nextSeed_0 rfl rfl ?_
  refine zr_ldcw (pc := 1) hC dX11_nextSeed_1 m_1376 ?_
  refine zr_imul (pc := 4) hC dX11_nextSeed_4 ?_
  refine zr_sipush (pc := 5) (v := (12345 : Int32)) hC dX11_nextSeed_5 si_12345 ?_
  refine zr_iadd (pc := 8) hC dX11_nextSeed_8 ?_
  exact zr_iret (pc := 9) hC hR dX11_nextSeed_9
def fX11_draw (a0 : Int32) (a1 : Int32) (s : St) : Option (Int32 × St) :=
  if (1 : Int32) ≤ a1 then
    (if a1 = 0 then none else
    some ((jrem ((jushr a0 (16 : Int32)) &&& (32767 : Int32)) a1), s))
  else
    (some ((0 : Int32), s))
set_option maxRecDepth 100000 in
set_option maxHeartbeats 4000000 in
theorem kX11_draw (l : Launch)  (a0 : Int32) (a1 : Int32) (s : St) : CN l yX11_draw cX11_draw 2 (some .int) 1 FULL (fun ad => [.int a0, .int a1]) s (fX11_draw a0 a1 s) := by
  refine cn_of (by decide) (fun _ => (Nat.le_of_ble_eq_true rfl)) (fun X hC hR hl hN => ?_)
  subst hl
  show Zr X (QFN X (some .int)) 0 s 0 [(0, .int a0), (1, .int a1)] [] _
  rw [fX11_draw]
  refine zr_iload_n (pc := 0) (i := 1) 1 hC dX11_draw_0 rfl rfl ?_
  refine zr_iconst (pc := 1) (v := (1 : Int32)) hC dX11_draw_1 ic_1 ?_
  refine zr_icmp_ge (pc := 2) (tgt := 9) hC dX11_draw_2 (by decide) (fun c_ => ?_) (fun c_ => ?_)
  · refine zr_iload_n (pc := 9) (i := 0) 0 hC dX11_draw_9 rfl rfl ?_
    refine zr_bipush (pc := 10) (v := (16 : Int32)) hC dX11_draw_10 bi_16 ?_
    refine zr_iushr (pc := 12) hC dX11_draw_12 ?_
    refine zr_sipush (pc := 13) (v := (32767 : Int32)) hC dX11_draw_13 si_32767 ?_
    refine zr_iand (pc := 16) hC dX11_draw_16 ?_
    refine zr_iload_n (pc := 17) (i := 1) 1 hC dX11_draw_17 rfl rfl ?_
    refine zr_irem (pc := 18) hC dX11_draw_18 ?_
    exact zr_iret (pc := 19) hC hR dX11_draw_19
  · refine zr_iconst (pc := 5) (v := (0 : Int32)) hC dX11_draw_5 ic_0 ?_
    refine zr_goto (pc := 6) (tgt := 19) hC dX11_draw_6 (by decide) ?_
    exact zr_iret (pc := 19) hC hR dX11_draw_19
def fX11_passFate (a1 : Int32) (s : St) : Option (Int32 × St) :=
  if (1 : Int32) ≤ (s 21 0) then
    (bd (fX11_nextSeed a1 s) (fun y_1 s_1 =>
    bd (fX11_draw y_1 (s_1 21 0) s_1) (fun y_2 s_2 =>
    bd (fX11_nextSeed y_1 s_2) (fun y_3 s_3 =>
    bd (fX11_draw y_3 (10 : Int32) s_3) (fun y_4 s_4 =>
    bd (fX10_alive 46 y_2 s_4) (fun y_5 s_5 =>
    if y_5 = 0 then
    (some (y_3, s_5))
  else
    (bd (fX10_setPlace 46 y_2 y_4 s_5) (fun y_6 s_6 =>
    bd (fX11_nextSeed y_3 s_6) (fun y_7 s_7 =>
    bd (fX11_draw y_7 (4 : Int32) s_7) (fun y_8 s_8 =>
    if y_8 = 0 then
    (bd (fX11_bury 46 y_2 s_8) (fun y_9 s_9 =>
    some (y_7, s_9)))
  else
    (some (y_7, s_8))))))))))))
  else
    (some (a1, s))
set_option maxRecDepth 100000 in
set_option maxHeartbeats 4000000 in
theorem kX11_passFate (l : Launch)  (a1 : Int32) (s : St) : CN l yX11_passFate cX11_passFate 5 (some .int) 10 FULL (fun ad => [.ref (ad 0), .int a1]) s (fX11_passFate a1 s) := by
  refine cn_of (by decide) (fun _ => (Nat.le_of_ble_eq_true rfl)) (fun X hC hR hl hN => ?_)
  subst hl
  show Zr X (QFN X (some .int)) 0 s 0 [(0, .ref (X_ad X 0)), (1, .int a1)] [] _
  rw [fX11_passFate]
  refine zr_aload_n (pc := 0) (i := 0) 0 hC dX11_passFate_0 rfl rfl ?_
  refine zr_getR (pc := 1) (j := 4) (k1 := 21) hC mem_0 lay_0 rfl rfl (Nat.le_of_ble_eq_true rfl) iX11 m_386 dX11_passFate_1 ?_
  refine zr_getI (pc := 4) (j := 0) hC mem_21 lay_21 rfl rfl (Nat.le_of_ble_eq_true rfl) iX4 m_70 dX11_passFate_4 ?_
  refine zr_iconst (pc := 7) (v := (1 : Int32)) hC dX11_passFate_7 ic_1 ?_
  refine zr_icmp_ge (pc := 8) (tgt := 13) hC dX11_passFate_8 (by decide) (fun c_ => ?_) (fun c_ => ?_)
  · refine zr_iload_n (pc := 13) (i := 1) 1 hC dX11_passFate_13 rfl rfl ?_
    refine zr_callS (pc := 14) (As := fun ad => [.int a1]) (st1 := []) hC (Nat.le_of_ble_eq_true rfl) (kX11_nextSeed _ a1 _) (Nat.le_of_ble_eq_true rfl) mc_yX11_nextSeed m_1373 m_1374 rfl rfl rfl (Nat.le_of_ble_eq_true rfl) dX11_passFate_14 (fun y_1 s_1 => ?_)
    refine zr_istore_n (pc := 17) (i := 2) (ls' := [(2, _), (0, _), (1, _)]) hC dX11_passFate_17 rfl (nlt hN (Nat.le_of_ble_eq_true rfl)) rfl ?_
    refine zr_iload_n (pc := 18) (i := 2) 0 hC dX11_passFate_18 rfl rfl ?_
    refine zr_aload_n (pc := 19) (i := 0) 1 hC dX11_passFate_19 rfl rfl ?_
    refine zr_getR (pc := 20) (j := 4) (k1 := 21) hC mem_0 lay_0 rfl rfl (Nat.le_of_ble_eq_true rfl) iX11 m_386 dX11_passFate_20 ?_
    refine zr_getI (pc := 23) (j := 0) hC mem_21 lay_21 rfl rfl (Nat.le_of_ble_eq_true rfl) iX4 m_70 dX11_passFate_23 ?_
    refine zr_callS (pc := 26) (As := fun ad => [.int y_1, .int (s_1 21 0)]) (st1 := []) hC (Nat.le_of_ble_eq_true rfl) (kX11_draw _ y_1 (s_1 21 0) _) (Nat.le_of_ble_eq_true rfl) mc_yX11_draw m_1377 m_1378 rfl rfl rfl (Nat.le_of_ble_eq_true rfl) dX11_passFate_26 (fun y_2 s_2 => ?_)
    refine zr_istore_n (pc := 29) (i := 3) (ls' := [(3, _), (2, _), (0, _), (1, _)]) hC dX11_passFate_29 rfl (nlt hN (Nat.le_of_ble_eq_true rfl)) rfl ?_
    refine zr_iload_n (pc := 30) (i := 2) 1 hC dX11_passFate_30 rfl rfl ?_
    refine zr_callS (pc := 31) (As := fun ad => [.int y_1]) (st1 := []) hC (Nat.le_of_ble_eq_true rfl) (kX11_nextSeed _ y_1 _) (Nat.le_of_ble_eq_true rfl) mc_yX11_nextSeed m_1373 m_1374 rfl rfl rfl (Nat.le_of_ble_eq_true rfl) dX11_passFate_31 (fun y_3 s_3 => ?_)
    refine zr_istore_n (pc := 34) (i := 2) (ls' := [(2, _), (3, _), (0, _), (1, _)]) hC dX11_passFate_34 rfl (nlt hN (Nat.le_of_ble_eq_true rfl)) rfl ?_
    refine zr_iload_n (pc := 35) (i := 2) 0 hC dX11_passFate_35 rfl rfl ?_
    refine zr_bipush (pc := 36) (v := (10 : Int32)) hC dX11_passFate_36 bi_10 ?_
    refine zr_callS (pc := 38) (As := fun ad => [.int y_3, .int (10 : Int32)]) (st1 := []) hC (Nat.le_of_ble_eq_true rfl) (kX11_draw _ y_3 (10 : Int32) _) (Nat.le_of_ble_eq_true rfl) mc_yX11_draw m_1377 m_1378 rfl rfl rfl (Nat.le_of_ble_eq_true rfl) dX11_passFate_38 (fun y_4 s_4 => ?_)
    refine zr_istore (pc := 41) (ls' := [(4, _), (2, _), (3, _), (0, _), (1, _)]) hC dX11_passFate_41 (nlt hN (Nat.le_of_ble_eq_true rfl)) rfl ?_
    refine zr_aload_n (pc := 43) (i := 0) 3 hC dX11_passFate_43 rfl rfl ?_
    refine zr_getR (pc := 44) (j := 8) (k1 := 46) hC mem_0 lay_0 rfl rfl (Nat.le_of_ble_eq_true rfl) iX11 m_390 dX11_passFate_44 ?_
    refine zr_iload_n (pc := 47) (i := 3) 2 hC dX11_passFate_47 rfl rfl ?_
    refine zr_callV (pc := 48) (As := fun ad => [.int y_2]) (st1 := []) hC (Nat.le_of_ble_eq_true rfl) (kX10_alive _ is_46 y_2 _) (Nat.le_of_ble_eq_true rfl) mc_yX10_alive m_523 m_524 m_525 mem_46 lay_46 rfl rfl rfl rfl (Nat.le_of_ble_eq_true rfl) dX11_passFate_48 (fun y_5 s_5 => ?_)
    refine zr_if_ne (pc := 51) (tgt := 56) hC dX11_passFate_51 (by decide) (fun c_ => ?_) (fun c_ => ?_)
    · refine zr_iload_n (pc := 54) (i := 2) 1 hC dX11_passFate_54 rfl rfl ?_
      exact zr_iret (pc := 55) hC hR dX11_passFate_55
    · refine zr_aload_n (pc := 56) (i := 0) 3 hC dX11_passFate_56 rfl rfl ?_
      refine zr_getR (pc := 57) (j := 8) (k1 := 46) hC mem_0 lay_0 rfl rfl (Nat.le_of_ble_eq_true rfl) iX11 m_390 dX11_passFate_57 ?_
      refine zr_iload_n (pc := 60) (i := 3) 2 hC dX11_passFate_60 rfl rfl ?_
      refine zr_iload (pc := 61) 0 hC dX11_passFate_61 rfl ?_
      refine zr_callVv (pc := 63) (As := fun ad => [.int y_2, .int y_4]) (st1 := []) hC (Nat.le_of_ble_eq_true rfl) (kX10_setPlace _ is_46 y_2 y_4 _) (Nat.le_of_ble_eq_true rfl) mc_yX10_setPlace m_1107 m_850 m_851 mem_46 lay_46 rfl rfl rfl rfl (Nat.le_of_ble_eq_true rfl) dX11_passFate_63 (fun y_6 s_6 => ?_)
      refine zr_iload_n (pc := 66) (i := 2) 1 hC dX11_passFate_66 rfl rfl ?_
      refine zr_callS (pc := 67) (As := fun ad => [.int y_3]) (st1 := []) hC (Nat.le_of_ble_eq_true rfl) (kX11_nextSeed _ y_3 _) (Nat.le_of_ble_eq_true rfl) mc_yX11_nextSeed m_1373 m_1374 rfl rfl rfl (Nat.le_of_ble_eq_true rfl) dX11_passFate_67 (fun y_7 s_7 => ?_)
      refine zr_istore_n (pc := 70) (i := 2) (ls' := [(2, _), (4, _), (3, _), (0, _), (1, _)]) hC dX11_passFate_70 rfl (nlt hN (Nat.le_of_ble_eq_true rfl)) rfl ?_
      refine zr_iload_n (pc := 71) (i := 2) 0 hC dX11_passFate_71 rfl rfl ?_
      refine zr_iconst (pc := 72) (v := (4 : Int32)) hC dX11_passFate_72 ic_4 ?_
      refine zr_callS (pc := 73) (As := fun ad => [.int y_7, .int (4 : Int32)]) (st1 := []) hC (Nat.le_of_ble_eq_true rfl) (kX11_draw _ y_7 (4 : Int32) _) (Nat.le_of_ble_eq_true rfl) mc_yX11_draw m_1377 m_1378 rfl rfl rfl (Nat.le_of_ble_eq_true rfl) dX11_passFate_73 (fun y_8 s_8 => ?_)
      refine zr_if_ne (pc := 76) (tgt := 89) hC dX11_passFate_76 (by decide) (fun c_ => ?_) (fun c_ => ?_)
      · refine zr_aload_n (pc := 79) (i := 0) 3 hC dX11_passFate_79 rfl rfl ?_
        refine zr_aload_n (pc := 80) (i := 0) 3 hC dX11_passFate_80 rfl rfl ?_
        refine zr_getR (pc := 81) (j := 8) (k1 := 46) hC mem_0 lay_0 rfl rfl (Nat.le_of_ble_eq_true rfl) iX11 m_390 dX11_passFate_81 ?_
        refine zr_iload_n (pc := 84) (i := 3) 2 hC dX11_passFate_84 rfl rfl ?_
        refine zr_callV (pc := 85) (As := fun ad => [.ref (ad 46), .int y_2]) (st1 := []) hC (Nat.le_of_ble_eq_true rfl) (kX11_bury _ is_46 y_2 _) (Nat.le_of_ble_eq_true rfl) mc_yX11_bury m_1132 m_1134 m_p39 mem_0 lay_0 rfl rfl rfl rfl (Nat.le_of_ble_eq_true rfl) dX11_passFate_85 (fun y_9 s_9 => ?_)
        refine zr_pop (pc := 88) hC dX11_passFate_88 rfl ?_
        refine zr_iload_n (pc := 89) (i := 2) 0 hC dX11_passFate_89 rfl rfl ?_
        exact zr_iret (pc := 90) hC hR dX11_passFate_90
      · refine zr_iload_n (pc := 89) (i := 2) 0 hC dX11_passFate_89 rfl rfl ?_
        exact zr_iret (pc := 90) hC hR dX11_passFate_90
  · refine zr_iload_n (pc := 11) (i := 1) 1 hC dX11_passFate_11 rfl rfl ?_
    exact zr_iret (pc := 12) hC hR dX11_passFate_12
def fX11_century_L55 (k87 : St → Option (RT × St)) (c2 : Int32) (c3 : Int32) : Nat → Int32 → Int32 → St → Option (RT × St)
  | 0, _, _, _ => none
  | n + 1, v4, v5, s =>
    if c2 ≤ v5 then
    (k87 s)
  else
    (bd (fX11_passFate v4 s) (fun y_2 s_2 =>
    bd (fX10_passDays 46 21 (1 : Int32) s_2) (fun y_3 s_3 =>
    fX11_century_L55 k87 c2 c3 n y_2 (v5 + (1 : Int32)) s_3)))
set_option maxRecDepth 100000 in
set_option maxHeartbeats 4000000 in
theorem tX11_century_L55 (c2 : Int32) (c3 : Int32) (k87 : St → Option (RT × St)) (X : KX) (hC : Ctx X RX11 cX11_century FULL 11 1) (hR : RX X (some .int)) (hN : X_nL X = 6) (hk87 : ∀ (s : St), Zr X (QFX X (some .int) 1) 0 s 87 [(0, .ref (X_ad X 0)), (3, .int c3)] [] (k87 s)) : ∀ (n : Nat) (v4 : Int32) (v5 : Int32) (s : St), Zr X (QFX X (some .int) 1) 0 s 55 [(0, .ref (X_ad X 0)), (2, .int c2), (3, .int c3), (4, .int v4), (5, .int v5)] [] (fX11_century_L55 k87 c2 c3 n v4 v5 s) := by
  intro n
  induction n with
  | zero =>
    intro v4 v5 s
    exact zr_none
  | succ n ih =>
    intro v4 v5 s
    rw [fX11_century_L55]
    refine zr_iload (pc := 55) 4 hC dX11_century_55 rfl ?_
    refine zr_iload_n (pc := 57) (i := 2) 1 hC dX11_century_57 rfl rfl ?_
    refine zr_icmp_ge (pc := 58) (tgt := 87) hC dX11_century_58 (by decide) (fun c_ => ?_) (fun c_ => ?_)
    · refine zr_sub (ls' := [(0, _), (3, _)]) [0, 2] rfl ?_
      exact hk87 s
    · refine zr_aload_n (pc := 61) (i := 0) 0 hC dX11_century_61 rfl rfl ?_
      refine zr_iload (pc := 62) 3 hC dX11_century_62 rfl ?_
      refine zr_callV (pc := 64) (As := fun ad => [.int v4]) (st1 := []) hC (Nat.le_of_ble_eq_true rfl) (kX11_passFate _ v4 _) (Nat.le_of_ble_eq_true rfl) mc_yX11_passFate m_1369 m_1371 m_p52 mem_0 lay_0 rfl rfl rfl rfl (Nat.le_of_ble_eq_true rfl) dX11_century_64 (fun y_2 s_2 => ?_)
      refine zr_istore (pc := 67) (ls' := [(4, _), (0, _), (2, _), (3, _), (5, _)]) hC dX11_century_67 (nlt hN (Nat.le_of_ble_eq_true rfl)) rfl ?_
      refine zr_aload_n (pc := 69) (i := 0) 1 hC dX11_century_69 rfl rfl ?_
      refine zr_getR (pc := 70) (j := 8) (k1 := 46) hC mem_0 lay_0 rfl rfl (Nat.le_of_ble_eq_true rfl) iX11 m_390 dX11_century_70 ?_
      refine zr_aload_n (pc := 73) (i := 0) 1 hC dX11_century_73 rfl rfl ?_
      refine zr_getR (pc := 74) (j := 4) (k1 := 21) hC mem_0 lay_0 rfl rfl (Nat.le_of_ble_eq_true rfl) iX11 m_386 dX11_century_74 ?_
      refine zr_iconst (pc := 77) (v := (1 : Int32)) hC dX11_century_77 ic_1 ?_
      refine zr_callVv (pc := 78) (As := fun ad => [.ref (ad 21), .int (1 : Int32)]) (st1 := []) hC (Nat.le_of_ble_eq_true rfl) (kX10_passDays _ is_46 is_21 (1 : Int32) _) (Nat.le_of_ble_eq_true rfl) mc_yX10_passDays m_470 m_471 m_472 mem_46 lay_46 rfl rfl rfl rfl (Nat.le_of_ble_eq_true rfl) dX11_century_78 (fun y_3 s_3 => ?_)
      refine zr_iinc (pc := 81) (q := 4) (ls' := [(5, _), (4, _), (0, _), (2, _), (3, _)]) hC dX11_century_81 rfl (inc_1 _) (nlt hN (Nat.le_of_ble_eq_true rfl)) rfl ?_
      refine zr_goto (pc := 84) (tgt := 55) hC dX11_century_84 (by decide) ?_
      refine zr_sub (ls' := [(0, _), (2, _), (3, _), (4, _), (5, _)]) [2, 3, 4, 1, 0] rfl ?_
      exact ih y_2 (v5 + (1 : Int32)) s_3
def fX11_century (a1 : Int32) (a2 : Int32) (a3 : Int32) (s : St) : Option (RT × St) :=
  if a3 < 0 then
    (some (.inr 0, s))
  else
    (if a3 ≤ (2 : Int32) then
    (if a2 < 0 then
    (some (.inr 1, s))
  else
    (if a2 ≤ (60 : Int32) then
    (bd (fX10_copyFrom 46 33 s) (fun y_1 s_1 =>
    fX11_century_L55 (fun s_4 => if a3 = (0 : Int32) then
    (bd (fX10_manyAlive 46 s_4) (fun y_5 s_5 =>
    some (.inl y_5, s_5)))
  else
    (if a3 = (1 : Int32) then
    (bd (fX10_manyRipe 46 21 s_4) (fun y_6 s_6 =>
    some (.inl y_6, s_6)))
  else
    (bd (fX10_allNoons 46 s_4) (fun y_7 s_7 =>
    some (.inl y_7, s_7))))) a2 a3 FU a1 (0 : Int32) s_1))
  else
    (some (.inr 1, s))))
  else
    (some (.inr 0, s)))
set_option maxRecDepth 100000 in
set_option maxHeartbeats 4000000 in
theorem kX11_century (l : Launch) (hst : l.stackTraces = false)  (a1 : Int32) (a2 : Int32) (a3 : Int32) (s : St) : CX l yX11_century cX11_century 6 (some .int) 11 1 FULL (fun ad => [.ref (ad 0), .int a1, .int a2, .int a3]) s (fX11_century a1 a2 a3 s) := by
  refine cx_of hst (by decide) (fun _ => (Nat.le_of_ble_eq_true rfl)) (fun X hC hR hl hN => ?_)
  subst hl
  show Zr X (QFX X (some .int) 1) 0 s 0 [(0, .ref (X_ad X 0)), (1, .int a1), (2, .int a2), (3, .int a3)] [] _
  rw [fX11_century]
  refine zr_iload_n (pc := 0) (i := 3) 3 hC dX11_century_0 rfl rfl ?_
  refine zr_if_lt (pc := 1) (tgt := 9) hC dX11_century_1 (by decide) (fun c_ => ?_) (fun c_ => ?_)
  · exact zx_thr0 (pc := 9) hC (Nat.le_of_ble_eq_true rfl) hR (Nat.le_of_ble_eq_true rfl) (Nat.le_of_ble_eq_true rfl) dX11_century_9 dX11_century_12 dX11_century_13 dX11_century_16
  · refine zr_iload_n (pc := 4) (i := 3) 3 hC dX11_century_4 rfl rfl ?_
    refine zr_iconst (pc := 5) (v := (2 : Int32)) hC dX11_century_5 ic_2 ?_
    refine zr_icmp_le (pc := 6) (tgt := 17) hC dX11_century_6 (by decide) (fun c_ => ?_) (fun c_ => ?_)
    · refine zr_iload_n (pc := 17) (i := 2) 2 hC dX11_century_17 rfl rfl ?_
      refine zr_if_lt (pc := 18) (tgt := 27) hC dX11_century_18 (by decide) (fun c_ => ?_) (fun c_ => ?_)
      · exact zx_thr1 (pc := 27) hC (Nat.le_of_ble_eq_true rfl) hR (Nat.le_of_ble_eq_true rfl) (Nat.le_of_ble_eq_true rfl) dX11_century_27 dX11_century_30 dX11_century_31 dX11_century_34
      · refine zr_iload_n (pc := 21) (i := 2) 2 hC dX11_century_21 rfl rfl ?_
        refine zr_bipush (pc := 22) (v := (60 : Int32)) hC dX11_century_22 bi_60 ?_
        refine zr_icmp_le (pc := 24) (tgt := 35) hC dX11_century_24 (by decide) (fun c_ => ?_) (fun c_ => ?_)
        · refine zr_aload_n (pc := 35) (i := 0) 0 hC dX11_century_35 rfl rfl ?_
          refine zr_getR (pc := 36) (j := 8) (k1 := 46) hC mem_0 lay_0 rfl rfl (Nat.le_of_ble_eq_true rfl) iX11 m_390 dX11_century_36 ?_
          refine zr_aload_n (pc := 39) (i := 0) 0 hC dX11_century_39 rfl rfl ?_
          refine zr_getR (pc := 40) (j := 5) (k1 := 32) hC mem_0 lay_0 rfl rfl (Nat.le_of_ble_eq_true rfl) iX11 m_387 dX11_century_40 ?_
          refine zr_getR (pc := 43) (j := 0) (k1 := 33) hC mem_32 lay_32 rfl rfl (Nat.le_of_ble_eq_true rfl) iX8 m_215 dX11_century_43 ?_
          refine zr_callVv (pc := 46) (As := fun ad => [.ref (ad 33)]) (st1 := []) hC (Nat.le_of_ble_eq_true rfl) (kX10_copyFrom _ is_46 is_33 _) (Nat.le_of_ble_eq_true rfl) mc_yX10_copyFrom m_1368 m_619 m_620 mem_46 lay_46 rfl rfl rfl rfl (Nat.le_of_ble_eq_true rfl) dX11_century_46 (fun y_1 s_1 => ?_)
          refine zr_iload_n (pc := 49) (i := 1) 1 hC dX11_century_49 rfl rfl ?_
          refine zr_istore (pc := 50) (ls' := [(4, _), (0, _), (1, _), (2, _), (3, _)]) hC dX11_century_50 (nlt hN (Nat.le_of_ble_eq_true rfl)) rfl ?_
          refine zr_iconst (pc := 52) (v := (0 : Int32)) hC dX11_century_52 ic_0 ?_
          refine zr_istore (pc := 53) (ls' := [(5, _), (4, _), (0, _), (1, _), (2, _), (3, _)]) hC dX11_century_53 (nlt hN (Nat.le_of_ble_eq_true rfl)) rfl ?_
          refine zr_sub (ls' := [(0, _), (2, _), (3, _), (4, _), (5, _)]) [2, 4, 5, 1, 0] rfl ?_
          refine tX11_century_L55 a2 a3 _ X hC hR hN (fun s_4 => ?_) FU a1 (0 : Int32) _
          · refine zr_iload_n (pc := 87) (i := 3) 1 hC dX11_century_87 rfl rfl ?_
            refine zr_lcase (pc := 88) (v := (0 : Int32)) (off := 28) (tgt := 116) hC dX11_century_88 (by decide) rfl (by decide) ?_ (fun e0 => ?_)
            · refine zr_aload_n (pc := 116) (i := 0) 0 hC dX11_century_116 rfl rfl ?_
              refine zr_getR (pc := 117) (j := 8) (k1 := 46) hC mem_0 lay_0 rfl rfl (Nat.le_of_ble_eq_true rfl) iX11 m_390 dX11_century_117 ?_
              refine zr_callV (pc := 120) (As := fun ad => []) (st1 := []) hC (Nat.le_of_ble_eq_true rfl) (kX10_manyAlive _ is_46 _) (Nat.le_of_ble_eq_true rfl) mc_yX10_manyAlive m_545 m_546 m_547 mem_46 lay_46 rfl rfl rfl rfl (Nat.le_of_ble_eq_true rfl) dX11_century_120 (fun y_5 s_5 => ?_)
              exact zx_iret (pc := 123) hC (Nat.le_of_ble_eq_true rfl) hR dX11_century_123
            refine zr_lcase (pc := 88) (v := (1 : Int32)) (off := 36) (tgt := 124) hC dX11_century_88 (by decide) rfl (by decide) ?_ (fun e1 => ?_)
            · refine zr_aload_n (pc := 124) (i := 0) 0 hC dX11_century_124 rfl rfl ?_
              refine zr_getR (pc := 125) (j := 8) (k1 := 46) hC mem_0 lay_0 rfl rfl (Nat.le_of_ble_eq_true rfl) iX11 m_390 dX11_century_125 ?_
              refine zr_aload_n (pc := 128) (i := 0) 0 hC dX11_century_128 rfl rfl ?_
              refine zr_getR (pc := 129) (j := 4) (k1 := 21) hC mem_0 lay_0 rfl rfl (Nat.le_of_ble_eq_true rfl) iX11 m_386 dX11_century_129 ?_
              refine zr_callV (pc := 132) (As := fun ad => [.ref (ad 21)]) (st1 := []) hC (Nat.le_of_ble_eq_true rfl) (kX10_manyRipe _ is_46 is_21 _) (Nat.le_of_ble_eq_true rfl) mc_yX10_manyRipe m_499 m_500 m_501 mem_46 lay_46 rfl rfl rfl rfl (Nat.le_of_ble_eq_true rfl) dX11_century_132 (fun y_6 s_6 => ?_)
              exact zx_iret (pc := 135) hC (Nat.le_of_ble_eq_true rfl) hR dX11_century_135
            refine zr_ldef (pc := 88) (tgt := 136) [(0 : Int32), (1 : Int32)] hC dX11_century_88 (by decide) (List.forall_mem_cons.mpr ⟨e0, List.forall_mem_cons.mpr ⟨e1, fun _ h => absurd h List.not_mem_nil⟩⟩) (by decide) (by decide) ?_
            refine zr_aload_n (pc := 136) (i := 0) 0 hC dX11_century_136 rfl rfl ?_
            refine zr_getR (pc := 137) (j := 8) (k1 := 46) hC mem_0 lay_0 rfl rfl (Nat.le_of_ble_eq_true rfl) iX11 m_390 dX11_century_137 ?_
            refine zr_callV (pc := 140) (As := fun ad => []) (st1 := []) hC (Nat.le_of_ble_eq_true rfl) (kX10_allNoons _ is_46 _) (Nat.le_of_ble_eq_true rfl) mc_yX10_allNoons m_986 m_987 m_988 mem_46 lay_46 rfl rfl rfl rfl (Nat.le_of_ble_eq_true rfl) dX11_century_140 (fun y_7 s_7 => ?_)
            exact zx_iret (pc := 143) hC (Nat.le_of_ble_eq_true rfl) hR dX11_century_143
        · exact zx_thr1 (pc := 27) hC (Nat.le_of_ble_eq_true rfl) hR (Nat.le_of_ble_eq_true rfl) (Nat.le_of_ble_eq_true rfl) dX11_century_27 dX11_century_30 dX11_century_31 dX11_century_34
    · exact zx_thr0 (pc := 9) hC (Nat.le_of_ble_eq_true rfl) hR (Nat.le_of_ble_eq_true rfl) (Nat.le_of_ble_eq_true rfl) dX11_century_9 dX11_century_12 dX11_century_13 dX11_century_16
def fX12_thrown (s : St) : Option (Int32 × St) :=
  some ((s 69 1), s)
set_option maxRecDepth 100000 in
set_option maxHeartbeats 4000000 in
theorem kX12_thrown (l : Launch)  (s : St) : CN l yX12_thrown cX12_thrown 1 (some .int) 1 FULL (fun ad => [.ref (ad 69)]) s (fX12_thrown s) := by
  refine cn_of (by decide) (fun _ => (Nat.le_of_ble_eq_true rfl)) (fun X hC hR hl hN => ?_)
  subst hl
  show Zr X (QFN X (some .int)) 0 s 0 [(0, .ref (X_ad X 69))] [] _
  rw [fX12_thrown]
  refine zr_aload_n (pc := 0) (i := 0) 0 hC dX12_thrown_0 rfl rfl ?_
  refine zr_getI (pc := 1) (j := 1) hC mem_69 lay_69 rfl rfl (Nat.le_of_ble_eq_true rfl) iX12 m_1396 dX12_thrown_1 ?_
  exact zr_iret (pc := 4) hC hR dX12_thrown_4
def fX12_feed_J76 (lp : Int32 → St → Option (Int32 × St)) (v1 : Int32) (v2 : Int32) (v3 : Int32) (v4 : Int32) (v5 : Int32) (v6 : Int32) (q0 : Int32) (s : St) : Option (Int32 × St) :=
  if inA (s 69 19) 700 then
    (let s_2 := wr s 86 (s 69 19).toNatClampNeg ((jshr q0 ((24 : Int32) - ((8 : Int32) * (jrem v6 (4 : Int32))))) &&& (255 : Int32));
    let s_3 := wr s_2 69 19 ((s_2 69 19) + (1 : Int32));
    lp (v6 + (1 : Int32)) s_3) else none
set_option maxRecDepth 100000 in
set_option maxHeartbeats 4000000 in
theorem tX12_feed_J76 (v1 : Int32) (v2 : Int32) (v3 : Int32) (v4 : Int32) (v5 : Int32) (v6 : Int32) (q0 : Int32) (lp : Int32 → St → Option (Int32 × St)) (X : KX) (hC : Ctx X RX12 cX12_feed FULL 1 0) (hR : RC X (some .int)) (hN : X_nL X = 8) (ih : ∀ (u6 : Int32) (s : St), Zr X (QFN X (some .int)) 0 s 23 [(0, .ref (X_ad X 69)), (1, .int v1), (2, .int v2), (3, .int v3), (4, .int v4), (5, .int v5), (6, .int u6)] [] (lp u6 s)) (s : St) : Zr X (QFN X (some .int)) 0 s 76 [(0, .ref (X_ad X 69)), (1, .int v1), (2, .int v2), (3, .int v3), (4, .int v4), (5, .int v5), (6, .int v6)] [.int q0] (fX12_feed_J76 lp v1 v2 v3 v4 v5 v6 q0 s) := by
  rw [fX12_feed_J76]
  refine zr_istore (pc := 76) (ls' := [(7, _), (0, _), (1, _), (2, _), (3, _), (4, _), (5, _), (6, _)]) hC dX12_feed_76 (nlt hN (Nat.le_of_ble_eq_true rfl)) rfl ?_
  refine zr_aload_n (pc := 78) (i := 0) 1 hC dX12_feed_78 rfl rfl ?_
  refine zr_getR (pc := 79) (j := 18) (k1 := 86) hC mem_69 lay_69 rfl rfl (Nat.le_of_ble_eq_true rfl) iX12 m_1413 dX12_feed_79 ?_
  refine zr_aload_n (pc := 82) (i := 0) 1 hC dX12_feed_82 rfl rfl ?_
  refine zr_getI (pc := 83) (j := 19) hC mem_69 lay_69 rfl rfl (Nat.le_of_ble_eq_true rfl) iX12 m_1414 dX12_feed_83 ?_
  refine zr_iload (pc := 86) 0 hC dX12_feed_86 rfl ?_
  refine zr_bipush (pc := 88) (v := (24 : Int32)) hC dX12_feed_88 bi_24 ?_
  refine zr_bipush (pc := 90) (v := (8 : Int32)) hC dX12_feed_90 bi_8 ?_
  refine zr_iload (pc := 92) 7 hC dX12_feed_92 rfl ?_
  refine zr_iconst (pc := 94) (v := (4 : Int32)) hC dX12_feed_94 ic_4 ?_
  refine zr_iremL (by decide) (pc := 95) hC dX12_feed_95 ?_
  refine zr_imul (pc := 96) hC dX12_feed_96 ?_
  refine zr_isub (pc := 97) hC dX12_feed_97 ?_
  refine zr_ishr (pc := 98) hC dX12_feed_98 ?_
  refine zr_sipush (pc := 99) (v := (255 : Int32)) hC dX12_feed_99 si_255 ?_
  refine zr_iand (pc := 102) hC dX12_feed_102 ?_
  refine zr_iast (pc := 103) hC mem_86 lay_86 dX12_feed_103 ?_
  refine zr_aload_n (pc := 104) (i := 0) 1 hC dX12_feed_104 rfl rfl ?_
  refine zr_dup (pc := 105) hC dX12_feed_105 rfl ?_
  refine zr_getI (pc := 106) (j := 19) hC mem_69 lay_69 rfl rfl (Nat.le_of_ble_eq_true rfl) iX12 m_1414 dX12_feed_106 ?_
  refine zr_iconst (pc := 109) (v := (1 : Int32)) hC dX12_feed_109 ic_1 ?_
  refine zr_iadd (pc := 110) hC dX12_feed_110 ?_
  refine zr_putInt (pc := 111) (j := 19) hC mem_69 lay_69 rfl rfl (Nat.le_of_ble_eq_true rfl) iX12 tyX12_ok nmX12 m_1414 rfl (by decide +kernel) dX12_feed_111 ?_
  refine zr_iinc (pc := 114) (q := 7) (ls' := [(6, _), (7, _), (0, _), (1, _), (2, _), (3, _), (4, _), (5, _)]) hC dX12_feed_114 rfl (inc_1 _) (nlt hN (Nat.le_of_ble_eq_true rfl)) rfl ?_
  refine zr_goto (pc := 117) (tgt := 23) hC dX12_feed_117 (by decide) ?_
  refine zr_sub (ls' := [(0, _), (1, _), (2, _), (3, _), (4, _), (5, _), (6, _)]) [2, 3, 4, 5, 6, 7, 0] rfl ?_
  exact ih (v6 + (1 : Int32)) (wr (wr s 86 (s 69 19).toNatClampNeg ((jshr q0 ((24 : Int32) - ((8 : Int32) * (jrem v6 (4 : Int32))))) &&& (255 : Int32))) 69 19 (((wr s 86 (s 69 19).toNatClampNeg ((jshr q0 ((24 : Int32) - ((8 : Int32) * (jrem v6 (4 : Int32))))) &&& (255 : Int32))) 69 19) + (1 : Int32)))
def fX12_feed_L23 (c1 : Int32) (c2 : Int32) (c3 : Int32) (c4 : Int32) (c5 : Int32) : Nat → Int32 → St → Option (Int32 × St)
  | 0, _, _ => none
  | n + 1, v6, s =>
    if (20 : Int32) ≤ v6 then
    (some ((s 69 19), s))
  else
    (if (4 : Int32) ≤ v6 then
    (if (8 : Int32) ≤ v6 then
    (if (12 : Int32) ≤ v6 then
    (if (16 : Int32) ≤ v6 then
    (fX12_feed_J76 (fX12_feed_L23 c1 c2 c3 c4 c5 n) c1 c2 c3 c4 c5 v6 c5 s)
  else
    (fX12_feed_J76 (fX12_feed_L23 c1 c2 c3 c4 c5 n) c1 c2 c3 c4 c5 v6 c4 s))
  else
    (fX12_feed_J76 (fX12_feed_L23 c1 c2 c3 c4 c5 n) c1 c2 c3 c4 c5 v6 c3 s))
  else
    (fX12_feed_J76 (fX12_feed_L23 c1 c2 c3 c4 c5 n) c1 c2 c3 c4 c5 v6 c2 s))
  else
    (fX12_feed_J76 (fX12_feed_L23 c1 c2 c3 c4 c5 n) c1 c2 c3 c4 c5 v6 c1 s))
set_option maxRecDepth 100000 in
set_option maxHeartbeats 4000000 in
theorem tX12_feed_L23 (c1 : Int32) (c2 : Int32) (c3 : Int32) (c4 : Int32) (c5 : Int32) (X : KX) (hC : Ctx X RX12 cX12_feed FULL 1 0) (hR : RC X (some .int)) (hN : X_nL X = 8) : ∀ (n : Nat) (v6 : Int32) (s : St), Zr X (QFN X (some .int)) 0 s 23 [(0, .ref (X_ad X 69)), (1, .int c1), (2, .int c2), (3, .int c3), (4, .int c4), (5, .int c5), (6, .int v6)] [] (fX12_feed_L23 c1 c2 c3 c4 c5 n v6 s) := by
  intro n
  induction n with
  | zero =>
    intro v6 s
    exact zr_none
  | succ n ih =>
    intro v6 s
    rw [fX12_feed_L23]
    refine zr_iload (pc := 23) 6 hC dX12_feed_23 rfl ?_
    refine zr_bipush (pc := 25) (v := (20 : Int32)) hC dX12_feed_25 bi_20 ?_
    refine zr_icmp_ge (pc := 27) (tgt := 120) hC dX12_feed_27 (by decide) (fun c_ => ?_) (fun c_ => ?_)
    · refine zr_aload_n (pc := 120) (i := 0) 0 hC dX12_feed_120 rfl rfl ?_
      refine zr_getI (pc := 121) (j := 19) hC mem_69 lay_69 rfl rfl (Nat.le_of_ble_eq_true rfl) iX12 m_1414 dX12_feed_121 ?_
      exact zr_iret (pc := 124) hC hR dX12_feed_124
    · refine zr_iload (pc := 30) 6 hC dX12_feed_30 rfl ?_
      refine zr_iconst (pc := 32) (v := (4 : Int32)) hC dX12_feed_32 ic_4 ?_
      refine zr_icmp_ge (pc := 33) (tgt := 40) hC dX12_feed_33 (by decide) (fun c_ => ?_) (fun c_ => ?_)
      · refine zr_iload (pc := 40) 6 hC dX12_feed_40 rfl ?_
        refine zr_bipush (pc := 42) (v := (8 : Int32)) hC dX12_feed_42 bi_8 ?_
        refine zr_icmp_ge (pc := 44) (tgt := 51) hC dX12_feed_44 (by decide) (fun c_ => ?_) (fun c_ => ?_)
        · refine zr_iload (pc := 51) 6 hC dX12_feed_51 rfl ?_
          refine zr_bipush (pc := 53) (v := (12 : Int32)) hC dX12_feed_53 bi_12 ?_
          refine zr_icmp_ge (pc := 55) (tgt := 62) hC dX12_feed_55 (by decide) (fun c_ => ?_) (fun c_ => ?_)
          · refine zr_iload (pc := 62) 6 hC dX12_feed_62 rfl ?_
            refine zr_bipush (pc := 64) (v := (16 : Int32)) hC dX12_feed_64 bi_16 ?_
            refine zr_icmp_ge (pc := 66) (tgt := 74) hC dX12_feed_66 (by decide) (fun c_ => ?_) (fun c_ => ?_)
            · refine zr_iload (pc := 74) 5 hC dX12_feed_74 rfl ?_
              exact tX12_feed_J76 c1 c2 c3 c4 c5 v6 c5 _ X hC hR hN  ih _
            · refine zr_iload (pc := 69) 4 hC dX12_feed_69 rfl ?_
              refine zr_goto (pc := 71) (tgt := 76) hC dX12_feed_71 (by decide) ?_
              exact tX12_feed_J76 c1 c2 c3 c4 c5 v6 c4 _ X hC hR hN  ih _
          · refine zr_iload_n (pc := 58) (i := 3) 3 hC dX12_feed_58 rfl rfl ?_
            refine zr_goto (pc := 59) (tgt := 76) hC dX12_feed_59 (by decide) ?_
            exact tX12_feed_J76 c1 c2 c3 c4 c5 v6 c3 _ X hC hR hN  ih _
        · refine zr_iload_n (pc := 47) (i := 2) 2 hC dX12_feed_47 rfl rfl ?_
          refine zr_goto (pc := 48) (tgt := 76) hC dX12_feed_48 (by decide) ?_
          exact tX12_feed_J76 c1 c2 c3 c4 c5 v6 c2 _ X hC hR hN  ih _
      · refine zr_iload_n (pc := 36) (i := 1) 1 hC dX12_feed_36 rfl rfl ?_
        refine zr_goto (pc := 37) (tgt := 76) hC dX12_feed_37 (by decide) ?_
        exact tX12_feed_J76 c1 c2 c3 c4 c5 v6 c1 _ X hC hR hN  ih _
def fX12_feed (a1 : Int32) (a2 : Int32) (a3 : Int32) (a4 : Int32) (a5 : Int32) (s : St) : Option (Int32 × St) :=
  let s_1 := wr s 69 1 (0 : Int32);
    if ((s_1 69 19) + (20 : Int32)) ≤ (700 : Int32) then
    (fX12_feed_L23 a1 a2 a3 a4 a5 FU (0 : Int32) s_1)
  else
    (some ((-1 : Int32), s_1))
set_option maxRecDepth 100000 in
set_option maxHeartbeats 4000000 in
theorem kX12_feed (l : Launch)  (a1 : Int32) (a2 : Int32) (a3 : Int32) (a4 : Int32) (a5 : Int32) (s : St) : CN l yX12_feed cX12_feed 8 (some .int) 1 FULL (fun ad => [.ref (ad 69), .int a1, .int a2, .int a3, .int a4, .int a5]) s (fX12_feed a1 a2 a3 a4 a5 s) := by
  refine cn_of (by decide) (fun _ => (Nat.le_of_ble_eq_true rfl)) (fun X hC hR hl hN => ?_)
  subst hl
  show Zr X (QFN X (some .int)) 0 s 0 [(0, .ref (X_ad X 69)), (1, .int a1), (2, .int a2), (3, .int a3), (4, .int a4), (5, .int a5)] [] _
  rw [fX12_feed]
  refine zr_aload_n (pc := 0) (i := 0) 0 hC dX12_feed_0 rfl rfl ?_
  refine zr_iconst (pc := 1) (v := (0 : Int32)) hC dX12_feed_1 ic_0 ?_
  refine zr_putInt (pc := 2) (j := 1) hC mem_69 lay_69 rfl rfl (Nat.le_of_ble_eq_true rfl) iX12 tyX12_ok nmX12 m_1396 rfl (by decide +kernel) dX12_feed_2 ?_
  refine zr_aload_n (pc := 5) (i := 0) 0 hC dX12_feed_5 rfl rfl ?_
  refine zr_getI (pc := 6) (j := 19) hC mem_69 lay_69 rfl rfl (Nat.le_of_ble_eq_true rfl) iX12 m_1414 dX12_feed_6 ?_
  refine zr_bipush (pc := 9) (v := (20 : Int32)) hC dX12_feed_9 bi_20 ?_
  refine zr_iadd (pc := 11) hC dX12_feed_11 ?_
  refine zr_sipush (pc := 12) (v := (700 : Int32)) hC dX12_feed_12 si_700 ?_
  refine zr_icmp_le (pc := 15) (tgt := 20) hC dX12_feed_15 (by decide) (fun c_ => ?_) (fun c_ => ?_)
  · refine zr_iconst (pc := 20) (v := (0 : Int32)) hC dX12_feed_20 ic_0 ?_
    refine zr_istore (pc := 21) (ls' := [(6, _), (0, _), (1, _), (2, _), (3, _), (4, _), (5, _)]) hC dX12_feed_21 (nlt hN (Nat.le_of_ble_eq_true rfl)) rfl ?_
    refine zr_sub (ls' := [(0, _), (1, _), (2, _), (3, _), (4, _), (5, _), (6, _)]) [1, 2, 3, 4, 5, 6, 0] rfl ?_
    exact tX12_feed_L23 a1 a2 a3 a4 a5 X hC hR hN FU (0 : Int32) _
  · refine zr_iconst (pc := 18) (v := (-1 : Int32)) hC dX12_feed_18 ic_m1 ?_
    exact zr_iret (pc := 19) hC hR dX12_feed_19
def fX12_fail (a1 : Int32) (s : St) : Option (Int32 × St) :=
  let s_1 := wr s 69 1 a1;
    some ((0 : Int32), s_1)
set_option maxRecDepth 100000 in
set_option maxHeartbeats 4000000 in
theorem kX12_fail (l : Launch)  (a1 : Int32) (s : St) : CN l yX12_fail cX12_fail 2 (some .int) 1 FULL (fun ad => [.ref (ad 69), .int a1]) s (fX12_fail a1 s) := by
  refine cn_of (by decide) (fun _ => (Nat.le_of_ble_eq_true rfl)) (fun X hC hR hl hN => ?_)
  subst hl
  show Zr X (QFN X (some .int)) 0 s 0 [(0, .ref (X_ad X 69)), (1, .int a1)] [] _
  rw [fX12_fail]
  refine zr_aload_n (pc := 0) (i := 0) 0 hC dX12_fail_0 rfl rfl ?_
  refine zr_iload_n (pc := 1) (i := 1) 1 hC dX12_fail_1 rfl rfl ?_
  refine zr_putInt (pc := 2) (j := 1) hC mem_69 lay_69 rfl rfl (Nat.le_of_ble_eq_true rfl) iX12 tyX12_ok nmX12 m_1396 rfl (by decide +kernel) dX12_fail_2 ?_
  refine zr_iconst (pc := 5) (v := (0 : Int32)) hC dX12_fail_5 ic_0 ?_
  exact zr_iret (pc := 6) hC hR dX12_fail_6
def fX12_byteAt (a1 : Int32) (s : St) : Option (Int32 × St) :=
  if (s 69 21) ≤ a1 then
    (some ((-1 : Int32), s))
  else
    (if inA a1 700 then
    (some ((s 86 a1.toNatClampNeg), s)) else none)
set_option maxRecDepth 100000 in
set_option maxHeartbeats 4000000 in
theorem kX12_byteAt (l : Launch)  (a1 : Int32) (s : St) : CN l yX12_byteAt cX12_byteAt 2 (some .int) 1 FULL (fun ad => [.ref (ad 69), .int a1]) s (fX12_byteAt a1 s) := by
  refine cn_of (by decide) (fun _ => (Nat.le_of_ble_eq_true rfl)) (fun X hC hR hl hN => ?_)
  subst hl
  show Zr X (QFN X (some .int)) 0 s 0 [(0, .ref (X_ad X 69)), (1, .int a1)] [] _
  rw [fX12_byteAt]
  refine zr_iload_n (pc := 0) (i := 1) 1 hC dX12_byteAt_0 rfl rfl ?_
  refine zr_aload_n (pc := 1) (i := 0) 0 hC dX12_byteAt_1 rfl rfl ?_
  refine zr_getI (pc := 2) (j := 21) hC mem_69 lay_69 rfl rfl (Nat.le_of_ble_eq_true rfl) iX12 m_1416 dX12_byteAt_2 ?_
  refine zr_icmp_ge (pc := 5) (tgt := 17) hC dX12_byteAt_5 (by decide) (fun c_ => ?_) (fun c_ => ?_)
  · refine zr_iconst (pc := 17) (v := (-1 : Int32)) hC dX12_byteAt_17 ic_m1 ?_
    exact zr_iret (pc := 18) hC hR dX12_byteAt_18
  · refine zr_aload_n (pc := 8) (i := 0) 0 hC dX12_byteAt_8 rfl rfl ?_
    refine zr_getR (pc := 9) (j := 18) (k1 := 86) hC mem_69 lay_69 rfl rfl (Nat.le_of_ble_eq_true rfl) iX12 m_1413 dX12_byteAt_9 ?_
    refine zr_iload_n (pc := 12) (i := 1) 1 hC dX12_byteAt_12 rfl rfl ?_
    refine zr_iald (pc := 13) hC mem_86 lay_86 dX12_byteAt_13 ?_
    refine zr_goto (pc := 14) (tgt := 18) hC dX12_byteAt_14 (by decide) ?_
    exact zr_iret (pc := 18) hC hR dX12_byteAt_18
def fX12_isLetter (a0 : Int32) (s : St) : Option (Int32 × St) :=
  if a0 < (97 : Int32) then
    (some ((0 : Int32), s))
  else
    (if (122 : Int32) < a0 then
    (some ((0 : Int32), s))
  else
    (some ((1 : Int32), s)))
set_option maxRecDepth 100000 in
set_option maxHeartbeats 4000000 in
theorem kX12_isLetter (l : Launch)  (a0 : Int32) (s : St) : CN l yX12_isLetter cX12_isLetter 1 (some .boolean) 1 FULL (fun ad => [.int a0]) s (fX12_isLetter a0 s) := by
  refine cn_of (by decide) (fun _ => (Nat.le_of_ble_eq_true rfl)) (fun X hC hR hl hN => ?_)
  subst hl
  show Zr X (QFN X (some .boolean)) 0 s 0 [(0, .int a0)] [] _
  rw [fX12_isLetter]
  refine zr_iload_n (pc := 0) (i := 0) 0 hC dX12_isLetter_0 rfl rfl ?_
  refine zr_bipush (pc := 1) (v := (97 : Int32)) hC dX12_isLetter_1 bi_97 ?_
  refine zr_icmp_lt (pc := 3) (tgt := 16) hC dX12_isLetter_3 (by decide) (fun c_ => ?_) (fun c_ => ?_)
  · refine zr_iconst (pc := 16) (v := (0 : Int32)) hC dX12_isLetter_16 ic_0 ?_
    exact zr_zret (pc := 17) (by decide) hC hR dX12_isLetter_17
  · refine zr_iload_n (pc := 6) (i := 0) 0 hC dX12_isLetter_6 rfl rfl ?_
    refine zr_bipush (pc := 7) (v := (122 : Int32)) hC dX12_isLetter_7 bi_122 ?_
    refine zr_icmp_gt (pc := 9) (tgt := 16) hC dX12_isLetter_9 (by decide) (fun c_ => ?_) (fun c_ => ?_)
    · refine zr_iconst (pc := 16) (v := (0 : Int32)) hC dX12_isLetter_16 ic_0 ?_
      exact zr_zret (pc := 17) (by decide) hC hR dX12_isLetter_17
    · refine zr_iconst (pc := 12) (v := (1 : Int32)) hC dX12_isLetter_12 ic_1 ?_
      refine zr_goto (pc := 13) (tgt := 17) hC dX12_isLetter_13 (by decide) ?_
      exact zr_zret (pc := 17) (by decide) hC hR dX12_isLetter_17
def fX12_isDigit (a0 : Int32) (s : St) : Option (Int32 × St) :=
  if a0 < (48 : Int32) then
    (some ((0 : Int32), s))
  else
    (if (57 : Int32) < a0 then
    (some ((0 : Int32), s))
  else
    (some ((1 : Int32), s)))
set_option maxRecDepth 100000 in
set_option maxHeartbeats 4000000 in
theorem kX12_isDigit (l : Launch)  (a0 : Int32) (s : St) : CN l yX12_isDigit cX12_isDigit 1 (some .boolean) 1 FULL (fun ad => [.int a0]) s (fX12_isDigit a0 s) := by
  refine cn_of (by decide) (fun _ => (Nat.le_of_ble_eq_true rfl)) (fun X hC hR hl hN => ?_)
  subst hl
  show Zr X (QFN X (some .boolean)) 0 s 0 [(0, .int a0)] [] _
  rw [fX12_isDigit]
  refine zr_iload_n (pc := 0) (i := 0) 0 hC dX12_isDigit_0 rfl rfl ?_
  refine zr_bipush (pc := 1) (v := (48 : Int32)) hC dX12_isDigit_1 bi_48 ?_
  refine zr_icmp_lt (pc := 3) (tgt := 16) hC dX12_isDigit_3 (by decide) (fun c_ => ?_) (fun c_ => ?_)
  · refine zr_iconst (pc := 16) (v := (0 : Int32)) hC dX12_isDigit_16 ic_0 ?_
    exact zr_zret (pc := 17) (by decide) hC hR dX12_isDigit_17
  · refine zr_iload_n (pc := 6) (i := 0) 0 hC dX12_isDigit_6 rfl rfl ?_
    refine zr_bipush (pc := 7) (v := (57 : Int32)) hC dX12_isDigit_7 bi_57 ?_
    refine zr_icmp_gt (pc := 9) (tgt := 16) hC dX12_isDigit_9 (by decide) (fun c_ => ?_) (fun c_ => ?_)
    · refine zr_iconst (pc := 16) (v := (0 : Int32)) hC dX12_isDigit_16 ic_0 ?_
      exact zr_zret (pc := 17) (by decide) hC hR dX12_isDigit_17
    · refine zr_iconst (pc := 12) (v := (1 : Int32)) hC dX12_isDigit_12 ic_1 ?_
      refine zr_goto (pc := 13) (tgt := 17) hC dX12_isDigit_13 (by decide) ?_
      exact zr_zret (pc := 17) (by decide) hC hR dX12_isDigit_17
def fX12_isMark (a0 : Int32) (s : St) : Option (Int32 × St) :=
  if a0 = (59 : Int32) then
    (some ((1 : Int32), s))
  else
    (if a0 = (40 : Int32) then
    (some ((1 : Int32), s))
  else
    (if a0 = (41 : Int32) then
    (some ((1 : Int32), s))
  else
    (if a0 = (43 : Int32) then
    (some ((1 : Int32), s))
  else
    (if a0 = (45 : Int32) then
    (some ((1 : Int32), s))
  else
    (if a0 = (42 : Int32) then
    (some ((1 : Int32), s))
  else
    (if a0 = (47 : Int32) then
    (some ((1 : Int32), s))
  else
    (if a0 = (60 : Int32) then
    (some ((1 : Int32), s))
  else
    (if a0 = (61 : Int32) then
    (some ((1 : Int32), s))
  else
    (some ((0 : Int32), s))))))))))
set_option maxRecDepth 100000 in
set_option maxHeartbeats 4000000 in
theorem kX12_isMark (l : Launch)  (a0 : Int32) (s : St) : CN l yX12_isMark cX12_isMark 1 (some .boolean) 1 FULL (fun ad => [.int a0]) s (fX12_isMark a0 s) := by
  refine cn_of (by decide) (fun _ => (Nat.le_of_ble_eq_true rfl)) (fun X hC hR hl hN => ?_)
  subst hl
  show Zr X (QFN X (some .boolean)) 0 s 0 [(0, .int a0)] [] _
  rw [fX12_isMark]
  refine zr_iload_n (pc := 0) (i := 0) 0 hC dX12_isMark_0 rfl rfl ?_
  refine zr_bipush (pc := 1) (v := (59 : Int32)) hC dX12_isMark_1 bi_59 ?_
  refine zr_icmp_eq (pc := 3) (tgt := 54) hC dX12_isMark_3 (by decide) (fun c_ => ?_) (fun c_ => ?_)
  · refine zr_iconst (pc := 54) (v := (1 : Int32)) hC dX12_isMark_54 ic_1 ?_
    refine zr_goto (pc := 55) (tgt := 59) hC dX12_isMark_55 (by decide) ?_
    exact zr_zret (pc := 59) (by decide) hC hR dX12_isMark_59
  · refine zr_iload_n (pc := 6) (i := 0) 0 hC dX12_isMark_6 rfl rfl ?_
    refine zr_bipush (pc := 7) (v := (40 : Int32)) hC dX12_isMark_7 bi_40 ?_
    refine zr_icmp_eq (pc := 9) (tgt := 54) hC dX12_isMark_9 (by decide) (fun c_ => ?_) (fun c_ => ?_)
    · refine zr_iconst (pc := 54) (v := (1 : Int32)) hC dX12_isMark_54 ic_1 ?_
      refine zr_goto (pc := 55) (tgt := 59) hC dX12_isMark_55 (by decide) ?_
      exact zr_zret (pc := 59) (by decide) hC hR dX12_isMark_59
    · refine zr_iload_n (pc := 12) (i := 0) 0 hC dX12_isMark_12 rfl rfl ?_
      refine zr_bipush (pc := 13) (v := (41 : Int32)) hC dX12_isMark_13 bi_41 ?_
      refine zr_icmp_eq (pc := 15) (tgt := 54) hC dX12_isMark_15 (by decide) (fun c_ => ?_) (fun c_ => ?_)
      · refine zr_iconst (pc := 54) (v := (1 : Int32)) hC dX12_isMark_54 ic_1 ?_
        refine zr_goto (pc := 55) (tgt := 59) hC dX12_isMark_55 (by decide) ?_
        exact zr_zret (pc := 59) (by decide) hC hR dX12_isMark_59
      · refine zr_iload_n (pc := 18) (i := 0) 0 hC dX12_isMark_18 rfl rfl ?_
        refine zr_bipush (pc := 19) (v := (43 : Int32)) hC dX12_isMark_19 bi_43 ?_
        refine zr_icmp_eq (pc := 21) (tgt := 54) hC dX12_isMark_21 (by decide) (fun c_ => ?_) (fun c_ => ?_)
        · refine zr_iconst (pc := 54) (v := (1 : Int32)) hC dX12_isMark_54 ic_1 ?_
          refine zr_goto (pc := 55) (tgt := 59) hC dX12_isMark_55 (by decide) ?_
          exact zr_zret (pc := 59) (by decide) hC hR dX12_isMark_59
        · refine zr_iload_n (pc := 24) (i := 0) 0 hC dX12_isMark_24 rfl rfl ?_
          refine zr_bipush (pc := 25) (v := (45 : Int32)) hC dX12_isMark_25 bi_45 ?_
          refine zr_icmp_eq (pc := 27) (tgt := 54) hC dX12_isMark_27 (by decide) (fun c_ => ?_) (fun c_ => ?_)
          · refine zr_iconst (pc := 54) (v := (1 : Int32)) hC dX12_isMark_54 ic_1 ?_
            refine zr_goto (pc := 55) (tgt := 59) hC dX12_isMark_55 (by decide) ?_
            exact zr_zret (pc := 59) (by decide) hC hR dX12_isMark_59
          · refine zr_iload_n (pc := 30) (i := 0) 0 hC dX12_isMark_30 rfl rfl ?_
            refine zr_bipush (pc := 31) (v := (42 : Int32)) hC dX12_isMark_31 bi_42 ?_
            refine zr_icmp_eq (pc := 33) (tgt := 54) hC dX12_isMark_33 (by decide) (fun c_ => ?_) (fun c_ => ?_)
            · refine zr_iconst (pc := 54) (v := (1 : Int32)) hC dX12_isMark_54 ic_1 ?_
              refine zr_goto (pc := 55) (tgt := 59) hC dX12_isMark_55 (by decide) ?_
              exact zr_zret (pc := 59) (by decide) hC hR dX12_isMark_59
            · refine zr_iload_n (pc := 36) (i := 0) 0 hC dX12_isMark_36 rfl rfl ?_
              refine zr_bipush (pc := 37) (v := (47 : Int32)) hC dX12_isMark_37 bi_47 ?_
              refine zr_icmp_eq (pc := 39) (tgt := 54) hC dX12_isMark_39 (by decide) (fun c_ => ?_) (fun c_ => ?_)
              · refine zr_iconst (pc := 54) (v := (1 : Int32)) hC dX12_isMark_54 ic_1 ?_
                refine zr_goto (pc := 55) (tgt := 59) hC dX12_isMark_55 (by decide) ?_
                exact zr_zret (pc := 59) (by decide) hC hR dX12_isMark_59
              · refine zr_iload_n (pc := 42) (i := 0) 0 hC dX12_isMark_42 rfl rfl ?_
                refine zr_bipush (pc := 43) (v := (60 : Int32)) hC dX12_isMark_43 bi_60 ?_
                refine zr_icmp_eq (pc := 45) (tgt := 54) hC dX12_isMark_45 (by decide) (fun c_ => ?_) (fun c_ => ?_)
                · refine zr_iconst (pc := 54) (v := (1 : Int32)) hC dX12_isMark_54 ic_1 ?_
                  refine zr_goto (pc := 55) (tgt := 59) hC dX12_isMark_55 (by decide) ?_
                  exact zr_zret (pc := 59) (by decide) hC hR dX12_isMark_59
                · refine zr_iload_n (pc := 48) (i := 0) 0 hC dX12_isMark_48 rfl rfl ?_
                  refine zr_bipush (pc := 49) (v := (61 : Int32)) hC dX12_isMark_49 bi_61 ?_
                  refine zr_icmp_ne (pc := 51) (tgt := 58) hC dX12_isMark_51 (by decide) (fun c_ => ?_) (fun c_ => ?_)
                  · refine zr_iconst (pc := 54) (v := (1 : Int32)) hC dX12_isMark_54 ic_1 ?_
                    refine zr_goto (pc := 55) (tgt := 59) hC dX12_isMark_55 (by decide) ?_
                    exact zr_zret (pc := 59) (by decide) hC hR dX12_isMark_59
                  · refine zr_iconst (pc := 58) (v := (0 : Int32)) hC dX12_isMark_58 ic_0 ?_
                    exact zr_zret (pc := 59) (by decide) hC hR dX12_isMark_59
def fX12_stepOn_L0 (k39 : St → Option (Int32 × St)) : Nat → St → Option (Int32 × St)
  | 0, _ => none
  | n + 1, s =>
    bd (fX12_byteAt (s 69 20) s) (fun y_1 s_1 =>
    if y_1 = (32 : Int32) then
    (let s_2 := wr s_1 69 20 ((s_1 69 20) + (1 : Int32));
    fX12_stepOn_L0 k39 n s_2)
  else
    (bd (fX12_byteAt (s_1 69 20) s_1) (fun y_3 s_3 =>
    if y_3 = (10 : Int32) then
    (let s_4 := wr s_3 69 20 ((s_3 69 20) + (1 : Int32));
    fX12_stepOn_L0 k39 n s_4)
  else
    (k39 s_3))))
set_option maxRecDepth 100000 in
set_option maxHeartbeats 4000000 in
theorem tX12_stepOn_L0 (k39 : St → Option (Int32 × St)) (X : KX) (hC : Ctx X RX12 cX12_stepOn FULL 7 0) (hR : RC X none) (hN : X_nL X = 2) (hk39 : ∀ (s : St), Zr X (QFN X none) 0 s 39 [(0, .ref (X_ad X 69))] [] (k39 s)) : ∀ (n : Nat) (s : St), Zr X (QFN X none) 0 s 0 [(0, .ref (X_ad X 69))] [] (fX12_stepOn_L0 k39 n s) := by
  intro n
  induction n with
  | zero =>
    intro s
    exact zr_none
  | succ n ih =>
    intro s
    rw [fX12_stepOn_L0]
    refine zr_aload_n (pc := 0) (i := 0) 0 hC dX12_stepOn_0 rfl rfl ?_
    refine zr_aload_n (pc := 1) (i := 0) 0 hC dX12_stepOn_1 rfl rfl ?_
    refine zr_getI (pc := 2) (j := 20) hC mem_69 lay_69 rfl rfl (Nat.le_of_ble_eq_true rfl) iX12 m_1415 dX12_stepOn_2 ?_
    refine zr_callV (pc := 5) (As := fun ad => [.int (s 69 20)]) (st1 := []) hC (Nat.le_of_ble_eq_true rfl) (kX12_byteAt _ (s 69 20) _) (Nat.le_of_ble_eq_true rfl) mc_yX12_byteAt m_1614 m_1616 m_p55 mem_69 lay_69 rfl rfl rfl rfl (Nat.le_of_ble_eq_true rfl) dX12_stepOn_5 (fun y_1 s_1 => ?_)
    refine zr_bipush (pc := 8) (v := (32 : Int32)) hC dX12_stepOn_8 bi_32 ?_
    refine zr_icmp_eq (pc := 10) (tgt := 26) hC dX12_stepOn_10 (by decide) (fun c_ => ?_) (fun c_ => ?_)
    · refine zr_aload_n (pc := 26) (i := 0) 0 hC dX12_stepOn_26 rfl rfl ?_
      refine zr_dup (pc := 27) hC dX12_stepOn_27 rfl ?_
      refine zr_getI (pc := 28) (j := 20) hC mem_69 lay_69 rfl rfl (Nat.le_of_ble_eq_true rfl) iX12 m_1415 dX12_stepOn_28 ?_
      refine zr_iconst (pc := 31) (v := (1 : Int32)) hC dX12_stepOn_31 ic_1 ?_
      refine zr_iadd (pc := 32) hC dX12_stepOn_32 ?_
      refine zr_putInt (pc := 33) (j := 20) hC mem_69 lay_69 rfl rfl (Nat.le_of_ble_eq_true rfl) iX12 tyX12_ok nmX12 m_1415 rfl (by decide +kernel) dX12_stepOn_33 ?_
      refine zr_goto (pc := 36) (tgt := 0) hC dX12_stepOn_36 (by decide) ?_
      exact ih (wr s_1 69 20 ((s_1 69 20) + (1 : Int32)))
    · refine zr_aload_n (pc := 13) (i := 0) 0 hC dX12_stepOn_13 rfl rfl ?_
      refine zr_aload_n (pc := 14) (i := 0) 0 hC dX12_stepOn_14 rfl rfl ?_
      refine zr_getI (pc := 15) (j := 20) hC mem_69 lay_69 rfl rfl (Nat.le_of_ble_eq_true rfl) iX12 m_1415 dX12_stepOn_15 ?_
      refine zr_callV (pc := 18) (As := fun ad => [.int (s_1 69 20)]) (st1 := []) hC (Nat.le_of_ble_eq_true rfl) (kX12_byteAt _ (s_1 69 20) _) (Nat.le_of_ble_eq_true rfl) mc_yX12_byteAt m_1614 m_1616 m_p55 mem_69 lay_69 rfl rfl rfl rfl (Nat.le_of_ble_eq_true rfl) dX12_stepOn_18 (fun y_3 s_3 => ?_)
      refine zr_bipush (pc := 21) (v := (10 : Int32)) hC dX12_stepOn_21 bi_10 ?_
      refine zr_icmp_ne (pc := 23) (tgt := 39) hC dX12_stepOn_23 (by decide) (fun c_ => ?_) (fun c_ => ?_)
      · refine zr_aload_n (pc := 26) (i := 0) 0 hC dX12_stepOn_26 rfl rfl ?_
        refine zr_dup (pc := 27) hC dX12_stepOn_27 rfl ?_
        refine zr_getI (pc := 28) (j := 20) hC mem_69 lay_69 rfl rfl (Nat.le_of_ble_eq_true rfl) iX12 m_1415 dX12_stepOn_28 ?_
        refine zr_iconst (pc := 31) (v := (1 : Int32)) hC dX12_stepOn_31 ic_1 ?_
        refine zr_iadd (pc := 32) hC dX12_stepOn_32 ?_
        refine zr_putInt (pc := 33) (j := 20) hC mem_69 lay_69 rfl rfl (Nat.le_of_ble_eq_true rfl) iX12 tyX12_ok nmX12 m_1415 rfl (by decide +kernel) dX12_stepOn_33 ?_
        refine zr_goto (pc := 36) (tgt := 0) hC dX12_stepOn_36 (by decide) ?_
        exact ih (wr s_3 69 20 ((s_3 69 20) + (1 : Int32)))
      · exact hk39 s_3
def fX12_stepOn_L123 (k178 : St → Option (Int32 × St)) : Nat → St → Option (Int32 × St)
  | 0, _ => none
  | n + 1, s =>
    bd (fX12_byteAt (s 69 20) s) (fun y_17 s_17 =>
    bd (fX12_isDigit y_17 s_17) (fun y_18 s_18 =>
    if y_18 = 0 then
    (k178 s_18)
  else
    (bd (fX12_byteAt (s_18 69 20) s_18) (fun y_19 s_19 =>
    let s_20 := wr s_19 69 23 (jmin (100000 : Int32) ((((10 : Int32) * (s_18 69 23)) + y_19) - (48 : Int32)));
    let s_21 := wr s_20 69 20 ((s_20 69 20) + (1 : Int32));
    fX12_stepOn_L123 k178 n s_21))))
set_option maxRecDepth 100000 in
set_option maxHeartbeats 4000000 in
theorem tX12_stepOn_L123 (k178 : St → Option (Int32 × St)) (X : KX) (hC : Ctx X RX12 cX12_stepOn FULL 7 0) (hR : RC X none) (hN : X_nL X = 2) (hk178 : ∀ (s : St), Zr X (QFN X none) 0 s 178 [(0, .ref (X_ad X 69))] [] (k178 s)) : ∀ (n : Nat) (s : St), Zr X (QFN X none) 0 s 123 [(0, .ref (X_ad X 69))] [] (fX12_stepOn_L123 k178 n s) := by
  intro n
  induction n with
  | zero =>
    intro s
    exact zr_none
  | succ n ih =>
    intro s
    rw [fX12_stepOn_L123]
    refine zr_aload_n (pc := 123) (i := 0) 0 hC dX12_stepOn_123 rfl rfl ?_
    refine zr_aload_n (pc := 124) (i := 0) 0 hC dX12_stepOn_124 rfl rfl ?_
    refine zr_getI (pc := 125) (j := 20) hC mem_69 lay_69 rfl rfl (Nat.le_of_ble_eq_true rfl) iX12 m_1415 dX12_stepOn_125 ?_
    refine zr_callV (pc := 128) (As := fun ad => [.int (s 69 20)]) (st1 := []) hC (Nat.le_of_ble_eq_true rfl) (kX12_byteAt _ (s 69 20) _) (Nat.le_of_ble_eq_true rfl) mc_yX12_byteAt m_1614 m_1616 m_p55 mem_69 lay_69 rfl rfl rfl rfl (Nat.le_of_ble_eq_true rfl) dX12_stepOn_128 (fun y_17 s_17 => ?_)
    refine zr_callS (pc := 131) (As := fun ad => [.int y_17]) (st1 := []) hC (Nat.le_of_ble_eq_true rfl) (kX12_isDigit _ y_17 _) (Nat.le_of_ble_eq_true rfl) mc_yX12_isDigit m_1621 m_1622 rfl rfl rfl (Nat.le_of_ble_eq_true rfl) dX12_stepOn_131 (fun y_18 s_18 => ?_)
    refine zr_if_eq (pc := 134) (tgt := 178) hC dX12_stepOn_134 (by decide) (fun c_ => ?_) (fun c_ => ?_)
    · exact hk178 s_18
    · refine zr_aload_n (pc := 137) (i := 0) 0 hC dX12_stepOn_137 rfl rfl ?_
      refine zr_ldc (pc := 138) hC dX12_stepOn_138 m_1624 ?_
      refine zr_bipush (pc := 140) (v := (10 : Int32)) hC dX12_stepOn_140 bi_10 ?_
      refine zr_aload_n (pc := 142) (i := 0) 0 hC dX12_stepOn_142 rfl rfl ?_
      refine zr_getI (pc := 143) (j := 23) hC mem_69 lay_69 rfl rfl (Nat.le_of_ble_eq_true rfl) iX12 m_1418 dX12_stepOn_143 ?_
      refine zr_imul (pc := 146) hC dX12_stepOn_146 ?_
      refine zr_aload_n (pc := 147) (i := 0) 0 hC dX12_stepOn_147 rfl rfl ?_
      refine zr_aload_n (pc := 148) (i := 0) 0 hC dX12_stepOn_148 rfl rfl ?_
      refine zr_getI (pc := 149) (j := 20) hC mem_69 lay_69 rfl rfl (Nat.le_of_ble_eq_true rfl) iX12 m_1415 dX12_stepOn_149 ?_
      refine zr_callV (pc := 152) (As := fun ad => [.int (s_18 69 20)]) (st1 := [.int ((10 : Int32) * (s_18 69 23)), .int (100000 : Int32), .ref (X_ad X 69)]) hC (Nat.le_of_ble_eq_true rfl) (kX12_byteAt _ (s_18 69 20) _) (Nat.le_of_ble_eq_true rfl) mc_yX12_byteAt m_1614 m_1616 m_p55 mem_69 lay_69 rfl rfl rfl rfl (Nat.le_of_ble_eq_true rfl) dX12_stepOn_152 (fun y_19 s_19 => ?_)
      refine zr_iadd (pc := 155) hC dX12_stepOn_155 ?_
      refine zr_bipush (pc := 156) (v := (48 : Int32)) hC dX12_stepOn_156 bi_48 ?_
      refine zr_isub (pc := 158) hC dX12_stepOn_158 ?_
      refine zr_mmin (pc := 159) hC (Nat.le_of_ble_eq_true rfl) (Nat.le_of_ble_eq_true rfl) m_1625 m_496 m_23 m_497 (Nat.le_of_ble_eq_true rfl) dX12_stepOn_159 ?_
      refine zr_putInt (pc := 162) (j := 23) hC mem_69 lay_69 rfl rfl (Nat.le_of_ble_eq_true rfl) iX12 tyX12_ok nmX12 m_1418 rfl (by decide +kernel) dX12_stepOn_162 ?_
      refine zr_aload_n (pc := 165) (i := 0) 0 hC dX12_stepOn_165 rfl rfl ?_
      refine zr_dup (pc := 166) hC dX12_stepOn_166 rfl ?_
      refine zr_getI (pc := 167) (j := 20) hC mem_69 lay_69 rfl rfl (Nat.le_of_ble_eq_true rfl) iX12 m_1415 dX12_stepOn_167 ?_
      refine zr_iconst (pc := 170) (v := (1 : Int32)) hC dX12_stepOn_170 ic_1 ?_
      refine zr_iadd (pc := 171) hC dX12_stepOn_171 ?_
      refine zr_putInt (pc := 172) (j := 20) hC mem_69 lay_69 rfl rfl (Nat.le_of_ble_eq_true rfl) iX12 tyX12_ok nmX12 m_1415 rfl (by decide +kernel) dX12_stepOn_172 ?_
      refine zr_goto (pc := 175) (tgt := 123) hC dX12_stepOn_175 (by decide) ?_
      exact ih (wr (wr s_19 69 23 (jmin (100000 : Int32) ((((10 : Int32) * (s_18 69 23)) + y_19) - (48 : Int32)))) 69 20 (((wr s_19 69 23 (jmin (100000 : Int32) ((((10 : Int32) * (s_18 69 23)) + y_19) - (48 : Int32)))) 69 20) + (1 : Int32)))
def fX12_stepOn_L76 (k103 : St → Option (Int32 × St)) : Nat → St → Option (Int32 × St)
  | 0, _ => none
  | n + 1, s =>
    bd (fX12_byteAt (s 69 20) s) (fun y_25 s_25 =>
    bd (fX12_isLetter y_25 s_25) (fun y_26 s_26 =>
    if y_26 = 0 then
    (k103 s_26)
  else
    (let s_27 := wr s_26 69 20 ((s_26 69 20) + (1 : Int32));
    fX12_stepOn_L76 k103 n s_27)))
set_option maxRecDepth 100000 in
set_option maxHeartbeats 4000000 in
theorem tX12_stepOn_L76 (k103 : St → Option (Int32 × St)) (X : KX) (hC : Ctx X RX12 cX12_stepOn FULL 7 0) (hR : RC X none) (hN : X_nL X = 2) (hk103 : ∀ (s : St), Zr X (QFN X none) 0 s 103 [(0, .ref (X_ad X 69))] [] (k103 s)) : ∀ (n : Nat) (s : St), Zr X (QFN X none) 0 s 76 [(0, .ref (X_ad X 69))] [] (fX12_stepOn_L76 k103 n s) := by
  intro n
  induction n with
  | zero =>
    intro s
    exact zr_none
  | succ n ih =>
    intro s
    rw [fX12_stepOn_L76]
    refine zr_aload_n (pc := 76) (i := 0) 0 hC dX12_stepOn_76 rfl rfl ?_
    refine zr_aload_n (pc := 77) (i := 0) 0 hC dX12_stepOn_77 rfl rfl ?_
    refine zr_getI (pc := 78) (j := 20) hC mem_69 lay_69 rfl rfl (Nat.le_of_ble_eq_true rfl) iX12 m_1415 dX12_stepOn_78 ?_
    refine zr_callV (pc := 81) (As := fun ad => [.int (s 69 20)]) (st1 := []) hC (Nat.le_of_ble_eq_true rfl) (kX12_byteAt _ (s 69 20) _) (Nat.le_of_ble_eq_true rfl) mc_yX12_byteAt m_1614 m_1616 m_p55 mem_69 lay_69 rfl rfl rfl rfl (Nat.le_of_ble_eq_true rfl) dX12_stepOn_81 (fun y_25 s_25 => ?_)
    refine zr_callS (pc := 84) (As := fun ad => [.int y_25]) (st1 := []) hC (Nat.le_of_ble_eq_true rfl) (kX12_isLetter _ y_25 _) (Nat.le_of_ble_eq_true rfl) mc_yX12_isLetter m_1618 m_1619 rfl rfl rfl (Nat.le_of_ble_eq_true rfl) dX12_stepOn_84 (fun y_26 s_26 => ?_)
    refine zr_if_eq (pc := 87) (tgt := 103) hC dX12_stepOn_87 (by decide) (fun c_ => ?_) (fun c_ => ?_)
    · exact hk103 s_26
    · refine zr_aload_n (pc := 90) (i := 0) 0 hC dX12_stepOn_90 rfl rfl ?_
      refine zr_dup (pc := 91) hC dX12_stepOn_91 rfl ?_
      refine zr_getI (pc := 92) (j := 20) hC mem_69 lay_69 rfl rfl (Nat.le_of_ble_eq_true rfl) iX12 m_1415 dX12_stepOn_92 ?_
      refine zr_iconst (pc := 95) (v := (1 : Int32)) hC dX12_stepOn_95 ic_1 ?_
      refine zr_iadd (pc := 96) hC dX12_stepOn_96 ?_
      refine zr_putInt (pc := 97) (j := 20) hC mem_69 lay_69 rfl rfl (Nat.le_of_ble_eq_true rfl) iX12 tyX12_ok nmX12 m_1415 rfl (by decide +kernel) dX12_stepOn_97 ?_
      refine zr_goto (pc := 100) (tgt := 76) hC dX12_stepOn_100 (by decide) ?_
      exact ih (wr s_26 69 20 ((s_26 69 20) + (1 : Int32)))
def fX12_stepOn (s : St) : Option (Int32 × St) :=
  fX12_stepOn_L0 (fun s_5 => let s_6 := wr s_5 69 24 (s_5 69 20);
    bd (fX12_byteAt (s_6 69 20) s_6) (fun y_7 s_7 =>
    if y_7 = (-1 : Int32) then
    (let s_31 := wr s_7 69 22 (0 : Int32);
    let s_32 := wr s_31 69 25 (s_31 69 20);
    some (0, s_32))
  else
    (bd (fX12_isLetter y_7 s_7) (fun y_8 s_8 =>
    if y_8 = 0 then
    (bd (fX12_isDigit y_7 s_8) (fun y_9 s_9 =>
    if y_9 = 0 then
    (let s_10 := wr s_9 69 20 ((s_9 69 20) + (1 : Int32));
    bd (fX12_isMark y_7 s_10) (fun y_11 s_11 =>
    if y_11 = 0 then
    (let s_12 := wr s_11 69 22 (4 : Int32);
    let s_13 := wr s_12 69 25 (s_12 69 20);
    some (0, s_13))
  else
    (let s_14 := wr s_11 69 22 (3 : Int32);
    let s_15 := wr s_14 69 25 (s_14 69 20);
    some (0, s_15))))
  else
    (let s_16 := wr s_9 69 23 (0 : Int32);
    fX12_stepOn_L123 (fun s_22 => let s_23 := wr s_22 69 22 (2 : Int32);
    let s_24 := wr s_23 69 25 (s_23 69 20);
    some (0, s_24)) FU s_16)))
  else
    (fX12_stepOn_L76 (fun s_28 => let s_29 := wr s_28 69 22 (1 : Int32);
    let s_30 := wr s_29 69 25 (s_29 69 20);
    some (0, s_30)) FU s_8))))) FU s
set_option maxRecDepth 100000 in
set_option maxHeartbeats 4000000 in
theorem kX12_stepOn (l : Launch)  (s : St) : CN l yX12_stepOn cX12_stepOn 2 none 7 FULL (fun ad => [.ref (ad 69)]) s (fX12_stepOn s) := by
  refine cn_of (by decide) (fun _ => (Nat.le_of_ble_eq_true rfl)) (fun X hC hR hl hN => ?_)
  subst hl
  show Zr X (QFN X none) 0 s 0 [(0, .ref (X_ad X 69))] [] _
  rw [fX12_stepOn]
  refine tX12_stepOn_L0 _ X hC hR hN (fun s_5 => ?_) FU _
  · refine zr_aload_n (pc := 39) (i := 0) 0 hC dX12_stepOn_39 rfl rfl ?_
    refine zr_aload_n (pc := 40) (i := 0) 0 hC dX12_stepOn_40 rfl rfl ?_
    refine zr_getI (pc := 41) (j := 20) hC mem_69 lay_69 rfl rfl (Nat.le_of_ble_eq_true rfl) iX12 m_1415 dX12_stepOn_41 ?_
    refine zr_putInt (pc := 44) (j := 24) hC mem_69 lay_69 rfl rfl (Nat.le_of_ble_eq_true rfl) iX12 tyX12_ok nmX12 m_1419 rfl (by decide +kernel) dX12_stepOn_44 ?_
    refine zr_aload_n (pc := 47) (i := 0) 0 hC dX12_stepOn_47 rfl rfl ?_
    refine zr_aload_n (pc := 48) (i := 0) 0 hC dX12_stepOn_48 rfl rfl ?_
    refine zr_getI (pc := 49) (j := 20) hC mem_69 lay_69 rfl rfl (Nat.le_of_ble_eq_true rfl) iX12 m_1415 dX12_stepOn_49 ?_
    refine zr_callV (pc := 52) (As := fun ad => [.int ((wr s_5 69 24 (s_5 69 20)) 69 20)]) (st1 := []) hC (Nat.le_of_ble_eq_true rfl) (kX12_byteAt _ ((wr s_5 69 24 (s_5 69 20)) 69 20) _) (Nat.le_of_ble_eq_true rfl) mc_yX12_byteAt m_1614 m_1616 m_p55 mem_69 lay_69 rfl rfl rfl rfl (Nat.le_of_ble_eq_true rfl) dX12_stepOn_52 (fun y_7 s_7 => ?_)
    refine zr_istore_n (pc := 55) (i := 1) (ls' := [(1, _), (0, _)]) hC dX12_stepOn_55 rfl (nlt hN (Nat.le_of_ble_eq_true rfl)) rfl ?_
    refine zr_iload_n (pc := 56) (i := 1) 0 hC dX12_stepOn_56 rfl rfl ?_
    refine zr_iconst (pc := 57) (v := (-1 : Int32)) hC dX12_stepOn_57 ic_m1 ?_
    refine zr_icmp_ne (pc := 58) (tgt := 69) hC dX12_stepOn_58 (by decide) (fun c_ => ?_) (fun c_ => ?_)
    · refine zr_aload_n (pc := 61) (i := 0) 1 hC dX12_stepOn_61 rfl rfl ?_
      refine zr_iconst (pc := 62) (v := (0 : Int32)) hC dX12_stepOn_62 ic_0 ?_
      refine zr_putInt (pc := 63) (j := 22) hC mem_69 lay_69 rfl rfl (Nat.le_of_ble_eq_true rfl) iX12 tyX12_ok nmX12 m_1417 rfl (by decide +kernel) dX12_stepOn_63 ?_
      refine zr_goto (pc := 66) (tgt := 212) hC dX12_stepOn_66 (by decide) ?_
      refine zr_aload_n (pc := 212) (i := 0) 1 hC dX12_stepOn_212 rfl rfl ?_
      refine zr_aload_n (pc := 213) (i := 0) 1 hC dX12_stepOn_213 rfl rfl ?_
      refine zr_getI (pc := 214) (j := 20) hC mem_69 lay_69 rfl rfl (Nat.le_of_ble_eq_true rfl) iX12 m_1415 dX12_stepOn_214 ?_
      refine zr_putInt (pc := 217) (j := 25) hC mem_69 lay_69 rfl rfl (Nat.le_of_ble_eq_true rfl) iX12 tyX12_ok nmX12 m_1420 rfl (by decide +kernel) dX12_stepOn_217 ?_
      exact zr_vret (pc := 220) hC hR dX12_stepOn_220
    · refine zr_iload_n (pc := 69) (i := 1) 0 hC dX12_stepOn_69 rfl rfl ?_
      refine zr_callS (pc := 70) (As := fun ad => [.int y_7]) (st1 := []) hC (Nat.le_of_ble_eq_true rfl) (kX12_isLetter _ y_7 _) (Nat.le_of_ble_eq_true rfl) mc_yX12_isLetter m_1618 m_1619 rfl rfl rfl (Nat.le_of_ble_eq_true rfl) dX12_stepOn_70 (fun y_8 s_8 => ?_)
      refine zr_if_eq (pc := 73) (tgt := 111) hC dX12_stepOn_73 (by decide) (fun c_ => ?_) (fun c_ => ?_)
      · refine zr_iload_n (pc := 111) (i := 1) 0 hC dX12_stepOn_111 rfl rfl ?_
        refine zr_callS (pc := 112) (As := fun ad => [.int y_7]) (st1 := []) hC (Nat.le_of_ble_eq_true rfl) (kX12_isDigit _ y_7 _) (Nat.le_of_ble_eq_true rfl) mc_yX12_isDigit m_1621 m_1622 rfl rfl rfl (Nat.le_of_ble_eq_true rfl) dX12_stepOn_112 (fun y_9 s_9 => ?_)
        refine zr_if_eq (pc := 115) (tgt := 186) hC dX12_stepOn_115 (by decide) (fun c_ => ?_) (fun c_ => ?_)
        · refine zr_aload_n (pc := 186) (i := 0) 1 hC dX12_stepOn_186 rfl rfl ?_
          refine zr_dup (pc := 187) hC dX12_stepOn_187 rfl ?_
          refine zr_getI (pc := 188) (j := 20) hC mem_69 lay_69 rfl rfl (Nat.le_of_ble_eq_true rfl) iX12 m_1415 dX12_stepOn_188 ?_
          refine zr_iconst (pc := 191) (v := (1 : Int32)) hC dX12_stepOn_191 ic_1 ?_
          refine zr_iadd (pc := 192) hC dX12_stepOn_192 ?_
          refine zr_putInt (pc := 193) (j := 20) hC mem_69 lay_69 rfl rfl (Nat.le_of_ble_eq_true rfl) iX12 tyX12_ok nmX12 m_1415 rfl (by decide +kernel) dX12_stepOn_193 ?_
          refine zr_aload_n (pc := 196) (i := 0) 1 hC dX12_stepOn_196 rfl rfl ?_
          refine zr_iload_n (pc := 197) (i := 1) 0 hC dX12_stepOn_197 rfl rfl ?_
          refine zr_callS (pc := 198) (As := fun ad => [.int y_7]) (st1 := [.ref (X_ad X 69)]) hC (Nat.le_of_ble_eq_true rfl) (kX12_isMark _ y_7 _) (Nat.le_of_ble_eq_true rfl) mc_yX12_isMark m_1626 m_1627 rfl rfl rfl (Nat.le_of_ble_eq_true rfl) dX12_stepOn_198 (fun y_11 s_11 => ?_)
          refine zr_if_eq (pc := 201) (tgt := 208) hC dX12_stepOn_201 (by decide) (fun c_ => ?_) (fun c_ => ?_)
          · refine zr_iconst (pc := 208) (v := (4 : Int32)) hC dX12_stepOn_208 ic_4 ?_
            refine zr_putInt (pc := 209) (j := 22) hC mem_69 lay_69 rfl rfl (Nat.le_of_ble_eq_true rfl) iX12 tyX12_ok nmX12 m_1417 rfl (by decide +kernel) dX12_stepOn_209 ?_
            refine zr_aload_n (pc := 212) (i := 0) 1 hC dX12_stepOn_212 rfl rfl ?_
            refine zr_aload_n (pc := 213) (i := 0) 1 hC dX12_stepOn_213 rfl rfl ?_
            refine zr_getI (pc := 214) (j := 20) hC mem_69 lay_69 rfl rfl (Nat.le_of_ble_eq_true rfl) iX12 m_1415 dX12_stepOn_214 ?_
            refine zr_putInt (pc := 217) (j := 25) hC mem_69 lay_69 rfl rfl (Nat.le_of_ble_eq_true rfl) iX12 tyX12_ok nmX12 m_1420 rfl (by decide +kernel) dX12_stepOn_217 ?_
            exact zr_vret (pc := 220) hC hR dX12_stepOn_220
          · refine zr_iconst (pc := 204) (v := (3 : Int32)) hC dX12_stepOn_204 ic_3 ?_
            refine zr_goto (pc := 205) (tgt := 209) hC dX12_stepOn_205 (by decide) ?_
            refine zr_putInt (pc := 209) (j := 22) hC mem_69 lay_69 rfl rfl (Nat.le_of_ble_eq_true rfl) iX12 tyX12_ok nmX12 m_1417 rfl (by decide +kernel) dX12_stepOn_209 ?_
            refine zr_aload_n (pc := 212) (i := 0) 1 hC dX12_stepOn_212 rfl rfl ?_
            refine zr_aload_n (pc := 213) (i := 0) 1 hC dX12_stepOn_213 rfl rfl ?_
            refine zr_getI (pc := 214) (j := 20) hC mem_69 lay_69 rfl rfl (Nat.le_of_ble_eq_true rfl) iX12 m_1415 dX12_stepOn_214 ?_
            refine zr_putInt (pc := 217) (j := 25) hC mem_69 lay_69 rfl rfl (Nat.le_of_ble_eq_true rfl) iX12 tyX12_ok nmX12 m_1420 rfl (by decide +kernel) dX12_stepOn_217 ?_
            exact zr_vret (pc := 220) hC hR dX12_stepOn_220
        · refine zr_aload_n (pc := 118) (i := 0) 1 hC dX12_stepOn_118 rfl rfl ?_
          refine zr_iconst (pc := 119) (v := (0 : Int32)) hC dX12_stepOn_119 ic_0 ?_
          refine zr_putInt (pc := 120) (j := 23) hC mem_69 lay_69 rfl rfl (Nat.le_of_ble_eq_true rfl) iX12 tyX12_ok nmX12 m_1418 rfl (by decide +kernel) dX12_stepOn_120 ?_
          refine zr_sub (ls' := [(0, _)]) [1] rfl ?_
          refine tX12_stepOn_L123 _ X hC hR hN (fun s_22 => ?_) FU _
          · refine zr_aload_n (pc := 178) (i := 0) 0 hC dX12_stepOn_178 rfl rfl ?_
            refine zr_iconst (pc := 179) (v := (2 : Int32)) hC dX12_stepOn_179 ic_2 ?_
            refine zr_putInt (pc := 180) (j := 22) hC mem_69 lay_69 rfl rfl (Nat.le_of_ble_eq_true rfl) iX12 tyX12_ok nmX12 m_1417 rfl (by decide +kernel) dX12_stepOn_180 ?_
            refine zr_goto (pc := 183) (tgt := 212) hC dX12_stepOn_183 (by decide) ?_
            refine zr_aload_n (pc := 212) (i := 0) 0 hC dX12_stepOn_212 rfl rfl ?_
            refine zr_aload_n (pc := 213) (i := 0) 0 hC dX12_stepOn_213 rfl rfl ?_
            refine zr_getI (pc := 214) (j := 20) hC mem_69 lay_69 rfl rfl (Nat.le_of_ble_eq_true rfl) iX12 m_1415 dX12_stepOn_214 ?_
            refine zr_putInt (pc := 217) (j := 25) hC mem_69 lay_69 rfl rfl (Nat.le_of_ble_eq_true rfl) iX12 tyX12_ok nmX12 m_1420 rfl (by decide +kernel) dX12_stepOn_217 ?_
            exact zr_vret (pc := 220) hC hR dX12_stepOn_220
      · refine zr_sub (ls' := [(0, _)]) [1] rfl ?_
        refine tX12_stepOn_L76 _ X hC hR hN (fun s_28 => ?_) FU _
        · refine zr_aload_n (pc := 103) (i := 0) 0 hC dX12_stepOn_103 rfl rfl ?_
          refine zr_iconst (pc := 104) (v := (1 : Int32)) hC dX12_stepOn_104 ic_1 ?_
          refine zr_putInt (pc := 105) (j := 22) hC mem_69 lay_69 rfl rfl (Nat.le_of_ble_eq_true rfl) iX12 tyX12_ok nmX12 m_1417 rfl (by decide +kernel) dX12_stepOn_105 ?_
          refine zr_goto (pc := 108) (tgt := 212) hC dX12_stepOn_108 (by decide) ?_
          refine zr_aload_n (pc := 212) (i := 0) 0 hC dX12_stepOn_212 rfl rfl ?_
          refine zr_aload_n (pc := 213) (i := 0) 0 hC dX12_stepOn_213 rfl rfl ?_
          refine zr_getI (pc := 214) (j := 20) hC mem_69 lay_69 rfl rfl (Nat.le_of_ble_eq_true rfl) iX12 m_1415 dX12_stepOn_214 ?_
          refine zr_putInt (pc := 217) (j := 25) hC mem_69 lay_69 rfl rfl (Nat.le_of_ble_eq_true rfl) iX12 tyX12_ok nmX12 m_1420 rfl (by decide +kernel) dX12_stepOn_217 ?_
          exact zr_vret (pc := 220) hC hR dX12_stepOn_220
def fX12_is_L39 (t1 : Nat) : Nat → Int32 → Int32 → St → Option (Int32 × St)
  | 0, _, _, _ => none
  | n + 1, v2, v3, s =>
    if v2 = 0 then
    (if v2 = 0 ∨ v2 = 1 then some (v2, s) else none)
  else
    (if (strLen t1) ≤ v3 then
    (if v2 = 0 ∨ v2 = 1 then some (v2, s) else none)
  else
    (if 0 ≤ v3.toInt ∧ v3.toInt < (strLen t1).toInt then
    (if inA ((s 69 24) + v3) 700 then
    (if (strAt t1 v3.toNatClampNeg) = (s 86 ((s 69 24) + v3).toNatClampNeg) then
    (fX12_is_L39 t1 n (1 : Int32) (v3 + (1 : Int32)) s)
  else
    (fX12_is_L39 t1 n (0 : Int32) (v3 + (1 : Int32)) s)) else none) else none))
set_option maxRecDepth 100000 in
set_option maxHeartbeats 4000000 in
theorem tX12_is_L39 (t1 : Nat) (X : KX) (hC : Ctx X RX12 cX12_is FULL 10 0) (hR : RC X (some .boolean)) (hN : X_nL X = 4) (ht1 : isStr t1) : ∀ (n : Nat) (v2 : Int32) (v3 : Int32) (s : St), Zr X (QFN X (some .boolean)) 0 s 39 [(0, .ref (X_ad X 69)), (1, .ref (X_ad X t1)), (2, .int v2), (3, .int v3)] [] (fX12_is_L39 t1 n v2 v3 s) := by
  intro n
  induction n with
  | zero =>
    intro v2 v3 s
    exact zr_none
  | succ n ih =>
    intro v2 v3 s
    rw [fX12_is_L39]
    refine zr_iload_n (pc := 39) (i := 2) 2 hC dX12_is_39 rfl rfl ?_
    refine zr_if_eq (pc := 40) (tgt := 82) hC dX12_is_40 (by decide) (fun c_ => ?_) (fun c_ => ?_)
    · refine zr_iload_n (pc := 82) (i := 2) 2 hC dX12_is_82 rfl rfl ?_
      exact zr_zretG (pc := 83) hC hR dX12_is_83
    · refine zr_iload_n (pc := 43) (i := 3) 3 hC dX12_is_43 rfl rfl ?_
      refine zr_aload_n (pc := 44) (i := 1) 1 hC dX12_is_44 rfl rfl ?_
      refine zr_slen (pc := 45) (t := t1) hC (Nat.le_of_ble_eq_true rfl) (Nat.le_of_ble_eq_true rfl) ht1 m_1638 dX12_is_45 (Nat.le_of_ble_eq_true rfl) ?_
      refine zr_icmp_ge (pc := 48) (tgt := 82) hC dX12_is_48 (by decide) (fun c_ => ?_) (fun c_ => ?_)
      · refine zr_iload_n (pc := 82) (i := 2) 2 hC dX12_is_82 rfl rfl ?_
        exact zr_zretG (pc := 83) hC hR dX12_is_83
      · refine zr_aload_n (pc := 51) (i := 1) 1 hC dX12_is_51 rfl rfl ?_
        refine zr_iload_n (pc := 52) (i := 3) 3 hC dX12_is_52 rfl rfl ?_
        refine zr_schar (pc := 53) (t := t1) hC (Nat.le_of_ble_eq_true rfl) (Nat.le_of_ble_eq_true rfl) ht1 m_1639 dX12_is_53 (Nat.le_of_ble_eq_true rfl) ?_
        refine zr_aload_n (pc := 56) (i := 0) 0 hC dX12_is_56 rfl rfl ?_
        refine zr_getR (pc := 57) (j := 18) (k1 := 86) hC mem_69 lay_69 rfl rfl (Nat.le_of_ble_eq_true rfl) iX12 m_1413 dX12_is_57 ?_
        refine zr_aload_n (pc := 60) (i := 0) 0 hC dX12_is_60 rfl rfl ?_
        refine zr_getI (pc := 61) (j := 24) hC mem_69 lay_69 rfl rfl (Nat.le_of_ble_eq_true rfl) iX12 m_1419 dX12_is_61 ?_
        refine zr_iload_n (pc := 64) (i := 3) 3 hC dX12_is_64 rfl rfl ?_
        refine zr_iadd (pc := 65) hC dX12_is_65 ?_
        refine zr_iald (pc := 66) hC mem_86 lay_86 dX12_is_66 ?_
        refine zr_icmp_ne (pc := 67) (tgt := 74) hC dX12_is_67 (by decide) (fun c_ => ?_) (fun c_ => ?_)
        · refine zr_iconst (pc := 70) (v := (1 : Int32)) hC dX12_is_70 ic_1 ?_
          refine zr_goto (pc := 71) (tgt := 75) hC dX12_is_71 (by decide) ?_
          refine zr_istore_n (pc := 75) (i := 2) (ls' := [(2, _), (0, _), (1, _), (3, _)]) hC dX12_is_75 rfl (nlt hN (Nat.le_of_ble_eq_true rfl)) rfl ?_
          refine zr_iinc (pc := 76) (q := 3) (ls' := [(3, _), (2, _), (0, _), (1, _)]) hC dX12_is_76 rfl (inc_1 _) (nlt hN (Nat.le_of_ble_eq_true rfl)) rfl ?_
          refine zr_goto (pc := 79) (tgt := 39) hC dX12_is_79 (by decide) ?_
          refine zr_sub (ls' := [(0, _), (1, _), (2, _), (3, _)]) [2, 3, 1, 0] rfl ?_
          exact ih (1 : Int32) (v3 + (1 : Int32)) s
        · refine zr_iconst (pc := 74) (v := (0 : Int32)) hC dX12_is_74 ic_0 ?_
          refine zr_istore_n (pc := 75) (i := 2) (ls' := [(2, _), (0, _), (1, _), (3, _)]) hC dX12_is_75 rfl (nlt hN (Nat.le_of_ble_eq_true rfl)) rfl ?_
          refine zr_iinc (pc := 76) (q := 3) (ls' := [(3, _), (2, _), (0, _), (1, _)]) hC dX12_is_76 rfl (inc_1 _) (nlt hN (Nat.le_of_ble_eq_true rfl)) rfl ?_
          refine zr_goto (pc := 79) (tgt := 39) hC dX12_is_79 (by decide) ?_
          refine zr_sub (ls' := [(0, _), (1, _), (2, _), (3, _)]) [2, 3, 1, 0] rfl ?_
          exact ih (0 : Int32) (v3 + (1 : Int32)) s
def fX12_is_J36 (t1 : Nat) (q0 : Int32) (s : St) : Option (Int32 × St) :=
  fX12_is_L39 t1 FU q0 (0 : Int32) s
set_option maxRecDepth 100000 in
set_option maxHeartbeats 4000000 in
theorem tX12_is_J36 (t1 : Nat) (q0 : Int32) (X : KX) (hC : Ctx X RX12 cX12_is FULL 10 0) (hR : RC X (some .boolean)) (hN : X_nL X = 4) (ht1 : isStr t1) (s : St) : Zr X (QFN X (some .boolean)) 0 s 36 [(0, .ref (X_ad X 69)), (1, .ref (X_ad X t1))] [.int q0] (fX12_is_J36 t1 q0 s) := by
  rw [fX12_is_J36]
  refine zr_istore_n (pc := 36) (i := 2) (ls' := [(2, _), (0, _), (1, _)]) hC dX12_is_36 rfl (nlt hN (Nat.le_of_ble_eq_true rfl)) rfl ?_
  refine zr_iconst (pc := 37) (v := (0 : Int32)) hC dX12_is_37 ic_0 ?_
  refine zr_istore_n (pc := 38) (i := 3) (ls' := [(3, _), (2, _), (0, _), (1, _)]) hC dX12_is_38 rfl (nlt hN (Nat.le_of_ble_eq_true rfl)) rfl ?_
  refine zr_sub (ls' := [(0, _), (1, _), (2, _), (3, _)]) [2, 3, 1, 0] rfl ?_
  exact tX12_is_L39 t1 X hC hR hN ht1 FU q0 (0 : Int32) _
def fX12_is_J35 (t1 : Nat) (s : St) : Option (Int32 × St) :=
  fX12_is_J36 t1 (0 : Int32) s
set_option maxRecDepth 100000 in
set_option maxHeartbeats 4000000 in
theorem tX12_is_J35 (t1 : Nat) (X : KX) (hC : Ctx X RX12 cX12_is FULL 10 0) (hR : RC X (some .boolean)) (hN : X_nL X = 4) (ht1 : isStr t1) (s : St) : Zr X (QFN X (some .boolean)) 0 s 35 [(0, .ref (X_ad X 69)), (1, .ref (X_ad X t1))] [] (fX12_is_J35 t1 s) := by
  rw [fX12_is_J35]
  refine zr_iconst (pc := 35) (v := (0 : Int32)) hC dX12_is_35 ic_0 ?_
  exact tX12_is_J36 t1 (0 : Int32) X hC hR hN ht1  _
def fX12_is (t1 : Nat) (s : St) : Option (Int32 × St) :=
  if (s 69 26) = 0 then
    (if (s 69 22) = (1 : Int32) then
    (if (strLen t1) = ((s 69 25) - (s 69 24)) then
    (fX12_is_J36 t1 (1 : Int32) s)
  else
    (fX12_is_J35 t1 s))
  else
    (fX12_is_J35 t1 s))
  else
    (fX12_is_J35 t1 s)
set_option maxRecDepth 100000 in
set_option maxHeartbeats 4000000 in
theorem kX12_is (l : Launch)  {t1 : Nat} (ht1 : isStr t1) (s : St) : CN l yX12_is cX12_is 4 (some .boolean) 10 FULL (fun ad => [.ref (ad 69), .ref (ad t1)]) s (fX12_is t1 s) := by
  refine cn_of (by decide) (fun _ => (Nat.le_of_ble_eq_true rfl)) (fun X hC hR hl hN => ?_)
  subst hl
  show Zr X (QFN X (some .boolean)) 0 s 0 [(0, .ref (X_ad X 69)), (1, .ref (X_ad X t1))] [] _
  rw [fX12_is]
  refine zr_aload_n (pc := 0) (i := 0) 0 hC dX12_is_0 rfl rfl ?_
  refine zr_getI (pc := 1) (j := 26) hC mem_69 lay_69 rfl rfl (Nat.le_of_ble_eq_true rfl) iX12 m_1421 dX12_is_1 ?_
  refine zr_if_ne (pc := 4) (tgt := 35) hC dX12_is_4 (by decide) (fun c_ => ?_) (fun c_ => ?_)
  · refine zr_aload_n (pc := 7) (i := 0) 0 hC dX12_is_7 rfl rfl ?_
    refine zr_getI (pc := 8) (j := 22) hC mem_69 lay_69 rfl rfl (Nat.le_of_ble_eq_true rfl) iX12 m_1417 dX12_is_8 ?_
    refine zr_iconst (pc := 11) (v := (1 : Int32)) hC dX12_is_11 ic_1 ?_
    refine zr_icmp_ne (pc := 12) (tgt := 35) hC dX12_is_12 (by decide) (fun c_ => ?_) (fun c_ => ?_)
    · refine zr_aload_n (pc := 15) (i := 1) 1 hC dX12_is_15 rfl rfl ?_
      refine zr_slen (pc := 16) (t := t1) hC (Nat.le_of_ble_eq_true rfl) (Nat.le_of_ble_eq_true rfl) ht1 m_1638 dX12_is_16 (Nat.le_of_ble_eq_true rfl) ?_
      refine zr_aload_n (pc := 19) (i := 0) 0 hC dX12_is_19 rfl rfl ?_
      refine zr_getI (pc := 20) (j := 25) hC mem_69 lay_69 rfl rfl (Nat.le_of_ble_eq_true rfl) iX12 m_1420 dX12_is_20 ?_
      refine zr_aload_n (pc := 23) (i := 0) 0 hC dX12_is_23 rfl rfl ?_
      refine zr_getI (pc := 24) (j := 24) hC mem_69 lay_69 rfl rfl (Nat.le_of_ble_eq_true rfl) iX12 m_1419 dX12_is_24 ?_
      refine zr_isub (pc := 27) hC dX12_is_27 ?_
      refine zr_icmp_ne (pc := 28) (tgt := 35) hC dX12_is_28 (by decide) (fun c_ => ?_) (fun c_ => ?_)
      · refine zr_iconst (pc := 31) (v := (1 : Int32)) hC dX12_is_31 ic_1 ?_
        refine zr_goto (pc := 32) (tgt := 36) hC dX12_is_32 (by decide) ?_
        exact tX12_is_J36 t1 (1 : Int32) X hC hR hN ht1  _
      · exact tX12_is_J35 t1 X hC hR hN ht1  _
    · exact tX12_is_J35 t1 X hC hR hN ht1  _
  · exact tX12_is_J35 t1 X hC hR hN ht1  _
def fX12_wrong (a1 : Int32) (s : St) : Option (Int32 × St) :=
  if (s 69 26) = 0 then
    (let s_1 := wr s 69 26 a1;
    let s_2 := wr s_1 69 27 (s_1 69 24);
    some (0, s_2))
  else
    (some (0, s))
set_option maxRecDepth 100000 in
set_option maxHeartbeats 4000000 in
theorem kX12_wrong (l : Launch)  (a1 : Int32) (s : St) : CN l yX12_wrong cX12_wrong 2 none 1 FULL (fun ad => [.ref (ad 69), .int a1]) s (fX12_wrong a1 s) := by
  refine cn_of (by decide) (fun _ => (Nat.le_of_ble_eq_true rfl)) (fun X hC hR hl hN => ?_)
  subst hl
  show Zr X (QFN X none) 0 s 0 [(0, .ref (X_ad X 69)), (1, .int a1)] [] _
  rw [fX12_wrong]
  refine zr_aload_n (pc := 0) (i := 0) 0 hC dX12_wrong_0 rfl rfl ?_
  refine zr_getI (pc := 1) (j := 26) hC mem_69 lay_69 rfl rfl (Nat.le_of_ble_eq_true rfl) iX12 m_1421 dX12_wrong_1 ?_
  refine zr_if_eq (pc := 4) (tgt := 8) hC dX12_wrong_4 (by decide) (fun c_ => ?_) (fun c_ => ?_)
  · refine zr_aload_n (pc := 8) (i := 0) 0 hC dX12_wrong_8 rfl rfl ?_
    refine zr_iload_n (pc := 9) (i := 1) 1 hC dX12_wrong_9 rfl rfl ?_
    refine zr_putInt (pc := 10) (j := 26) hC mem_69 lay_69 rfl rfl (Nat.le_of_ble_eq_true rfl) iX12 tyX12_ok nmX12 m_1421 rfl (by decide +kernel) dX12_wrong_10 ?_
    refine zr_aload_n (pc := 13) (i := 0) 0 hC dX12_wrong_13 rfl rfl ?_
    refine zr_aload_n (pc := 14) (i := 0) 0 hC dX12_wrong_14 rfl rfl ?_
    refine zr_getI (pc := 15) (j := 24) hC mem_69 lay_69 rfl rfl (Nat.le_of_ble_eq_true rfl) iX12 m_1419 dX12_wrong_15 ?_
    refine zr_putInt (pc := 18) (j := 27) hC mem_69 lay_69 rfl rfl (Nat.le_of_ble_eq_true rfl) iX12 tyX12_ok nmX12 m_1422 rfl (by decide +kernel) dX12_wrong_18 ?_
    exact zr_vret (pc := 21) hC hR dX12_wrong_21
  · exact zr_vret (pc := 7) hC hR dX12_wrong_7
def fX12_numberNow_J54 (s : St) : Option (Int32 × St) :=
  bd (fX12_wrong (2 : Int32) s) (fun y_1 s_1 =>
    if (s_1 69 26) = 0 then
    (some ((s_1 69 23), s_1))
  else
    (some ((0 : Int32), s_1)))
set_option maxRecDepth 100000 in
set_option maxHeartbeats 4000000 in
theorem tX12_numberNow_J54 (X : KX) (hC : Ctx X RX12 cX12_numberNow FULL 2 0) (hR : RC X (some .int)) (hN : X_nL X = 3) (s : St) : Zr X (QFN X (some .int)) 0 s 54 [(0, .ref (X_ad X 69))] [] (fX12_numberNow_J54 s) := by
  rw [fX12_numberNow_J54]
  refine zr_aload_n (pc := 54) (i := 0) 0 hC dX12_numberNow_54 rfl rfl ?_
  refine zr_iconst (pc := 55) (v := (2 : Int32)) hC dX12_numberNow_55 ic_2 ?_
  refine zr_callVv (pc := 56) (As := fun ad => [.int (2 : Int32)]) (st1 := []) hC (Nat.le_of_ble_eq_true rfl) (kX12_wrong _ (2 : Int32) _) (Nat.le_of_ble_eq_true rfl) mc_yX12_wrong m_1642 m_1644 m_p58 mem_69 lay_69 rfl rfl rfl rfl (Nat.le_of_ble_eq_true rfl) dX12_numberNow_56 (fun y_1 s_1 => ?_)
  refine zr_aload_n (pc := 59) (i := 0) 0 hC dX12_numberNow_59 rfl rfl ?_
  refine zr_getI (pc := 60) (j := 26) hC mem_69 lay_69 rfl rfl (Nat.le_of_ble_eq_true rfl) iX12 m_1421 dX12_numberNow_60 ?_
  refine zr_if_ne (pc := 63) (tgt := 73) hC dX12_numberNow_63 (by decide) (fun c_ => ?_) (fun c_ => ?_)
  · refine zr_aload_n (pc := 66) (i := 0) 0 hC dX12_numberNow_66 rfl rfl ?_
    refine zr_getI (pc := 67) (j := 23) hC mem_69 lay_69 rfl rfl (Nat.le_of_ble_eq_true rfl) iX12 m_1418 dX12_numberNow_67 ?_
    refine zr_goto (pc := 70) (tgt := 74) hC dX12_numberNow_70 (by decide) ?_
    exact zr_iret (pc := 74) hC hR dX12_numberNow_74
  · refine zr_iconst (pc := 73) (v := (0 : Int32)) hC dX12_numberNow_73 ic_0 ?_
    exact zr_iret (pc := 74) hC hR dX12_numberNow_74
def fX12_numberNow (a1 : Int32) (a2 : Int32) (s : St) : Option (Int32 × St) :=
  if (s 69 26) = 0 then
    (if (s 69 22) = (2 : Int32) then
    (if (4 : Int32) < ((s 69 25) - (s 69 24)) then
    (fX12_numberNow_J54 s)
  else
    (if (s 69 23) < a1 then
    (fX12_numberNow_J54 s)
  else
    (if (s 69 23) ≤ a2 then
    (if (s 69 26) = 0 then
    (some ((s 69 23), s))
  else
    (some ((0 : Int32), s)))
  else
    (fX12_numberNow_J54 s))))
  else
    (bd (fX12_wrong (1 : Int32) s) (fun y_2 s_2 =>
    if (s_2 69 26) = 0 then
    (some ((s_2 69 23), s_2))
  else
    (some ((0 : Int32), s_2)))))
  else
    (some ((0 : Int32), s))
set_option maxRecDepth 100000 in
set_option maxHeartbeats 4000000 in
theorem kX12_numberNow (l : Launch)  (a1 : Int32) (a2 : Int32) (s : St) : CN l yX12_numberNow cX12_numberNow 3 (some .int) 2 FULL (fun ad => [.ref (ad 69), .int a1, .int a2]) s (fX12_numberNow a1 a2 s) := by
  refine cn_of (by decide) (fun _ => (Nat.le_of_ble_eq_true rfl)) (fun X hC hR hl hN => ?_)
  subst hl
  show Zr X (QFN X (some .int)) 0 s 0 [(0, .ref (X_ad X 69)), (1, .int a1), (2, .int a2)] [] _
  rw [fX12_numberNow]
  refine zr_aload_n (pc := 0) (i := 0) 0 hC dX12_numberNow_0 rfl rfl ?_
  refine zr_getI (pc := 1) (j := 26) hC mem_69 lay_69 rfl rfl (Nat.le_of_ble_eq_true rfl) iX12 m_1421 dX12_numberNow_1 ?_
  refine zr_if_eq (pc := 4) (tgt := 9) hC dX12_numberNow_4 (by decide) (fun c_ => ?_) (fun c_ => ?_)
  · refine zr_aload_n (pc := 9) (i := 0) 0 hC dX12_numberNow_9 rfl rfl ?_
    refine zr_getI (pc := 10) (j := 22) hC mem_69 lay_69 rfl rfl (Nat.le_of_ble_eq_true rfl) iX12 m_1417 dX12_numberNow_10 ?_
    refine zr_iconst (pc := 13) (v := (2 : Int32)) hC dX12_numberNow_13 ic_2 ?_
    refine zr_icmp_eq (pc := 14) (tgt := 25) hC dX12_numberNow_14 (by decide) (fun c_ => ?_) (fun c_ => ?_)
    · refine zr_aload_n (pc := 25) (i := 0) 0 hC dX12_numberNow_25 rfl rfl ?_
      refine zr_getI (pc := 26) (j := 25) hC mem_69 lay_69 rfl rfl (Nat.le_of_ble_eq_true rfl) iX12 m_1420 dX12_numberNow_26 ?_
      refine zr_aload_n (pc := 29) (i := 0) 0 hC dX12_numberNow_29 rfl rfl ?_
      refine zr_getI (pc := 30) (j := 24) hC mem_69 lay_69 rfl rfl (Nat.le_of_ble_eq_true rfl) iX12 m_1419 dX12_numberNow_30 ?_
      refine zr_isub (pc := 33) hC dX12_numberNow_33 ?_
      refine zr_iconst (pc := 34) (v := (4 : Int32)) hC dX12_numberNow_34 ic_4 ?_
      refine zr_icmp_gt (pc := 35) (tgt := 54) hC dX12_numberNow_35 (by decide) (fun c_ => ?_) (fun c_ => ?_)
      · refine zr_sub (ls' := [(0, _)]) [0] rfl ?_
        exact tX12_numberNow_J54  X hC hR hN  _
      · refine zr_aload_n (pc := 38) (i := 0) 0 hC dX12_numberNow_38 rfl rfl ?_
        refine zr_getI (pc := 39) (j := 23) hC mem_69 lay_69 rfl rfl (Nat.le_of_ble_eq_true rfl) iX12 m_1418 dX12_numberNow_39 ?_
        refine zr_iload_n (pc := 42) (i := 1) 1 hC dX12_numberNow_42 rfl rfl ?_
        refine zr_icmp_lt (pc := 43) (tgt := 54) hC dX12_numberNow_43 (by decide) (fun c_ => ?_) (fun c_ => ?_)
        · refine zr_sub (ls' := [(0, _)]) [0] rfl ?_
          exact tX12_numberNow_J54  X hC hR hN  _
        · refine zr_aload_n (pc := 46) (i := 0) 0 hC dX12_numberNow_46 rfl rfl ?_
          refine zr_getI (pc := 47) (j := 23) hC mem_69 lay_69 rfl rfl (Nat.le_of_ble_eq_true rfl) iX12 m_1418 dX12_numberNow_47 ?_
          refine zr_iload_n (pc := 50) (i := 2) 2 hC dX12_numberNow_50 rfl rfl ?_
          refine zr_icmp_le (pc := 51) (tgt := 59) hC dX12_numberNow_51 (by decide) (fun c_ => ?_) (fun c_ => ?_)
          · refine zr_aload_n (pc := 59) (i := 0) 0 hC dX12_numberNow_59 rfl rfl ?_
            refine zr_getI (pc := 60) (j := 26) hC mem_69 lay_69 rfl rfl (Nat.le_of_ble_eq_true rfl) iX12 m_1421 dX12_numberNow_60 ?_
            refine zr_if_ne (pc := 63) (tgt := 73) hC dX12_numberNow_63 (by decide) (fun c_ => ?_) (fun c_ => ?_)
            · refine zr_aload_n (pc := 66) (i := 0) 0 hC dX12_numberNow_66 rfl rfl ?_
              refine zr_getI (pc := 67) (j := 23) hC mem_69 lay_69 rfl rfl (Nat.le_of_ble_eq_true rfl) iX12 m_1418 dX12_numberNow_67 ?_
              refine zr_goto (pc := 70) (tgt := 74) hC dX12_numberNow_70 (by decide) ?_
              exact zr_iret (pc := 74) hC hR dX12_numberNow_74
            · refine zr_iconst (pc := 73) (v := (0 : Int32)) hC dX12_numberNow_73 ic_0 ?_
              exact zr_iret (pc := 74) hC hR dX12_numberNow_74
          · refine zr_sub (ls' := [(0, _)]) [0] rfl ?_
            exact tX12_numberNow_J54  X hC hR hN  _
    · refine zr_aload_n (pc := 17) (i := 0) 0 hC dX12_numberNow_17 rfl rfl ?_
      refine zr_iconst (pc := 18) (v := (1 : Int32)) hC dX12_numberNow_18 ic_1 ?_
      refine zr_callVv (pc := 19) (As := fun ad => [.int (1 : Int32)]) (st1 := []) hC (Nat.le_of_ble_eq_true rfl) (kX12_wrong _ (1 : Int32) _) (Nat.le_of_ble_eq_true rfl) mc_yX12_wrong m_1642 m_1644 m_p58 mem_69 lay_69 rfl rfl rfl rfl (Nat.le_of_ble_eq_true rfl) dX12_numberNow_19 (fun y_2 s_2 => ?_)
      refine zr_goto (pc := 22) (tgt := 59) hC dX12_numberNow_22 (by decide) ?_
      refine zr_aload_n (pc := 59) (i := 0) 0 hC dX12_numberNow_59 rfl rfl ?_
      refine zr_getI (pc := 60) (j := 26) hC mem_69 lay_69 rfl rfl (Nat.le_of_ble_eq_true rfl) iX12 m_1421 dX12_numberNow_60 ?_
      refine zr_if_ne (pc := 63) (tgt := 73) hC dX12_numberNow_63 (by decide) (fun c_ => ?_) (fun c_ => ?_)
      · refine zr_aload_n (pc := 66) (i := 0) 0 hC dX12_numberNow_66 rfl rfl ?_
        refine zr_getI (pc := 67) (j := 23) hC mem_69 lay_69 rfl rfl (Nat.le_of_ble_eq_true rfl) iX12 m_1418 dX12_numberNow_67 ?_
        refine zr_goto (pc := 70) (tgt := 74) hC dX12_numberNow_70 (by decide) ?_
        exact zr_iret (pc := 74) hC hR dX12_numberNow_74
      · refine zr_iconst (pc := 73) (v := (0 : Int32)) hC dX12_numberNow_73 ic_0 ?_
        exact zr_iret (pc := 74) hC hR dX12_numberNow_74
  · refine zr_iconst (pc := 7) (v := (0 : Int32)) hC dX12_numberNow_7 ic_0 ?_
    exact zr_iret (pc := 8) hC hR dX12_numberNow_8
def fX12_readNumber (a1 : Int32) (a2 : Int32) (s : St) : Option (Int32 × St) :=
  bd (fX12_numberNow a1 a2 s) (fun y_1 s_1 =>
    if (s_1 69 26) = 0 then
    (bd (fX12_stepOn s_1) (fun y_2 s_2 =>
    some (y_1, s_2)))
  else
    (some (y_1, s_1)))
set_option maxRecDepth 100000 in
set_option maxHeartbeats 4000000 in
theorem kX12_readNumber (l : Launch)  (a1 : Int32) (a2 : Int32) (s : St) : CN l yX12_readNumber cX12_readNumber 4 (some .int) 8 FULL (fun ad => [.ref (ad 69), .int a1, .int a2]) s (fX12_readNumber a1 a2 s) := by
  refine cn_of (by decide) (fun _ => (Nat.le_of_ble_eq_true rfl)) (fun X hC hR hl hN => ?_)
  subst hl
  show Zr X (QFN X (some .int)) 0 s 0 [(0, .ref (X_ad X 69)), (1, .int a1), (2, .int a2)] [] _
  rw [fX12_readNumber]
  refine zr_aload_n (pc := 0) (i := 0) 0 hC dX12_readNumber_0 rfl rfl ?_
  refine zr_iload_n (pc := 1) (i := 1) 1 hC dX12_readNumber_1 rfl rfl ?_
  refine zr_iload_n (pc := 2) (i := 2) 2 hC dX12_readNumber_2 rfl rfl ?_
  refine zr_callV (pc := 3) (As := fun ad => [.int a1, .int a2]) (st1 := []) hC (Nat.le_of_ble_eq_true rfl) (kX12_numberNow _ a1 a2 _) (Nat.le_of_ble_eq_true rfl) mc_yX12_numberNow m_1650 m_1652 m_p60 mem_69 lay_69 rfl rfl rfl rfl (Nat.le_of_ble_eq_true rfl) dX12_readNumber_3 (fun y_1 s_1 => ?_)
  refine zr_istore_n (pc := 6) (i := 3) (ls' := [(3, _), (0, _), (1, _), (2, _)]) hC dX12_readNumber_6 rfl (nlt hN (Nat.le_of_ble_eq_true rfl)) rfl ?_
  refine zr_aload_n (pc := 7) (i := 0) 1 hC dX12_readNumber_7 rfl rfl ?_
  refine zr_getI (pc := 8) (j := 26) hC mem_69 lay_69 rfl rfl (Nat.le_of_ble_eq_true rfl) iX12 m_1421 dX12_readNumber_8 ?_
  refine zr_if_ne (pc := 11) (tgt := 18) hC dX12_readNumber_11 (by decide) (fun c_ => ?_) (fun c_ => ?_)
  · refine zr_aload_n (pc := 14) (i := 0) 1 hC dX12_readNumber_14 rfl rfl ?_
    refine zr_callVv (pc := 15) (As := fun ad => []) (st1 := []) hC (Nat.le_of_ble_eq_true rfl) (kX12_stepOn _  _) (Nat.le_of_ble_eq_true rfl) mc_yX12_stepOn m_1610 m_1612 m_p54 mem_69 lay_69 rfl rfl rfl rfl (Nat.le_of_ble_eq_true rfl) dX12_readNumber_15 (fun y_2 s_2 => ?_)
    refine zr_iload_n (pc := 18) (i := 3) 0 hC dX12_readNumber_18 rfl rfl ?_
    exact zr_iret (pc := 19) hC hR dX12_readNumber_19
  · refine zr_iload_n (pc := 18) (i := 3) 0 hC dX12_readNumber_18 rfl rfl ?_
    exact zr_iret (pc := 19) hC hR dX12_readNumber_19
def fX12_isMarked (a1 : Int32) (s : St) : Option (Int32 × St) :=
  if (s 69 26) = 0 then
    (if (s 69 22) = (3 : Int32) then
    (if inA (s 69 24) 700 then
    (if (s 86 (s 69 24).toNatClampNeg) = a1 then
    (some ((1 : Int32), s))
  else
    (some ((0 : Int32), s))) else none)
  else
    (some ((0 : Int32), s)))
  else
    (some ((0 : Int32), s))
set_option maxRecDepth 100000 in
set_option maxHeartbeats 4000000 in
theorem kX12_isMarked (l : Launch)  (a1 : Int32) (s : St) : CN l yX12_isMarked cX12_isMarked 2 (some .boolean) 1 FULL (fun ad => [.ref (ad 69), .int a1]) s (fX12_isMarked a1 s) := by
  refine cn_of (by decide) (fun _ => (Nat.le_of_ble_eq_true rfl)) (fun X hC hR hl hN => ?_)
  subst hl
  show Zr X (QFN X (some .boolean)) 0 s 0 [(0, .ref (X_ad X 69)), (1, .int a1)] [] _
  rw [fX12_isMarked]
  refine zr_aload_n (pc := 0) (i := 0) 0 hC dX12_isMarked_0 rfl rfl ?_
  refine zr_getI (pc := 1) (j := 26) hC mem_69 lay_69 rfl rfl (Nat.le_of_ble_eq_true rfl) iX12 m_1421 dX12_isMarked_1 ?_
  refine zr_if_ne (pc := 4) (tgt := 32) hC dX12_isMarked_4 (by decide) (fun c_ => ?_) (fun c_ => ?_)
  · refine zr_aload_n (pc := 7) (i := 0) 0 hC dX12_isMarked_7 rfl rfl ?_
    refine zr_getI (pc := 8) (j := 22) hC mem_69 lay_69 rfl rfl (Nat.le_of_ble_eq_true rfl) iX12 m_1417 dX12_isMarked_8 ?_
    refine zr_iconst (pc := 11) (v := (3 : Int32)) hC dX12_isMarked_11 ic_3 ?_
    refine zr_icmp_ne (pc := 12) (tgt := 32) hC dX12_isMarked_12 (by decide) (fun c_ => ?_) (fun c_ => ?_)
    · refine zr_aload_n (pc := 15) (i := 0) 0 hC dX12_isMarked_15 rfl rfl ?_
      refine zr_getR (pc := 16) (j := 18) (k1 := 86) hC mem_69 lay_69 rfl rfl (Nat.le_of_ble_eq_true rfl) iX12 m_1413 dX12_isMarked_16 ?_
      refine zr_aload_n (pc := 19) (i := 0) 0 hC dX12_isMarked_19 rfl rfl ?_
      refine zr_getI (pc := 20) (j := 24) hC mem_69 lay_69 rfl rfl (Nat.le_of_ble_eq_true rfl) iX12 m_1419 dX12_isMarked_20 ?_
      refine zr_iald (pc := 23) hC mem_86 lay_86 dX12_isMarked_23 ?_
      refine zr_iload_n (pc := 24) (i := 1) 1 hC dX12_isMarked_24 rfl rfl ?_
      refine zr_icmp_ne (pc := 25) (tgt := 32) hC dX12_isMarked_25 (by decide) (fun c_ => ?_) (fun c_ => ?_)
      · refine zr_iconst (pc := 28) (v := (1 : Int32)) hC dX12_isMarked_28 ic_1 ?_
        refine zr_goto (pc := 29) (tgt := 33) hC dX12_isMarked_29 (by decide) ?_
        exact zr_zret (pc := 33) (by decide) hC hR dX12_isMarked_33
      · refine zr_iconst (pc := 32) (v := (0 : Int32)) hC dX12_isMarked_32 ic_0 ?_
        exact zr_zret (pc := 33) (by decide) hC hR dX12_isMarked_33
    · refine zr_iconst (pc := 32) (v := (0 : Int32)) hC dX12_isMarked_32 ic_0 ?_
      exact zr_zret (pc := 33) (by decide) hC hR dX12_isMarked_33
  · refine zr_iconst (pc := 32) (v := (0 : Int32)) hC dX12_isMarked_32 ic_0 ?_
    exact zr_zret (pc := 33) (by decide) hC hR dX12_isMarked_33
def fX12_lay (a1 : Int32) (s : St) : Option (Int32 × St) :=
  if (s 69 26) = 0 then
    (if inA (9 : Int32) 10 then
    (if inA ((700 : Int32) + (s 71 (9 : Int32).toNatClampNeg)) 1400 then
    (let s_1 := wr s 84 ((700 : Int32) + (s 71 (9 : Int32).toNatClampNeg)).toNatClampNeg a1;
    if inA (9 : Int32) 10 then
    (if inA (9 : Int32) 10 then
    (let s_2 := wr s_1 71 (9 : Int32).toNatClampNeg ((s_1 71 (9 : Int32).toNatClampNeg) + (1 : Int32));
    some (0, s_2)) else none) else none) else none) else none)
  else
    (some (0, s))
set_option maxRecDepth 100000 in
set_option maxHeartbeats 4000000 in
theorem kX12_lay (l : Launch)  (a1 : Int32) (s : St) : CN l yX12_lay cX12_lay 2 none 1 FULL (fun ad => [.ref (ad 69), .int a1]) s (fX12_lay a1 s) := by
  refine cn_of (by decide) (fun _ => (Nat.le_of_ble_eq_true rfl)) (fun X hC hR hl hN => ?_)
  subst hl
  show Zr X (QFN X none) 0 s 0 [(0, .ref (X_ad X 69)), (1, .int a1)] [] _
  rw [fX12_lay]
  refine zr_aload_n (pc := 0) (i := 0) 0 hC dX12_lay_0 rfl rfl ?_
  refine zr_getI (pc := 1) (j := 26) hC mem_69 lay_69 rfl rfl (Nat.le_of_ble_eq_true rfl) iX12 m_1421 dX12_lay_1 ?_
  refine zr_if_eq (pc := 4) (tgt := 8) hC dX12_lay_4 (by decide) (fun c_ => ?_) (fun c_ => ?_)
  · refine zr_aload_n (pc := 8) (i := 0) 0 hC dX12_lay_8 rfl rfl ?_
    refine zr_getR (pc := 9) (j := 15) (k1 := 84) hC mem_69 lay_69 rfl rfl (Nat.le_of_ble_eq_true rfl) iX12 m_1410 dX12_lay_9 ?_
    refine zr_sipush (pc := 12) (v := (700 : Int32)) hC dX12_lay_12 si_700 ?_
    refine zr_aload_n (pc := 15) (i := 0) 0 hC dX12_lay_15 rfl rfl ?_
    refine zr_getR (pc := 16) (j := 2) (k1 := 71) hC mem_69 lay_69 rfl rfl (Nat.le_of_ble_eq_true rfl) iX12 m_1397 dX12_lay_16 ?_
    refine zr_bipush (pc := 19) (v := (9 : Int32)) hC dX12_lay_19 bi_9 ?_
    refine zr_iald (pc := 21) hC mem_71 lay_71 dX12_lay_21 ?_
    refine zr_iadd (pc := 22) hC dX12_lay_22 ?_
    refine zr_iload_n (pc := 23) (i := 1) 1 hC dX12_lay_23 rfl rfl ?_
    refine zr_iast (pc := 24) hC mem_84 lay_84 dX12_lay_24 ?_
    refine zr_aload_n (pc := 25) (i := 0) 0 hC dX12_lay_25 rfl rfl ?_
    refine zr_getR (pc := 26) (j := 2) (k1 := 71) hC mem_69 lay_69 rfl rfl (Nat.le_of_ble_eq_true rfl) iX12 m_1397 dX12_lay_26 ?_
    refine zr_bipush (pc := 29) (v := (9 : Int32)) hC dX12_lay_29 bi_9 ?_
    refine zr_dup2 (pc := 31) hC dX12_lay_31 rfl rfl ?_
    refine zr_iald (pc := 32) hC mem_71 lay_71 dX12_lay_32 ?_
    refine zr_iconst (pc := 33) (v := (1 : Int32)) hC dX12_lay_33 ic_1 ?_
    refine zr_iadd (pc := 34) hC dX12_lay_34 ?_
    refine zr_iast (pc := 35) hC mem_71 lay_71 dX12_lay_35 ?_
    exact zr_vret (pc := 36) hC hR dX12_lay_36
  · exact zr_vret (pc := 7) hC hR dX12_lay_7
def fX12_which_L2 : Nat → Int32 → St → Option (Int32 × St)
  | 0, _, _ => none
  | n + 1, v2, s =>
    if (Int32.ofNat 7) ≤ v2 then
    (some ((-1 : Int32), s))
  else
    (if inA v2 7 then
    (bd (fX12_is (RSL 70 v2.toNatClampNeg) s) (fun y_1 s_1 =>
    if y_1 = 0 then
    (fX12_which_L2 n (v2 + (1 : Int32)) s_1)
  else
    (some (v2, s_1)))) else none)
set_option maxRecDepth 100000 in
set_option maxHeartbeats 4000000 in
theorem tX12_which_L2 (X : KX) (hC : Ctx X RX12 cX12_which FULL 11 0) (hR : RC X (some .int)) (hN : X_nL X = 3) : ∀ (n : Nat) (v2 : Int32) (s : St), Zr X (QFN X (some .int)) 0 s 2 [(0, .ref (X_ad X 69)), (1, .ref (X_ad X 70)), (2, .int v2)] [] (fX12_which_L2 n v2 s) := by
  intro n
  induction n with
  | zero =>
    intro v2 s
    exact zr_none
  | succ n ih =>
    intro v2 s
    rw [fX12_which_L2]
    refine zr_iload_n (pc := 2) (i := 2) 2 hC dX12_which_2 rfl rfl ?_
    refine zr_aload_n (pc := 3) (i := 1) 1 hC dX12_which_3 rfl rfl ?_
    refine zr_alenS (pc := 4) hC mem_70 lay_70 dX12_which_4 ?_
    refine zr_icmp_ge (pc := 5) (tgt := 26) hC dX12_which_5 (by decide) (fun c_ => ?_) (fun c_ => ?_)
    · refine zr_iconst (pc := 26) (v := (-1 : Int32)) hC dX12_which_26 ic_m1 ?_
      exact zr_iret (pc := 27) hC hR dX12_which_27
    · refine zr_aload_n (pc := 8) (i := 0) 0 hC dX12_which_8 rfl rfl ?_
      refine zr_aload_n (pc := 9) (i := 1) 1 hC dX12_which_9 rfl rfl ?_
      refine zr_iload_n (pc := 10) (i := 2) 2 hC dX12_which_10 rfl rfl ?_
      refine zr_aldS (pc := 11) hC mem_70 lay_70 dX12_which_11 (fun hz => ?_)
      refine zr_callV (pc := 12) (As := fun ad => [.ref (ad (RSL 70 v2.toNatClampNeg))]) (st1 := []) hC (Nat.le_of_ble_eq_true rfl) (kX12_is _ (rsl_str rs_70 hz) _) (Nat.le_of_ble_eq_true rfl) mc_yX12_is m_1634 m_1636 m_p57 mem_69 lay_69 rfl rfl rfl rfl (Nat.le_of_ble_eq_true rfl) dX12_which_12 (fun y_1 s_1 => ?_)
      refine zr_if_eq (pc := 15) (tgt := 20) hC dX12_which_15 (by decide) (fun c_ => ?_) (fun c_ => ?_)
      · refine zr_iinc (pc := 20) (q := 2) (ls' := [(2, _), (0, _), (1, _)]) hC dX12_which_20 rfl (inc_1 _) (nlt hN (Nat.le_of_ble_eq_true rfl)) rfl ?_
        refine zr_goto (pc := 23) (tgt := 2) hC dX12_which_23 (by decide) ?_
        refine zr_sub (ls' := [(0, _), (1, _), (2, _)]) [1, 2, 0] rfl ?_
        exact ih (v2 + (1 : Int32)) s_1
      · refine zr_iload_n (pc := 18) (i := 2) 2 hC dX12_which_18 rfl rfl ?_
        exact zr_iret (pc := 19) hC hR dX12_which_19
def fX12_which (s : St) : Option (Int32 × St) :=
  fX12_which_L2 FU (0 : Int32) s
set_option maxRecDepth 100000 in
set_option maxHeartbeats 4000000 in
theorem kX12_which (l : Launch)  (s : St) : CN l yX12_which cX12_which 3 (some .int) 11 FULL (fun ad => [.ref (ad 69), .ref (ad 70)]) s (fX12_which s) := by
  refine cn_of (by decide) (fun _ => (Nat.le_of_ble_eq_true rfl)) (fun X hC hR hl hN => ?_)
  subst hl
  show Zr X (QFN X (some .int)) 0 s 0 [(0, .ref (X_ad X 69)), (1, .ref (X_ad X 70))] [] _
  rw [fX12_which]
  refine zr_iconst (pc := 0) (v := (0 : Int32)) hC dX12_which_0 ic_0 ?_
  refine zr_istore_n (pc := 1) (i := 2) (ls' := [(2, _), (0, _), (1, _)]) hC dX12_which_1 rfl (nlt hN (Nat.le_of_ble_eq_true rfl)) rfl ?_
  refine zr_sub (ls' := [(0, _), (1, _), (2, _)]) [1, 2, 0] rfl ?_
  exact tX12_which_L2  X hC hR hN FU (0 : Int32) _
def fX12_mark (a1 : Int32) (s : St) : Option (Int32 × St) :=
  if (s 69 26) = 0 then
    (bd (fX12_isMarked a1 s) (fun y_2 s_2 =>
    if y_2 = 0 then
    (bd (fX12_wrong (1 : Int32) s_2) (fun y_4 s_4 =>
    if (s_4 69 26) = 0 then
    (bd (fX12_stepOn s_4) (fun y_5 s_5 =>
    some (0, s_5)))
  else
    (some (0, s_4))))
  else
    (if (s_2 69 26) = 0 then
    (bd (fX12_stepOn s_2) (fun y_3 s_3 =>
    some (0, s_3)))
  else
    (some (0, s_2)))))
  else
    (if (s 69 26) = 0 then
    (bd (fX12_stepOn s) (fun y_1 s_1 =>
    some (0, s_1)))
  else
    (some (0, s)))
set_option maxRecDepth 100000 in
set_option maxHeartbeats 4000000 in
theorem kX12_mark (l : Launch)  (a1 : Int32) (s : St) : CN l yX12_mark cX12_mark 2 none 8 FULL (fun ad => [.ref (ad 69), .int a1]) s (fX12_mark a1 s) := by
  refine cn_of (by decide) (fun _ => (Nat.le_of_ble_eq_true rfl)) (fun X hC hR hl hN => ?_)
  subst hl
  show Zr X (QFN X none) 0 s 0 [(0, .ref (X_ad X 69)), (1, .int a1)] [] _
  rw [fX12_mark]
  refine zr_aload_n (pc := 0) (i := 0) 0 hC dX12_mark_0 rfl rfl ?_
  refine zr_getI (pc := 1) (j := 26) hC mem_69 lay_69 rfl rfl (Nat.le_of_ble_eq_true rfl) iX12 m_1421 dX12_mark_1 ?_
  refine zr_if_ne (pc := 4) (tgt := 20) hC dX12_mark_4 (by decide) (fun c_ => ?_) (fun c_ => ?_)
  · refine zr_aload_n (pc := 7) (i := 0) 0 hC dX12_mark_7 rfl rfl ?_
    refine zr_iload_n (pc := 8) (i := 1) 1 hC dX12_mark_8 rfl rfl ?_
    refine zr_callV (pc := 9) (As := fun ad => [.int a1]) (st1 := []) hC (Nat.le_of_ble_eq_true rfl) (kX12_isMarked _ a1 _) (Nat.le_of_ble_eq_true rfl) mc_yX12_isMarked m_1658 m_1660 m_p62 mem_69 lay_69 rfl rfl rfl rfl (Nat.le_of_ble_eq_true rfl) dX12_mark_9 (fun y_2 s_2 => ?_)
    refine zr_if_ne (pc := 12) (tgt := 20) hC dX12_mark_12 (by decide) (fun c_ => ?_) (fun c_ => ?_)
    · refine zr_aload_n (pc := 15) (i := 0) 0 hC dX12_mark_15 rfl rfl ?_
      refine zr_iconst (pc := 16) (v := (1 : Int32)) hC dX12_mark_16 ic_1 ?_
      refine zr_callVv (pc := 17) (As := fun ad => [.int (1 : Int32)]) (st1 := []) hC (Nat.le_of_ble_eq_true rfl) (kX12_wrong _ (1 : Int32) _) (Nat.le_of_ble_eq_true rfl) mc_yX12_wrong m_1642 m_1644 m_p58 mem_69 lay_69 rfl rfl rfl rfl (Nat.le_of_ble_eq_true rfl) dX12_mark_17 (fun y_4 s_4 => ?_)
      refine zr_aload_n (pc := 20) (i := 0) 0 hC dX12_mark_20 rfl rfl ?_
      refine zr_getI (pc := 21) (j := 26) hC mem_69 lay_69 rfl rfl (Nat.le_of_ble_eq_true rfl) iX12 m_1421 dX12_mark_21 ?_
      refine zr_if_ne (pc := 24) (tgt := 31) hC dX12_mark_24 (by decide) (fun c_ => ?_) (fun c_ => ?_)
      · refine zr_aload_n (pc := 27) (i := 0) 0 hC dX12_mark_27 rfl rfl ?_
        refine zr_callVv (pc := 28) (As := fun ad => []) (st1 := []) hC (Nat.le_of_ble_eq_true rfl) (kX12_stepOn _  _) (Nat.le_of_ble_eq_true rfl) mc_yX12_stepOn m_1610 m_1612 m_p54 mem_69 lay_69 rfl rfl rfl rfl (Nat.le_of_ble_eq_true rfl) dX12_mark_28 (fun y_5 s_5 => ?_)
        exact zr_vret (pc := 31) hC hR dX12_mark_31
      · exact zr_vret (pc := 31) hC hR dX12_mark_31
    · refine zr_aload_n (pc := 20) (i := 0) 0 hC dX12_mark_20 rfl rfl ?_
      refine zr_getI (pc := 21) (j := 26) hC mem_69 lay_69 rfl rfl (Nat.le_of_ble_eq_true rfl) iX12 m_1421 dX12_mark_21 ?_
      refine zr_if_ne (pc := 24) (tgt := 31) hC dX12_mark_24 (by decide) (fun c_ => ?_) (fun c_ => ?_)
      · refine zr_aload_n (pc := 27) (i := 0) 0 hC dX12_mark_27 rfl rfl ?_
        refine zr_callVv (pc := 28) (As := fun ad => []) (st1 := []) hC (Nat.le_of_ble_eq_true rfl) (kX12_stepOn _  _) (Nat.le_of_ble_eq_true rfl) mc_yX12_stepOn m_1610 m_1612 m_p54 mem_69 lay_69 rfl rfl rfl rfl (Nat.le_of_ble_eq_true rfl) dX12_mark_28 (fun y_3 s_3 => ?_)
        exact zr_vret (pc := 31) hC hR dX12_mark_31
      · exact zr_vret (pc := 31) hC hR dX12_mark_31
  · refine zr_aload_n (pc := 20) (i := 0) 0 hC dX12_mark_20 rfl rfl ?_
    refine zr_getI (pc := 21) (j := 26) hC mem_69 lay_69 rfl rfl (Nat.le_of_ble_eq_true rfl) iX12 m_1421 dX12_mark_21 ?_
    refine zr_if_ne (pc := 24) (tgt := 31) hC dX12_mark_24 (by decide) (fun c_ => ?_) (fun c_ => ?_)
    · refine zr_aload_n (pc := 27) (i := 0) 0 hC dX12_mark_27 rfl rfl ?_
      refine zr_callVv (pc := 28) (As := fun ad => []) (st1 := []) hC (Nat.le_of_ble_eq_true rfl) (kX12_stepOn _  _) (Nat.le_of_ble_eq_true rfl) mc_yX12_stepOn m_1610 m_1612 m_p54 mem_69 lay_69 rfl rfl rfl rfl (Nat.le_of_ble_eq_true rfl) dX12_mark_28 (fun y_1 s_1 => ?_)
      exact zr_vret (pc := 31) hC hR dX12_mark_31
    · exact zr_vret (pc := 31) hC hR dX12_mark_31
