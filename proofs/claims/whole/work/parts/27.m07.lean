def fX12_readPart_J56 (rc : Int32 → St → Option (Int32 × St)) (v2 : Int32) (s : St) : Option (Int32 × St) :=
  bd (fX12_lay ((-1 : Int32) - v2) s) (fun y_5 s_5 =>
    if (s_5 69 26) = 0 then
    (bd (fX12_stepOn s_5) (fun y_6 s_6 =>
    some (0, s_6)))
  else
    (some (0, s_5)))
set_option maxRecDepth 100000 in
set_option maxHeartbeats 4000000 in
theorem tX12_readPart_J56 (rc : Int32 → St → Option (Int32 × St)) (v2 : Int32) (dd : Nat) (hdd : 11 ≤ dd) (X : KX) (hC : Ctx X RX12 cX12_readPart FULL (dd + 1) 0) (hR : RC X none) (hN : X_nL X = 3) (hrc : ∀ (z0 : Int32) (s : St), CN (X_l X) yX12_readExpression cX12_readExpression 3 none dd FULL (fun ad => [.ref (ad 69), .int z0]) s (rc z0 s)) (s : St) : Zr X (QFN X none) 0 s 56 [(0, .ref (X_ad X 69)), (2, .int v2)] [] (fX12_readPart_J56 rc v2 s) := by
  rw [fX12_readPart_J56]
  refine zr_aload_n (pc := 56) (i := 0) 0 hC dX12_readPart_56 rfl rfl ?_
  refine zr_iconst (pc := 57) (v := (-1 : Int32)) hC dX12_readPart_57 ic_m1 ?_
  refine zr_iload_n (pc := 58) (i := 2) 1 hC dX12_readPart_58 rfl rfl ?_
  refine zr_isub (pc := 59) hC dX12_readPart_59 ?_
  refine zr_callVv (pc := 60) (As := fun ad => [.int ((-1 : Int32) - v2)]) (st1 := []) hC (Nat.le_of_ble_eq_true rfl) (kX12_lay _ ((-1 : Int32) - v2) _) (by omega) mc_yX12_lay m_1683 m_1685 m_p68 mem_69 lay_69 rfl rfl rfl rfl (Nat.le_of_ble_eq_true rfl) dX12_readPart_60 (fun y_5 s_5 => ?_)
  refine zr_aload_n (pc := 63) (i := 0) 0 hC dX12_readPart_63 rfl rfl ?_
  refine zr_getI (pc := 64) (j := 26) hC mem_69 lay_69 rfl rfl (Nat.le_of_ble_eq_true rfl) iX12 m_1421 dX12_readPart_64 ?_
  refine zr_if_ne (pc := 67) (tgt := 74) hC dX12_readPart_67 (by decide) (fun c_ => ?_) (fun c_ => ?_)
  · refine zr_aload_n (pc := 70) (i := 0) 0 hC dX12_readPart_70 rfl rfl ?_
    refine zr_callVv (pc := 71) (As := fun ad => []) (st1 := []) hC (Nat.le_of_ble_eq_true rfl) (kX12_stepOn _  _) (by omega) mc_yX12_stepOn m_1610 m_1612 m_p54 mem_69 lay_69 rfl rfl rfl rfl (Nat.le_of_ble_eq_true rfl) dX12_readPart_71 (fun y_6 s_6 => ?_)
    exact zr_vret (pc := 74) hC hR dX12_readPart_74
  · exact zr_vret (pc := 74) hC hR dX12_readPart_74
def fX12_readPart (rc : Int32 → St → Option (Int32 × St)) (a1 : Int32) (s : St) : Option (Int32 × St) :=
  if (s 69 26) = 0 then
    (if (s 69 22) = (2 : Int32) then
    (bd (fX12_readNumber (0 : Int32) (9999 : Int32) s) (fun y_8 s_8 =>
    bd (fX12_lay y_8 s_8) (fun y_9 s_9 =>
    some (0, s_9))))
  else
    (if (s 69 22) = (1 : Int32) then
    (bd (fX12_which s) (fun y_4 s_4 =>
    if y_4 = (-1 : Int32) then
    (bd (fX12_wrong (3 : Int32) s_4) (fun y_7 s_7 =>
    fX12_readPart_J56 rc y_4 s_7))
  else
    (fX12_readPart_J56 rc y_4 s_4)))
  else
    (bd (fX12_mark (40 : Int32) s) (fun y_1 s_1 =>
    bd (rc (a1 + (1 : Int32)) s_1) (fun y_2 s_2 =>
    bd (fX12_mark (41 : Int32) s_2) (fun y_3 s_3 =>
    some (0, s_3)))))))
  else
    (some (0, s))
set_option maxRecDepth 100000 in
set_option maxHeartbeats 4000000 in
theorem kX12_readPart (l : Launch) (rc : Int32 → St → Option (Int32 × St)) (dd : Nat) (hdd : 11 ≤ dd)  (hrc : ∀ (z0 : Int32) (s : St), CN l yX12_readExpression cX12_readExpression 3 none dd FULL (fun ad => [.ref (ad 69), .int z0]) s (rc z0 s)) (a1 : Int32) (s : St) : CN l yX12_readPart cX12_readPart 3 none (dd + 1) FULL (fun ad => [.ref (ad 69), .int a1]) s (fX12_readPart rc a1 s) := by
  refine cn_of (by decide) (fun _ => (Nat.le_of_ble_eq_true rfl)) (fun X hC hR hl hN => ?_)
  subst hl
  show Zr X (QFN X none) 0 s 0 [(0, .ref (X_ad X 69)), (1, .int a1)] [] _
  rw [fX12_readPart]
  refine zr_aload_n (pc := 0) (i := 0) 0 hC dX12_readPart_0 rfl rfl ?_
  refine zr_getI (pc := 1) (j := 26) hC mem_69 lay_69 rfl rfl (Nat.le_of_ble_eq_true rfl) iX12 m_1421 dX12_readPart_1 ?_
  refine zr_if_eq (pc := 4) (tgt := 8) hC dX12_readPart_4 (by decide) (fun c_ => ?_) (fun c_ => ?_)
  · refine zr_aload_n (pc := 8) (i := 0) 0 hC dX12_readPart_8 rfl rfl ?_
    refine zr_getI (pc := 9) (j := 22) hC mem_69 lay_69 rfl rfl (Nat.le_of_ble_eq_true rfl) iX12 m_1417 dX12_readPart_9 ?_
    refine zr_iconst (pc := 12) (v := (2 : Int32)) hC dX12_readPart_12 ic_2 ?_
    refine zr_icmp_ne (pc := 13) (tgt := 29) hC dX12_readPart_13 (by decide) (fun c_ => ?_) (fun c_ => ?_)
    · refine zr_aload_n (pc := 16) (i := 0) 0 hC dX12_readPart_16 rfl rfl ?_
      refine zr_aload_n (pc := 17) (i := 0) 0 hC dX12_readPart_17 rfl rfl ?_
      refine zr_iconst (pc := 18) (v := (0 : Int32)) hC dX12_readPart_18 ic_0 ?_
      refine zr_sipush (pc := 19) (v := (9999 : Int32)) hC dX12_readPart_19 si_9999 ?_
      refine zr_callV (pc := 22) (As := fun ad => [.int (0 : Int32), .int (9999 : Int32)]) (st1 := [.ref (X_ad X 69)]) hC (Nat.le_of_ble_eq_true rfl) (kX12_readNumber _ (0 : Int32) (9999 : Int32) _) (by omega) mc_yX12_readNumber m_1646 m_1648 m_p59 mem_69 lay_69 rfl rfl rfl rfl (Nat.le_of_ble_eq_true rfl) dX12_readPart_22 (fun y_8 s_8 => ?_)
      refine zr_callVv (pc := 25) (As := fun ad => [.int y_8]) (st1 := []) hC (Nat.le_of_ble_eq_true rfl) (kX12_lay _ y_8 _) (by omega) mc_yX12_lay m_1683 m_1685 m_p68 mem_69 lay_69 rfl rfl rfl rfl (Nat.le_of_ble_eq_true rfl) dX12_readPart_25 (fun y_9 s_9 => ?_)
      exact zr_vret (pc := 28) hC hR dX12_readPart_28
    · refine zr_aload_n (pc := 29) (i := 0) 0 hC dX12_readPart_29 rfl rfl ?_
      refine zr_getI (pc := 30) (j := 22) hC mem_69 lay_69 rfl rfl (Nat.le_of_ble_eq_true rfl) iX12 m_1417 dX12_readPart_30 ?_
      refine zr_iconst (pc := 33) (v := (1 : Int32)) hC dX12_readPart_33 ic_1 ?_
      refine zr_icmp_ne (pc := 34) (tgt := 75) hC dX12_readPart_34 (by decide) (fun c_ => ?_) (fun c_ => ?_)
      · refine zr_aload_n (pc := 37) (i := 0) 0 hC dX12_readPart_37 rfl rfl ?_
        refine zr_aload_n (pc := 38) (i := 0) 0 hC dX12_readPart_38 rfl rfl ?_
        refine zr_getR (pc := 39) (j := 0) (k1 := 70) hC mem_69 lay_69 rfl rfl (Nat.le_of_ble_eq_true rfl) iX12 m_1395 dX12_readPart_39 ?_
        refine zr_callV (pc := 42) (As := fun ad => [.ref (ad 70)]) (st1 := []) hC (Nat.le_of_ble_eq_true rfl) (kX12_which _  _) (by omega) mc_yX12_which m_1687 m_1689 m_p69 mem_69 lay_69 rfl rfl rfl rfl (Nat.le_of_ble_eq_true rfl) dX12_readPart_42 (fun y_4 s_4 => ?_)
        refine zr_istore_n (pc := 45) (i := 2) (ls' := [(2, _), (0, _), (1, _)]) hC dX12_readPart_45 rfl (nlt hN (Nat.le_of_ble_eq_true rfl)) rfl ?_
        refine zr_iload_n (pc := 46) (i := 2) 0 hC dX12_readPart_46 rfl rfl ?_
        refine zr_iconst (pc := 47) (v := (-1 : Int32)) hC dX12_readPart_47 ic_m1 ?_
        refine zr_icmp_ne (pc := 48) (tgt := 56) hC dX12_readPart_48 (by decide) (fun c_ => ?_) (fun c_ => ?_)
        · refine zr_aload_n (pc := 51) (i := 0) 1 hC dX12_readPart_51 rfl rfl ?_
          refine zr_iconst (pc := 52) (v := (3 : Int32)) hC dX12_readPart_52 ic_3 ?_
          refine zr_callVv (pc := 53) (As := fun ad => [.int (3 : Int32)]) (st1 := []) hC (Nat.le_of_ble_eq_true rfl) (kX12_wrong _ (3 : Int32) _) (by omega) mc_yX12_wrong m_1642 m_1644 m_p58 mem_69 lay_69 rfl rfl rfl rfl (Nat.le_of_ble_eq_true rfl) dX12_readPart_53 (fun y_7 s_7 => ?_)
          refine zr_sub (ls' := [(0, _), (2, _)]) [1, 0] rfl ?_
          exact tX12_readPart_J56 rc y_4 dd hdd X hC hR hN hrc  _
        · refine zr_sub (ls' := [(0, _), (2, _)]) [1, 0] rfl ?_
          exact tX12_readPart_J56 rc y_4 dd hdd X hC hR hN hrc  _
      · refine zr_aload_n (pc := 75) (i := 0) 0 hC dX12_readPart_75 rfl rfl ?_
        refine zr_bipush (pc := 76) (v := (40 : Int32)) hC dX12_readPart_76 bi_40 ?_
        refine zr_callVv (pc := 78) (As := fun ad => [.int (40 : Int32)]) (st1 := []) hC (Nat.le_of_ble_eq_true rfl) (kX12_mark _ (40 : Int32) _) (by omega) mc_yX12_mark m_1691 m_1693 m_p70 mem_69 lay_69 rfl rfl rfl rfl (Nat.le_of_ble_eq_true rfl) dX12_readPart_78 (fun y_1 s_1 => ?_)
        refine zr_aload_n (pc := 81) (i := 0) 0 hC dX12_readPart_81 rfl rfl ?_
        refine zr_iload_n (pc := 82) (i := 1) 1 hC dX12_readPart_82 rfl rfl ?_
        refine zr_iconst (pc := 83) (v := (1 : Int32)) hC dX12_readPart_83 ic_1 ?_
        refine zr_iadd (pc := 84) hC dX12_readPart_84 ?_
        refine zr_callVv (pc := 85) (As := fun ad => [.int (a1 + (1 : Int32))]) (st1 := []) hC (Nat.le_of_ble_eq_true rfl) (hrc (a1 + (1 : Int32)) _) (by omega) mc_yX12_readExpression m_1654 m_1656 m_p61 mem_69 lay_69 rfl rfl rfl rfl (Nat.le_of_ble_eq_true rfl) dX12_readPart_85 (fun y_2 s_2 => ?_)
        refine zr_aload_n (pc := 88) (i := 0) 0 hC dX12_readPart_88 rfl rfl ?_
        refine zr_bipush (pc := 89) (v := (41 : Int32)) hC dX12_readPart_89 bi_41 ?_
        refine zr_callVv (pc := 91) (As := fun ad => [.int (41 : Int32)]) (st1 := []) hC (Nat.le_of_ble_eq_true rfl) (kX12_mark _ (41 : Int32) _) (by omega) mc_yX12_mark m_1691 m_1693 m_p70 mem_69 lay_69 rfl rfl rfl rfl (Nat.le_of_ble_eq_true rfl) dX12_readPart_91 (fun y_3 s_3 => ?_)
        exact zr_vret (pc := 94) hC hR dX12_readPart_94
  · exact zr_vret (pc := 7) hC hR dX12_readPart_7
def fX12_readProduct_J39 (lp : St → Option (Int32 × St)) (rc : Int32 → St → Option (Int32 × St)) (v1 : Int32) (q0 : Int32) (s : St) : Option (Int32 × St) :=
  bd (fX12_stepOn s) (fun y_4 s_4 =>
    bd (fX12_readPart rc v1 s_4) (fun y_5 s_5 =>
    bd (fX12_lay q0 s_5) (fun y_6 s_6 =>
    lp s_6)))
set_option maxRecDepth 100000 in
set_option maxHeartbeats 4000000 in
theorem tX12_readProduct_J39 (rc : Int32 → St → Option (Int32 × St)) (v1 : Int32) (q0 : Int32) (lp : St → Option (Int32 × St)) (dd : Nat) (hdd : 11 ≤ dd) (X : KX) (hC : Ctx X RX12 cX12_readProduct FULL (dd + 2) 0) (hR : RC X none) (hN : X_nL X = 3) (hrc : ∀ (z0 : Int32) (s : St), CN (X_l X) yX12_readExpression cX12_readExpression 3 none dd FULL (fun ad => [.ref (ad 69), .int z0]) s (rc z0 s)) (ih : ∀ (s : St), Zr X (QFN X none) 0 s 5 [(0, .ref (X_ad X 69)), (1, .int v1)] [] (lp s)) (s : St) : Zr X (QFN X none) 0 s 39 [(0, .ref (X_ad X 69)), (1, .int v1)] [.int q0] (fX12_readProduct_J39 lp rc v1 q0 s) := by
  rw [fX12_readProduct_J39]
  refine zr_istore_n (pc := 39) (i := 2) (ls' := [(2, _), (0, _), (1, _)]) hC dX12_readProduct_39 rfl (nlt hN (Nat.le_of_ble_eq_true rfl)) rfl ?_
  refine zr_aload_n (pc := 40) (i := 0) 1 hC dX12_readProduct_40 rfl rfl ?_
  refine zr_callVv (pc := 41) (As := fun ad => []) (st1 := []) hC (Nat.le_of_ble_eq_true rfl) (kX12_stepOn _  _) (by omega) mc_yX12_stepOn m_1610 m_1612 m_p54 mem_69 lay_69 rfl rfl rfl rfl (Nat.le_of_ble_eq_true rfl) dX12_readProduct_41 (fun y_4 s_4 => ?_)
  refine zr_aload_n (pc := 44) (i := 0) 1 hC dX12_readProduct_44 rfl rfl ?_
  refine zr_iload_n (pc := 45) (i := 1) 2 hC dX12_readProduct_45 rfl rfl ?_
  refine zr_callVv (pc := 46) (As := fun ad => [.int v1]) (st1 := []) hC (Nat.le_of_ble_eq_true rfl) (kX12_readPart _ rc dd hdd hrc v1 _) (by omega) mc_yX12_readPart m_1679 m_1681 m_p67 mem_69 lay_69 rfl rfl rfl rfl (Nat.le_of_ble_eq_true rfl) dX12_readProduct_46 (fun y_5 s_5 => ?_)
  refine zr_aload_n (pc := 49) (i := 0) 1 hC dX12_readProduct_49 rfl rfl ?_
  refine zr_iload_n (pc := 50) (i := 2) 0 hC dX12_readProduct_50 rfl rfl ?_
  refine zr_callVv (pc := 51) (As := fun ad => [.int q0]) (st1 := []) hC (Nat.le_of_ble_eq_true rfl) (kX12_lay _ q0 _) (by omega) mc_yX12_lay m_1683 m_1685 m_p68 mem_69 lay_69 rfl rfl rfl rfl (Nat.le_of_ble_eq_true rfl) dX12_readProduct_51 (fun y_6 s_6 => ?_)
  refine zr_goto (pc := 54) (tgt := 5) hC dX12_readProduct_54 (by decide) ?_
  refine zr_sub (ls' := [(0, _), (1, _)]) [1, 2] rfl ?_
  exact ih s_6
def fX12_readProduct_J23 (lp : St → Option (Int32 × St)) (rc : Int32 → St → Option (Int32 × St)) (v1 : Int32) (s : St) : Option (Int32 × St) :=
  bd (fX12_isMarked (42 : Int32) s) (fun y_3 s_3 =>
    if y_3 = 0 then
    (fX12_readProduct_J39 (lp) rc v1 (-23 : Int32) s_3)
  else
    (fX12_readProduct_J39 (lp) rc v1 (-22 : Int32) s_3))
set_option maxRecDepth 100000 in
set_option maxHeartbeats 4000000 in
theorem tX12_readProduct_J23 (rc : Int32 → St → Option (Int32 × St)) (v1 : Int32) (lp : St → Option (Int32 × St)) (dd : Nat) (hdd : 11 ≤ dd) (X : KX) (hC : Ctx X RX12 cX12_readProduct FULL (dd + 2) 0) (hR : RC X none) (hN : X_nL X = 3) (hrc : ∀ (z0 : Int32) (s : St), CN (X_l X) yX12_readExpression cX12_readExpression 3 none dd FULL (fun ad => [.ref (ad 69), .int z0]) s (rc z0 s)) (ih : ∀ (s : St), Zr X (QFN X none) 0 s 5 [(0, .ref (X_ad X 69)), (1, .int v1)] [] (lp s)) (s : St) : Zr X (QFN X none) 0 s 23 [(0, .ref (X_ad X 69)), (1, .int v1)] [] (fX12_readProduct_J23 lp rc v1 s) := by
  rw [fX12_readProduct_J23]
  refine zr_aload_n (pc := 23) (i := 0) 0 hC dX12_readProduct_23 rfl rfl ?_
  refine zr_bipush (pc := 24) (v := (42 : Int32)) hC dX12_readProduct_24 bi_42 ?_
  refine zr_callV (pc := 26) (As := fun ad => [.int (42 : Int32)]) (st1 := []) hC (Nat.le_of_ble_eq_true rfl) (kX12_isMarked _ (42 : Int32) _) (by omega) mc_yX12_isMarked m_1658 m_1660 m_p62 mem_69 lay_69 rfl rfl rfl rfl (Nat.le_of_ble_eq_true rfl) dX12_readProduct_26 (fun y_3 s_3 => ?_)
  refine zr_if_eq (pc := 29) (tgt := 37) hC dX12_readProduct_29 (by decide) (fun c_ => ?_) (fun c_ => ?_)
  · refine zr_bipush (pc := 37) (v := (-23 : Int32)) hC dX12_readProduct_37 bi_m23 ?_
    exact tX12_readProduct_J39 rc v1 (-23 : Int32) _ dd hdd X hC hR hN hrc  ih _
  · refine zr_bipush (pc := 32) (v := (-22 : Int32)) hC dX12_readProduct_32 bi_m22 ?_
    refine zr_goto (pc := 34) (tgt := 39) hC dX12_readProduct_34 (by decide) ?_
    exact tX12_readProduct_J39 rc v1 (-22 : Int32) _ dd hdd X hC hR hN hrc  ih _
def fX12_readProduct_L5 (rc : Int32 → St → Option (Int32 × St)) (c1 : Int32) : Nat → St → Option (Int32 × St)
  | 0, _ => none
  | n + 1, s =>
    bd (fX12_isMarked (42 : Int32) s) (fun y_2 s_2 =>
    if y_2 = 0 then
    (bd (fX12_isMarked (47 : Int32) s_2) (fun y_7 s_7 =>
    if y_7 = 0 then
    (some (0, s_7))
  else
    (fX12_readProduct_J23 (fX12_readProduct_L5 rc c1 n) rc c1 s_7)))
  else
    (fX12_readProduct_J23 (fX12_readProduct_L5 rc c1 n) rc c1 s_2))
set_option maxRecDepth 100000 in
set_option maxHeartbeats 4000000 in
theorem tX12_readProduct_L5 (rc : Int32 → St → Option (Int32 × St)) (c1 : Int32) (dd : Nat) (hdd : 11 ≤ dd) (X : KX) (hC : Ctx X RX12 cX12_readProduct FULL (dd + 2) 0) (hR : RC X none) (hN : X_nL X = 3) (hrc : ∀ (z0 : Int32) (s : St), CN (X_l X) yX12_readExpression cX12_readExpression 3 none dd FULL (fun ad => [.ref (ad 69), .int z0]) s (rc z0 s)) : ∀ (n : Nat) (s : St), Zr X (QFN X none) 0 s 5 [(0, .ref (X_ad X 69)), (1, .int c1)] [] (fX12_readProduct_L5 rc c1 n s) := by
  intro n
  induction n with
  | zero =>
    intro s
    exact zr_none
  | succ n ih =>
    intro s
    rw [fX12_readProduct_L5]
    refine zr_aload_n (pc := 5) (i := 0) 0 hC dX12_readProduct_5 rfl rfl ?_
    refine zr_bipush (pc := 6) (v := (42 : Int32)) hC dX12_readProduct_6 bi_42 ?_
    refine zr_callV (pc := 8) (As := fun ad => [.int (42 : Int32)]) (st1 := []) hC (Nat.le_of_ble_eq_true rfl) (kX12_isMarked _ (42 : Int32) _) (by omega) mc_yX12_isMarked m_1658 m_1660 m_p62 mem_69 lay_69 rfl rfl rfl rfl (Nat.le_of_ble_eq_true rfl) dX12_readProduct_8 (fun y_2 s_2 => ?_)
    refine zr_if_ne (pc := 11) (tgt := 23) hC dX12_readProduct_11 (by decide) (fun c_ => ?_) (fun c_ => ?_)
    · refine zr_aload_n (pc := 14) (i := 0) 0 hC dX12_readProduct_14 rfl rfl ?_
      refine zr_bipush (pc := 15) (v := (47 : Int32)) hC dX12_readProduct_15 bi_47 ?_
      refine zr_callV (pc := 17) (As := fun ad => [.int (47 : Int32)]) (st1 := []) hC (Nat.le_of_ble_eq_true rfl) (kX12_isMarked _ (47 : Int32) _) (by omega) mc_yX12_isMarked m_1658 m_1660 m_p62 mem_69 lay_69 rfl rfl rfl rfl (Nat.le_of_ble_eq_true rfl) dX12_readProduct_17 (fun y_7 s_7 => ?_)
      refine zr_if_eq (pc := 20) (tgt := 57) hC dX12_readProduct_20 (by decide) (fun c_ => ?_) (fun c_ => ?_)
      · exact zr_vret (pc := 57) hC hR dX12_readProduct_57
      · exact tX12_readProduct_J23 rc c1 _ dd hdd X hC hR hN hrc  ih _
    · exact tX12_readProduct_J23 rc c1 _ dd hdd X hC hR hN hrc  ih _
def fX12_readProduct (rc : Int32 → St → Option (Int32 × St)) (a1 : Int32) (s : St) : Option (Int32 × St) :=
  bd (fX12_readPart rc a1 s) (fun y_1 s_1 =>
    fX12_readProduct_L5 rc a1 FU s_1)
set_option maxRecDepth 100000 in
set_option maxHeartbeats 4000000 in
theorem kX12_readProduct (l : Launch) (rc : Int32 → St → Option (Int32 × St)) (dd : Nat) (hdd : 11 ≤ dd)  (hrc : ∀ (z0 : Int32) (s : St), CN l yX12_readExpression cX12_readExpression 3 none dd FULL (fun ad => [.ref (ad 69), .int z0]) s (rc z0 s)) (a1 : Int32) (s : St) : CN l yX12_readProduct cX12_readProduct 3 none (dd + 2) FULL (fun ad => [.ref (ad 69), .int a1]) s (fX12_readProduct rc a1 s) := by
  refine cn_of (by decide) (fun _ => (Nat.le_of_ble_eq_true rfl)) (fun X hC hR hl hN => ?_)
  subst hl
  show Zr X (QFN X none) 0 s 0 [(0, .ref (X_ad X 69)), (1, .int a1)] [] _
  rw [fX12_readProduct]
  refine zr_aload_n (pc := 0) (i := 0) 0 hC dX12_readProduct_0 rfl rfl ?_
  refine zr_iload_n (pc := 1) (i := 1) 1 hC dX12_readProduct_1 rfl rfl ?_
  refine zr_callVv (pc := 2) (As := fun ad => [.int a1]) (st1 := []) hC (Nat.le_of_ble_eq_true rfl) (kX12_readPart _ rc dd hdd hrc a1 _) (by omega) mc_yX12_readPart m_1679 m_1681 m_p67 mem_69 lay_69 rfl rfl rfl rfl (Nat.le_of_ble_eq_true rfl) dX12_readProduct_2 (fun y_1 s_1 => ?_)
  exact tX12_readProduct_L5 rc a1 dd hdd X hC hR hN hrc FU _
def fX12_readSum_J39 (lp : St → Option (Int32 × St)) (rc : Int32 → St → Option (Int32 × St)) (v1 : Int32) (q0 : Int32) (s : St) : Option (Int32 × St) :=
  bd (fX12_stepOn s) (fun y_4 s_4 =>
    bd (fX12_readProduct rc v1 s_4) (fun y_5 s_5 =>
    bd (fX12_lay q0 s_5) (fun y_6 s_6 =>
    lp s_6)))
set_option maxRecDepth 100000 in
set_option maxHeartbeats 4000000 in
theorem tX12_readSum_J39 (rc : Int32 → St → Option (Int32 × St)) (v1 : Int32) (q0 : Int32) (lp : St → Option (Int32 × St)) (dd : Nat) (hdd : 11 ≤ dd) (X : KX) (hC : Ctx X RX12 cX12_readSum FULL (dd + 3) 0) (hR : RC X none) (hN : X_nL X = 3) (hrc : ∀ (z0 : Int32) (s : St), CN (X_l X) yX12_readExpression cX12_readExpression 3 none dd FULL (fun ad => [.ref (ad 69), .int z0]) s (rc z0 s)) (ih : ∀ (s : St), Zr X (QFN X none) 0 s 5 [(0, .ref (X_ad X 69)), (1, .int v1)] [] (lp s)) (s : St) : Zr X (QFN X none) 0 s 39 [(0, .ref (X_ad X 69)), (1, .int v1)] [.int q0] (fX12_readSum_J39 lp rc v1 q0 s) := by
  rw [fX12_readSum_J39]
  refine zr_istore_n (pc := 39) (i := 2) (ls' := [(2, _), (0, _), (1, _)]) hC dX12_readSum_39 rfl (nlt hN (Nat.le_of_ble_eq_true rfl)) rfl ?_
  refine zr_aload_n (pc := 40) (i := 0) 1 hC dX12_readSum_40 rfl rfl ?_
  refine zr_callVv (pc := 41) (As := fun ad => []) (st1 := []) hC (Nat.le_of_ble_eq_true rfl) (kX12_stepOn _  _) (by omega) mc_yX12_stepOn m_1610 m_1612 m_p54 mem_69 lay_69 rfl rfl rfl rfl (Nat.le_of_ble_eq_true rfl) dX12_readSum_41 (fun y_4 s_4 => ?_)
  refine zr_aload_n (pc := 44) (i := 0) 1 hC dX12_readSum_44 rfl rfl ?_
  refine zr_iload_n (pc := 45) (i := 1) 2 hC dX12_readSum_45 rfl rfl ?_
  refine zr_callVv (pc := 46) (As := fun ad => [.int v1]) (st1 := []) hC (Nat.le_of_ble_eq_true rfl) (kX12_readProduct _ rc dd hdd hrc v1 _) (by omega) mc_yX12_readProduct m_1675 m_1677 m_p66 mem_69 lay_69 rfl rfl rfl rfl (Nat.le_of_ble_eq_true rfl) dX12_readSum_46 (fun y_5 s_5 => ?_)
  refine zr_aload_n (pc := 49) (i := 0) 1 hC dX12_readSum_49 rfl rfl ?_
  refine zr_iload_n (pc := 50) (i := 2) 0 hC dX12_readSum_50 rfl rfl ?_
  refine zr_callVv (pc := 51) (As := fun ad => [.int q0]) (st1 := []) hC (Nat.le_of_ble_eq_true rfl) (kX12_lay _ q0 _) (by omega) mc_yX12_lay m_1683 m_1685 m_p68 mem_69 lay_69 rfl rfl rfl rfl (Nat.le_of_ble_eq_true rfl) dX12_readSum_51 (fun y_6 s_6 => ?_)
  refine zr_goto (pc := 54) (tgt := 5) hC dX12_readSum_54 (by decide) ?_
  refine zr_sub (ls' := [(0, _), (1, _)]) [1, 2] rfl ?_
  exact ih s_6
def fX12_readSum_J23 (lp : St → Option (Int32 × St)) (rc : Int32 → St → Option (Int32 × St)) (v1 : Int32) (s : St) : Option (Int32 × St) :=
  bd (fX12_isMarked (43 : Int32) s) (fun y_3 s_3 =>
    if y_3 = 0 then
    (fX12_readSum_J39 (lp) rc v1 (-21 : Int32) s_3)
  else
    (fX12_readSum_J39 (lp) rc v1 (-20 : Int32) s_3))
set_option maxRecDepth 100000 in
set_option maxHeartbeats 4000000 in
theorem tX12_readSum_J23 (rc : Int32 → St → Option (Int32 × St)) (v1 : Int32) (lp : St → Option (Int32 × St)) (dd : Nat) (hdd : 11 ≤ dd) (X : KX) (hC : Ctx X RX12 cX12_readSum FULL (dd + 3) 0) (hR : RC X none) (hN : X_nL X = 3) (hrc : ∀ (z0 : Int32) (s : St), CN (X_l X) yX12_readExpression cX12_readExpression 3 none dd FULL (fun ad => [.ref (ad 69), .int z0]) s (rc z0 s)) (ih : ∀ (s : St), Zr X (QFN X none) 0 s 5 [(0, .ref (X_ad X 69)), (1, .int v1)] [] (lp s)) (s : St) : Zr X (QFN X none) 0 s 23 [(0, .ref (X_ad X 69)), (1, .int v1)] [] (fX12_readSum_J23 lp rc v1 s) := by
  rw [fX12_readSum_J23]
  refine zr_aload_n (pc := 23) (i := 0) 0 hC dX12_readSum_23 rfl rfl ?_
  refine zr_bipush (pc := 24) (v := (43 : Int32)) hC dX12_readSum_24 bi_43 ?_
  refine zr_callV (pc := 26) (As := fun ad => [.int (43 : Int32)]) (st1 := []) hC (Nat.le_of_ble_eq_true rfl) (kX12_isMarked _ (43 : Int32) _) (by omega) mc_yX12_isMarked m_1658 m_1660 m_p62 mem_69 lay_69 rfl rfl rfl rfl (Nat.le_of_ble_eq_true rfl) dX12_readSum_26 (fun y_3 s_3 => ?_)
  refine zr_if_eq (pc := 29) (tgt := 37) hC dX12_readSum_29 (by decide) (fun c_ => ?_) (fun c_ => ?_)
  · refine zr_bipush (pc := 37) (v := (-21 : Int32)) hC dX12_readSum_37 bi_m21 ?_
    exact tX12_readSum_J39 rc v1 (-21 : Int32) _ dd hdd X hC hR hN hrc  ih _
  · refine zr_bipush (pc := 32) (v := (-20 : Int32)) hC dX12_readSum_32 bi_m20 ?_
    refine zr_goto (pc := 34) (tgt := 39) hC dX12_readSum_34 (by decide) ?_
    exact tX12_readSum_J39 rc v1 (-20 : Int32) _ dd hdd X hC hR hN hrc  ih _
def fX12_readSum_L5 (rc : Int32 → St → Option (Int32 × St)) (c1 : Int32) : Nat → St → Option (Int32 × St)
  | 0, _ => none
  | n + 1, s =>
    bd (fX12_isMarked (43 : Int32) s) (fun y_2 s_2 =>
    if y_2 = 0 then
    (bd (fX12_isMarked (45 : Int32) s_2) (fun y_7 s_7 =>
    if y_7 = 0 then
    (some (0, s_7))
  else
    (fX12_readSum_J23 (fX12_readSum_L5 rc c1 n) rc c1 s_7)))
  else
    (fX12_readSum_J23 (fX12_readSum_L5 rc c1 n) rc c1 s_2))
set_option maxRecDepth 100000 in
set_option maxHeartbeats 4000000 in
theorem tX12_readSum_L5 (rc : Int32 → St → Option (Int32 × St)) (c1 : Int32) (dd : Nat) (hdd : 11 ≤ dd) (X : KX) (hC : Ctx X RX12 cX12_readSum FULL (dd + 3) 0) (hR : RC X none) (hN : X_nL X = 3) (hrc : ∀ (z0 : Int32) (s : St), CN (X_l X) yX12_readExpression cX12_readExpression 3 none dd FULL (fun ad => [.ref (ad 69), .int z0]) s (rc z0 s)) : ∀ (n : Nat) (s : St), Zr X (QFN X none) 0 s 5 [(0, .ref (X_ad X 69)), (1, .int c1)] [] (fX12_readSum_L5 rc c1 n s) := by
  intro n
  induction n with
  | zero =>
    intro s
    exact zr_none
  | succ n ih =>
    intro s
    rw [fX12_readSum_L5]
    refine zr_aload_n (pc := 5) (i := 0) 0 hC dX12_readSum_5 rfl rfl ?_
    refine zr_bipush (pc := 6) (v := (43 : Int32)) hC dX12_readSum_6 bi_43 ?_
    refine zr_callV (pc := 8) (As := fun ad => [.int (43 : Int32)]) (st1 := []) hC (Nat.le_of_ble_eq_true rfl) (kX12_isMarked _ (43 : Int32) _) (by omega) mc_yX12_isMarked m_1658 m_1660 m_p62 mem_69 lay_69 rfl rfl rfl rfl (Nat.le_of_ble_eq_true rfl) dX12_readSum_8 (fun y_2 s_2 => ?_)
    refine zr_if_ne (pc := 11) (tgt := 23) hC dX12_readSum_11 (by decide) (fun c_ => ?_) (fun c_ => ?_)
    · refine zr_aload_n (pc := 14) (i := 0) 0 hC dX12_readSum_14 rfl rfl ?_
      refine zr_bipush (pc := 15) (v := (45 : Int32)) hC dX12_readSum_15 bi_45 ?_
      refine zr_callV (pc := 17) (As := fun ad => [.int (45 : Int32)]) (st1 := []) hC (Nat.le_of_ble_eq_true rfl) (kX12_isMarked _ (45 : Int32) _) (by omega) mc_yX12_isMarked m_1658 m_1660 m_p62 mem_69 lay_69 rfl rfl rfl rfl (Nat.le_of_ble_eq_true rfl) dX12_readSum_17 (fun y_7 s_7 => ?_)
      refine zr_if_eq (pc := 20) (tgt := 57) hC dX12_readSum_20 (by decide) (fun c_ => ?_) (fun c_ => ?_)
      · exact zr_vret (pc := 57) hC hR dX12_readSum_57
      · exact tX12_readSum_J23 rc c1 _ dd hdd X hC hR hN hrc  ih _
    · exact tX12_readSum_J23 rc c1 _ dd hdd X hC hR hN hrc  ih _
def fX12_readSum (rc : Int32 → St → Option (Int32 × St)) (a1 : Int32) (s : St) : Option (Int32 × St) :=
  bd (fX12_readProduct rc a1 s) (fun y_1 s_1 =>
    fX12_readSum_L5 rc a1 FU s_1)
set_option maxRecDepth 100000 in
set_option maxHeartbeats 4000000 in
theorem kX12_readSum (l : Launch) (rc : Int32 → St → Option (Int32 × St)) (dd : Nat) (hdd : 11 ≤ dd)  (hrc : ∀ (z0 : Int32) (s : St), CN l yX12_readExpression cX12_readExpression 3 none dd FULL (fun ad => [.ref (ad 69), .int z0]) s (rc z0 s)) (a1 : Int32) (s : St) : CN l yX12_readSum cX12_readSum 3 none (dd + 3) FULL (fun ad => [.ref (ad 69), .int a1]) s (fX12_readSum rc a1 s) := by
  refine cn_of (by decide) (fun _ => (Nat.le_of_ble_eq_true rfl)) (fun X hC hR hl hN => ?_)
  subst hl
  show Zr X (QFN X none) 0 s 0 [(0, .ref (X_ad X 69)), (1, .int a1)] [] _
  rw [fX12_readSum]
  refine zr_aload_n (pc := 0) (i := 0) 0 hC dX12_readSum_0 rfl rfl ?_
  refine zr_iload_n (pc := 1) (i := 1) 1 hC dX12_readSum_1 rfl rfl ?_
  refine zr_callVv (pc := 2) (As := fun ad => [.int a1]) (st1 := []) hC (Nat.le_of_ble_eq_true rfl) (kX12_readProduct _ rc dd hdd hrc a1 _) (by omega) mc_yX12_readProduct m_1675 m_1677 m_p66 mem_69 lay_69 rfl rfl rfl rfl (Nat.le_of_ble_eq_true rfl) dX12_readSum_2 (fun y_1 s_1 => ?_)
  exact tX12_readSum_L5 rc a1 dd hdd X hC hR hN hrc FU _
def fX12_readNot_J23 (k40 : Int32 → St → Option (Int32 × St)) (lp : Int32 → St → Option (Int32 × St)) (rc : Int32 → St → Option (Int32 × St)) (v1 : Int32) (v2 : Int32) (s : St) : Option (Int32 × St) :=
  if (s 69 26) = 0 then
    (bd (fX12_stepOn s) (fun y_2 s_2 =>
    lp (v2 + (1 : Int32)) s_2))
  else
    (lp (v2 + (1 : Int32)) s)
set_option maxRecDepth 100000 in
set_option maxHeartbeats 4000000 in
theorem tX12_readNot_J23 (rc : Int32 → St → Option (Int32 × St)) (v1 : Int32) (v2 : Int32) (k40 : Int32 → St → Option (Int32 × St)) (lp : Int32 → St → Option (Int32 × St)) (dd : Nat) (hdd : 11 ≤ dd) (X : KX) (hC : Ctx X RX12 cX12_readNot FULL (dd + 4) 0) (hR : RC X none) (hN : X_nL X = 4) (hrc : ∀ (z0 : Int32) (s : St), CN (X_l X) yX12_readExpression cX12_readExpression 3 none dd FULL (fun ad => [.ref (ad 69), .int z0]) s (rc z0 s)) (hk40 : ∀ (u2 : Int32) (s : St), Zr X (QFN X none) 0 s 40 [(0, .ref (X_ad X 69)), (1, .int v1), (2, .int u2)] [] (k40 u2 s)) (ih : ∀ (u2 : Int32) (s : St), Zr X (QFN X none) 0 s 2 [(0, .ref (X_ad X 69)), (1, .int v1), (2, .int u2)] [] (lp u2 s)) (s : St) : Zr X (QFN X none) 0 s 23 [(0, .ref (X_ad X 69)), (1, .int v1), (2, .int v2)] [] (fX12_readNot_J23 k40 lp rc v1 v2 s) := by
  rw [fX12_readNot_J23]
  refine zr_iinc (pc := 23) (q := 2) (ls' := [(2, _), (0, _), (1, _)]) hC dX12_readNot_23 rfl (inc_1 _) (nlt hN (Nat.le_of_ble_eq_true rfl)) rfl ?_
  refine zr_aload_n (pc := 26) (i := 0) 1 hC dX12_readNot_26 rfl rfl ?_
  refine zr_getI (pc := 27) (j := 26) hC mem_69 lay_69 rfl rfl (Nat.le_of_ble_eq_true rfl) iX12 m_1421 dX12_readNot_27 ?_
  refine zr_if_ne (pc := 30) (tgt := 2) hC dX12_readNot_30 (by decide) (fun c_ => ?_) (fun c_ => ?_)
  · refine zr_aload_n (pc := 33) (i := 0) 1 hC dX12_readNot_33 rfl rfl ?_
    refine zr_callVv (pc := 34) (As := fun ad => []) (st1 := []) hC (Nat.le_of_ble_eq_true rfl) (kX12_stepOn _  _) (by omega) mc_yX12_stepOn m_1610 m_1612 m_p54 mem_69 lay_69 rfl rfl rfl rfl (Nat.le_of_ble_eq_true rfl) dX12_readNot_34 (fun y_2 s_2 => ?_)
    refine zr_goto (pc := 37) (tgt := 2) hC dX12_readNot_37 (by decide) ?_
    refine zr_sub (ls' := [(0, _), (1, _), (2, _)]) [1, 2, 0] rfl ?_
    exact ih (v2 + (1 : Int32)) s_2
  · refine zr_sub (ls' := [(0, _), (1, _), (2, _)]) [1, 2, 0] rfl ?_
    exact ih (v2 + (1 : Int32)) s
def fX12_readNot_L2 (k40 : Int32 → St → Option (Int32 × St)) (rc : Int32 → St → Option (Int32 × St)) (c1 : Int32) : Nat → Int32 → St → Option (Int32 × St)
  | 0, _, _ => none
  | n + 1, v2, s =>
    bd (fX12_is 1015 s) (fun y_1 s_1 =>
    if y_1 = 0 then
    (k40 v2 s_1)
  else
    (if v2 = (6 : Int32) then
    (bd (fX12_wrong (2 : Int32) s_1) (fun y_3 s_3 =>
    fX12_readNot_J23 k40 (fX12_readNot_L2 k40 rc c1 n) rc c1 v2 s_3))
  else
    (fX12_readNot_J23 k40 (fX12_readNot_L2 k40 rc c1 n) rc c1 v2 s_1)))
set_option maxRecDepth 100000 in
set_option maxHeartbeats 4000000 in
theorem tX12_readNot_L2 (rc : Int32 → St → Option (Int32 × St)) (c1 : Int32) (k40 : Int32 → St → Option (Int32 × St)) (dd : Nat) (hdd : 11 ≤ dd) (X : KX) (hC : Ctx X RX12 cX12_readNot FULL (dd + 4) 0) (hR : RC X none) (hN : X_nL X = 4) (hrc : ∀ (z0 : Int32) (s : St), CN (X_l X) yX12_readExpression cX12_readExpression 3 none dd FULL (fun ad => [.ref (ad 69), .int z0]) s (rc z0 s)) (hk40 : ∀ (v2 : Int32) (s : St), Zr X (QFN X none) 0 s 40 [(0, .ref (X_ad X 69)), (1, .int c1), (2, .int v2)] [] (k40 v2 s)) : ∀ (n : Nat) (v2 : Int32) (s : St), Zr X (QFN X none) 0 s 2 [(0, .ref (X_ad X 69)), (1, .int c1), (2, .int v2)] [] (fX12_readNot_L2 k40 rc c1 n v2 s) := by
  intro n
  induction n with
  | zero =>
    intro v2 s
    exact zr_none
  | succ n ih =>
    intro v2 s
    rw [fX12_readNot_L2]
    refine zr_aload_n (pc := 2) (i := 0) 0 hC dX12_readNot_2 rfl rfl ?_
    refine zr_ldcSw (pc := 3) (own := RX12) (t := 15) hC dX12_readNot_3 (by decide +kernel) ?_
    refine zr_callV (pc := 6) (As := fun ad => [.ref (ad 1015)]) (st1 := []) hC (Nat.le_of_ble_eq_true rfl) (kX12_is _ (str_is 1015 (by decide)) _) (by omega) mc_yX12_is m_1634 m_1636 m_p57 mem_69 lay_69 rfl rfl rfl rfl (Nat.le_of_ble_eq_true rfl) dX12_readNot_6 (fun y_1 s_1 => ?_)
    refine zr_if_eq (pc := 9) (tgt := 40) hC dX12_readNot_9 (by decide) (fun c_ => ?_) (fun c_ => ?_)
    · exact hk40 v2 s_1
    · refine zr_iload_n (pc := 12) (i := 2) 2 hC dX12_readNot_12 rfl rfl ?_
      refine zr_bipush (pc := 13) (v := (6 : Int32)) hC dX12_readNot_13 bi_6 ?_
      refine zr_icmp_ne (pc := 15) (tgt := 23) hC dX12_readNot_15 (by decide) (fun c_ => ?_) (fun c_ => ?_)
      · refine zr_aload_n (pc := 18) (i := 0) 0 hC dX12_readNot_18 rfl rfl ?_
        refine zr_iconst (pc := 19) (v := (2 : Int32)) hC dX12_readNot_19 ic_2 ?_
        refine zr_callVv (pc := 20) (As := fun ad => [.int (2 : Int32)]) (st1 := []) hC (Nat.le_of_ble_eq_true rfl) (kX12_wrong _ (2 : Int32) _) (by omega) mc_yX12_wrong m_1642 m_1644 m_p58 mem_69 lay_69 rfl rfl rfl rfl (Nat.le_of_ble_eq_true rfl) dX12_readNot_20 (fun y_3 s_3 => ?_)
        exact tX12_readNot_J23 rc c1 v2 _ _ dd hdd X hC hR hN hrc hk40 ih _
      · exact tX12_readNot_J23 rc c1 v2 _ _ dd hdd X hC hR hN hrc hk40 ih _
def fX12_readNot_L96 (rc : Int32 → St → Option (Int32 × St)) (c2 : Int32) : Nat → Int32 → St → Option (Int32 × St)
  | 0, _, _ => none
  | n + 1, v3, s =>
    if c2 ≤ v3 then
    (some (0, s))
  else
    (bd (fX12_lay (-28 : Int32) s) (fun y_11 s_11 =>
    fX12_readNot_L96 rc c2 n (v3 + (1 : Int32)) s_11))
set_option maxRecDepth 100000 in
set_option maxHeartbeats 4000000 in
theorem tX12_readNot_L96 (rc : Int32 → St → Option (Int32 × St)) (c2 : Int32) (dd : Nat) (hdd : 11 ≤ dd) (X : KX) (hC : Ctx X RX12 cX12_readNot FULL (dd + 4) 0) (hR : RC X none) (hN : X_nL X = 4) (hrc : ∀ (z0 : Int32) (s : St), CN (X_l X) yX12_readExpression cX12_readExpression 3 none dd FULL (fun ad => [.ref (ad 69), .int z0]) s (rc z0 s)) : ∀ (n : Nat) (v3 : Int32) (s : St), Zr X (QFN X none) 0 s 96 [(0, .ref (X_ad X 69)), (2, .int c2), (3, .int v3)] [] (fX12_readNot_L96 rc c2 n v3 s) := by
  intro n
  induction n with
  | zero =>
    intro v3 s
    exact zr_none
  | succ n ih =>
    intro v3 s
    rw [fX12_readNot_L96]
    refine zr_iload_n (pc := 96) (i := 3) 2 hC dX12_readNot_96 rfl rfl ?_
    refine zr_iload_n (pc := 97) (i := 2) 1 hC dX12_readNot_97 rfl rfl ?_
    refine zr_icmp_ge (pc := 98) (tgt := 113) hC dX12_readNot_98 (by decide) (fun c_ => ?_) (fun c_ => ?_)
    · exact zr_vret (pc := 113) hC hR dX12_readNot_113
    · refine zr_aload_n (pc := 101) (i := 0) 0 hC dX12_readNot_101 rfl rfl ?_
      refine zr_bipush (pc := 102) (v := (-28 : Int32)) hC dX12_readNot_102 bi_m28 ?_
      refine zr_callVv (pc := 104) (As := fun ad => [.int (-28 : Int32)]) (st1 := []) hC (Nat.le_of_ble_eq_true rfl) (kX12_lay _ (-28 : Int32) _) (by omega) mc_yX12_lay m_1683 m_1685 m_p68 mem_69 lay_69 rfl rfl rfl rfl (Nat.le_of_ble_eq_true rfl) dX12_readNot_104 (fun y_11 s_11 => ?_)
      refine zr_iinc (pc := 107) (q := 2) (ls' := [(3, _), (0, _), (2, _)]) hC dX12_readNot_107 rfl (inc_1 _) (nlt hN (Nat.le_of_ble_eq_true rfl)) rfl ?_
      refine zr_goto (pc := 110) (tgt := 96) hC dX12_readNot_110 (by decide) ?_
      refine zr_sub (ls' := [(0, _), (2, _), (3, _)]) [1, 2, 0] rfl ?_
      exact ih (v3 + (1 : Int32)) s_11
def fX12_readNot_J94 (rc : Int32 → St → Option (Int32 × St)) (v2 : Int32) (s : St) : Option (Int32 × St) :=
  fX12_readNot_L96 rc v2 FU (0 : Int32) s
set_option maxRecDepth 100000 in
set_option maxHeartbeats 4000000 in
theorem tX12_readNot_J94 (rc : Int32 → St → Option (Int32 × St)) (v2 : Int32) (dd : Nat) (hdd : 11 ≤ dd) (X : KX) (hC : Ctx X RX12 cX12_readNot FULL (dd + 4) 0) (hR : RC X none) (hN : X_nL X = 4) (hrc : ∀ (z0 : Int32) (s : St), CN (X_l X) yX12_readExpression cX12_readExpression 3 none dd FULL (fun ad => [.ref (ad 69), .int z0]) s (rc z0 s)) (s : St) : Zr X (QFN X none) 0 s 94 [(0, .ref (X_ad X 69)), (2, .int v2)] [] (fX12_readNot_J94 rc v2 s) := by
  rw [fX12_readNot_J94]
  refine zr_iconst (pc := 94) (v := (0 : Int32)) hC dX12_readNot_94 ic_0 ?_
  refine zr_istore_n (pc := 95) (i := 3) (ls' := [(3, _), (0, _), (2, _)]) hC dX12_readNot_95 rfl (nlt hN (Nat.le_of_ble_eq_true rfl)) rfl ?_
  refine zr_sub (ls' := [(0, _), (2, _), (3, _)]) [1, 2, 0] rfl ?_
  exact tX12_readNot_L96 rc v2 dd hdd X hC hR hN hrc FU (0 : Int32) _
def fX12_readNot_J79 (rc : Int32 → St → Option (Int32 × St)) (v1 : Int32) (v2 : Int32) (q0 : Int32) (s : St) : Option (Int32 × St) :=
  bd (fX12_stepOn s) (fun y_8 s_8 =>
    bd (fX12_readSum rc v1 s_8) (fun y_9 s_9 =>
    bd (fX12_lay q0 s_9) (fun y_10 s_10 =>
    fX12_readNot_J94 rc v2 s_10)))
set_option maxRecDepth 100000 in
set_option maxHeartbeats 4000000 in
theorem tX12_readNot_J79 (rc : Int32 → St → Option (Int32 × St)) (v1 : Int32) (v2 : Int32) (q0 : Int32) (dd : Nat) (hdd : 11 ≤ dd) (X : KX) (hC : Ctx X RX12 cX12_readNot FULL (dd + 4) 0) (hR : RC X none) (hN : X_nL X = 4) (hrc : ∀ (z0 : Int32) (s : St), CN (X_l X) yX12_readExpression cX12_readExpression 3 none dd FULL (fun ad => [.ref (ad 69), .int z0]) s (rc z0 s)) (s : St) : Zr X (QFN X none) 0 s 79 [(0, .ref (X_ad X 69)), (1, .int v1), (2, .int v2)] [.int q0] (fX12_readNot_J79 rc v1 v2 q0 s) := by
  rw [fX12_readNot_J79]
  refine zr_istore_n (pc := 79) (i := 3) (ls' := [(3, _), (0, _), (1, _), (2, _)]) hC dX12_readNot_79 rfl (nlt hN (Nat.le_of_ble_eq_true rfl)) rfl ?_
  refine zr_aload_n (pc := 80) (i := 0) 1 hC dX12_readNot_80 rfl rfl ?_
  refine zr_callVv (pc := 81) (As := fun ad => []) (st1 := []) hC (Nat.le_of_ble_eq_true rfl) (kX12_stepOn _  _) (by omega) mc_yX12_stepOn m_1610 m_1612 m_p54 mem_69 lay_69 rfl rfl rfl rfl (Nat.le_of_ble_eq_true rfl) dX12_readNot_81 (fun y_8 s_8 => ?_)
  refine zr_aload_n (pc := 84) (i := 0) 1 hC dX12_readNot_84 rfl rfl ?_
  refine zr_iload_n (pc := 85) (i := 1) 2 hC dX12_readNot_85 rfl rfl ?_
  refine zr_callVv (pc := 86) (As := fun ad => [.int v1]) (st1 := []) hC (Nat.le_of_ble_eq_true rfl) (kX12_readSum _ rc dd hdd hrc v1 _) (by omega) mc_yX12_readSum m_1671 m_1673 m_p65 mem_69 lay_69 rfl rfl rfl rfl (Nat.le_of_ble_eq_true rfl) dX12_readNot_86 (fun y_9 s_9 => ?_)
  refine zr_aload_n (pc := 89) (i := 0) 1 hC dX12_readNot_89 rfl rfl ?_
  refine zr_iload_n (pc := 90) (i := 3) 0 hC dX12_readNot_90 rfl rfl ?_
  refine zr_callVv (pc := 91) (As := fun ad => [.int q0]) (st1 := []) hC (Nat.le_of_ble_eq_true rfl) (kX12_lay _ q0 _) (by omega) mc_yX12_lay m_1683 m_1685 m_p68 mem_69 lay_69 rfl rfl rfl rfl (Nat.le_of_ble_eq_true rfl) dX12_readNot_91 (fun y_10 s_10 => ?_)
  refine zr_sub (ls' := [(0, _), (2, _)]) [1, 3] rfl ?_
  exact tX12_readNot_J94 rc v2 dd hdd X hC hR hN hrc  _
def fX12_readNot_J63 (rc : Int32 → St → Option (Int32 × St)) (v1 : Int32) (v2 : Int32) (s : St) : Option (Int32 × St) :=
  bd (fX12_isMarked (60 : Int32) s) (fun y_7 s_7 =>
    if y_7 = 0 then
    (fX12_readNot_J79 rc v1 v2 (-25 : Int32) s_7)
  else
    (fX12_readNot_J79 rc v1 v2 (-24 : Int32) s_7))
set_option maxRecDepth 100000 in
set_option maxHeartbeats 4000000 in
theorem tX12_readNot_J63 (rc : Int32 → St → Option (Int32 × St)) (v1 : Int32) (v2 : Int32) (dd : Nat) (hdd : 11 ≤ dd) (X : KX) (hC : Ctx X RX12 cX12_readNot FULL (dd + 4) 0) (hR : RC X none) (hN : X_nL X = 4) (hrc : ∀ (z0 : Int32) (s : St), CN (X_l X) yX12_readExpression cX12_readExpression 3 none dd FULL (fun ad => [.ref (ad 69), .int z0]) s (rc z0 s)) (s : St) : Zr X (QFN X none) 0 s 63 [(0, .ref (X_ad X 69)), (1, .int v1), (2, .int v2)] [] (fX12_readNot_J63 rc v1 v2 s) := by
  rw [fX12_readNot_J63]
  refine zr_aload_n (pc := 63) (i := 0) 0 hC dX12_readNot_63 rfl rfl ?_
  refine zr_bipush (pc := 64) (v := (60 : Int32)) hC dX12_readNot_64 bi_60 ?_
  refine zr_callV (pc := 66) (As := fun ad => [.int (60 : Int32)]) (st1 := []) hC (Nat.le_of_ble_eq_true rfl) (kX12_isMarked _ (60 : Int32) _) (by omega) mc_yX12_isMarked m_1658 m_1660 m_p62 mem_69 lay_69 rfl rfl rfl rfl (Nat.le_of_ble_eq_true rfl) dX12_readNot_66 (fun y_7 s_7 => ?_)
  refine zr_if_eq (pc := 69) (tgt := 77) hC dX12_readNot_69 (by decide) (fun c_ => ?_) (fun c_ => ?_)
  · refine zr_bipush (pc := 77) (v := (-25 : Int32)) hC dX12_readNot_77 bi_m25 ?_
    exact tX12_readNot_J79 rc v1 v2 (-25 : Int32) dd hdd X hC hR hN hrc  _
  · refine zr_bipush (pc := 72) (v := (-24 : Int32)) hC dX12_readNot_72 bi_m24 ?_
    refine zr_goto (pc := 74) (tgt := 79) hC dX12_readNot_74 (by decide) ?_
    exact tX12_readNot_J79 rc v1 v2 (-24 : Int32) dd hdd X hC hR hN hrc  _
def fX12_readNot (rc : Int32 → St → Option (Int32 × St)) (a1 : Int32) (s : St) : Option (Int32 × St) :=
  fX12_readNot_L2 (fun v2_4 s_4 => bd (fX12_readSum rc a1 s_4) (fun y_5 s_5 =>
    bd (fX12_isMarked (60 : Int32) s_5) (fun y_6 s_6 =>
    if y_6 = 0 then
    (bd (fX12_isMarked (61 : Int32) s_6) (fun y_12 s_12 =>
    if y_12 = 0 then
    (fX12_readNot_J94 rc v2_4 s_12)
  else
    (fX12_readNot_J63 rc a1 v2_4 s_12)))
  else
    (fX12_readNot_J63 rc a1 v2_4 s_6)))) rc a1 FU (0 : Int32) s
set_option maxRecDepth 100000 in
set_option maxHeartbeats 4000000 in
theorem kX12_readNot (l : Launch) (rc : Int32 → St → Option (Int32 × St)) (dd : Nat) (hdd : 11 ≤ dd)  (hrc : ∀ (z0 : Int32) (s : St), CN l yX12_readExpression cX12_readExpression 3 none dd FULL (fun ad => [.ref (ad 69), .int z0]) s (rc z0 s)) (a1 : Int32) (s : St) : CN l yX12_readNot cX12_readNot 4 none (dd + 4) FULL (fun ad => [.ref (ad 69), .int a1]) s (fX12_readNot rc a1 s) := by
  refine cn_of (by decide) (fun _ => (Nat.le_of_ble_eq_true rfl)) (fun X hC hR hl hN => ?_)
  subst hl
  show Zr X (QFN X none) 0 s 0 [(0, .ref (X_ad X 69)), (1, .int a1)] [] _
  rw [fX12_readNot]
  refine zr_iconst (pc := 0) (v := (0 : Int32)) hC dX12_readNot_0 ic_0 ?_
  refine zr_istore_n (pc := 1) (i := 2) (ls' := [(2, _), (0, _), (1, _)]) hC dX12_readNot_1 rfl (nlt hN (Nat.le_of_ble_eq_true rfl)) rfl ?_
  refine zr_sub (ls' := [(0, _), (1, _), (2, _)]) [1, 2, 0] rfl ?_
  refine tX12_readNot_L2 rc a1 _ dd hdd X hC hR hN hrc (fun v2_4 s_4 => ?_) FU (0 : Int32) _
  · refine zr_aload_n (pc := 40) (i := 0) 0 hC dX12_readNot_40 rfl rfl ?_
    refine zr_iload_n (pc := 41) (i := 1) 1 hC dX12_readNot_41 rfl rfl ?_
    refine zr_callVv (pc := 42) (As := fun ad => [.int a1]) (st1 := []) hC (Nat.le_of_ble_eq_true rfl) (kX12_readSum _ rc dd hdd hrc a1 _) (by omega) mc_yX12_readSum m_1671 m_1673 m_p65 mem_69 lay_69 rfl rfl rfl rfl (Nat.le_of_ble_eq_true rfl) dX12_readNot_42 (fun y_5 s_5 => ?_)
    refine zr_aload_n (pc := 45) (i := 0) 0 hC dX12_readNot_45 rfl rfl ?_
    refine zr_bipush (pc := 46) (v := (60 : Int32)) hC dX12_readNot_46 bi_60 ?_
    refine zr_callV (pc := 48) (As := fun ad => [.int (60 : Int32)]) (st1 := []) hC (Nat.le_of_ble_eq_true rfl) (kX12_isMarked _ (60 : Int32) _) (by omega) mc_yX12_isMarked m_1658 m_1660 m_p62 mem_69 lay_69 rfl rfl rfl rfl (Nat.le_of_ble_eq_true rfl) dX12_readNot_48 (fun y_6 s_6 => ?_)
    refine zr_if_ne (pc := 51) (tgt := 63) hC dX12_readNot_51 (by decide) (fun c_ => ?_) (fun c_ => ?_)
    · refine zr_aload_n (pc := 54) (i := 0) 0 hC dX12_readNot_54 rfl rfl ?_
      refine zr_bipush (pc := 55) (v := (61 : Int32)) hC dX12_readNot_55 bi_61 ?_
      refine zr_callV (pc := 57) (As := fun ad => [.int (61 : Int32)]) (st1 := []) hC (Nat.le_of_ble_eq_true rfl) (kX12_isMarked _ (61 : Int32) _) (by omega) mc_yX12_isMarked m_1658 m_1660 m_p62 mem_69 lay_69 rfl rfl rfl rfl (Nat.le_of_ble_eq_true rfl) dX12_readNot_57 (fun y_12 s_12 => ?_)
      refine zr_if_eq (pc := 60) (tgt := 94) hC dX12_readNot_60 (by decide) (fun c_ => ?_) (fun c_ => ?_)
      · refine zr_sub (ls' := [(0, _), (2, _)]) [0, 2] rfl ?_
        exact tX12_readNot_J94 rc v2_4 dd hdd X hC hR hN hrc  _
      · exact tX12_readNot_J63 rc a1 v2_4 dd hdd X hC hR hN hrc  _
    · exact tX12_readNot_J63 rc a1 v2_4 dd hdd X hC hR hN hrc  _
def fX12_readAnd_L5 (rc : Int32 → St → Option (Int32 × St)) (c1 : Int32) : Nat → St → Option (Int32 × St)
  | 0, _ => none
  | n + 1, s =>
    bd (fX12_is 1014 s) (fun y_2 s_2 =>
    if y_2 = 0 then
    (some (0, s_2))
  else
    (bd (fX12_stepOn s_2) (fun y_3 s_3 =>
    bd (fX12_readNot rc c1 s_3) (fun y_4 s_4 =>
    bd (fX12_lay (-26 : Int32) s_4) (fun y_5 s_5 =>
    fX12_readAnd_L5 rc c1 n s_5)))))
set_option maxRecDepth 100000 in
set_option maxHeartbeats 4000000 in
theorem tX12_readAnd_L5 (rc : Int32 → St → Option (Int32 × St)) (c1 : Int32) (dd : Nat) (hdd : 11 ≤ dd) (X : KX) (hC : Ctx X RX12 cX12_readAnd FULL (dd + 5) 0) (hR : RC X none) (hN : X_nL X = 2) (hrc : ∀ (z0 : Int32) (s : St), CN (X_l X) yX12_readExpression cX12_readExpression 3 none dd FULL (fun ad => [.ref (ad 69), .int z0]) s (rc z0 s)) : ∀ (n : Nat) (s : St), Zr X (QFN X none) 0 s 5 [(0, .ref (X_ad X 69)), (1, .int c1)] [] (fX12_readAnd_L5 rc c1 n s) := by
  intro n
  induction n with
  | zero =>
    intro s
    exact zr_none
  | succ n ih =>
    intro s
    rw [fX12_readAnd_L5]
    refine zr_aload_n (pc := 5) (i := 0) 0 hC dX12_readAnd_5 rfl rfl ?_
    refine zr_ldcSw (pc := 6) (own := RX12) (t := 14) hC dX12_readAnd_6 (by decide +kernel) ?_
    refine zr_callV (pc := 9) (As := fun ad => [.ref (ad 1014)]) (st1 := []) hC (Nat.le_of_ble_eq_true rfl) (kX12_is _ (str_is 1014 (by decide)) _) (by omega) mc_yX12_is m_1634 m_1636 m_p57 mem_69 lay_69 rfl rfl rfl rfl (Nat.le_of_ble_eq_true rfl) dX12_readAnd_9 (fun y_2 s_2 => ?_)
    refine zr_if_eq (pc := 12) (tgt := 33) hC dX12_readAnd_12 (by decide) (fun c_ => ?_) (fun c_ => ?_)
    · exact zr_vret (pc := 33) hC hR dX12_readAnd_33
    · refine zr_aload_n (pc := 15) (i := 0) 0 hC dX12_readAnd_15 rfl rfl ?_
      refine zr_callVv (pc := 16) (As := fun ad => []) (st1 := []) hC (Nat.le_of_ble_eq_true rfl) (kX12_stepOn _  _) (by omega) mc_yX12_stepOn m_1610 m_1612 m_p54 mem_69 lay_69 rfl rfl rfl rfl (Nat.le_of_ble_eq_true rfl) dX12_readAnd_16 (fun y_3 s_3 => ?_)
      refine zr_aload_n (pc := 19) (i := 0) 0 hC dX12_readAnd_19 rfl rfl ?_
      refine zr_iload_n (pc := 20) (i := 1) 1 hC dX12_readAnd_20 rfl rfl ?_
      refine zr_callVv (pc := 21) (As := fun ad => [.int c1]) (st1 := []) hC (Nat.le_of_ble_eq_true rfl) (kX12_readNot _ rc dd hdd hrc c1 _) (by omega) mc_yX12_readNot m_1666 m_1668 m_p64 mem_69 lay_69 rfl rfl rfl rfl (Nat.le_of_ble_eq_true rfl) dX12_readAnd_21 (fun y_4 s_4 => ?_)
      refine zr_aload_n (pc := 24) (i := 0) 0 hC dX12_readAnd_24 rfl rfl ?_
      refine zr_bipush (pc := 25) (v := (-26 : Int32)) hC dX12_readAnd_25 bi_m26 ?_
      refine zr_callVv (pc := 27) (As := fun ad => [.int (-26 : Int32)]) (st1 := []) hC (Nat.le_of_ble_eq_true rfl) (kX12_lay _ (-26 : Int32) _) (by omega) mc_yX12_lay m_1683 m_1685 m_p68 mem_69 lay_69 rfl rfl rfl rfl (Nat.le_of_ble_eq_true rfl) dX12_readAnd_27 (fun y_5 s_5 => ?_)
      refine zr_goto (pc := 30) (tgt := 5) hC dX12_readAnd_30 (by decide) ?_
      exact ih s_5
def fX12_readAnd (rc : Int32 → St → Option (Int32 × St)) (a1 : Int32) (s : St) : Option (Int32 × St) :=
  bd (fX12_readNot rc a1 s) (fun y_1 s_1 =>
    fX12_readAnd_L5 rc a1 FU s_1)
set_option maxRecDepth 100000 in
set_option maxHeartbeats 4000000 in
theorem kX12_readAnd (l : Launch) (rc : Int32 → St → Option (Int32 × St)) (dd : Nat) (hdd : 11 ≤ dd)  (hrc : ∀ (z0 : Int32) (s : St), CN l yX12_readExpression cX12_readExpression 3 none dd FULL (fun ad => [.ref (ad 69), .int z0]) s (rc z0 s)) (a1 : Int32) (s : St) : CN l yX12_readAnd cX12_readAnd 2 none (dd + 5) FULL (fun ad => [.ref (ad 69), .int a1]) s (fX12_readAnd rc a1 s) := by
  refine cn_of (by decide) (fun _ => (Nat.le_of_ble_eq_true rfl)) (fun X hC hR hl hN => ?_)
  subst hl
  show Zr X (QFN X none) 0 s 0 [(0, .ref (X_ad X 69)), (1, .int a1)] [] _
  rw [fX12_readAnd]
  refine zr_aload_n (pc := 0) (i := 0) 0 hC dX12_readAnd_0 rfl rfl ?_
  refine zr_iload_n (pc := 1) (i := 1) 1 hC dX12_readAnd_1 rfl rfl ?_
  refine zr_callVv (pc := 2) (As := fun ad => [.int a1]) (st1 := []) hC (Nat.le_of_ble_eq_true rfl) (kX12_readNot _ rc dd hdd hrc a1 _) (by omega) mc_yX12_readNot m_1666 m_1668 m_p64 mem_69 lay_69 rfl rfl rfl rfl (Nat.le_of_ble_eq_true rfl) dX12_readAnd_2 (fun y_1 s_1 => ?_)
  exact tX12_readAnd_L5 rc a1 dd hdd X hC hR hN hrc FU _
def fX12_readExpression_L67 (rc : Int32 → St → Option (Int32 × St)) (c1 : Int32) : Nat → St → Option (Int32 × St)
  | 0, _ => none
  | n + 1, s =>
    bd (fX12_is 1013 s) (fun y_2 s_2 =>
    if y_2 = 0 then
    (some (0, s_2))
  else
    (bd (fX12_stepOn s_2) (fun y_3 s_3 =>
    bd (fX12_readAnd rc c1 s_3) (fun y_4 s_4 =>
    bd (fX12_lay (-27 : Int32) s_4) (fun y_5 s_5 =>
    fX12_readExpression_L67 rc c1 n s_5)))))
set_option maxRecDepth 100000 in
set_option maxHeartbeats 4000000 in
theorem tX12_readExpression_L67 (rc : Int32 → St → Option (Int32 × St)) (c1 : Int32) (dd : Nat) (hdd : 11 ≤ dd) (X : KX) (hC : Ctx X RX12 cX12_readExpression FULL (dd + 6) 0) (hR : RC X none) (hN : X_nL X = 3) (hrc : ∀ (z0 : Int32) (s : St), CN (X_l X) yX12_readExpression cX12_readExpression 3 none dd FULL (fun ad => [.ref (ad 69), .int z0]) s (rc z0 s)) : ∀ (n : Nat) (s : St), Zr X (QFN X none) 0 s 67 [(0, .ref (X_ad X 69)), (1, .int c1)] [] (fX12_readExpression_L67 rc c1 n s) := by
  intro n
  induction n with
  | zero =>
    intro s
    exact zr_none
  | succ n ih =>
    intro s
    rw [fX12_readExpression_L67]
    refine zr_aload_n (pc := 67) (i := 0) 0 hC dX12_readExpression_67 rfl rfl ?_
    refine zr_ldcSw (pc := 68) (own := RX12) (t := 13) hC dX12_readExpression_68 (by decide +kernel) ?_
    refine zr_callV (pc := 71) (As := fun ad => [.ref (ad 1013)]) (st1 := []) hC (Nat.le_of_ble_eq_true rfl) (kX12_is _ (str_is 1013 (by decide)) _) (by omega) mc_yX12_is m_1634 m_1636 m_p57 mem_69 lay_69 rfl rfl rfl rfl (Nat.le_of_ble_eq_true rfl) dX12_readExpression_71 (fun y_2 s_2 => ?_)
    refine zr_if_eq (pc := 74) (tgt := 95) hC dX12_readExpression_74 (by decide) (fun c_ => ?_) (fun c_ => ?_)
    · exact zr_vret (pc := 95) hC hR dX12_readExpression_95
    · refine zr_aload_n (pc := 77) (i := 0) 0 hC dX12_readExpression_77 rfl rfl ?_
      refine zr_callVv (pc := 78) (As := fun ad => []) (st1 := []) hC (Nat.le_of_ble_eq_true rfl) (kX12_stepOn _  _) (by omega) mc_yX12_stepOn m_1610 m_1612 m_p54 mem_69 lay_69 rfl rfl rfl rfl (Nat.le_of_ble_eq_true rfl) dX12_readExpression_78 (fun y_3 s_3 => ?_)
      refine zr_aload_n (pc := 81) (i := 0) 0 hC dX12_readExpression_81 rfl rfl ?_
      refine zr_iload_n (pc := 82) (i := 1) 1 hC dX12_readExpression_82 rfl rfl ?_
      refine zr_callVv (pc := 83) (As := fun ad => [.int c1]) (st1 := []) hC (Nat.le_of_ble_eq_true rfl) (kX12_readAnd _ rc dd hdd hrc c1 _) (by omega) mc_yX12_readAnd m_1662 m_1664 m_p63 mem_69 lay_69 rfl rfl rfl rfl (Nat.le_of_ble_eq_true rfl) dX12_readExpression_83 (fun y_4 s_4 => ?_)
      refine zr_aload_n (pc := 86) (i := 0) 0 hC dX12_readExpression_86 rfl rfl ?_
      refine zr_bipush (pc := 87) (v := (-27 : Int32)) hC dX12_readExpression_87 bi_m27 ?_
      refine zr_callVv (pc := 89) (As := fun ad => [.int (-27 : Int32)]) (st1 := []) hC (Nat.le_of_ble_eq_true rfl) (kX12_lay _ (-27 : Int32) _) (by omega) mc_yX12_lay m_1683 m_1685 m_p68 mem_69 lay_69 rfl rfl rfl rfl (Nat.le_of_ble_eq_true rfl) dX12_readExpression_89 (fun y_5 s_5 => ?_)
      refine zr_goto (pc := 92) (tgt := 67) hC dX12_readExpression_92 (by decide) ?_
      exact ih s_5
def fX12_readExpression_J62 (rc : Int32 → St → Option (Int32 × St)) (v1 : Int32) (s : St) : Option (Int32 × St) :=
  bd (fX12_readAnd rc v1 s) (fun y_1 s_1 =>
    fX12_readExpression_L67 rc v1 FU s_1)
set_option maxRecDepth 100000 in
set_option maxHeartbeats 4000000 in
theorem tX12_readExpression_J62 (rc : Int32 → St → Option (Int32 × St)) (v1 : Int32) (dd : Nat) (hdd : 11 ≤ dd) (X : KX) (hC : Ctx X RX12 cX12_readExpression FULL (dd + 6) 0) (hR : RC X none) (hN : X_nL X = 3) (hrc : ∀ (z0 : Int32) (s : St), CN (X_l X) yX12_readExpression cX12_readExpression 3 none dd FULL (fun ad => [.ref (ad 69), .int z0]) s (rc z0 s)) (s : St) : Zr X (QFN X none) 0 s 62 [(0, .ref (X_ad X 69)), (1, .int v1)] [] (fX12_readExpression_J62 rc v1 s) := by
  rw [fX12_readExpression_J62]
  refine zr_aload_n (pc := 62) (i := 0) 0 hC dX12_readExpression_62 rfl rfl ?_
  refine zr_iload_n (pc := 63) (i := 1) 1 hC dX12_readExpression_63 rfl rfl ?_
  refine zr_callVv (pc := 64) (As := fun ad => [.int v1]) (st1 := []) hC (Nat.le_of_ble_eq_true rfl) (kX12_readAnd _ rc dd hdd hrc v1 _) (by omega) mc_yX12_readAnd m_1662 m_1664 m_p63 mem_69 lay_69 rfl rfl rfl rfl (Nat.le_of_ble_eq_true rfl) dX12_readExpression_64 (fun y_1 s_1 => ?_)
  exact tX12_readExpression_L67 rc v1 dd hdd X hC hR hN hrc FU _
def fX12_readExpression_J38 (rc : Int32 → St → Option (Int32 × St)) (v1 : Int32) (q0 : Int32) (s : St) : Option (Int32 × St) :=
  if q0 = 0 then
    (bd (fX12_wrong (1 : Int32) s) (fun y_7 s_7 =>
    fX12_readExpression_J62 rc v1 s_7))
  else
    (if v1 = (6 : Int32) then
    (bd (fX12_wrong (2 : Int32) s) (fun y_6 s_6 =>
    fX12_readExpression_J62 rc v1 s_6))
  else
    (fX12_readExpression_J62 rc v1 s))
set_option maxRecDepth 100000 in
set_option maxHeartbeats 4000000 in
theorem tX12_readExpression_J38 (rc : Int32 → St → Option (Int32 × St)) (v1 : Int32) (q0 : Int32) (dd : Nat) (hdd : 11 ≤ dd) (X : KX) (hC : Ctx X RX12 cX12_readExpression FULL (dd + 6) 0) (hR : RC X none) (hN : X_nL X = 3) (hrc : ∀ (z0 : Int32) (s : St), CN (X_l X) yX12_readExpression cX12_readExpression 3 none dd FULL (fun ad => [.ref (ad 69), .int z0]) s (rc z0 s)) (s : St) : Zr X (QFN X none) 0 s 38 [(0, .ref (X_ad X 69)), (1, .int v1)] [.int q0] (fX12_readExpression_J38 rc v1 q0 s) := by
  rw [fX12_readExpression_J38]
  refine zr_istore_n (pc := 38) (i := 2) (ls' := [(2, _), (0, _), (1, _)]) hC dX12_readExpression_38 rfl (nlt hN (Nat.le_of_ble_eq_true rfl)) rfl ?_
  refine zr_iload_n (pc := 39) (i := 2) 0 hC dX12_readExpression_39 rfl rfl ?_
  refine zr_if_ne (pc := 40) (tgt := 51) hC dX12_readExpression_40 (by decide) (fun c_ => ?_) (fun c_ => ?_)
  · refine zr_aload_n (pc := 43) (i := 0) 1 hC dX12_readExpression_43 rfl rfl ?_
    refine zr_iconst (pc := 44) (v := (1 : Int32)) hC dX12_readExpression_44 ic_1 ?_
    refine zr_callVv (pc := 45) (As := fun ad => [.int (1 : Int32)]) (st1 := []) hC (Nat.le_of_ble_eq_true rfl) (kX12_wrong _ (1 : Int32) _) (by omega) mc_yX12_wrong m_1642 m_1644 m_p58 mem_69 lay_69 rfl rfl rfl rfl (Nat.le_of_ble_eq_true rfl) dX12_readExpression_45 (fun y_7 s_7 => ?_)
    refine zr_goto (pc := 48) (tgt := 62) hC dX12_readExpression_48 (by decide) ?_
    refine zr_sub (ls' := [(0, _), (1, _)]) [1, 2] rfl ?_
    exact tX12_readExpression_J62 rc v1 dd hdd X hC hR hN hrc  _
  · refine zr_iload_n (pc := 51) (i := 1) 2 hC dX12_readExpression_51 rfl rfl ?_
    refine zr_bipush (pc := 52) (v := (6 : Int32)) hC dX12_readExpression_52 bi_6 ?_
    refine zr_icmp_ne (pc := 54) (tgt := 62) hC dX12_readExpression_54 (by decide) (fun c_ => ?_) (fun c_ => ?_)
    · refine zr_aload_n (pc := 57) (i := 0) 1 hC dX12_readExpression_57 rfl rfl ?_
      refine zr_iconst (pc := 58) (v := (2 : Int32)) hC dX12_readExpression_58 ic_2 ?_
      refine zr_callVv (pc := 59) (As := fun ad => [.int (2 : Int32)]) (st1 := []) hC (Nat.le_of_ble_eq_true rfl) (kX12_wrong _ (2 : Int32) _) (by omega) mc_yX12_wrong m_1642 m_1644 m_p58 mem_69 lay_69 rfl rfl rfl rfl (Nat.le_of_ble_eq_true rfl) dX12_readExpression_59 (fun y_6 s_6 => ?_)
      refine zr_sub (ls' := [(0, _), (1, _)]) [1, 2] rfl ?_
      exact tX12_readExpression_J62 rc v1 dd hdd X hC hR hN hrc  _
    · refine zr_sub (ls' := [(0, _), (1, _)]) [1, 2] rfl ?_
      exact tX12_readExpression_J62 rc v1 dd hdd X hC hR hN hrc  _
def fX12_readExpression_J33 (rc : Int32 → St → Option (Int32 × St)) (v1 : Int32) (s : St) : Option (Int32 × St) :=
  fX12_readExpression_J38 rc v1 (1 : Int32) s
set_option maxRecDepth 100000 in
set_option maxHeartbeats 4000000 in
theorem tX12_readExpression_J33 (rc : Int32 → St → Option (Int32 × St)) (v1 : Int32) (dd : Nat) (hdd : 11 ≤ dd) (X : KX) (hC : Ctx X RX12 cX12_readExpression FULL (dd + 6) 0) (hR : RC X none) (hN : X_nL X = 3) (hrc : ∀ (z0 : Int32) (s : St), CN (X_l X) yX12_readExpression cX12_readExpression 3 none dd FULL (fun ad => [.ref (ad 69), .int z0]) s (rc z0 s)) (s : St) : Zr X (QFN X none) 0 s 33 [(0, .ref (X_ad X 69)), (1, .int v1)] [] (fX12_readExpression_J33 rc v1 s) := by
  rw [fX12_readExpression_J33]
  refine zr_iconst (pc := 33) (v := (1 : Int32)) hC dX12_readExpression_33 ic_1 ?_
  refine zr_goto (pc := 34) (tgt := 38) hC dX12_readExpression_34 (by decide) ?_
  exact tX12_readExpression_J38 rc v1 (1 : Int32) dd hdd X hC hR hN hrc  _
def gX12_readExpression (rc : Int32 → St → Option (Int32 × St)) (a1 : Int32) (s : St) : Option (Int32 × St) :=
  if (s 69 26) = 0 then
    (if (s 69 22) = (2 : Int32) then
    (fX12_readExpression_J33 rc a1 s)
  else
    (if (s 69 22) = (1 : Int32) then
    (fX12_readExpression_J33 rc a1 s)
  else
    (bd (fX12_isMarked (40 : Int32) s) (fun y_8 s_8 =>
    if y_8 = 0 then
    (fX12_readExpression_J38 rc a1 (0 : Int32) s_8)
  else
    (fX12_readExpression_J33 rc a1 s_8)))))
  else
    (some (0, s))
set_option maxRecDepth 100000 in
set_option maxHeartbeats 4000000 in
theorem gkX12_readExpression (l : Launch) (rc : Int32 → St → Option (Int32 × St)) (dd : Nat) (hdd : 11 ≤ dd)  (hrc : ∀ (z0 : Int32) (s : St), CN l yX12_readExpression cX12_readExpression 3 none dd FULL (fun ad => [.ref (ad 69), .int z0]) s (rc z0 s)) (a1 : Int32) (s : St) : CN l yX12_readExpression cX12_readExpression 3 none (dd + 6) FULL (fun ad => [.ref (ad 69), .int a1]) s (gX12_readExpression rc a1 s) := by
  refine cn_of (by decide) (fun _ => (Nat.le_of_ble_eq_true rfl)) (fun X hC hR hl hN => ?_)
  subst hl
  show Zr X (QFN X none) 0 s 0 [(0, .ref (X_ad X 69)), (1, .int a1)] [] _
  rw [gX12_readExpression]
  refine zr_aload_n (pc := 0) (i := 0) 0 hC dX12_readExpression_0 rfl rfl ?_
  refine zr_getI (pc := 1) (j := 26) hC mem_69 lay_69 rfl rfl (Nat.le_of_ble_eq_true rfl) iX12 m_1421 dX12_readExpression_1 ?_
  refine zr_if_eq (pc := 4) (tgt := 8) hC dX12_readExpression_4 (by decide) (fun c_ => ?_) (fun c_ => ?_)
  · refine zr_aload_n (pc := 8) (i := 0) 0 hC dX12_readExpression_8 rfl rfl ?_
    refine zr_getI (pc := 9) (j := 22) hC mem_69 lay_69 rfl rfl (Nat.le_of_ble_eq_true rfl) iX12 m_1417 dX12_readExpression_9 ?_
    refine zr_iconst (pc := 12) (v := (2 : Int32)) hC dX12_readExpression_12 ic_2 ?_
    refine zr_icmp_eq (pc := 13) (tgt := 33) hC dX12_readExpression_13 (by decide) (fun c_ => ?_) (fun c_ => ?_)
    · exact tX12_readExpression_J33 rc a1 dd hdd X hC hR hN hrc  _
    · refine zr_aload_n (pc := 16) (i := 0) 0 hC dX12_readExpression_16 rfl rfl ?_
      refine zr_getI (pc := 17) (j := 22) hC mem_69 lay_69 rfl rfl (Nat.le_of_ble_eq_true rfl) iX12 m_1417 dX12_readExpression_17 ?_
      refine zr_iconst (pc := 20) (v := (1 : Int32)) hC dX12_readExpression_20 ic_1 ?_
      refine zr_icmp_eq (pc := 21) (tgt := 33) hC dX12_readExpression_21 (by decide) (fun c_ => ?_) (fun c_ => ?_)
      · exact tX12_readExpression_J33 rc a1 dd hdd X hC hR hN hrc  _
      · refine zr_aload_n (pc := 24) (i := 0) 0 hC dX12_readExpression_24 rfl rfl ?_
        refine zr_bipush (pc := 25) (v := (40 : Int32)) hC dX12_readExpression_25 bi_40 ?_
        refine zr_callV (pc := 27) (As := fun ad => [.int (40 : Int32)]) (st1 := []) hC (Nat.le_of_ble_eq_true rfl) (kX12_isMarked _ (40 : Int32) _) (by omega) mc_yX12_isMarked m_1658 m_1660 m_p62 mem_69 lay_69 rfl rfl rfl rfl (Nat.le_of_ble_eq_true rfl) dX12_readExpression_27 (fun y_8 s_8 => ?_)
        refine zr_if_eq (pc := 30) (tgt := 37) hC dX12_readExpression_30 (by decide) (fun c_ => ?_) (fun c_ => ?_)
        · refine zr_iconst (pc := 37) (v := (0 : Int32)) hC dX12_readExpression_37 ic_0 ?_
          exact tX12_readExpression_J38 rc a1 (0 : Int32) dd hdd X hC hR hN hrc  _
        · exact tX12_readExpression_J33 rc a1 dd hdd X hC hR hN hrc  _
  · exact zr_vret (pc := 7) hC hR dX12_readExpression_7
def fX12_readExpression : Nat → Int32 → St → Option (Int32 × St)
  | 0, _, _ => none
  | n + 1, a1, s => gX12_readExpression (fX12_readExpression n) a1 s
theorem kX12_readExpression (l : Launch) : ∀ (n : Nat) (a1 : Int32) (s : St), CN l yX12_readExpression cX12_readExpression 3 none (11 + 6 * n) FULL (fun ad => [.ref (ad 69), .int a1]) s (fX12_readExpression n a1 s)
  | 0, _, _ => fun _ _ h => by cases h
  | n + 1, a1, s => gkX12_readExpression l (fX12_readExpression n) (11 + 6 * n) (Nat.le_add_right _ _) (fun z0 s => kX12_readExpression l n z0 s) a1 s
def fX12_personNow (s : St) : Option (Int32 × St) :=
  bd (fX12_numberNow (0 : Int32) (9999 : Int32) s) (fun y_1 s_1 =>
    if (s_1 69 26) = 0 then
    (if inA (5 : Int32) 10 then
    (if y_1 < (s_1 71 (5 : Int32).toNatClampNeg) then
    (if (s_1 69 26) = 0 then
    (some (y_1, s_1))
  else
    (some ((0 : Int32), s_1)))
  else
    (bd (fX12_wrong (3 : Int32) s_1) (fun y_2 s_2 =>
    if (s_2 69 26) = 0 then
    (some (y_1, s_2))
  else
    (some ((0 : Int32), s_2))))) else none)
  else
    (if (s_1 69 26) = 0 then
    (some (y_1, s_1))
  else
    (some ((0 : Int32), s_1))))
set_option maxRecDepth 100000 in
set_option maxHeartbeats 4000000 in
theorem kX12_personNow (l : Launch)  (s : St) : CN l yX12_personNow cX12_personNow 2 (some .int) 3 FULL (fun ad => [.ref (ad 69)]) s (fX12_personNow s) := by
  refine cn_of (by decide) (fun _ => (Nat.le_of_ble_eq_true rfl)) (fun X hC hR hl hN => ?_)
  subst hl
  show Zr X (QFN X (some .int)) 0 s 0 [(0, .ref (X_ad X 69))] [] _
  rw [fX12_personNow]
  refine zr_aload_n (pc := 0) (i := 0) 0 hC dX12_personNow_0 rfl rfl ?_
  refine zr_iconst (pc := 1) (v := (0 : Int32)) hC dX12_personNow_1 ic_0 ?_
  refine zr_sipush (pc := 2) (v := (9999 : Int32)) hC dX12_personNow_2 si_9999 ?_
  refine zr_callV (pc := 5) (As := fun ad => [.int (0 : Int32), .int (9999 : Int32)]) (st1 := []) hC (Nat.le_of_ble_eq_true rfl) (kX12_numberNow _ (0 : Int32) (9999 : Int32) _) (Nat.le_of_ble_eq_true rfl) mc_yX12_numberNow m_1650 m_1652 m_p60 mem_69 lay_69 rfl rfl rfl rfl (Nat.le_of_ble_eq_true rfl) dX12_personNow_5 (fun y_1 s_1 => ?_)
  refine zr_istore_n (pc := 8) (i := 1) (ls' := [(1, _), (0, _)]) hC dX12_personNow_8 rfl (nlt hN (Nat.le_of_ble_eq_true rfl)) rfl ?_
  refine zr_aload_n (pc := 9) (i := 0) 1 hC dX12_personNow_9 rfl rfl ?_
  refine zr_getI (pc := 10) (j := 26) hC mem_69 lay_69 rfl rfl (Nat.le_of_ble_eq_true rfl) iX12 m_1421 dX12_personNow_10 ?_
  refine zr_if_ne (pc := 13) (tgt := 31) hC dX12_personNow_13 (by decide) (fun c_ => ?_) (fun c_ => ?_)
  · refine zr_iload_n (pc := 16) (i := 1) 0 hC dX12_personNow_16 rfl rfl ?_
    refine zr_aload_n (pc := 17) (i := 0) 1 hC dX12_personNow_17 rfl rfl ?_
    refine zr_getR (pc := 18) (j := 2) (k1 := 71) hC mem_69 lay_69 rfl rfl (Nat.le_of_ble_eq_true rfl) iX12 m_1397 dX12_personNow_18 ?_
    refine zr_iconst (pc := 21) (v := (5 : Int32)) hC dX12_personNow_21 ic_5 ?_
    refine zr_iald (pc := 22) hC mem_71 lay_71 dX12_personNow_22 ?_
    refine zr_icmp_lt (pc := 23) (tgt := 31) hC dX12_personNow_23 (by decide) (fun c_ => ?_) (fun c_ => ?_)
    · refine zr_aload_n (pc := 31) (i := 0) 1 hC dX12_personNow_31 rfl rfl ?_
      refine zr_getI (pc := 32) (j := 26) hC mem_69 lay_69 rfl rfl (Nat.le_of_ble_eq_true rfl) iX12 m_1421 dX12_personNow_32 ?_
      refine zr_if_ne (pc := 35) (tgt := 42) hC dX12_personNow_35 (by decide) (fun c_ => ?_) (fun c_ => ?_)
      · refine zr_iload_n (pc := 38) (i := 1) 0 hC dX12_personNow_38 rfl rfl ?_
        refine zr_goto (pc := 39) (tgt := 43) hC dX12_personNow_39 (by decide) ?_
        exact zr_iret (pc := 43) hC hR dX12_personNow_43
      · refine zr_iconst (pc := 42) (v := (0 : Int32)) hC dX12_personNow_42 ic_0 ?_
        exact zr_iret (pc := 43) hC hR dX12_personNow_43
    · refine zr_aload_n (pc := 26) (i := 0) 1 hC dX12_personNow_26 rfl rfl ?_
      refine zr_iconst (pc := 27) (v := (3 : Int32)) hC dX12_personNow_27 ic_3 ?_
      refine zr_callVv (pc := 28) (As := fun ad => [.int (3 : Int32)]) (st1 := []) hC (Nat.le_of_ble_eq_true rfl) (kX12_wrong _ (3 : Int32) _) (Nat.le_of_ble_eq_true rfl) mc_yX12_wrong m_1642 m_1644 m_p58 mem_69 lay_69 rfl rfl rfl rfl (Nat.le_of_ble_eq_true rfl) dX12_personNow_28 (fun y_2 s_2 => ?_)
      refine zr_aload_n (pc := 31) (i := 0) 1 hC dX12_personNow_31 rfl rfl ?_
      refine zr_getI (pc := 32) (j := 26) hC mem_69 lay_69 rfl rfl (Nat.le_of_ble_eq_true rfl) iX12 m_1421 dX12_personNow_32 ?_
      refine zr_if_ne (pc := 35) (tgt := 42) hC dX12_personNow_35 (by decide) (fun c_ => ?_) (fun c_ => ?_)
      · refine zr_iload_n (pc := 38) (i := 1) 0 hC dX12_personNow_38 rfl rfl ?_
        refine zr_goto (pc := 39) (tgt := 43) hC dX12_personNow_39 (by decide) ?_
        exact zr_iret (pc := 43) hC hR dX12_personNow_43
      · refine zr_iconst (pc := 42) (v := (0 : Int32)) hC dX12_personNow_42 ic_0 ?_
        exact zr_iret (pc := 43) hC hR dX12_personNow_43
  · refine zr_aload_n (pc := 31) (i := 0) 1 hC dX12_personNow_31 rfl rfl ?_
    refine zr_getI (pc := 32) (j := 26) hC mem_69 lay_69 rfl rfl (Nat.le_of_ble_eq_true rfl) iX12 m_1421 dX12_personNow_32 ?_
    refine zr_if_ne (pc := 35) (tgt := 42) hC dX12_personNow_35 (by decide) (fun c_ => ?_) (fun c_ => ?_)
    · refine zr_iload_n (pc := 38) (i := 1) 0 hC dX12_personNow_38 rfl rfl ?_
      refine zr_goto (pc := 39) (tgt := 43) hC dX12_personNow_39 (by decide) ?_
      exact zr_iret (pc := 43) hC hR dX12_personNow_43
    · refine zr_iconst (pc := 42) (v := (0 : Int32)) hC dX12_personNow_42 ic_0 ?_
      exact zr_iret (pc := 43) hC hR dX12_personNow_43
def fX12_readPerson (s : St) : Option (Int32 × St) :=
  bd (fX12_personNow s) (fun y_1 s_1 =>
    if (s_1 69 26) = 0 then
    (bd (fX12_stepOn s_1) (fun y_2 s_2 =>
    some (y_1, s_2)))
  else
    (some (y_1, s_1)))
set_option maxRecDepth 100000 in
set_option maxHeartbeats 4000000 in
theorem kX12_readPerson (l : Launch)  (s : St) : CN l yX12_readPerson cX12_readPerson 2 (some .int) 8 FULL (fun ad => [.ref (ad 69)]) s (fX12_readPerson s) := by
  refine cn_of (by decide) (fun _ => (Nat.le_of_ble_eq_true rfl)) (fun X hC hR hl hN => ?_)
  subst hl
  show Zr X (QFN X (some .int)) 0 s 0 [(0, .ref (X_ad X 69))] [] _
  rw [fX12_readPerson]
  refine zr_aload_n (pc := 0) (i := 0) 0 hC dX12_readPerson_0 rfl rfl ?_
  refine zr_callV (pc := 1) (As := fun ad => []) (st1 := []) hC (Nat.le_of_ble_eq_true rfl) (kX12_personNow _  _) (Nat.le_of_ble_eq_true rfl) mc_yX12_personNow m_1705 m_1707 m_p73 mem_69 lay_69 rfl rfl rfl rfl (Nat.le_of_ble_eq_true rfl) dX12_readPerson_1 (fun y_1 s_1 => ?_)
  refine zr_istore_n (pc := 4) (i := 1) (ls' := [(1, _), (0, _)]) hC dX12_readPerson_4 rfl (nlt hN (Nat.le_of_ble_eq_true rfl)) rfl ?_
  refine zr_aload_n (pc := 5) (i := 0) 1 hC dX12_readPerson_5 rfl rfl ?_
  refine zr_getI (pc := 6) (j := 26) hC mem_69 lay_69 rfl rfl (Nat.le_of_ble_eq_true rfl) iX12 m_1421 dX12_readPerson_6 ?_
  refine zr_if_ne (pc := 9) (tgt := 16) hC dX12_readPerson_9 (by decide) (fun c_ => ?_) (fun c_ => ?_)
  · refine zr_aload_n (pc := 12) (i := 0) 1 hC dX12_readPerson_12 rfl rfl ?_
    refine zr_callVv (pc := 13) (As := fun ad => []) (st1 := []) hC (Nat.le_of_ble_eq_true rfl) (kX12_stepOn _  _) (Nat.le_of_ble_eq_true rfl) mc_yX12_stepOn m_1610 m_1612 m_p54 mem_69 lay_69 rfl rfl rfl rfl (Nat.le_of_ble_eq_true rfl) dX12_readPerson_13 (fun y_2 s_2 => ?_)
    refine zr_iload_n (pc := 16) (i := 1) 0 hC dX12_readPerson_16 rfl rfl ?_
    exact zr_iret (pc := 17) hC hR dX12_readPerson_17
  · refine zr_iload_n (pc := 16) (i := 1) 0 hC dX12_readPerson_16 rfl rfl ?_
    exact zr_iret (pc := 17) hC hR dX12_readPerson_17
def fX12_otherNow (a1 : Int32) (s : St) : Option (Int32 × St) :=
  bd (fX12_personNow s) (fun y_1 s_1 =>
    if (s_1 69 26) = 0 then
    (if y_1 = a1 then
    (bd (fX12_wrong (4 : Int32) s_1) (fun y_2 s_2 =>
    some (y_1, s_2)))
  else
    (some (y_1, s_1)))
  else
    (some (y_1, s_1)))
set_option maxRecDepth 100000 in
set_option maxHeartbeats 4000000 in
theorem kX12_otherNow (l : Launch)  (a1 : Int32) (s : St) : CN l yX12_otherNow cX12_otherNow 3 (some .int) 4 FULL (fun ad => [.ref (ad 69), .int a1]) s (fX12_otherNow a1 s) := by
  refine cn_of (by decide) (fun _ => (Nat.le_of_ble_eq_true rfl)) (fun X hC hR hl hN => ?_)
  subst hl
  show Zr X (QFN X (some .int)) 0 s 0 [(0, .ref (X_ad X 69)), (1, .int a1)] [] _
  rw [fX12_otherNow]
  refine zr_aload_n (pc := 0) (i := 0) 0 hC dX12_otherNow_0 rfl rfl ?_
  refine zr_callV (pc := 1) (As := fun ad => []) (st1 := []) hC (Nat.le_of_ble_eq_true rfl) (kX12_personNow _  _) (Nat.le_of_ble_eq_true rfl) mc_yX12_personNow m_1705 m_1707 m_p73 mem_69 lay_69 rfl rfl rfl rfl (Nat.le_of_ble_eq_true rfl) dX12_otherNow_1 (fun y_1 s_1 => ?_)
  refine zr_istore_n (pc := 4) (i := 2) (ls' := [(2, _), (0, _), (1, _)]) hC dX12_otherNow_4 rfl (nlt hN (Nat.le_of_ble_eq_true rfl)) rfl ?_
  refine zr_aload_n (pc := 5) (i := 0) 1 hC dX12_otherNow_5 rfl rfl ?_
  refine zr_getI (pc := 6) (j := 26) hC mem_69 lay_69 rfl rfl (Nat.le_of_ble_eq_true rfl) iX12 m_1421 dX12_otherNow_6 ?_
  refine zr_if_ne (pc := 9) (tgt := 22) hC dX12_otherNow_9 (by decide) (fun c_ => ?_) (fun c_ => ?_)
  · refine zr_iload_n (pc := 12) (i := 2) 0 hC dX12_otherNow_12 rfl rfl ?_
    refine zr_iload_n (pc := 13) (i := 1) 2 hC dX12_otherNow_13 rfl rfl ?_
    refine zr_icmp_ne (pc := 14) (tgt := 22) hC dX12_otherNow_14 (by decide) (fun c_ => ?_) (fun c_ => ?_)
    · refine zr_aload_n (pc := 17) (i := 0) 1 hC dX12_otherNow_17 rfl rfl ?_
      refine zr_iconst (pc := 18) (v := (4 : Int32)) hC dX12_otherNow_18 ic_4 ?_
      refine zr_callVv (pc := 19) (As := fun ad => [.int (4 : Int32)]) (st1 := []) hC (Nat.le_of_ble_eq_true rfl) (kX12_wrong _ (4 : Int32) _) (Nat.le_of_ble_eq_true rfl) mc_yX12_wrong m_1642 m_1644 m_p58 mem_69 lay_69 rfl rfl rfl rfl (Nat.le_of_ble_eq_true rfl) dX12_otherNow_19 (fun y_2 s_2 => ?_)
      refine zr_iload_n (pc := 22) (i := 2) 0 hC dX12_otherNow_22 rfl rfl ?_
      exact zr_iret (pc := 23) hC hR dX12_otherNow_23
    · refine zr_iload_n (pc := 22) (i := 2) 0 hC dX12_otherNow_22 rfl rfl ?_
      exact zr_iret (pc := 23) hC hR dX12_otherNow_23
  · refine zr_iload_n (pc := 22) (i := 2) 0 hC dX12_otherNow_22 rfl rfl ?_
    exact zr_iret (pc := 23) hC hR dX12_otherNow_23
def fX12_readSomebody_L133 (c2 : Int32) : Nat → Int32 → St → Option (Int32 × St)
  | 0, _, _ => none
  | n + 1, v3, s =>
    if (4 : Int32) ≤ v3 then
    (if inA (5 : Int32) 10 then
    (if inA (5 : Int32) 10 then
    (let s_8 := wr s 71 (5 : Int32).toNatClampNeg ((s 71 (5 : Int32).toNatClampNeg) + (1 : Int32));
    some (0, s_8)) else none) else none)
  else
    (bd (fX12_readNumber (0 : Int32) (999 : Int32) s) (fun y_9 s_9 =>
    if inA (((4 : Int32) * c2) + v3) 96 then
    (let s_10 := wr s_9 72 (((4 : Int32) * c2) + v3).toNatClampNeg y_9;
    fX12_readSomebody_L133 c2 n (v3 + (1 : Int32)) s_10) else none))
set_option maxRecDepth 100000 in
set_option maxHeartbeats 4000000 in
theorem tX12_readSomebody_L133 (c2 : Int32) (X : KX) (hC : Ctx X RX12 cX12_readSomebody FULL 9 0) (hR : RC X none) (hN : X_nL X = 4) : ∀ (n : Nat) (v3 : Int32) (s : St), Zr X (QFN X none) 0 s 133 [(0, .ref (X_ad X 69)), (2, .int c2), (3, .int v3)] [] (fX12_readSomebody_L133 c2 n v3 s) := by
  intro n
  induction n with
  | zero =>
    intro v3 s
    exact zr_none
  | succ n ih =>
    intro v3 s
    rw [fX12_readSomebody_L133]
    refine zr_iload_n (pc := 133) (i := 3) 2 hC dX12_readSomebody_133 rfl rfl ?_
    refine zr_iconst (pc := 134) (v := (4 : Int32)) hC dX12_readSomebody_134 ic_4 ?_
    refine zr_icmp_ge (pc := 135) (tgt := 162) hC dX12_readSomebody_135 (by decide) (fun c_ => ?_) (fun c_ => ?_)
    · refine zr_aload_n (pc := 162) (i := 0) 0 hC dX12_readSomebody_162 rfl rfl ?_
      refine zr_getR (pc := 163) (j := 2) (k1 := 71) hC mem_69 lay_69 rfl rfl (Nat.le_of_ble_eq_true rfl) iX12 m_1397 dX12_readSomebody_163 ?_
      refine zr_iconst (pc := 166) (v := (5 : Int32)) hC dX12_readSomebody_166 ic_5 ?_
      refine zr_dup2 (pc := 167) hC dX12_readSomebody_167 rfl rfl ?_
      refine zr_iald (pc := 168) hC mem_71 lay_71 dX12_readSomebody_168 ?_
      refine zr_iconst (pc := 169) (v := (1 : Int32)) hC dX12_readSomebody_169 ic_1 ?_
      refine zr_iadd (pc := 170) hC dX12_readSomebody_170 ?_
      refine zr_iast (pc := 171) hC mem_71 lay_71 dX12_readSomebody_171 ?_
      exact zr_vret (pc := 172) hC hR dX12_readSomebody_172
    · refine zr_aload_n (pc := 138) (i := 0) 0 hC dX12_readSomebody_138 rfl rfl ?_
      refine zr_getR (pc := 139) (j := 3) (k1 := 72) hC mem_69 lay_69 rfl rfl (Nat.le_of_ble_eq_true rfl) iX12 m_1398 dX12_readSomebody_139 ?_
      refine zr_iconst (pc := 142) (v := (4 : Int32)) hC dX12_readSomebody_142 ic_4 ?_
      refine zr_iload_n (pc := 143) (i := 2) 1 hC dX12_readSomebody_143 rfl rfl ?_
      refine zr_imul (pc := 144) hC dX12_readSomebody_144 ?_
      refine zr_iload_n (pc := 145) (i := 3) 2 hC dX12_readSomebody_145 rfl rfl ?_
      refine zr_iadd (pc := 146) hC dX12_readSomebody_146 ?_
      refine zr_aload_n (pc := 147) (i := 0) 0 hC dX12_readSomebody_147 rfl rfl ?_
      refine zr_iconst (pc := 148) (v := (0 : Int32)) hC dX12_readSomebody_148 ic_0 ?_
      refine zr_sipush (pc := 149) (v := (999 : Int32)) hC dX12_readSomebody_149 si_999 ?_
      refine zr_callV (pc := 152) (As := fun ad => [.int (0 : Int32), .int (999 : Int32)]) (st1 := [.int (((4 : Int32) * c2) + v3), .ref (X_ad X 72)]) hC (Nat.le_of_ble_eq_true rfl) (kX12_readNumber _ (0 : Int32) (999 : Int32) _) (Nat.le_of_ble_eq_true rfl) mc_yX12_readNumber m_1646 m_1648 m_p59 mem_69 lay_69 rfl rfl rfl rfl (Nat.le_of_ble_eq_true rfl) dX12_readSomebody_152 (fun y_9 s_9 => ?_)
      refine zr_iast (pc := 155) hC mem_72 lay_72 dX12_readSomebody_155 ?_
      refine zr_iinc (pc := 156) (q := 2) (ls' := [(3, _), (0, _), (2, _)]) hC dX12_readSomebody_156 rfl (inc_1 _) (nlt hN (Nat.le_of_ble_eq_true rfl)) rfl ?_
      refine zr_goto (pc := 159) (tgt := 133) hC dX12_readSomebody_159 (by decide) ?_
      refine zr_sub (ls' := [(0, _), (2, _), (3, _)]) [1, 2, 0] rfl ?_
      exact ih (v3 + (1 : Int32)) (wr s_9 72 (((4 : Int32) * c2) + v3).toNatClampNeg y_9)
def fX12_readSomebody_J110 (v2 : Int32) (q0 : Int32) (q1 : Int32) (s : St) : Option (Int32 × St) :=
  if inA q1 24 then
    (let s_4 := wr s 76 q1.toNatClampNeg q0;
    if inA v2 24 then
    (let s_5 := wr s_4 77 v2.toNatClampNeg (-1 : Int32);
    bd (fX12_readNumber (0 : Int32) (9 : Int32) s_5) (fun y_6 s_6 =>
    if inA v2 24 then
    (let s_7 := wr s_6 73 v2.toNatClampNeg y_6;
    fX12_readSomebody_L133 v2 FU (0 : Int32) s_7) else none)) else none) else none
set_option maxRecDepth 100000 in
set_option maxHeartbeats 4000000 in
theorem tX12_readSomebody_J110 (v2 : Int32) (q0 : Int32) (q1 : Int32) (X : KX) (hC : Ctx X RX12 cX12_readSomebody FULL 9 0) (hR : RC X none) (hN : X_nL X = 4) (s : St) : Zr X (QFN X none) 0 s 110 [(0, .ref (X_ad X 69)), (2, .int v2)] [.int q0, .int q1, .ref (X_ad X 76)] (fX12_readSomebody_J110 v2 q0 q1 s) := by
  rw [fX12_readSomebody_J110]
  refine zr_iast (pc := 110) hC mem_76 lay_76 dX12_readSomebody_110 ?_
  refine zr_aload_n (pc := 111) (i := 0) 0 hC dX12_readSomebody_111 rfl rfl ?_
  refine zr_getR (pc := 112) (j := 8) (k1 := 77) hC mem_69 lay_69 rfl rfl (Nat.le_of_ble_eq_true rfl) iX12 m_1403 dX12_readSomebody_112 ?_
  refine zr_iload_n (pc := 115) (i := 2) 1 hC dX12_readSomebody_115 rfl rfl ?_
  refine zr_iconst (pc := 116) (v := (-1 : Int32)) hC dX12_readSomebody_116 ic_m1 ?_
  refine zr_iast (pc := 117) hC mem_77 lay_77 dX12_readSomebody_117 ?_
  refine zr_aload_n (pc := 118) (i := 0) 0 hC dX12_readSomebody_118 rfl rfl ?_
  refine zr_getR (pc := 119) (j := 4) (k1 := 73) hC mem_69 lay_69 rfl rfl (Nat.le_of_ble_eq_true rfl) iX12 m_1399 dX12_readSomebody_119 ?_
  refine zr_iload_n (pc := 122) (i := 2) 1 hC dX12_readSomebody_122 rfl rfl ?_
  refine zr_aload_n (pc := 123) (i := 0) 0 hC dX12_readSomebody_123 rfl rfl ?_
  refine zr_iconst (pc := 124) (v := (0 : Int32)) hC dX12_readSomebody_124 ic_0 ?_
  refine zr_bipush (pc := 125) (v := (9 : Int32)) hC dX12_readSomebody_125 bi_9 ?_
  refine zr_callV (pc := 127) (As := fun ad => [.int (0 : Int32), .int (9 : Int32)]) (st1 := [.int v2, .ref (X_ad X 73)]) hC (Nat.le_of_ble_eq_true rfl) (kX12_readNumber _ (0 : Int32) (9 : Int32) _) (Nat.le_of_ble_eq_true rfl) mc_yX12_readNumber m_1646 m_1648 m_p59 mem_69 lay_69 rfl rfl rfl rfl (Nat.le_of_ble_eq_true rfl) dX12_readSomebody_127 (fun y_6 s_6 => ?_)
  refine zr_iast (pc := 130) hC mem_73 lay_73 dX12_readSomebody_130 ?_
  refine zr_iconst (pc := 131) (v := (0 : Int32)) hC dX12_readSomebody_131 ic_0 ?_
  refine zr_istore_n (pc := 132) (i := 3) (ls' := [(3, _), (0, _), (2, _)]) hC dX12_readSomebody_132 rfl (nlt hN (Nat.le_of_ble_eq_true rfl)) rfl ?_
  refine zr_sub (ls' := [(0, _), (2, _), (3, _)]) [1, 2, 0] rfl ?_
  exact tX12_readSomebody_L133 v2 X hC hR hN FU (0 : Int32) _
def fX12_readSomebody_J95 (v1 : Int32) (v2 : Int32) (s : St) : Option (Int32 × St) :=
  if v1 = (2 : Int32) then
    (fX12_readSomebody_J110 v2 (1 : Int32) v2 s)
  else
    (fX12_readSomebody_J110 v2 (0 : Int32) v2 s)
set_option maxRecDepth 100000 in
set_option maxHeartbeats 4000000 in
theorem tX12_readSomebody_J95 (v1 : Int32) (v2 : Int32) (X : KX) (hC : Ctx X RX12 cX12_readSomebody FULL 9 0) (hR : RC X none) (hN : X_nL X = 4) (s : St) : Zr X (QFN X none) 0 s 95 [(0, .ref (X_ad X 69)), (1, .int v1), (2, .int v2)] [] (fX12_readSomebody_J95 v1 v2 s) := by
  rw [fX12_readSomebody_J95]
  refine zr_aload_n (pc := 95) (i := 0) 0 hC dX12_readSomebody_95 rfl rfl ?_
  refine zr_getR (pc := 96) (j := 7) (k1 := 76) hC mem_69 lay_69 rfl rfl (Nat.le_of_ble_eq_true rfl) iX12 m_1402 dX12_readSomebody_96 ?_
  refine zr_iload_n (pc := 99) (i := 2) 2 hC dX12_readSomebody_99 rfl rfl ?_
  refine zr_iload_n (pc := 100) (i := 1) 1 hC dX12_readSomebody_100 rfl rfl ?_
  refine zr_iconst (pc := 101) (v := (2 : Int32)) hC dX12_readSomebody_101 ic_2 ?_
  refine zr_icmp_ne (pc := 102) (tgt := 109) hC dX12_readSomebody_102 (by decide) (fun c_ => ?_) (fun c_ => ?_)
  · refine zr_iconst (pc := 105) (v := (1 : Int32)) hC dX12_readSomebody_105 ic_1 ?_
    refine zr_goto (pc := 106) (tgt := 110) hC dX12_readSomebody_106 (by decide) ?_
    refine zr_sub (ls' := [(0, _), (2, _)]) [0, 2] rfl ?_
    exact tX12_readSomebody_J110 v2 (1 : Int32) v2 X hC hR hN  _
  · refine zr_iconst (pc := 109) (v := (0 : Int32)) hC dX12_readSomebody_109 ic_0 ?_
    refine zr_sub (ls' := [(0, _), (2, _)]) [0, 2] rfl ?_
    exact tX12_readSomebody_J110 v2 (0 : Int32) v2 X hC hR hN  _
def fX12_readSomebody_J55 (v1 : Int32) (v2 : Int32) (q0 : Int32) (q1 : Int32) (s : St) : Option (Int32 × St) :=
  if inA q1 24 then
    (let s_2 := wr s 74 q1.toNatClampNeg q0;
    if inA v2 24 then
    (let s_3 := wr s_2 75 v2.toNatClampNeg (-1 : Int32);
    if v1 = (1 : Int32) then
    (if inA v2 24 then
    (bd (fX12_otherNow (s_3 74 v2.toNatClampNeg) s_3) (fun y_11 s_11 =>
    if inA v2 24 then
    (let s_12 := wr s_11 75 v2.toNatClampNeg y_11;
    if (s_12 69 26) = 0 then
    (bd (fX12_stepOn s_12) (fun y_13 s_13 =>
    fX12_readSomebody_J95 v1 v2 s_13))
  else
    (fX12_readSomebody_J95 v1 v2 s_12)) else none)) else none)
  else
    (fX12_readSomebody_J95 v1 v2 s_3)) else none) else none
set_option maxRecDepth 100000 in
set_option maxHeartbeats 4000000 in
theorem tX12_readSomebody_J55 (v1 : Int32) (v2 : Int32) (q0 : Int32) (q1 : Int32) (X : KX) (hC : Ctx X RX12 cX12_readSomebody FULL 9 0) (hR : RC X none) (hN : X_nL X = 4) (s : St) : Zr X (QFN X none) 0 s 55 [(0, .ref (X_ad X 69)), (1, .int v1), (2, .int v2)] [.int q0, .int q1, .ref (X_ad X 74)] (fX12_readSomebody_J55 v1 v2 q0 q1 s) := by
  rw [fX12_readSomebody_J55]
  refine zr_iast (pc := 55) hC mem_74 lay_74 dX12_readSomebody_55 ?_
  refine zr_aload_n (pc := 56) (i := 0) 0 hC dX12_readSomebody_56 rfl rfl ?_
  refine zr_getR (pc := 57) (j := 6) (k1 := 75) hC mem_69 lay_69 rfl rfl (Nat.le_of_ble_eq_true rfl) iX12 m_1401 dX12_readSomebody_57 ?_
  refine zr_iload_n (pc := 60) (i := 2) 2 hC dX12_readSomebody_60 rfl rfl ?_
  refine zr_iconst (pc := 61) (v := (-1 : Int32)) hC dX12_readSomebody_61 ic_m1 ?_
  refine zr_iast (pc := 62) hC mem_75 lay_75 dX12_readSomebody_62 ?_
  refine zr_iload_n (pc := 63) (i := 1) 1 hC dX12_readSomebody_63 rfl rfl ?_
  refine zr_iconst (pc := 64) (v := (1 : Int32)) hC dX12_readSomebody_64 ic_1 ?_
  refine zr_icmp_ne (pc := 65) (tgt := 95) hC dX12_readSomebody_65 (by decide) (fun c_ => ?_) (fun c_ => ?_)
  · refine zr_aload_n (pc := 68) (i := 0) 0 hC dX12_readSomebody_68 rfl rfl ?_
    refine zr_getR (pc := 69) (j := 6) (k1 := 75) hC mem_69 lay_69 rfl rfl (Nat.le_of_ble_eq_true rfl) iX12 m_1401 dX12_readSomebody_69 ?_
    refine zr_iload_n (pc := 72) (i := 2) 2 hC dX12_readSomebody_72 rfl rfl ?_
    refine zr_aload_n (pc := 73) (i := 0) 0 hC dX12_readSomebody_73 rfl rfl ?_
    refine zr_aload_n (pc := 74) (i := 0) 0 hC dX12_readSomebody_74 rfl rfl ?_
    refine zr_getR (pc := 75) (j := 5) (k1 := 74) hC mem_69 lay_69 rfl rfl (Nat.le_of_ble_eq_true rfl) iX12 m_1400 dX12_readSomebody_75 ?_
    refine zr_iload_n (pc := 78) (i := 2) 2 hC dX12_readSomebody_78 rfl rfl ?_
    refine zr_iald (pc := 79) hC mem_74 lay_74 dX12_readSomebody_79 ?_
    refine zr_callV (pc := 80) (As := fun ad => [.int ((wr (wr s 74 q1.toNatClampNeg q0) 75 v2.toNatClampNeg (-1 : Int32)) 74 v2.toNatClampNeg)]) (st1 := [.int v2, .ref (X_ad X 75)]) hC (Nat.le_of_ble_eq_true rfl) (kX12_otherNow _ ((wr (wr s 74 q1.toNatClampNeg q0) 75 v2.toNatClampNeg (-1 : Int32)) 74 v2.toNatClampNeg) _) (Nat.le_of_ble_eq_true rfl) mc_yX12_otherNow m_1709 m_1711 m_p74 mem_69 lay_69 rfl rfl rfl rfl (Nat.le_of_ble_eq_true rfl) dX12_readSomebody_80 (fun y_11 s_11 => ?_)
    refine zr_iast (pc := 83) hC mem_75 lay_75 dX12_readSomebody_83 ?_
    refine zr_aload_n (pc := 84) (i := 0) 0 hC dX12_readSomebody_84 rfl rfl ?_
    refine zr_getI (pc := 85) (j := 26) hC mem_69 lay_69 rfl rfl (Nat.le_of_ble_eq_true rfl) iX12 m_1421 dX12_readSomebody_85 ?_
    refine zr_if_ne (pc := 88) (tgt := 95) hC dX12_readSomebody_88 (by decide) (fun c_ => ?_) (fun c_ => ?_)
    · refine zr_aload_n (pc := 91) (i := 0) 0 hC dX12_readSomebody_91 rfl rfl ?_
      refine zr_callVv (pc := 92) (As := fun ad => []) (st1 := []) hC (Nat.le_of_ble_eq_true rfl) (kX12_stepOn _  _) (Nat.le_of_ble_eq_true rfl) mc_yX12_stepOn m_1610 m_1612 m_p54 mem_69 lay_69 rfl rfl rfl rfl (Nat.le_of_ble_eq_true rfl) dX12_readSomebody_92 (fun y_13 s_13 => ?_)
      exact tX12_readSomebody_J95 v1 v2 X hC hR hN  _
    · exact tX12_readSomebody_J95 v1 v2 X hC hR hN  _
  · exact tX12_readSomebody_J95 v1 v2 X hC hR hN  _
def fX12_readSomebody_J16 (v1 : Int32) (s : St) : Option (Int32 × St) :=
  if (s 69 26) = 0 then
    (bd (fX12_stepOn s) (fun y_1 s_1 =>
    if inA (5 : Int32) 10 then
    (if v1 ≤ 0 then
    (fX12_readSomebody_J55 v1 ((12 : Int32) + (s_1 71 (5 : Int32).toNatClampNeg)) (-1 : Int32) ((12 : Int32) + (s_1 71 (5 : Int32).toNatClampNeg)) s_1)
  else
    (bd (fX12_readPerson s_1) (fun y_14 s_14 =>
    fX12_readSomebody_J55 v1 ((12 : Int32) + (s_1 71 (5 : Int32).toNatClampNeg)) y_14 ((12 : Int32) + (s_1 71 (5 : Int32).toNatClampNeg)) s_14))) else none))
  else
    (some (0, s))
set_option maxRecDepth 100000 in
set_option maxHeartbeats 4000000 in
theorem tX12_readSomebody_J16 (v1 : Int32) (X : KX) (hC : Ctx X RX12 cX12_readSomebody FULL 9 0) (hR : RC X none) (hN : X_nL X = 4) (s : St) : Zr X (QFN X none) 0 s 16 [(0, .ref (X_ad X 69)), (1, .int v1)] [] (fX12_readSomebody_J16 v1 s) := by
  rw [fX12_readSomebody_J16]
  refine zr_aload_n (pc := 16) (i := 0) 0 hC dX12_readSomebody_16 rfl rfl ?_
  refine zr_getI (pc := 17) (j := 26) hC mem_69 lay_69 rfl rfl (Nat.le_of_ble_eq_true rfl) iX12 m_1421 dX12_readSomebody_17 ?_
  refine zr_if_eq (pc := 20) (tgt := 24) hC dX12_readSomebody_20 (by decide) (fun c_ => ?_) (fun c_ => ?_)
  · refine zr_aload_n (pc := 24) (i := 0) 0 hC dX12_readSomebody_24 rfl rfl ?_
    refine zr_callVv (pc := 25) (As := fun ad => []) (st1 := []) hC (Nat.le_of_ble_eq_true rfl) (kX12_stepOn _  _) (Nat.le_of_ble_eq_true rfl) mc_yX12_stepOn m_1610 m_1612 m_p54 mem_69 lay_69 rfl rfl rfl rfl (Nat.le_of_ble_eq_true rfl) dX12_readSomebody_25 (fun y_1 s_1 => ?_)
    refine zr_bipush (pc := 28) (v := (12 : Int32)) hC dX12_readSomebody_28 bi_12 ?_
    refine zr_aload_n (pc := 30) (i := 0) 0 hC dX12_readSomebody_30 rfl rfl ?_
    refine zr_getR (pc := 31) (j := 2) (k1 := 71) hC mem_69 lay_69 rfl rfl (Nat.le_of_ble_eq_true rfl) iX12 m_1397 dX12_readSomebody_31 ?_
    refine zr_iconst (pc := 34) (v := (5 : Int32)) hC dX12_readSomebody_34 ic_5 ?_
    refine zr_iald (pc := 35) hC mem_71 lay_71 dX12_readSomebody_35 ?_
    refine zr_iadd (pc := 36) hC dX12_readSomebody_36 ?_
    refine zr_istore_n (pc := 37) (i := 2) (ls' := [(2, _), (0, _), (1, _)]) hC dX12_readSomebody_37 rfl (nlt hN (Nat.le_of_ble_eq_true rfl)) rfl ?_
    refine zr_aload_n (pc := 38) (i := 0) 1 hC dX12_readSomebody_38 rfl rfl ?_
    refine zr_getR (pc := 39) (j := 5) (k1 := 74) hC mem_69 lay_69 rfl rfl (Nat.le_of_ble_eq_true rfl) iX12 m_1400 dX12_readSomebody_39 ?_
    refine zr_iload_n (pc := 42) (i := 2) 0 hC dX12_readSomebody_42 rfl rfl ?_
    refine zr_iload_n (pc := 43) (i := 1) 2 hC dX12_readSomebody_43 rfl rfl ?_
    refine zr_if_le (pc := 44) (tgt := 54) hC dX12_readSomebody_44 (by decide) (fun c_ => ?_) (fun c_ => ?_)
    · refine zr_iconst (pc := 54) (v := (-1 : Int32)) hC dX12_readSomebody_54 ic_m1 ?_
      refine zr_sub (ls' := [(0, _), (1, _), (2, _)]) [1, 2, 0] rfl ?_
      exact tX12_readSomebody_J55 v1 ((12 : Int32) + (s_1 71 (5 : Int32).toNatClampNeg)) (-1 : Int32) ((12 : Int32) + (s_1 71 (5 : Int32).toNatClampNeg)) X hC hR hN  _
    · refine zr_aload_n (pc := 47) (i := 0) 1 hC dX12_readSomebody_47 rfl rfl ?_
      refine zr_callV (pc := 48) (As := fun ad => []) (st1 := [.int ((12 : Int32) + (s_1 71 (5 : Int32).toNatClampNeg)), .ref (X_ad X 74)]) hC (Nat.le_of_ble_eq_true rfl) (kX12_readPerson _  _) (Nat.le_of_ble_eq_true rfl) mc_yX12_readPerson m_1701 m_1703 m_p72 mem_69 lay_69 rfl rfl rfl rfl (Nat.le_of_ble_eq_true rfl) dX12_readSomebody_48 (fun y_14 s_14 => ?_)
      refine zr_goto (pc := 51) (tgt := 55) hC dX12_readSomebody_51 (by decide) ?_
      refine zr_sub (ls' := [(0, _), (1, _), (2, _)]) [1, 2, 0] rfl ?_
      exact tX12_readSomebody_J55 v1 ((12 : Int32) + (s_1 71 (5 : Int32).toNatClampNeg)) y_14 ((12 : Int32) + (s_1 71 (5 : Int32).toNatClampNeg)) X hC hR hN  _
  · exact zr_vret (pc := 23) hC hR dX12_readSomebody_23
def fX12_readSomebody (a1 : Int32) (s : St) : Option (Int32 × St) :=
  if inA (5 : Int32) 10 then
    (if (s 71 (5 : Int32).toNatClampNeg) = (12 : Int32) then
    (bd (fX12_wrong (2 : Int32) s) (fun y_15 s_15 =>
    fX12_readSomebody_J16 a1 s_15))
  else
    (fX12_readSomebody_J16 a1 s)) else none
set_option maxRecDepth 100000 in
set_option maxHeartbeats 4000000 in
theorem kX12_readSomebody (l : Launch)  (a1 : Int32) (s : St) : CN l yX12_readSomebody cX12_readSomebody 4 none 9 FULL (fun ad => [.ref (ad 69), .int a1]) s (fX12_readSomebody a1 s) := by
  refine cn_of (by decide) (fun _ => (Nat.le_of_ble_eq_true rfl)) (fun X hC hR hl hN => ?_)
  subst hl
  show Zr X (QFN X none) 0 s 0 [(0, .ref (X_ad X 69)), (1, .int a1)] [] _
  rw [fX12_readSomebody]
  refine zr_aload_n (pc := 0) (i := 0) 0 hC dX12_readSomebody_0 rfl rfl ?_
  refine zr_getR (pc := 1) (j := 2) (k1 := 71) hC mem_69 lay_69 rfl rfl (Nat.le_of_ble_eq_true rfl) iX12 m_1397 dX12_readSomebody_1 ?_
  refine zr_iconst (pc := 4) (v := (5 : Int32)) hC dX12_readSomebody_4 ic_5 ?_
  refine zr_iald (pc := 5) hC mem_71 lay_71 dX12_readSomebody_5 ?_
  refine zr_bipush (pc := 6) (v := (12 : Int32)) hC dX12_readSomebody_6 bi_12 ?_
  refine zr_icmp_ne (pc := 8) (tgt := 16) hC dX12_readSomebody_8 (by decide) (fun c_ => ?_) (fun c_ => ?_)
  · refine zr_aload_n (pc := 11) (i := 0) 0 hC dX12_readSomebody_11 rfl rfl ?_
    refine zr_iconst (pc := 12) (v := (2 : Int32)) hC dX12_readSomebody_12 ic_2 ?_
    refine zr_callVv (pc := 13) (As := fun ad => [.int (2 : Int32)]) (st1 := []) hC (Nat.le_of_ble_eq_true rfl) (kX12_wrong _ (2 : Int32) _) (Nat.le_of_ble_eq_true rfl) mc_yX12_wrong m_1642 m_1644 m_p58 mem_69 lay_69 rfl rfl rfl rfl (Nat.le_of_ble_eq_true rfl) dX12_readSomebody_13 (fun y_15 s_15 => ?_)
    exact tX12_readSomebody_J16 a1 X hC hR hN  _
  · exact tX12_readSomebody_J16 a1 X hC hR hN  _
def fX12_readWed_J78 (v1 : Int32) (v2 : Int32) (s : St) : Option (Int32 × St) :=
  if (s 69 26) = 0 then
    (bd (fX12_stepOn s) (fun y_4 s_4 =>
    if inA ((12 : Int32) + v1) 24 then
    (let s_5 := wr s_4 77 ((12 : Int32) + v1).toNatClampNeg v2;
    if inA ((12 : Int32) + v2) 24 then
    (let s_6 := wr s_5 77 ((12 : Int32) + v2).toNatClampNeg v1;
    some (0, s_6)) else none) else none))
  else
    (some (0, s))
set_option maxRecDepth 100000 in
set_option maxHeartbeats 4000000 in
theorem tX12_readWed_J78 (v1 : Int32) (v2 : Int32) (X : KX) (hC : Ctx X RX12 cX12_readWed FULL 8 0) (hR : RC X none) (hN : X_nL X = 3) (s : St) : Zr X (QFN X none) 0 s 78 [(0, .ref (X_ad X 69)), (1, .int v1), (2, .int v2)] [] (fX12_readWed_J78 v1 v2 s) := by
  rw [fX12_readWed_J78]
  refine zr_aload_n (pc := 78) (i := 0) 0 hC dX12_readWed_78 rfl rfl ?_
  refine zr_getI (pc := 79) (j := 26) hC mem_69 lay_69 rfl rfl (Nat.le_of_ble_eq_true rfl) iX12 m_1421 dX12_readWed_79 ?_
  refine zr_if_eq (pc := 82) (tgt := 86) hC dX12_readWed_82 (by decide) (fun c_ => ?_) (fun c_ => ?_)
  · refine zr_aload_n (pc := 86) (i := 0) 0 hC dX12_readWed_86 rfl rfl ?_
    refine zr_callVv (pc := 87) (As := fun ad => []) (st1 := []) hC (Nat.le_of_ble_eq_true rfl) (kX12_stepOn _  _) (Nat.le_of_ble_eq_true rfl) mc_yX12_stepOn m_1610 m_1612 m_p54 mem_69 lay_69 rfl rfl rfl rfl (Nat.le_of_ble_eq_true rfl) dX12_readWed_87 (fun y_4 s_4 => ?_)
    refine zr_aload_n (pc := 90) (i := 0) 0 hC dX12_readWed_90 rfl rfl ?_
    refine zr_getR (pc := 91) (j := 8) (k1 := 77) hC mem_69 lay_69 rfl rfl (Nat.le_of_ble_eq_true rfl) iX12 m_1403 dX12_readWed_91 ?_
    refine zr_bipush (pc := 94) (v := (12 : Int32)) hC dX12_readWed_94 bi_12 ?_
    refine zr_iload_n (pc := 96) (i := 1) 1 hC dX12_readWed_96 rfl rfl ?_
    refine zr_iadd (pc := 97) hC dX12_readWed_97 ?_
    refine zr_iload_n (pc := 98) (i := 2) 2 hC dX12_readWed_98 rfl rfl ?_
    refine zr_iast (pc := 99) hC mem_77 lay_77 dX12_readWed_99 ?_
    refine zr_aload_n (pc := 100) (i := 0) 0 hC dX12_readWed_100 rfl rfl ?_
    refine zr_getR (pc := 101) (j := 8) (k1 := 77) hC mem_69 lay_69 rfl rfl (Nat.le_of_ble_eq_true rfl) iX12 m_1403 dX12_readWed_101 ?_
    refine zr_bipush (pc := 104) (v := (12 : Int32)) hC dX12_readWed_104 bi_12 ?_
    refine zr_iload_n (pc := 106) (i := 2) 2 hC dX12_readWed_106 rfl rfl ?_
    refine zr_iadd (pc := 107) hC dX12_readWed_107 ?_
    refine zr_iload_n (pc := 108) (i := 1) 1 hC dX12_readWed_108 rfl rfl ?_
    refine zr_iast (pc := 109) hC mem_77 lay_77 dX12_readWed_109 ?_
    exact zr_vret (pc := 110) hC hR dX12_readWed_110
  · exact zr_vret (pc := 85) hC hR dX12_readWed_85
def fX12_readWed_J46 (v1 : Int32) (s : St) : Option (Int32 × St) :=
  bd (fX12_otherNow v1 s) (fun y_3 s_3 =>
    if (s_3 69 26) = 0 then
    (if inA ((12 : Int32) + y_3) 24 then
    (if (s_3 77 ((12 : Int32) + y_3).toNatClampNeg) = (-1 : Int32) then
    (fX12_readWed_J78 v1 y_3 s_3)
  else
    (bd (fX12_wrong (6 : Int32) s_3) (fun y_7 s_7 =>
    fX12_readWed_J78 v1 y_3 s_7))) else none)
  else
    (fX12_readWed_J78 v1 y_3 s_3))
set_option maxRecDepth 100000 in
set_option maxHeartbeats 4000000 in
theorem tX12_readWed_J46 (v1 : Int32) (X : KX) (hC : Ctx X RX12 cX12_readWed FULL 8 0) (hR : RC X none) (hN : X_nL X = 3) (s : St) : Zr X (QFN X none) 0 s 46 [(0, .ref (X_ad X 69)), (1, .int v1)] [] (fX12_readWed_J46 v1 s) := by
  rw [fX12_readWed_J46]
  refine zr_aload_n (pc := 46) (i := 0) 0 hC dX12_readWed_46 rfl rfl ?_
  refine zr_iload_n (pc := 47) (i := 1) 1 hC dX12_readWed_47 rfl rfl ?_
  refine zr_callV (pc := 48) (As := fun ad => [.int v1]) (st1 := []) hC (Nat.le_of_ble_eq_true rfl) (kX12_otherNow _ v1 _) (Nat.le_of_ble_eq_true rfl) mc_yX12_otherNow m_1709 m_1711 m_p74 mem_69 lay_69 rfl rfl rfl rfl (Nat.le_of_ble_eq_true rfl) dX12_readWed_48 (fun y_3 s_3 => ?_)
  refine zr_istore_n (pc := 51) (i := 2) (ls' := [(2, _), (0, _), (1, _)]) hC dX12_readWed_51 rfl (nlt hN (Nat.le_of_ble_eq_true rfl)) rfl ?_
  refine zr_aload_n (pc := 52) (i := 0) 1 hC dX12_readWed_52 rfl rfl ?_
  refine zr_getI (pc := 53) (j := 26) hC mem_69 lay_69 rfl rfl (Nat.le_of_ble_eq_true rfl) iX12 m_1421 dX12_readWed_53 ?_
  refine zr_if_ne (pc := 56) (tgt := 78) hC dX12_readWed_56 (by decide) (fun c_ => ?_) (fun c_ => ?_)
  · refine zr_aload_n (pc := 59) (i := 0) 1 hC dX12_readWed_59 rfl rfl ?_
    refine zr_getR (pc := 60) (j := 8) (k1 := 77) hC mem_69 lay_69 rfl rfl (Nat.le_of_ble_eq_true rfl) iX12 m_1403 dX12_readWed_60 ?_
    refine zr_bipush (pc := 63) (v := (12 : Int32)) hC dX12_readWed_63 bi_12 ?_
    refine zr_iload_n (pc := 65) (i := 2) 0 hC dX12_readWed_65 rfl rfl ?_
    refine zr_iadd (pc := 66) hC dX12_readWed_66 ?_
    refine zr_iald (pc := 67) hC mem_77 lay_77 dX12_readWed_67 ?_
    refine zr_iconst (pc := 68) (v := (-1 : Int32)) hC dX12_readWed_68 ic_m1 ?_
    refine zr_icmp_eq (pc := 69) (tgt := 78) hC dX12_readWed_69 (by decide) (fun c_ => ?_) (fun c_ => ?_)
    · refine zr_sub (ls' := [(0, _), (1, _), (2, _)]) [1, 2, 0] rfl ?_
      exact tX12_readWed_J78 v1 y_3 X hC hR hN  _
    · refine zr_aload_n (pc := 72) (i := 0) 1 hC dX12_readWed_72 rfl rfl ?_
      refine zr_bipush (pc := 73) (v := (6 : Int32)) hC dX12_readWed_73 bi_6 ?_
      refine zr_callVv (pc := 75) (As := fun ad => [.int (6 : Int32)]) (st1 := []) hC (Nat.le_of_ble_eq_true rfl) (kX12_wrong _ (6 : Int32) _) (Nat.le_of_ble_eq_true rfl) mc_yX12_wrong m_1642 m_1644 m_p58 mem_69 lay_69 rfl rfl rfl rfl (Nat.le_of_ble_eq_true rfl) dX12_readWed_75 (fun y_7 s_7 => ?_)
      refine zr_sub (ls' := [(0, _), (1, _), (2, _)]) [1, 2, 0] rfl ?_
      exact tX12_readWed_J78 v1 y_3 X hC hR hN  _
  · refine zr_sub (ls' := [(0, _), (1, _), (2, _)]) [1, 2, 0] rfl ?_
    exact tX12_readWed_J78 v1 y_3 X hC hR hN  _
def fX12_readWed_J35 (v1 : Int32) (s : St) : Option (Int32 × St) :=
  if (s 69 26) = 0 then
    (bd (fX12_stepOn s) (fun y_8 s_8 =>
    fX12_readWed_J46 v1 s_8))
  else
    (fX12_readWed_J46 v1 s)
set_option maxRecDepth 100000 in
set_option maxHeartbeats 4000000 in
theorem tX12_readWed_J35 (v1 : Int32) (X : KX) (hC : Ctx X RX12 cX12_readWed FULL 8 0) (hR : RC X none) (hN : X_nL X = 3) (s : St) : Zr X (QFN X none) 0 s 35 [(0, .ref (X_ad X 69)), (1, .int v1)] [] (fX12_readWed_J35 v1 s) := by
  rw [fX12_readWed_J35]
  refine zr_aload_n (pc := 35) (i := 0) 0 hC dX12_readWed_35 rfl rfl ?_
  refine zr_getI (pc := 36) (j := 26) hC mem_69 lay_69 rfl rfl (Nat.le_of_ble_eq_true rfl) iX12 m_1421 dX12_readWed_36 ?_
  refine zr_if_ne (pc := 39) (tgt := 46) hC dX12_readWed_39 (by decide) (fun c_ => ?_) (fun c_ => ?_)
  · refine zr_aload_n (pc := 42) (i := 0) 0 hC dX12_readWed_42 rfl rfl ?_
    refine zr_callVv (pc := 43) (As := fun ad => []) (st1 := []) hC (Nat.le_of_ble_eq_true rfl) (kX12_stepOn _  _) (Nat.le_of_ble_eq_true rfl) mc_yX12_stepOn m_1610 m_1612 m_p54 mem_69 lay_69 rfl rfl rfl rfl (Nat.le_of_ble_eq_true rfl) dX12_readWed_43 (fun y_8 s_8 => ?_)
    exact tX12_readWed_J46 v1 X hC hR hN  _
  · exact tX12_readWed_J46 v1 X hC hR hN  _
def fX12_readWed (s : St) : Option (Int32 × St) :=
  bd (fX12_stepOn s) (fun y_1 s_1 =>
    bd (fX12_personNow s_1) (fun y_2 s_2 =>
    if (s_2 69 26) = 0 then
    (if inA ((12 : Int32) + y_2) 24 then
    (if (s_2 77 ((12 : Int32) + y_2).toNatClampNeg) = (-1 : Int32) then
    (fX12_readWed_J35 y_2 s_2)
  else
    (bd (fX12_wrong (6 : Int32) s_2) (fun y_9 s_9 =>
    fX12_readWed_J35 y_2 s_9))) else none)
  else
    (fX12_readWed_J35 y_2 s_2)))
set_option maxRecDepth 100000 in
set_option maxHeartbeats 4000000 in
theorem kX12_readWed (l : Launch)  (s : St) : CN l yX12_readWed cX12_readWed 3 none 8 FULL (fun ad => [.ref (ad 69)]) s (fX12_readWed s) := by
  refine cn_of (by decide) (fun _ => (Nat.le_of_ble_eq_true rfl)) (fun X hC hR hl hN => ?_)
  subst hl
  show Zr X (QFN X none) 0 s 0 [(0, .ref (X_ad X 69))] [] _
  rw [fX12_readWed]
  refine zr_aload_n (pc := 0) (i := 0) 0 hC dX12_readWed_0 rfl rfl ?_
  refine zr_callVv (pc := 1) (As := fun ad => []) (st1 := []) hC (Nat.le_of_ble_eq_true rfl) (kX12_stepOn _  _) (Nat.le_of_ble_eq_true rfl) mc_yX12_stepOn m_1610 m_1612 m_p54 mem_69 lay_69 rfl rfl rfl rfl (Nat.le_of_ble_eq_true rfl) dX12_readWed_1 (fun y_1 s_1 => ?_)
  refine zr_aload_n (pc := 4) (i := 0) 0 hC dX12_readWed_4 rfl rfl ?_
  refine zr_callV (pc := 5) (As := fun ad => []) (st1 := []) hC (Nat.le_of_ble_eq_true rfl) (kX12_personNow _  _) (Nat.le_of_ble_eq_true rfl) mc_yX12_personNow m_1705 m_1707 m_p73 mem_69 lay_69 rfl rfl rfl rfl (Nat.le_of_ble_eq_true rfl) dX12_readWed_5 (fun y_2 s_2 => ?_)
  refine zr_istore_n (pc := 8) (i := 1) (ls' := [(1, _), (0, _)]) hC dX12_readWed_8 rfl (nlt hN (Nat.le_of_ble_eq_true rfl)) rfl ?_
  refine zr_aload_n (pc := 9) (i := 0) 1 hC dX12_readWed_9 rfl rfl ?_
  refine zr_getI (pc := 10) (j := 26) hC mem_69 lay_69 rfl rfl (Nat.le_of_ble_eq_true rfl) iX12 m_1421 dX12_readWed_10 ?_
  refine zr_if_ne (pc := 13) (tgt := 35) hC dX12_readWed_13 (by decide) (fun c_ => ?_) (fun c_ => ?_)
  · refine zr_aload_n (pc := 16) (i := 0) 1 hC dX12_readWed_16 rfl rfl ?_
    refine zr_getR (pc := 17) (j := 8) (k1 := 77) hC mem_69 lay_69 rfl rfl (Nat.le_of_ble_eq_true rfl) iX12 m_1403 dX12_readWed_17 ?_
    refine zr_bipush (pc := 20) (v := (12 : Int32)) hC dX12_readWed_20 bi_12 ?_
    refine zr_iload_n (pc := 22) (i := 1) 0 hC dX12_readWed_22 rfl rfl ?_
    refine zr_iadd (pc := 23) hC dX12_readWed_23 ?_
    refine zr_iald (pc := 24) hC mem_77 lay_77 dX12_readWed_24 ?_
    refine zr_iconst (pc := 25) (v := (-1 : Int32)) hC dX12_readWed_25 ic_m1 ?_
    refine zr_icmp_eq (pc := 26) (tgt := 35) hC dX12_readWed_26 (by decide) (fun c_ => ?_) (fun c_ => ?_)
    · refine zr_sub (ls' := [(0, _), (1, _)]) [1, 0] rfl ?_
      exact tX12_readWed_J35 y_2 X hC hR hN  _
    · refine zr_aload_n (pc := 29) (i := 0) 1 hC dX12_readWed_29 rfl rfl ?_
      refine zr_bipush (pc := 30) (v := (6 : Int32)) hC dX12_readWed_30 bi_6 ?_
      refine zr_callVv (pc := 32) (As := fun ad => [.int (6 : Int32)]) (st1 := []) hC (Nat.le_of_ble_eq_true rfl) (kX12_wrong _ (6 : Int32) _) (Nat.le_of_ble_eq_true rfl) mc_yX12_wrong m_1642 m_1644 m_p58 mem_69 lay_69 rfl rfl rfl rfl (Nat.le_of_ble_eq_true rfl) dX12_readWed_32 (fun y_9 s_9 => ?_)
      refine zr_sub (ls' := [(0, _), (1, _)]) [1, 0] rfl ?_
      exact tX12_readWed_J35 y_2 X hC hR hN  _
  · refine zr_sub (ls' := [(0, _), (1, _)]) [1, 0] rfl ?_
    exact tX12_readWed_J35 y_2 X hC hR hN  _
def fX12_readWill_L69 (k122 : St → Option (Int32 × St)) (c1 : Int32) : Nat → Int32 → St → Option (Int32 × St)
  | 0, _, _ => none
  | n + 1, v2, s =>
    if c1 ≤ v2 then
    (k122 s)
  else
    (if (s 69 26) = 0 then
    (if inA v2 24 then
    (if inA c1 24 then
    (if (s 78 v2.toNatClampNeg) = (s 78 c1.toNatClampNeg) then
    (if inA v2 24 then
    (if inA c1 24 then
    (if (s 79 v2.toNatClampNeg) = (s 79 c1.toNatClampNeg) then
    (bd (fX12_wrong (4 : Int32) s) (fun y_6 s_6 =>
    fX12_readWill_L69 k122 c1 n (v2 + (1 : Int32)) s_6))
  else
    (fX12_readWill_L69 k122 c1 n (v2 + (1 : Int32)) s)) else none) else none)
  else
    (fX12_readWill_L69 k122 c1 n (v2 + (1 : Int32)) s)) else none) else none)
  else
    (k122 s))
set_option maxRecDepth 100000 in
set_option maxHeartbeats 4000000 in
theorem tX12_readWill_L69 (c1 : Int32) (k122 : St → Option (Int32 × St)) (X : KX) (hC : Ctx X RX12 cX12_readWill FULL 9 0) (hR : RC X none) (hN : X_nL X = 3) (hk122 : ∀ (s : St), Zr X (QFN X none) 0 s 122 [(0, .ref (X_ad X 69)), (1, .int c1)] [] (k122 s)) : ∀ (n : Nat) (v2 : Int32) (s : St), Zr X (QFN X none) 0 s 69 [(0, .ref (X_ad X 69)), (1, .int c1), (2, .int v2)] [] (fX12_readWill_L69 k122 c1 n v2 s) := by
  intro n
  induction n with
  | zero =>
    intro v2 s
    exact zr_none
  | succ n ih =>
    intro v2 s
    rw [fX12_readWill_L69]
    refine zr_iload_n (pc := 69) (i := 2) 2 hC dX12_readWill_69 rfl rfl ?_
    refine zr_iload_n (pc := 70) (i := 1) 1 hC dX12_readWill_70 rfl rfl ?_
    refine zr_icmp_ge (pc := 71) (tgt := 122) hC dX12_readWill_71 (by decide) (fun c_ => ?_) (fun c_ => ?_)
    · refine zr_sub (ls' := [(0, _), (1, _)]) [0, 1] rfl ?_
      exact hk122 s
    · refine zr_aload_n (pc := 74) (i := 0) 0 hC dX12_readWill_74 rfl rfl ?_
      refine zr_getI (pc := 75) (j := 26) hC mem_69 lay_69 rfl rfl (Nat.le_of_ble_eq_true rfl) iX12 m_1421 dX12_readWill_75 ?_
      refine zr_if_ne (pc := 78) (tgt := 122) hC dX12_readWill_78 (by decide) (fun c_ => ?_) (fun c_ => ?_)
      · refine zr_aload_n (pc := 81) (i := 0) 0 hC dX12_readWill_81 rfl rfl ?_
        refine zr_getR (pc := 82) (j := 9) (k1 := 78) hC mem_69 lay_69 rfl rfl (Nat.le_of_ble_eq_true rfl) iX12 m_1404 dX12_readWill_82 ?_
        refine zr_iload_n (pc := 85) (i := 2) 2 hC dX12_readWill_85 rfl rfl ?_
        refine zr_iald (pc := 86) hC mem_78 lay_78 dX12_readWill_86 ?_
        refine zr_aload_n (pc := 87) (i := 0) 0 hC dX12_readWill_87 rfl rfl ?_
        refine zr_getR (pc := 88) (j := 9) (k1 := 78) hC mem_69 lay_69 rfl rfl (Nat.le_of_ble_eq_true rfl) iX12 m_1404 dX12_readWill_88 ?_
        refine zr_iload_n (pc := 91) (i := 1) 1 hC dX12_readWill_91 rfl rfl ?_
        refine zr_iald (pc := 92) hC mem_78 lay_78 dX12_readWill_92 ?_
        refine zr_icmp_ne (pc := 93) (tgt := 116) hC dX12_readWill_93 (by decide) (fun c_ => ?_) (fun c_ => ?_)
        · refine zr_aload_n (pc := 96) (i := 0) 0 hC dX12_readWill_96 rfl rfl ?_
          refine zr_getR (pc := 97) (j := 10) (k1 := 79) hC mem_69 lay_69 rfl rfl (Nat.le_of_ble_eq_true rfl) iX12 m_1405 dX12_readWill_97 ?_
          refine zr_iload_n (pc := 100) (i := 2) 2 hC dX12_readWill_100 rfl rfl ?_
          refine zr_iald (pc := 101) hC mem_79 lay_79 dX12_readWill_101 ?_
          refine zr_aload_n (pc := 102) (i := 0) 0 hC dX12_readWill_102 rfl rfl ?_
          refine zr_getR (pc := 103) (j := 10) (k1 := 79) hC mem_69 lay_69 rfl rfl (Nat.le_of_ble_eq_true rfl) iX12 m_1405 dX12_readWill_103 ?_
          refine zr_iload_n (pc := 106) (i := 1) 1 hC dX12_readWill_106 rfl rfl ?_
          refine zr_iald (pc := 107) hC mem_79 lay_79 dX12_readWill_107 ?_
          refine zr_icmp_ne (pc := 108) (tgt := 116) hC dX12_readWill_108 (by decide) (fun c_ => ?_) (fun c_ => ?_)
          · refine zr_aload_n (pc := 111) (i := 0) 0 hC dX12_readWill_111 rfl rfl ?_
            refine zr_iconst (pc := 112) (v := (4 : Int32)) hC dX12_readWill_112 ic_4 ?_
            refine zr_callVv (pc := 113) (As := fun ad => [.int (4 : Int32)]) (st1 := []) hC (Nat.le_of_ble_eq_true rfl) (kX12_wrong _ (4 : Int32) _) (Nat.le_of_ble_eq_true rfl) mc_yX12_wrong m_1642 m_1644 m_p58 mem_69 lay_69 rfl rfl rfl rfl (Nat.le_of_ble_eq_true rfl) dX12_readWill_113 (fun y_6 s_6 => ?_)
            refine zr_iinc (pc := 116) (q := 2) (ls' := [(2, _), (0, _), (1, _)]) hC dX12_readWill_116 rfl (inc_1 _) (nlt hN (Nat.le_of_ble_eq_true rfl)) rfl ?_
            refine zr_goto (pc := 119) (tgt := 69) hC dX12_readWill_119 (by decide) ?_
            refine zr_sub (ls' := [(0, _), (1, _), (2, _)]) [1, 2, 0] rfl ?_
            exact ih (v2 + (1 : Int32)) s_6
          · refine zr_iinc (pc := 116) (q := 2) (ls' := [(2, _), (0, _), (1, _)]) hC dX12_readWill_116 rfl (inc_1 _) (nlt hN (Nat.le_of_ble_eq_true rfl)) rfl ?_
            refine zr_goto (pc := 119) (tgt := 69) hC dX12_readWill_119 (by decide) ?_
            refine zr_sub (ls' := [(0, _), (1, _), (2, _)]) [1, 2, 0] rfl ?_
            exact ih (v2 + (1 : Int32)) s
        · refine zr_iinc (pc := 116) (q := 2) (ls' := [(2, _), (0, _), (1, _)]) hC dX12_readWill_116 rfl (inc_1 _) (nlt hN (Nat.le_of_ble_eq_true rfl)) rfl ?_
          refine zr_goto (pc := 119) (tgt := 69) hC dX12_readWill_119 (by decide) ?_
          refine zr_sub (ls' := [(0, _), (1, _), (2, _)]) [1, 2, 0] rfl ?_
          exact ih (v2 + (1 : Int32)) s
      · refine zr_sub (ls' := [(0, _), (1, _)]) [0, 1] rfl ?_
        exact hk122 s
def fX12_readWill_J133 (v1 : Int32) (s : St) : Option (Int32 × St) :=
  bd (fX12_readNumber (1 : Int32) (99 : Int32) s) (fun y_8 s_8 =>
    if inA v1 24 then
    (let s_9 := wr s_8 80 v1.toNatClampNeg y_8;
    if inA (6 : Int32) 10 then
    (if inA (6 : Int32) 10 then
    (let s_10 := wr s_9 71 (6 : Int32).toNatClampNeg ((s_9 71 (6 : Int32).toNatClampNeg) + (1 : Int32));
    some (0, s_10)) else none) else none) else none)
set_option maxRecDepth 100000 in
set_option maxHeartbeats 4000000 in
theorem tX12_readWill_J133 (v1 : Int32) (X : KX) (hC : Ctx X RX12 cX12_readWill FULL 9 0) (hR : RC X none) (hN : X_nL X = 3) (s : St) : Zr X (QFN X none) 0 s 133 [(0, .ref (X_ad X 69)), (1, .int v1)] [] (fX12_readWill_J133 v1 s) := by
  rw [fX12_readWill_J133]
  refine zr_aload_n (pc := 133) (i := 0) 0 hC dX12_readWill_133 rfl rfl ?_
  refine zr_getR (pc := 134) (j := 11) (k1 := 80) hC mem_69 lay_69 rfl rfl (Nat.le_of_ble_eq_true rfl) iX12 m_1406 dX12_readWill_134 ?_
  refine zr_iload_n (pc := 137) (i := 1) 1 hC dX12_readWill_137 rfl rfl ?_
  refine zr_aload_n (pc := 138) (i := 0) 0 hC dX12_readWill_138 rfl rfl ?_
  refine zr_iconst (pc := 139) (v := (1 : Int32)) hC dX12_readWill_139 ic_1 ?_
  refine zr_bipush (pc := 140) (v := (99 : Int32)) hC dX12_readWill_140 bi_99 ?_
  refine zr_callV (pc := 142) (As := fun ad => [.int (1 : Int32), .int (99 : Int32)]) (st1 := [.int v1, .ref (X_ad X 80)]) hC (Nat.le_of_ble_eq_true rfl) (kX12_readNumber _ (1 : Int32) (99 : Int32) _) (Nat.le_of_ble_eq_true rfl) mc_yX12_readNumber m_1646 m_1648 m_p59 mem_69 lay_69 rfl rfl rfl rfl (Nat.le_of_ble_eq_true rfl) dX12_readWill_142 (fun y_8 s_8 => ?_)
  refine zr_iast (pc := 145) hC mem_80 lay_80 dX12_readWill_145 ?_
  refine zr_aload_n (pc := 146) (i := 0) 0 hC dX12_readWill_146 rfl rfl ?_
  refine zr_getR (pc := 147) (j := 2) (k1 := 71) hC mem_69 lay_69 rfl rfl (Nat.le_of_ble_eq_true rfl) iX12 m_1397 dX12_readWill_147 ?_
  refine zr_bipush (pc := 150) (v := (6 : Int32)) hC dX12_readWill_150 bi_6 ?_
  refine zr_dup2 (pc := 152) hC dX12_readWill_152 rfl rfl ?_
  refine zr_iald (pc := 153) hC mem_71 lay_71 dX12_readWill_153 ?_
  refine zr_iconst (pc := 154) (v := (1 : Int32)) hC dX12_readWill_154 ic_1 ?_
  refine zr_iadd (pc := 155) hC dX12_readWill_155 ?_
  refine zr_iast (pc := 156) hC mem_71 lay_71 dX12_readWill_156 ?_
  exact zr_vret (pc := 157) hC hR dX12_readWill_157
def fX12_readWill_J122 (v1 : Int32) (s : St) : Option (Int32 × St) :=
  if (s 69 26) = 0 then
    (bd (fX12_stepOn s) (fun y_11 s_11 =>
    fX12_readWill_J133 v1 s_11))
  else
    (fX12_readWill_J133 v1 s)
set_option maxRecDepth 100000 in
set_option maxHeartbeats 4000000 in
theorem tX12_readWill_J122 (v1 : Int32) (X : KX) (hC : Ctx X RX12 cX12_readWill FULL 9 0) (hR : RC X none) (hN : X_nL X = 3) (s : St) : Zr X (QFN X none) 0 s 122 [(0, .ref (X_ad X 69)), (1, .int v1)] [] (fX12_readWill_J122 v1 s) := by
  rw [fX12_readWill_J122]
  refine zr_aload_n (pc := 122) (i := 0) 0 hC dX12_readWill_122 rfl rfl ?_
  refine zr_getI (pc := 123) (j := 26) hC mem_69 lay_69 rfl rfl (Nat.le_of_ble_eq_true rfl) iX12 m_1421 dX12_readWill_123 ?_
  refine zr_if_ne (pc := 126) (tgt := 133) hC dX12_readWill_126 (by decide) (fun c_ => ?_) (fun c_ => ?_)
  · refine zr_aload_n (pc := 129) (i := 0) 0 hC dX12_readWill_129 rfl rfl ?_
    refine zr_callVv (pc := 130) (As := fun ad => []) (st1 := []) hC (Nat.le_of_ble_eq_true rfl) (kX12_stepOn _  _) (Nat.le_of_ble_eq_true rfl) mc_yX12_stepOn m_1610 m_1612 m_p54 mem_69 lay_69 rfl rfl rfl rfl (Nat.le_of_ble_eq_true rfl) dX12_readWill_130 (fun y_11 s_11 => ?_)
    exact tX12_readWill_J133 v1 X hC hR hN  _
  · exact tX12_readWill_J133 v1 X hC hR hN  _
def fX12_readWill_J17 (s : St) : Option (Int32 × St) :=
  if (s 69 26) = 0 then
    (bd (fX12_stepOn s) (fun y_1 s_1 =>
    if inA (6 : Int32) 10 then
    (bd (fX12_readPerson s_1) (fun y_2 s_2 =>
    if inA ((12 : Int32) + (s_1 71 (6 : Int32).toNatClampNeg)) 24 then
    (let s_3 := wr s_2 78 ((12 : Int32) + (s_1 71 (6 : Int32).toNatClampNeg)).toNatClampNeg y_2;
    if inA ((12 : Int32) + (s_1 71 (6 : Int32).toNatClampNeg)) 24 then
    (bd (fX12_otherNow (s_3 78 ((12 : Int32) + (s_1 71 (6 : Int32).toNatClampNeg)).toNatClampNeg) s_3) (fun y_4 s_4 =>
    if inA ((12 : Int32) + (s_1 71 (6 : Int32).toNatClampNeg)) 24 then
    (let s_5 := wr s_4 79 ((12 : Int32) + (s_1 71 (6 : Int32).toNatClampNeg)).toNatClampNeg y_4;
    fX12_readWill_L69 (fun s_7 => fX12_readWill_J122 ((12 : Int32) + (s_1 71 (6 : Int32).toNatClampNeg)) s_7) ((12 : Int32) + (s_1 71 (6 : Int32).toNatClampNeg)) FU (12 : Int32) s_5) else none)) else none) else none)) else none))
  else
    (some (0, s))
set_option maxRecDepth 100000 in
set_option maxHeartbeats 4000000 in
theorem tX12_readWill_J17 (X : KX) (hC : Ctx X RX12 cX12_readWill FULL 9 0) (hR : RC X none) (hN : X_nL X = 3) (s : St) : Zr X (QFN X none) 0 s 17 [(0, .ref (X_ad X 69))] [] (fX12_readWill_J17 s) := by
  rw [fX12_readWill_J17]
  refine zr_aload_n (pc := 17) (i := 0) 0 hC dX12_readWill_17 rfl rfl ?_
  refine zr_getI (pc := 18) (j := 26) hC mem_69 lay_69 rfl rfl (Nat.le_of_ble_eq_true rfl) iX12 m_1421 dX12_readWill_18 ?_
  refine zr_if_eq (pc := 21) (tgt := 25) hC dX12_readWill_21 (by decide) (fun c_ => ?_) (fun c_ => ?_)
  · refine zr_aload_n (pc := 25) (i := 0) 0 hC dX12_readWill_25 rfl rfl ?_
    refine zr_callVv (pc := 26) (As := fun ad => []) (st1 := []) hC (Nat.le_of_ble_eq_true rfl) (kX12_stepOn _  _) (Nat.le_of_ble_eq_true rfl) mc_yX12_stepOn m_1610 m_1612 m_p54 mem_69 lay_69 rfl rfl rfl rfl (Nat.le_of_ble_eq_true rfl) dX12_readWill_26 (fun y_1 s_1 => ?_)
    refine zr_bipush (pc := 29) (v := (12 : Int32)) hC dX12_readWill_29 bi_12 ?_
    refine zr_aload_n (pc := 31) (i := 0) 0 hC dX12_readWill_31 rfl rfl ?_
    refine zr_getR (pc := 32) (j := 2) (k1 := 71) hC mem_69 lay_69 rfl rfl (Nat.le_of_ble_eq_true rfl) iX12 m_1397 dX12_readWill_32 ?_
    refine zr_bipush (pc := 35) (v := (6 : Int32)) hC dX12_readWill_35 bi_6 ?_
    refine zr_iald (pc := 37) hC mem_71 lay_71 dX12_readWill_37 ?_
    refine zr_iadd (pc := 38) hC dX12_readWill_38 ?_
    refine zr_istore_n (pc := 39) (i := 1) (ls' := [(1, _), (0, _)]) hC dX12_readWill_39 rfl (nlt hN (Nat.le_of_ble_eq_true rfl)) rfl ?_
    refine zr_aload_n (pc := 40) (i := 0) 1 hC dX12_readWill_40 rfl rfl ?_
    refine zr_getR (pc := 41) (j := 9) (k1 := 78) hC mem_69 lay_69 rfl rfl (Nat.le_of_ble_eq_true rfl) iX12 m_1404 dX12_readWill_41 ?_
    refine zr_iload_n (pc := 44) (i := 1) 0 hC dX12_readWill_44 rfl rfl ?_
    refine zr_aload_n (pc := 45) (i := 0) 1 hC dX12_readWill_45 rfl rfl ?_
    refine zr_callV (pc := 46) (As := fun ad => []) (st1 := [.int ((12 : Int32) + (s_1 71 (6 : Int32).toNatClampNeg)), .ref (X_ad X 78)]) hC (Nat.le_of_ble_eq_true rfl) (kX12_readPerson _  _) (Nat.le_of_ble_eq_true rfl) mc_yX12_readPerson m_1701 m_1703 m_p72 mem_69 lay_69 rfl rfl rfl rfl (Nat.le_of_ble_eq_true rfl) dX12_readWill_46 (fun y_2 s_2 => ?_)
    refine zr_iast (pc := 49) hC mem_78 lay_78 dX12_readWill_49 ?_
    refine zr_aload_n (pc := 50) (i := 0) 1 hC dX12_readWill_50 rfl rfl ?_
    refine zr_getR (pc := 51) (j := 10) (k1 := 79) hC mem_69 lay_69 rfl rfl (Nat.le_of_ble_eq_true rfl) iX12 m_1405 dX12_readWill_51 ?_
    refine zr_iload_n (pc := 54) (i := 1) 0 hC dX12_readWill_54 rfl rfl ?_
    refine zr_aload_n (pc := 55) (i := 0) 1 hC dX12_readWill_55 rfl rfl ?_
    refine zr_aload_n (pc := 56) (i := 0) 1 hC dX12_readWill_56 rfl rfl ?_
    refine zr_getR (pc := 57) (j := 9) (k1 := 78) hC mem_69 lay_69 rfl rfl (Nat.le_of_ble_eq_true rfl) iX12 m_1404 dX12_readWill_57 ?_
    refine zr_iload_n (pc := 60) (i := 1) 0 hC dX12_readWill_60 rfl rfl ?_
    refine zr_iald (pc := 61) hC mem_78 lay_78 dX12_readWill_61 ?_
    refine zr_callV (pc := 62) (As := fun ad => [.int ((wr s_2 78 ((12 : Int32) + (s_1 71 (6 : Int32).toNatClampNeg)).toNatClampNeg y_2) 78 ((12 : Int32) + (s_1 71 (6 : Int32).toNatClampNeg)).toNatClampNeg)]) (st1 := [.int ((12 : Int32) + (s_1 71 (6 : Int32).toNatClampNeg)), .ref (X_ad X 79)]) hC (Nat.le_of_ble_eq_true rfl) (kX12_otherNow _ ((wr s_2 78 ((12 : Int32) + (s_1 71 (6 : Int32).toNatClampNeg)).toNatClampNeg y_2) 78 ((12 : Int32) + (s_1 71 (6 : Int32).toNatClampNeg)).toNatClampNeg) _) (Nat.le_of_ble_eq_true rfl) mc_yX12_otherNow m_1709 m_1711 m_p74 mem_69 lay_69 rfl rfl rfl rfl (Nat.le_of_ble_eq_true rfl) dX12_readWill_62 (fun y_4 s_4 => ?_)
    refine zr_iast (pc := 65) hC mem_79 lay_79 dX12_readWill_65 ?_
    refine zr_bipush (pc := 66) (v := (12 : Int32)) hC dX12_readWill_66 bi_12 ?_
    refine zr_istore_n (pc := 68) (i := 2) (ls' := [(2, _), (1, _), (0, _)]) hC dX12_readWill_68 rfl (nlt hN (Nat.le_of_ble_eq_true rfl)) rfl ?_
    refine zr_sub (ls' := [(0, _), (1, _), (2, _)]) [2, 1, 0] rfl ?_
    refine tX12_readWill_L69 ((12 : Int32) + (s_1 71 (6 : Int32).toNatClampNeg)) _ X hC hR hN (fun s_7 => ?_) FU (12 : Int32) _
    · exact tX12_readWill_J122 ((12 : Int32) + (s_1 71 (6 : Int32).toNatClampNeg)) X hC hR hN  _
  · exact zr_vret (pc := 24) hC hR dX12_readWill_24
def fX12_readWill (s : St) : Option (Int32 × St) :=
  if inA (6 : Int32) 10 then
    (if (s 71 (6 : Int32).toNatClampNeg) = (12 : Int32) then
    (bd (fX12_wrong (2 : Int32) s) (fun y_12 s_12 =>
    fX12_readWill_J17 s_12))
  else
    (fX12_readWill_J17 s)) else none
set_option maxRecDepth 100000 in
set_option maxHeartbeats 4000000 in
theorem kX12_readWill (l : Launch)  (s : St) : CN l yX12_readWill cX12_readWill 3 none 9 FULL (fun ad => [.ref (ad 69)]) s (fX12_readWill s) := by
  refine cn_of (by decide) (fun _ => (Nat.le_of_ble_eq_true rfl)) (fun X hC hR hl hN => ?_)
  subst hl
  show Zr X (QFN X none) 0 s 0 [(0, .ref (X_ad X 69))] [] _
  rw [fX12_readWill]
  refine zr_aload_n (pc := 0) (i := 0) 0 hC dX12_readWill_0 rfl rfl ?_
  refine zr_getR (pc := 1) (j := 2) (k1 := 71) hC mem_69 lay_69 rfl rfl (Nat.le_of_ble_eq_true rfl) iX12 m_1397 dX12_readWill_1 ?_
  refine zr_bipush (pc := 4) (v := (6 : Int32)) hC dX12_readWill_4 bi_6 ?_
  refine zr_iald (pc := 6) hC mem_71 lay_71 dX12_readWill_6 ?_
  refine zr_bipush (pc := 7) (v := (12 : Int32)) hC dX12_readWill_7 bi_12 ?_
  refine zr_icmp_ne (pc := 9) (tgt := 17) hC dX12_readWill_9 (by decide) (fun c_ => ?_) (fun c_ => ?_)
  · refine zr_aload_n (pc := 12) (i := 0) 0 hC dX12_readWill_12 rfl rfl ?_
    refine zr_iconst (pc := 13) (v := (2 : Int32)) hC dX12_readWill_13 ic_2 ?_
    refine zr_callVv (pc := 14) (As := fun ad => [.int (2 : Int32)]) (st1 := []) hC (Nat.le_of_ble_eq_true rfl) (kX12_wrong _ (2 : Int32) _) (Nat.le_of_ble_eq_true rfl) mc_yX12_wrong m_1642 m_1644 m_p58 mem_69 lay_69 rfl rfl rfl rfl (Nat.le_of_ble_eq_true rfl) dX12_readWill_14 (fun y_12 s_12 => ?_)
    exact tX12_readWill_J17  X hC hR hN  _
  · exact tX12_readWill_J17  X hC hR hN  _
def fX12_readField_L56 (k94 : St → Option (Int32 × St)) (c1 : Int32) : Nat → Int32 → St → Option (Int32 × St)
  | 0, _, _ => none
  | n + 1, v2, s =>
    if c1 ≤ v2 then
    (k94 s)
  else
    (if (s 69 26) = 0 then
    (if inA v2 12 then
    (if inA c1 12 then
    (if (s 81 v2.toNatClampNeg) = (s 81 c1.toNatClampNeg) then
    (bd (fX12_wrong (4 : Int32) s) (fun y_4 s_4 =>
    fX12_readField_L56 k94 c1 n (v2 + (1 : Int32)) s_4))
  else
    (fX12_readField_L56 k94 c1 n (v2 + (1 : Int32)) s)) else none) else none)
  else
    (k94 s))
set_option maxRecDepth 100000 in
set_option maxHeartbeats 4000000 in
theorem tX12_readField_L56 (c1 : Int32) (k94 : St → Option (Int32 × St)) (X : KX) (hC : Ctx X RX12 cX12_readField FULL 9 0) (hR : RC X none) (hN : X_nL X = 3) (hk94 : ∀ (s : St), Zr X (QFN X none) 0 s 94 [(0, .ref (X_ad X 69)), (1, .int c1)] [] (k94 s)) : ∀ (n : Nat) (v2 : Int32) (s : St), Zr X (QFN X none) 0 s 56 [(0, .ref (X_ad X 69)), (1, .int c1), (2, .int v2)] [] (fX12_readField_L56 k94 c1 n v2 s) := by
  intro n
  induction n with
  | zero =>
    intro v2 s
    exact zr_none
  | succ n ih =>
    intro v2 s
    rw [fX12_readField_L56]
    refine zr_iload_n (pc := 56) (i := 2) 2 hC dX12_readField_56 rfl rfl ?_
    refine zr_iload_n (pc := 57) (i := 1) 1 hC dX12_readField_57 rfl rfl ?_
    refine zr_icmp_ge (pc := 58) (tgt := 94) hC dX12_readField_58 (by decide) (fun c_ => ?_) (fun c_ => ?_)
    · refine zr_sub (ls' := [(0, _), (1, _)]) [0, 1] rfl ?_
      exact hk94 s
    · refine zr_aload_n (pc := 61) (i := 0) 0 hC dX12_readField_61 rfl rfl ?_
      refine zr_getI (pc := 62) (j := 26) hC mem_69 lay_69 rfl rfl (Nat.le_of_ble_eq_true rfl) iX12 m_1421 dX12_readField_62 ?_
      refine zr_if_ne (pc := 65) (tgt := 94) hC dX12_readField_65 (by decide) (fun c_ => ?_) (fun c_ => ?_)
      · refine zr_aload_n (pc := 68) (i := 0) 0 hC dX12_readField_68 rfl rfl ?_
        refine zr_getR (pc := 69) (j := 12) (k1 := 81) hC mem_69 lay_69 rfl rfl (Nat.le_of_ble_eq_true rfl) iX12 m_1407 dX12_readField_69 ?_
        refine zr_iload_n (pc := 72) (i := 2) 2 hC dX12_readField_72 rfl rfl ?_
        refine zr_iald (pc := 73) hC mem_81 lay_81 dX12_readField_73 ?_
        refine zr_aload_n (pc := 74) (i := 0) 0 hC dX12_readField_74 rfl rfl ?_
        refine zr_getR (pc := 75) (j := 12) (k1 := 81) hC mem_69 lay_69 rfl rfl (Nat.le_of_ble_eq_true rfl) iX12 m_1407 dX12_readField_75 ?_
        refine zr_iload_n (pc := 78) (i := 1) 1 hC dX12_readField_78 rfl rfl ?_
        refine zr_iald (pc := 79) hC mem_81 lay_81 dX12_readField_79 ?_
        refine zr_icmp_ne (pc := 80) (tgt := 88) hC dX12_readField_80 (by decide) (fun c_ => ?_) (fun c_ => ?_)
        · refine zr_aload_n (pc := 83) (i := 0) 0 hC dX12_readField_83 rfl rfl ?_
          refine zr_iconst (pc := 84) (v := (4 : Int32)) hC dX12_readField_84 ic_4 ?_
          refine zr_callVv (pc := 85) (As := fun ad => [.int (4 : Int32)]) (st1 := []) hC (Nat.le_of_ble_eq_true rfl) (kX12_wrong _ (4 : Int32) _) (Nat.le_of_ble_eq_true rfl) mc_yX12_wrong m_1642 m_1644 m_p58 mem_69 lay_69 rfl rfl rfl rfl (Nat.le_of_ble_eq_true rfl) dX12_readField_85 (fun y_4 s_4 => ?_)
          refine zr_iinc (pc := 88) (q := 2) (ls' := [(2, _), (0, _), (1, _)]) hC dX12_readField_88 rfl (inc_1 _) (nlt hN (Nat.le_of_ble_eq_true rfl)) rfl ?_
          refine zr_goto (pc := 91) (tgt := 56) hC dX12_readField_91 (by decide) ?_
          refine zr_sub (ls' := [(0, _), (1, _), (2, _)]) [1, 2, 0] rfl ?_
          exact ih (v2 + (1 : Int32)) s_4
        · refine zr_iinc (pc := 88) (q := 2) (ls' := [(2, _), (0, _), (1, _)]) hC dX12_readField_88 rfl (inc_1 _) (nlt hN (Nat.le_of_ble_eq_true rfl)) rfl ?_
          refine zr_goto (pc := 91) (tgt := 56) hC dX12_readField_91 (by decide) ?_
          refine zr_sub (ls' := [(0, _), (1, _), (2, _)]) [1, 2, 0] rfl ?_
          exact ih (v2 + (1 : Int32)) s
      · refine zr_sub (ls' := [(0, _), (1, _)]) [0, 1] rfl ?_
        exact hk94 s
def fX12_readField_J105 (v1 : Int32) (s : St) : Option (Int32 × St) :=
  bd (fX12_readNumber (0 : Int32) (9999 : Int32) s) (fun y_6 s_6 =>
    if inA v1 12 then
    (let s_7 := wr s_6 82 v1.toNatClampNeg y_6;
    bd (fX12_readNumber (0 : Int32) (9999 : Int32) s_7) (fun y_8 s_8 =>
    if inA v1 12 then
    (let s_9 := wr s_8 83 v1.toNatClampNeg y_8;
    if inA (7 : Int32) 10 then
    (if inA (7 : Int32) 10 then
    (let s_10 := wr s_9 71 (7 : Int32).toNatClampNeg ((s_9 71 (7 : Int32).toNatClampNeg) + (1 : Int32));
    some (0, s_10)) else none) else none) else none)) else none)
set_option maxRecDepth 100000 in
set_option maxHeartbeats 4000000 in
theorem tX12_readField_J105 (v1 : Int32) (X : KX) (hC : Ctx X RX12 cX12_readField FULL 9 0) (hR : RC X none) (hN : X_nL X = 3) (s : St) : Zr X (QFN X none) 0 s 105 [(0, .ref (X_ad X 69)), (1, .int v1)] [] (fX12_readField_J105 v1 s) := by
  rw [fX12_readField_J105]
  refine zr_aload_n (pc := 105) (i := 0) 0 hC dX12_readField_105 rfl rfl ?_
  refine zr_getR (pc := 106) (j := 13) (k1 := 82) hC mem_69 lay_69 rfl rfl (Nat.le_of_ble_eq_true rfl) iX12 m_1408 dX12_readField_106 ?_
  refine zr_iload_n (pc := 109) (i := 1) 1 hC dX12_readField_109 rfl rfl ?_
  refine zr_aload_n (pc := 110) (i := 0) 0 hC dX12_readField_110 rfl rfl ?_
  refine zr_iconst (pc := 111) (v := (0 : Int32)) hC dX12_readField_111 ic_0 ?_
  refine zr_sipush (pc := 112) (v := (9999 : Int32)) hC dX12_readField_112 si_9999 ?_
  refine zr_callV (pc := 115) (As := fun ad => [.int (0 : Int32), .int (9999 : Int32)]) (st1 := [.int v1, .ref (X_ad X 82)]) hC (Nat.le_of_ble_eq_true rfl) (kX12_readNumber _ (0 : Int32) (9999 : Int32) _) (Nat.le_of_ble_eq_true rfl) mc_yX12_readNumber m_1646 m_1648 m_p59 mem_69 lay_69 rfl rfl rfl rfl (Nat.le_of_ble_eq_true rfl) dX12_readField_115 (fun y_6 s_6 => ?_)
  refine zr_iast (pc := 118) hC mem_82 lay_82 dX12_readField_118 ?_
  refine zr_aload_n (pc := 119) (i := 0) 0 hC dX12_readField_119 rfl rfl ?_
  refine zr_getR (pc := 120) (j := 14) (k1 := 83) hC mem_69 lay_69 rfl rfl (Nat.le_of_ble_eq_true rfl) iX12 m_1409 dX12_readField_120 ?_
  refine zr_iload_n (pc := 123) (i := 1) 1 hC dX12_readField_123 rfl rfl ?_
  refine zr_aload_n (pc := 124) (i := 0) 0 hC dX12_readField_124 rfl rfl ?_
  refine zr_iconst (pc := 125) (v := (0 : Int32)) hC dX12_readField_125 ic_0 ?_
  refine zr_sipush (pc := 126) (v := (9999 : Int32)) hC dX12_readField_126 si_9999 ?_
  refine zr_callV (pc := 129) (As := fun ad => [.int (0 : Int32), .int (9999 : Int32)]) (st1 := [.int v1, .ref (X_ad X 83)]) hC (Nat.le_of_ble_eq_true rfl) (kX12_readNumber _ (0 : Int32) (9999 : Int32) _) (Nat.le_of_ble_eq_true rfl) mc_yX12_readNumber m_1646 m_1648 m_p59 mem_69 lay_69 rfl rfl rfl rfl (Nat.le_of_ble_eq_true rfl) dX12_readField_129 (fun y_8 s_8 => ?_)
  refine zr_iast (pc := 132) hC mem_83 lay_83 dX12_readField_132 ?_
  refine zr_aload_n (pc := 133) (i := 0) 0 hC dX12_readField_133 rfl rfl ?_
  refine zr_getR (pc := 134) (j := 2) (k1 := 71) hC mem_69 lay_69 rfl rfl (Nat.le_of_ble_eq_true rfl) iX12 m_1397 dX12_readField_134 ?_
  refine zr_bipush (pc := 137) (v := (7 : Int32)) hC dX12_readField_137 bi_7 ?_
  refine zr_dup2 (pc := 139) hC dX12_readField_139 rfl rfl ?_
  refine zr_iald (pc := 140) hC mem_71 lay_71 dX12_readField_140 ?_
  refine zr_iconst (pc := 141) (v := (1 : Int32)) hC dX12_readField_141 ic_1 ?_
  refine zr_iadd (pc := 142) hC dX12_readField_142 ?_
  refine zr_iast (pc := 143) hC mem_71 lay_71 dX12_readField_143 ?_
  exact zr_vret (pc := 144) hC hR dX12_readField_144
def fX12_readField_J94 (v1 : Int32) (s : St) : Option (Int32 × St) :=
  if (s 69 26) = 0 then
    (bd (fX12_stepOn s) (fun y_11 s_11 =>
    fX12_readField_J105 v1 s_11))
  else
    (fX12_readField_J105 v1 s)
set_option maxRecDepth 100000 in
set_option maxHeartbeats 4000000 in
theorem tX12_readField_J94 (v1 : Int32) (X : KX) (hC : Ctx X RX12 cX12_readField FULL 9 0) (hR : RC X none) (hN : X_nL X = 3) (s : St) : Zr X (QFN X none) 0 s 94 [(0, .ref (X_ad X 69)), (1, .int v1)] [] (fX12_readField_J94 v1 s) := by
  rw [fX12_readField_J94]
  refine zr_aload_n (pc := 94) (i := 0) 0 hC dX12_readField_94 rfl rfl ?_
  refine zr_getI (pc := 95) (j := 26) hC mem_69 lay_69 rfl rfl (Nat.le_of_ble_eq_true rfl) iX12 m_1421 dX12_readField_95 ?_
  refine zr_if_ne (pc := 98) (tgt := 105) hC dX12_readField_98 (by decide) (fun c_ => ?_) (fun c_ => ?_)
  · refine zr_aload_n (pc := 101) (i := 0) 0 hC dX12_readField_101 rfl rfl ?_
    refine zr_callVv (pc := 102) (As := fun ad => []) (st1 := []) hC (Nat.le_of_ble_eq_true rfl) (kX12_stepOn _  _) (Nat.le_of_ble_eq_true rfl) mc_yX12_stepOn m_1610 m_1612 m_p54 mem_69 lay_69 rfl rfl rfl rfl (Nat.le_of_ble_eq_true rfl) dX12_readField_102 (fun y_11 s_11 => ?_)
    exact tX12_readField_J105 v1 X hC hR hN  _
  · exact tX12_readField_J105 v1 X hC hR hN  _
def fX12_readField_J17 (s : St) : Option (Int32 × St) :=
  if (s 69 26) = 0 then
    (bd (fX12_stepOn s) (fun y_1 s_1 =>
    if inA (7 : Int32) 10 then
    (bd (fX12_numberNow (0 : Int32) (9 : Int32) s_1) (fun y_2 s_2 =>
    if inA ((6 : Int32) + (s_1 71 (7 : Int32).toNatClampNeg)) 12 then
    (let s_3 := wr s_2 81 ((6 : Int32) + (s_1 71 (7 : Int32).toNatClampNeg)).toNatClampNeg y_2;
    fX12_readField_L56 (fun s_5 => fX12_readField_J94 ((6 : Int32) + (s_1 71 (7 : Int32).toNatClampNeg)) s_5) ((6 : Int32) + (s_1 71 (7 : Int32).toNatClampNeg)) FU (6 : Int32) s_3) else none)) else none))
  else
    (some (0, s))
set_option maxRecDepth 100000 in
set_option maxHeartbeats 4000000 in
theorem tX12_readField_J17 (X : KX) (hC : Ctx X RX12 cX12_readField FULL 9 0) (hR : RC X none) (hN : X_nL X = 3) (s : St) : Zr X (QFN X none) 0 s 17 [(0, .ref (X_ad X 69))] [] (fX12_readField_J17 s) := by
  rw [fX12_readField_J17]
  refine zr_aload_n (pc := 17) (i := 0) 0 hC dX12_readField_17 rfl rfl ?_
  refine zr_getI (pc := 18) (j := 26) hC mem_69 lay_69 rfl rfl (Nat.le_of_ble_eq_true rfl) iX12 m_1421 dX12_readField_18 ?_
  refine zr_if_eq (pc := 21) (tgt := 25) hC dX12_readField_21 (by decide) (fun c_ => ?_) (fun c_ => ?_)
  · refine zr_aload_n (pc := 25) (i := 0) 0 hC dX12_readField_25 rfl rfl ?_
    refine zr_callVv (pc := 26) (As := fun ad => []) (st1 := []) hC (Nat.le_of_ble_eq_true rfl) (kX12_stepOn _  _) (Nat.le_of_ble_eq_true rfl) mc_yX12_stepOn m_1610 m_1612 m_p54 mem_69 lay_69 rfl rfl rfl rfl (Nat.le_of_ble_eq_true rfl) dX12_readField_26 (fun y_1 s_1 => ?_)
    refine zr_bipush (pc := 29) (v := (6 : Int32)) hC dX12_readField_29 bi_6 ?_
    refine zr_aload_n (pc := 31) (i := 0) 0 hC dX12_readField_31 rfl rfl ?_
    refine zr_getR (pc := 32) (j := 2) (k1 := 71) hC mem_69 lay_69 rfl rfl (Nat.le_of_ble_eq_true rfl) iX12 m_1397 dX12_readField_32 ?_
    refine zr_bipush (pc := 35) (v := (7 : Int32)) hC dX12_readField_35 bi_7 ?_
    refine zr_iald (pc := 37) hC mem_71 lay_71 dX12_readField_37 ?_
    refine zr_iadd (pc := 38) hC dX12_readField_38 ?_
    refine zr_istore_n (pc := 39) (i := 1) (ls' := [(1, _), (0, _)]) hC dX12_readField_39 rfl (nlt hN (Nat.le_of_ble_eq_true rfl)) rfl ?_
    refine zr_aload_n (pc := 40) (i := 0) 1 hC dX12_readField_40 rfl rfl ?_
    refine zr_getR (pc := 41) (j := 12) (k1 := 81) hC mem_69 lay_69 rfl rfl (Nat.le_of_ble_eq_true rfl) iX12 m_1407 dX12_readField_41 ?_
    refine zr_iload_n (pc := 44) (i := 1) 0 hC dX12_readField_44 rfl rfl ?_
    refine zr_aload_n (pc := 45) (i := 0) 1 hC dX12_readField_45 rfl rfl ?_
    refine zr_iconst (pc := 46) (v := (0 : Int32)) hC dX12_readField_46 ic_0 ?_
    refine zr_bipush (pc := 47) (v := (9 : Int32)) hC dX12_readField_47 bi_9 ?_
    refine zr_callV (pc := 49) (As := fun ad => [.int (0 : Int32), .int (9 : Int32)]) (st1 := [.int ((6 : Int32) + (s_1 71 (7 : Int32).toNatClampNeg)), .ref (X_ad X 81)]) hC (Nat.le_of_ble_eq_true rfl) (kX12_numberNow _ (0 : Int32) (9 : Int32) _) (Nat.le_of_ble_eq_true rfl) mc_yX12_numberNow m_1650 m_1652 m_p60 mem_69 lay_69 rfl rfl rfl rfl (Nat.le_of_ble_eq_true rfl) dX12_readField_49 (fun y_2 s_2 => ?_)
    refine zr_iast (pc := 52) hC mem_81 lay_81 dX12_readField_52 ?_
    refine zr_bipush (pc := 53) (v := (6 : Int32)) hC dX12_readField_53 bi_6 ?_
    refine zr_istore_n (pc := 55) (i := 2) (ls' := [(2, _), (1, _), (0, _)]) hC dX12_readField_55 rfl (nlt hN (Nat.le_of_ble_eq_true rfl)) rfl ?_
    refine zr_sub (ls' := [(0, _), (1, _), (2, _)]) [2, 1, 0] rfl ?_
    refine tX12_readField_L56 ((6 : Int32) + (s_1 71 (7 : Int32).toNatClampNeg)) _ X hC hR hN (fun s_5 => ?_) FU (6 : Int32) _
    · exact tX12_readField_J94 ((6 : Int32) + (s_1 71 (7 : Int32).toNatClampNeg)) X hC hR hN  _
  · exact zr_vret (pc := 24) hC hR dX12_readField_24
def fX12_readField (s : St) : Option (Int32 × St) :=
  if inA (7 : Int32) 10 then
    (if (s 71 (7 : Int32).toNatClampNeg) = (6 : Int32) then
    (bd (fX12_wrong (2 : Int32) s) (fun y_12 s_12 =>
    fX12_readField_J17 s_12))
  else
    (fX12_readField_J17 s)) else none
set_option maxRecDepth 100000 in
set_option maxHeartbeats 4000000 in
theorem kX12_readField (l : Launch)  (s : St) : CN l yX12_readField cX12_readField 3 none 9 FULL (fun ad => [.ref (ad 69)]) s (fX12_readField s) := by
  refine cn_of (by decide) (fun _ => (Nat.le_of_ble_eq_true rfl)) (fun X hC hR hl hN => ?_)
  subst hl
  show Zr X (QFN X none) 0 s 0 [(0, .ref (X_ad X 69))] [] _
  rw [fX12_readField]
  refine zr_aload_n (pc := 0) (i := 0) 0 hC dX12_readField_0 rfl rfl ?_
  refine zr_getR (pc := 1) (j := 2) (k1 := 71) hC mem_69 lay_69 rfl rfl (Nat.le_of_ble_eq_true rfl) iX12 m_1397 dX12_readField_1 ?_
  refine zr_bipush (pc := 4) (v := (7 : Int32)) hC dX12_readField_4 bi_7 ?_
  refine zr_iald (pc := 6) hC mem_71 lay_71 dX12_readField_6 ?_
  refine zr_bipush (pc := 7) (v := (6 : Int32)) hC dX12_readField_7 bi_6 ?_
  refine zr_icmp_ne (pc := 9) (tgt := 17) hC dX12_readField_9 (by decide) (fun c_ => ?_) (fun c_ => ?_)
  · refine zr_aload_n (pc := 12) (i := 0) 0 hC dX12_readField_12 rfl rfl ?_
    refine zr_iconst (pc := 13) (v := (2 : Int32)) hC dX12_readField_13 ic_2 ?_
    refine zr_callVv (pc := 14) (As := fun ad => [.int (2 : Int32)]) (st1 := []) hC (Nat.le_of_ble_eq_true rfl) (kX12_wrong _ (2 : Int32) _) (Nat.le_of_ble_eq_true rfl) mc_yX12_wrong m_1642 m_1644 m_p58 mem_69 lay_69 rfl rfl rfl rfl (Nat.le_of_ble_eq_true rfl) dX12_readField_14 (fun y_12 s_12 => ?_)
    exact tX12_readField_J17  X hC hR hN  _
  · exact tX12_readField_J17  X hC hR hN  _
