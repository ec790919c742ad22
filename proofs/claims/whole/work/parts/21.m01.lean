def fX7_countRow (s : St) : Option (Int32 × St) :=
  if (s 62 4) = 0 then
    (bd (fX11_copyRow 63 64 s) (fun y_2 s_2 =>
    let s_3 := wr s_2 62 2 (s_2 62 3);
    let s_4 := wr s_3 62 4 ((s_3 62 4) + (1 : Int32));
    some (0, s_4)))
  else
    (let s_1 := wr s 62 4 ((s 62 4) + (1 : Int32));
    some (0, s_1))
set_option maxRecDepth 100000 in
set_option maxHeartbeats 4000000 in
theorem kX7_countRow (l : Launch)  (s : St) : CN l yX7_countRow cX7_countRow 1 none 9 FULL (fun ad => [.ref (ad 62)]) s (fX7_countRow s) := by
  refine cn_of (by decide) (fun _ => (Nat.le_of_ble_eq_true rfl)) (fun X hC hR hl hN => ?_)
  subst hl
  show Zr X (QFN X none) 0 s 0 [(0, .ref (X_ad X 62))] [] _
  rw [fX7_countRow]
  refine zr_aload_n (pc := 0) (i := 0) 0 hC dX7_countRow_0 rfl rfl ?_
  refine zr_getI (pc := 1) (j := 4) hC mem_62 lay_62 rfl rfl (Nat.le_of_ble_eq_true rfl) iX7 m_345 dX7_countRow_1 ?_
  refine zr_if_ne (pc := 4) (tgt := 26) hC dX7_countRow_4 (by decide) (fun c_ => ?_) (fun c_ => ?_)
  · refine zr_aload_n (pc := 7) (i := 0) 0 hC dX7_countRow_7 rfl rfl ?_
    refine zr_getR (pc := 8) (j := 0) (k1 := 63) hC mem_62 lay_62 rfl rfl (Nat.le_of_ble_eq_true rfl) iX7 m_339 dX7_countRow_8 ?_
    refine zr_aload_n (pc := 11) (i := 0) 0 hC dX7_countRow_11 rfl rfl ?_
    refine zr_getR (pc := 12) (j := 1) (k1 := 64) hC mem_62 lay_62 rfl rfl (Nat.le_of_ble_eq_true rfl) iX7 m_340 dX7_countRow_12 ?_
    refine zr_callSNv (pc := 15) (As := fun ad => [.ref (ad 63), .ref (ad 64)]) (st1 := []) hC (Nat.le_of_ble_eq_true rfl) (kX11_copyRow _ ar_63 ar_64 _) (Nat.le_of_ble_eq_true rfl) mc_yX11_copyRow m_605 m_567 rfl rfl (Nat.le_of_ble_eq_true rfl) dX7_countRow_15 (fun y_2 s_2 => ?_)
    refine zr_aload_n (pc := 18) (i := 0) 0 hC dX7_countRow_18 rfl rfl ?_
    refine zr_aload_n (pc := 19) (i := 0) 0 hC dX7_countRow_19 rfl rfl ?_
    refine zr_getI (pc := 20) (j := 3) hC mem_62 lay_62 rfl rfl (Nat.le_of_ble_eq_true rfl) iX7 m_344 dX7_countRow_20 ?_
    refine zr_putInt (pc := 23) (j := 2) hC mem_62 lay_62 rfl rfl (Nat.le_of_ble_eq_true rfl) iX7 tyX7_ok nmX7 m_342 rfl (by decide +kernel) dX7_countRow_23 ?_
    refine zr_aload_n (pc := 26) (i := 0) 0 hC dX7_countRow_26 rfl rfl ?_
    refine zr_dup (pc := 27) hC dX7_countRow_27 rfl ?_
    refine zr_getI (pc := 28) (j := 4) hC mem_62 lay_62 rfl rfl (Nat.le_of_ble_eq_true rfl) iX7 m_345 dX7_countRow_28 ?_
    refine zr_iconst (pc := 31) (v := (1 : Int32)) hC dX7_countRow_31 ic_1 ?_
    refine zr_iadd (pc := 32) hC dX7_countRow_32 ?_
    refine zr_putInt (pc := 33) (j := 4) hC mem_62 lay_62 rfl rfl (Nat.le_of_ble_eq_true rfl) iX7 tyX7_ok nmX7 m_345 rfl (by decide +kernel) dX7_countRow_33 ?_
    exact zr_vret (pc := 36) hC hR dX7_countRow_36
  · refine zr_aload_n (pc := 26) (i := 0) 0 hC dX7_countRow_26 rfl rfl ?_
    refine zr_dup (pc := 27) hC dX7_countRow_27 rfl ?_
    refine zr_getI (pc := 28) (j := 4) hC mem_62 lay_62 rfl rfl (Nat.le_of_ble_eq_true rfl) iX7 m_345 dX7_countRow_28 ?_
    refine zr_iconst (pc := 31) (v := (1 : Int32)) hC dX7_countRow_31 ic_1 ?_
    refine zr_iadd (pc := 32) hC dX7_countRow_32 ?_
    refine zr_putInt (pc := 33) (j := 4) hC mem_62 lay_62 rfl rfl (Nat.le_of_ble_eq_true rfl) iX7 tyX7_ok nmX7 m_345 rfl (by decide +kernel) dX7_countRow_33 ?_
    exact zr_vret (pc := 36) hC hR dX7_countRow_36
def fX7_fillFrom_J79 (lp : Int32 → St → Option (Int32 × St)) (rc : Int32 → Int32 → St → Option (Int32 × St)) (g : Nat) (w : Nat) (v3 : Int32) (v4 : Int32) (v5 : Int32) (v6 : Int32) (q0 : Int32) (s : St) : Option (Int32 × St) :=
  if q0 = 0 then
    (lp (v6 + (1 : Int32)) s)
  else
    (bd (fX7_isFront g w v5 v6 s) (fun y_3 s_3 =>
    if y_3 = 0 then
    (bd (fX11_put 63 v3 v6 s_3) (fun y_4 s_4 =>
    bd (rc (v3 + (1 : Int32)) (v4 ||| (jshl (1 : Int32) v6)) s_4) (fun y_5 s_5 =>
    lp (v6 + (1 : Int32)) s_5)))
  else
    (lp (v6 + (1 : Int32)) s_3)))
set_option maxRecDepth 100000 in
set_option maxHeartbeats 4000000 in
theorem tX7_fillFrom_J79 (rc : Int32 → Int32 → St → Option (Int32 × St)) (g : Nat) (w : Nat) (v3 : Int32) (v4 : Int32) (v5 : Int32) (v6 : Int32) (q0 : Int32) (lp : Int32 → St → Option (Int32 × St)) (dd : Nat) (hdd : 9 ≤ dd) (X : KX) (hC : Ctx X RX7 cX7_fillFrom FULL (dd + 1) 0) (hR : RC X none) (hN : X_nL X = 8) (hg : isLand g) (hw : isWd w) (hrc : ∀ (z0 z1 : Int32) (s : St), CN (X_l X) yX7_fillFrom cX7_fillFrom 8 none dd FULL (fun ad => [.ref (ad 62), .ref (ad g), .ref (ad w), .int z0, .int z1]) s (rc z0 z1 s)) (ih : ∀ (u6 : Int32) (s : St), Zr X (QFN X none) 0 s 46 [(0, .ref (X_ad X 62)), (1, .ref (X_ad X g)), (2, .ref (X_ad X w)), (3, .int v3), (4, .int v4), (5, .int v5), (6, .int u6)] [] (lp u6 s)) (s : St) : Zr X (QFN X none) 0 s 79 [(0, .ref (X_ad X 62)), (1, .ref (X_ad X g)), (2, .ref (X_ad X w)), (3, .int v3), (4, .int v4), (5, .int v5), (6, .int v6)] [.int q0] (fX7_fillFrom_J79 lp rc g w v3 v4 v5 v6 q0 s) := by
  rw [fX7_fillFrom_J79]
  refine zr_istore (pc := 79) (ls' := [(7, _), (0, _), (1, _), (2, _), (3, _), (4, _), (5, _), (6, _)]) hC dX7_fillFrom_79 (nlt hN (Nat.le_of_ble_eq_true rfl)) rfl ?_
  refine zr_iload (pc := 81) 0 hC dX7_fillFrom_81 rfl ?_
  refine zr_if_eq (pc := 83) (tgt := 124) hC dX7_fillFrom_83 (by decide) (fun c_ => ?_) (fun c_ => ?_)
  · refine zr_iinc (pc := 124) (q := 7) (ls' := [(6, _), (7, _), (0, _), (1, _), (2, _), (3, _), (4, _), (5, _)]) hC dX7_fillFrom_124 rfl (inc_1 _) (nlt hN (Nat.le_of_ble_eq_true rfl)) rfl ?_
    refine zr_goto (pc := 127) (tgt := 46) hC dX7_fillFrom_127 (by decide) ?_
    refine zr_sub (ls' := [(0, _), (1, _), (2, _), (3, _), (4, _), (5, _), (6, _)]) [2, 3, 4, 5, 6, 7, 0] rfl ?_
    exact ih (v6 + (1 : Int32)) s
  · refine zr_aload_n (pc := 86) (i := 1) 2 hC dX7_fillFrom_86 rfl rfl ?_
    refine zr_aload_n (pc := 87) (i := 2) 3 hC dX7_fillFrom_87 rfl rfl ?_
    refine zr_iload (pc := 88) 6 hC dX7_fillFrom_88 rfl ?_
    refine zr_iload (pc := 90) 7 hC dX7_fillFrom_90 rfl ?_
    refine zr_callS (pc := 92) (As := fun ad => [.ref (ad g), .ref (ad w), .int v5, .int v6]) (st1 := []) hC (Nat.le_of_ble_eq_true rfl) (kX7_isFront _ hg hw v5 v6 _) (by omega) mc_yX7_isFront m_591 m_592 rfl rfl rfl (Nat.le_of_ble_eq_true rfl) dX7_fillFrom_92 (fun y_3 s_3 => ?_)
    refine zr_if_ne (pc := 95) (tgt := 124) hC dX7_fillFrom_95 (by decide) (fun c_ => ?_) (fun c_ => ?_)
    · refine zr_aload_n (pc := 98) (i := 0) 1 hC dX7_fillFrom_98 rfl rfl ?_
      refine zr_getR (pc := 99) (j := 0) (k1 := 63) hC mem_62 lay_62 rfl rfl (Nat.le_of_ble_eq_true rfl) iX7 m_339 dX7_fillFrom_99 ?_
      refine zr_iload_n (pc := 102) (i := 3) 4 hC dX7_fillFrom_102 rfl rfl ?_
      refine zr_iload (pc := 103) 7 hC dX7_fillFrom_103 rfl ?_
      refine zr_callSNv (pc := 105) (As := fun ad => [.ref (ad 63), .int v3, .int v6]) (st1 := []) hC (Nat.le_of_ble_eq_true rfl) (kX11_put _ ar_63 v3 v6 _) (by omega) mc_yX11_put m_585 m_141 rfl rfl (Nat.le_of_ble_eq_true rfl) dX7_fillFrom_105 (fun y_4 s_4 => ?_)
      refine zr_aload_n (pc := 108) (i := 0) 1 hC dX7_fillFrom_108 rfl rfl ?_
      refine zr_aload_n (pc := 109) (i := 1) 2 hC dX7_fillFrom_109 rfl rfl ?_
      refine zr_aload_n (pc := 110) (i := 2) 3 hC dX7_fillFrom_110 rfl rfl ?_
      refine zr_iload_n (pc := 111) (i := 3) 4 hC dX7_fillFrom_111 rfl rfl ?_
      refine zr_iconst (pc := 112) (v := (1 : Int32)) hC dX7_fillFrom_112 ic_1 ?_
      refine zr_iadd (pc := 113) hC dX7_fillFrom_113 ?_
      refine zr_iload (pc := 114) 5 hC dX7_fillFrom_114 rfl ?_
      refine zr_iconst (pc := 116) (v := (1 : Int32)) hC dX7_fillFrom_116 ic_1 ?_
      refine zr_iload (pc := 117) 7 hC dX7_fillFrom_117 rfl ?_
      refine zr_ishl (pc := 119) hC dX7_fillFrom_119 ?_
      refine zr_ior (pc := 120) hC dX7_fillFrom_120 ?_
      refine zr_callVv (pc := 121) (As := fun ad => [.ref (ad g), .ref (ad w), .int (v3 + (1 : Int32)), .int (v4 ||| (jshl (1 : Int32) v6))]) (st1 := []) hC (Nat.le_of_ble_eq_true rfl) (hrc (v3 + (1 : Int32)) (v4 ||| (jshl (1 : Int32) v6)) _) (by omega) mc_yX7_fillFrom m_586 m_588 m_p6 mem_62 lay_62 rfl rfl rfl rfl (Nat.le_of_ble_eq_true rfl) dX7_fillFrom_121 (fun y_5 s_5 => ?_)
      refine zr_iinc (pc := 124) (q := 7) (ls' := [(6, _), (7, _), (0, _), (1, _), (2, _), (3, _), (4, _), (5, _)]) hC dX7_fillFrom_124 rfl (inc_1 _) (nlt hN (Nat.le_of_ble_eq_true rfl)) rfl ?_
      refine zr_goto (pc := 127) (tgt := 46) hC dX7_fillFrom_127 (by decide) ?_
      refine zr_sub (ls' := [(0, _), (1, _), (2, _), (3, _), (4, _), (5, _), (6, _)]) [2, 3, 4, 5, 6, 7, 0] rfl ?_
      exact ih (v6 + (1 : Int32)) s_5
    · refine zr_iinc (pc := 124) (q := 7) (ls' := [(6, _), (7, _), (0, _), (1, _), (2, _), (3, _), (4, _), (5, _)]) hC dX7_fillFrom_124 rfl (inc_1 _) (nlt hN (Nat.le_of_ble_eq_true rfl)) rfl ?_
      refine zr_goto (pc := 127) (tgt := 46) hC dX7_fillFrom_127 (by decide) ?_
      refine zr_sub (ls' := [(0, _), (1, _), (2, _), (3, _), (4, _), (5, _), (6, _)]) [2, 3, 4, 5, 6, 7, 0] rfl ?_
      exact ih (v6 + (1 : Int32)) s_3
def fX7_fillFrom_J78 (lp : Int32 → St → Option (Int32 × St)) (rc : Int32 → Int32 → St → Option (Int32 × St)) (g : Nat) (w : Nat) (v3 : Int32) (v4 : Int32) (v5 : Int32) (v6 : Int32) (s : St) : Option (Int32 × St) :=
  fX7_fillFrom_J79 (lp) rc g w v3 v4 v5 v6 (0 : Int32) s
set_option maxRecDepth 100000 in
set_option maxHeartbeats 4000000 in
theorem tX7_fillFrom_J78 (rc : Int32 → Int32 → St → Option (Int32 × St)) (g : Nat) (w : Nat) (v3 : Int32) (v4 : Int32) (v5 : Int32) (v6 : Int32) (lp : Int32 → St → Option (Int32 × St)) (dd : Nat) (hdd : 9 ≤ dd) (X : KX) (hC : Ctx X RX7 cX7_fillFrom FULL (dd + 1) 0) (hR : RC X none) (hN : X_nL X = 8) (hg : isLand g) (hw : isWd w) (hrc : ∀ (z0 z1 : Int32) (s : St), CN (X_l X) yX7_fillFrom cX7_fillFrom 8 none dd FULL (fun ad => [.ref (ad 62), .ref (ad g), .ref (ad w), .int z0, .int z1]) s (rc z0 z1 s)) (ih : ∀ (u6 : Int32) (s : St), Zr X (QFN X none) 0 s 46 [(0, .ref (X_ad X 62)), (1, .ref (X_ad X g)), (2, .ref (X_ad X w)), (3, .int v3), (4, .int v4), (5, .int v5), (6, .int u6)] [] (lp u6 s)) (s : St) : Zr X (QFN X none) 0 s 78 [(0, .ref (X_ad X 62)), (1, .ref (X_ad X g)), (2, .ref (X_ad X w)), (3, .int v3), (4, .int v4), (5, .int v5), (6, .int v6)] [] (fX7_fillFrom_J78 lp rc g w v3 v4 v5 v6 s) := by
  rw [fX7_fillFrom_J78]
  refine zr_iconst (pc := 78) (v := (0 : Int32)) hC dX7_fillFrom_78 ic_0 ?_
  exact tX7_fillFrom_J79 rc g w v3 v4 v5 v6 (0 : Int32) _ dd hdd X hC hR hN hg hw hrc  ih _
def fX7_fillFrom_L46 (rc : Int32 → Int32 → St → Option (Int32 × St)) (g : Nat) (w : Nat) (c3 : Int32) (c4 : Int32) (c5 : Int32) : Nat → Int32 → St → Option (Int32 × St)
  | 0, _, _ => none
  | n + 1, v6, s =>
    if (s g 0) ≤ v6 then
    (some (0, s))
  else
    (bd (fX10_alive w v6 s) (fun y_2 s_2 =>
    if y_2 = 0 then
    (fX7_fillFrom_J78 (fX7_fillFrom_L46 rc g w c3 c4 c5 n) rc g w c3 c4 c5 v6 s_2)
  else
    (if ((jshr c4 v6) &&& (1 : Int32)) = 0 then
    (fX7_fillFrom_J79 (fX7_fillFrom_L46 rc g w c3 c4 c5 n) rc g w c3 c4 c5 v6 (1 : Int32) s_2)
  else
    (fX7_fillFrom_J78 (fX7_fillFrom_L46 rc g w c3 c4 c5 n) rc g w c3 c4 c5 v6 s_2))))
set_option maxRecDepth 100000 in
set_option maxHeartbeats 4000000 in
theorem tX7_fillFrom_L46 (rc : Int32 → Int32 → St → Option (Int32 × St)) (g : Nat) (w : Nat) (c3 : Int32) (c4 : Int32) (c5 : Int32) (dd : Nat) (hdd : 9 ≤ dd) (X : KX) (hC : Ctx X RX7 cX7_fillFrom FULL (dd + 1) 0) (hR : RC X none) (hN : X_nL X = 8) (hg : isLand g) (hw : isWd w) (hrc : ∀ (z0 z1 : Int32) (s : St), CN (X_l X) yX7_fillFrom cX7_fillFrom 8 none dd FULL (fun ad => [.ref (ad 62), .ref (ad g), .ref (ad w), .int z0, .int z1]) s (rc z0 z1 s)) : ∀ (n : Nat) (v6 : Int32) (s : St), Zr X (QFN X none) 0 s 46 [(0, .ref (X_ad X 62)), (1, .ref (X_ad X g)), (2, .ref (X_ad X w)), (3, .int c3), (4, .int c4), (5, .int c5), (6, .int v6)] [] (fX7_fillFrom_L46 rc g w c3 c4 c5 n v6 s) := by
  intro n
  induction n with
  | zero =>
    intro v6 s
    exact zr_none
  | succ n ih =>
    intro v6 s
    rw [fX7_fillFrom_L46]
    refine zr_iload (pc := 46) 6 hC dX7_fillFrom_46 rfl ?_
    refine zr_aload_n (pc := 48) (i := 1) 1 hC dX7_fillFrom_48 rfl rfl ?_
    refine zr_getI (pc := 49) (j := 0) hC hg.1.1 hg.1.2 rfl rfl (Nat.le_of_ble_eq_true rfl) iX4 m_68 dX7_fillFrom_49 ?_
    refine zr_icmp_ge (pc := 52) (tgt := 130) hC dX7_fillFrom_52 (by decide) (fun c_ => ?_) (fun c_ => ?_)
    · exact zr_vret (pc := 130) hC hR dX7_fillFrom_130
    · refine zr_aload_n (pc := 55) (i := 2) 2 hC dX7_fillFrom_55 rfl rfl ?_
      refine zr_iload (pc := 56) 6 hC dX7_fillFrom_56 rfl ?_
      refine zr_callV (pc := 58) (As := fun ad => [.int v6]) (st1 := []) hC (Nat.le_of_ble_eq_true rfl) (kX10_alive _ hw v6 _) (by omega) mc_yX10_alive m_584 m_524 m_525 hw.1.1 hw.1.2 rfl rfl rfl rfl (Nat.le_of_ble_eq_true rfl) dX7_fillFrom_58 (fun y_2 s_2 => ?_)
      refine zr_if_eq (pc := 61) (tgt := 78) hC dX7_fillFrom_61 (by decide) (fun c_ => ?_) (fun c_ => ?_)
      · exact tX7_fillFrom_J78 rc g w c3 c4 c5 v6 _ dd hdd X hC hR hN hg hw hrc  ih _
      · refine zr_iload (pc := 64) 4 hC dX7_fillFrom_64 rfl ?_
        refine zr_iload (pc := 66) 6 hC dX7_fillFrom_66 rfl ?_
        refine zr_ishr (pc := 68) hC dX7_fillFrom_68 ?_
        refine zr_iconst (pc := 69) (v := (1 : Int32)) hC dX7_fillFrom_69 ic_1 ?_
        refine zr_iand (pc := 70) hC dX7_fillFrom_70 ?_
        refine zr_if_ne (pc := 71) (tgt := 78) hC dX7_fillFrom_71 (by decide) (fun c_ => ?_) (fun c_ => ?_)
        · refine zr_iconst (pc := 74) (v := (1 : Int32)) hC dX7_fillFrom_74 ic_1 ?_
          refine zr_goto (pc := 75) (tgt := 79) hC dX7_fillFrom_75 (by decide) ?_
          exact tX7_fillFrom_J79 rc g w c3 c4 c5 v6 (1 : Int32) _ dd hdd X hC hR hN hg hw hrc  ih _
        · exact tX7_fillFrom_J78 rc g w c3 c4 c5 v6 _ dd hdd X hC hR hN hg hw hrc  ih _
def gX7_fillFrom (rc : Int32 → Int32 → St → Option (Int32 × St)) (g : Nat) (w : Nat) (a3 : Int32) (a4 : Int32) (s : St) : Option (Int32 × St) :=
  bd (fX11_at 63 (a3 - (1 : Int32)) s) (fun y_1 s_1 =>
    if a3 < (s_1 62 3) then
    (fX7_fillFrom_L46 rc g w a3 a4 y_1 FU (0 : Int32) s_1)
  else
    (bd (fX11_at 63 (0 : Int32) s_1) (fun y_6 s_6 =>
    bd (fX7_isFront g w y_1 y_6 s_6) (fun y_7 s_7 =>
    if y_7 = 0 then
    (bd (fX7_countRow s_7) (fun y_8 s_8 =>
    some (0, s_8)))
  else
    (some (0, s_7))))))
set_option maxRecDepth 100000 in
set_option maxHeartbeats 4000000 in
theorem gkX7_fillFrom (l : Launch) (rc : Int32 → Int32 → St → Option (Int32 × St)) (dd : Nat) (hdd : 9 ≤ dd)  {g : Nat} {w : Nat} (hrc : ∀ (z0 z1 : Int32) (s : St), CN l yX7_fillFrom cX7_fillFrom 8 none dd FULL (fun ad => [.ref (ad 62), .ref (ad g), .ref (ad w), .int z0, .int z1]) s (rc z0 z1 s)) (hg : isLand g) (hw : isWd w) (a3 : Int32) (a4 : Int32) (s : St) : CN l yX7_fillFrom cX7_fillFrom 8 none (dd + 1) FULL (fun ad => [.ref (ad 62), .ref (ad g), .ref (ad w), .int a3, .int a4]) s (gX7_fillFrom rc g w a3 a4 s) := by
  refine cn_of (by decide) (fun _ => (Nat.le_of_ble_eq_true rfl)) (fun X hC hR hl hN => ?_)
  subst hl
  show Zr X (QFN X none) 0 s 0 [(0, .ref (X_ad X 62)), (1, .ref (X_ad X g)), (2, .ref (X_ad X w)), (3, .int a3), (4, .int a4)] [] _
  rw [gX7_fillFrom]
  refine zr_aload_n (pc := 0) (i := 0) 0 hC dX7_fillFrom_0 rfl rfl ?_
  refine zr_getR (pc := 1) (j := 0) (k1 := 63) hC mem_62 lay_62 rfl rfl (Nat.le_of_ble_eq_true rfl) iX7 m_339 dX7_fillFrom_1 ?_
  refine zr_iload_n (pc := 4) (i := 3) 3 hC dX7_fillFrom_4 rfl rfl ?_
  refine zr_iconst (pc := 5) (v := (1 : Int32)) hC dX7_fillFrom_5 ic_1 ?_
  refine zr_isub (pc := 6) hC dX7_fillFrom_6 ?_
  refine zr_callSN (pc := 7) (As := fun ad => [.ref (ad 63), .int (a3 - (1 : Int32))]) (st1 := []) hC (Nat.le_of_ble_eq_true rfl) (kX11_at _ ar_63 (a3 - (1 : Int32)) _) (by omega) mc_yX11_at m_590 m_453 rfl rfl (Nat.le_of_ble_eq_true rfl) dX7_fillFrom_7 (fun y_1 s_1 => ?_)
  refine zr_istore (pc := 10) (ls' := [(5, _), (0, _), (1, _), (2, _), (3, _), (4, _)]) hC dX7_fillFrom_10 (nlt hN (Nat.le_of_ble_eq_true rfl)) rfl ?_
  refine zr_iload_n (pc := 12) (i := 3) 4 hC dX7_fillFrom_12 rfl rfl ?_
  refine zr_aload_n (pc := 13) (i := 0) 1 hC dX7_fillFrom_13 rfl rfl ?_
  refine zr_getI (pc := 14) (j := 3) hC mem_62 lay_62 rfl rfl (Nat.le_of_ble_eq_true rfl) iX7 m_344 dX7_fillFrom_14 ?_
  refine zr_icmp_lt (pc := 17) (tgt := 43) hC dX7_fillFrom_17 (by decide) (fun c_ => ?_) (fun c_ => ?_)
  · refine zr_iconst (pc := 43) (v := (0 : Int32)) hC dX7_fillFrom_43 ic_0 ?_
    refine zr_istore (pc := 44) (ls' := [(6, _), (5, _), (0, _), (1, _), (2, _), (3, _), (4, _)]) hC dX7_fillFrom_44 (nlt hN (Nat.le_of_ble_eq_true rfl)) rfl ?_
    refine zr_sub (ls' := [(0, _), (1, _), (2, _), (3, _), (4, _), (5, _), (6, _)]) [2, 3, 4, 5, 6, 1, 0] rfl ?_
    exact tX7_fillFrom_L46 rc g w a3 a4 y_1 dd hdd X hC hR hN hg hw hrc FU (0 : Int32) _
  · refine zr_aload_n (pc := 20) (i := 1) 2 hC dX7_fillFrom_20 rfl rfl ?_
    refine zr_aload_n (pc := 21) (i := 2) 3 hC dX7_fillFrom_21 rfl rfl ?_
    refine zr_iload (pc := 22) 0 hC dX7_fillFrom_22 rfl ?_
    refine zr_aload_n (pc := 24) (i := 0) 1 hC dX7_fillFrom_24 rfl rfl ?_
    refine zr_getR (pc := 25) (j := 0) (k1 := 63) hC mem_62 lay_62 rfl rfl (Nat.le_of_ble_eq_true rfl) iX7 m_339 dX7_fillFrom_25 ?_
    refine zr_iconst (pc := 28) (v := (0 : Int32)) hC dX7_fillFrom_28 ic_0 ?_
    refine zr_callSN (pc := 29) (As := fun ad => [.ref (ad 63), .int (0 : Int32)]) (st1 := [.int y_1, .ref (X_ad X w), .ref (X_ad X g)]) hC (Nat.le_of_ble_eq_true rfl) (kX11_at _ ar_63 (0 : Int32) _) (by omega) mc_yX11_at m_590 m_453 rfl rfl (Nat.le_of_ble_eq_true rfl) dX7_fillFrom_29 (fun y_6 s_6 => ?_)
    refine zr_callS (pc := 32) (As := fun ad => [.ref (ad g), .ref (ad w), .int y_1, .int y_6]) (st1 := []) hC (Nat.le_of_ble_eq_true rfl) (kX7_isFront _ hg hw y_1 y_6 _) (by omega) mc_yX7_isFront m_591 m_592 rfl rfl rfl (Nat.le_of_ble_eq_true rfl) dX7_fillFrom_32 (fun y_7 s_7 => ?_)
    refine zr_if_ne (pc := 35) (tgt := 42) hC dX7_fillFrom_35 (by decide) (fun c_ => ?_) (fun c_ => ?_)
    · refine zr_aload_n (pc := 38) (i := 0) 1 hC dX7_fillFrom_38 rfl rfl ?_
      refine zr_callVv (pc := 39) (As := fun ad => []) (st1 := []) hC (Nat.le_of_ble_eq_true rfl) (kX7_countRow _  _) (by omega) mc_yX7_countRow m_601 m_603 m_p7 mem_62 lay_62 rfl rfl rfl rfl (Nat.le_of_ble_eq_true rfl) dX7_fillFrom_39 (fun y_8 s_8 => ?_)
      exact zr_vret (pc := 42) hC hR dX7_fillFrom_42
    · exact zr_vret (pc := 42) hC hR dX7_fillFrom_42
def fX7_fillFrom (g : Nat) (w : Nat) : Nat → Int32 → Int32 → St → Option (Int32 × St)
  | 0, _, _, _ => none
  | n + 1, a3, a4, s => gX7_fillFrom (fX7_fillFrom g w n) g w a3 a4 s
theorem kX7_fillFrom (l : Launch) {g : Nat} {w : Nat} (hg : isLand g) (hw : isWd w) : ∀ (n : Nat) (a3 : Int32) (a4 : Int32) (s : St), CN l yX7_fillFrom cX7_fillFrom 8 none (9 + 1 * n) FULL (fun ad => [.ref (ad 62), .ref (ad g), .ref (ad w), .int a3, .int a4]) s (fX7_fillFrom g w n a3 a4 s)
  | 0, _, _, _ => fun _ _ h => by cases h
  | n + 1, a3, a4, s => gkX7_fillFrom l (fX7_fillFrom g w n) (9 + 1 * n) (Nat.le_add_right _ _) (fun z0 z1 s => kX7_fillFrom l hg hw n z0 z1 s) hg hw a3 a4 s
def fX7_search_L15 (k35 : Int32 → St → Option (Int32 × St)) (g : Nat) (w : Nat) : Nat → Int32 → St → Option (Int32 × St)
  | 0, _, _ => none
  | n + 1, v3, s =>
    if (11 : Int32) ≤ v3 then
    (k35 v3 s)
  else
    (bd (fX10_alive w v3 s) (fun y_4 s_4 =>
    if y_4 = 0 then
    (fX7_search_L15 k35 g w n (v3 + (1 : Int32)) s_4)
  else
    (k35 v3 s_4)))
set_option maxRecDepth 100000 in
set_option maxHeartbeats 4000000 in
theorem tX7_search_L15 (g : Nat) (w : Nat) (k35 : Int32 → St → Option (Int32 × St)) (X : KX) (hC : Ctx X RX7 cX7_search FULL 20 0) (hR : RC X (some .int)) (hN : X_nL X = 4) (hg : isLand g) (hw : isWd w) (hk35 : ∀ (v3 : Int32) (s : St), Zr X (QFN X (some .int)) 0 s 35 [(0, .ref (X_ad X 62)), (1, .ref (X_ad X g)), (2, .ref (X_ad X w)), (3, .int v3)] [] (k35 v3 s)) : ∀ (n : Nat) (v3 : Int32) (s : St), Zr X (QFN X (some .int)) 0 s 15 [(0, .ref (X_ad X 62)), (1, .ref (X_ad X g)), (2, .ref (X_ad X w)), (3, .int v3)] [] (fX7_search_L15 k35 g w n v3 s) := by
  intro n
  induction n with
  | zero =>
    intro v3 s
    exact zr_none
  | succ n ih =>
    intro v3 s
    rw [fX7_search_L15]
    refine zr_iload_n (pc := 15) (i := 3) 3 hC dX7_search_15 rfl rfl ?_
    refine zr_bipush (pc := 16) (v := (11 : Int32)) hC dX7_search_16 bi_11 ?_
    refine zr_icmp_ge (pc := 18) (tgt := 35) hC dX7_search_18 (by decide) (fun c_ => ?_) (fun c_ => ?_)
    · exact hk35 v3 s
    · refine zr_aload_n (pc := 21) (i := 2) 2 hC dX7_search_21 rfl rfl ?_
      refine zr_iload_n (pc := 22) (i := 3) 3 hC dX7_search_22 rfl rfl ?_
      refine zr_callV (pc := 23) (As := fun ad => [.int v3]) (st1 := []) hC (Nat.le_of_ble_eq_true rfl) (kX10_alive _ hw v3 _) (Nat.le_of_ble_eq_true rfl) mc_yX10_alive m_584 m_524 m_525 hw.1.1 hw.1.2 rfl rfl rfl rfl (Nat.le_of_ble_eq_true rfl) dX7_search_23 (fun y_4 s_4 => ?_)
      refine zr_if_ne (pc := 26) (tgt := 35) hC dX7_search_26 (by decide) (fun c_ => ?_) (fun c_ => ?_)
      · refine zr_iinc (pc := 29) (q := 3) (ls' := [(3, _), (0, _), (1, _), (2, _)]) hC dX7_search_29 rfl (inc_1 _) (nlt hN (Nat.le_of_ble_eq_true rfl)) rfl ?_
        refine zr_goto (pc := 32) (tgt := 15) hC dX7_search_32 (by decide) ?_
        refine zr_sub (ls' := [(0, _), (1, _), (2, _), (3, _)]) [1, 2, 3, 0] rfl ?_
        exact ih (v3 + (1 : Int32)) s_4
      · exact hk35 v3 s_4
def fX7_search_J35 (g : Nat) (w : Nat) (v3 : Int32) (s : St) : Option (Int32 × St) :=
  bd (fX11_put 63 (0 : Int32) v3 s) (fun y_6 s_6 =>
    bd (fX7_fillFrom g w 9 (1 : Int32) (jshl (1 : Int32) v3) s_6) (fun y_7 s_7 =>
    some ((s_7 62 4), s_7)))
set_option maxRecDepth 100000 in
set_option maxHeartbeats 4000000 in
theorem tX7_search_J35 (g : Nat) (w : Nat) (v3 : Int32) (X : KX) (hC : Ctx X RX7 cX7_search FULL 20 0) (hR : RC X (some .int)) (hN : X_nL X = 4) (hg : isLand g) (hw : isWd w) (s : St) : Zr X (QFN X (some .int)) 0 s 35 [(0, .ref (X_ad X 62)), (1, .ref (X_ad X g)), (2, .ref (X_ad X w)), (3, .int v3)] [] (fX7_search_J35 g w v3 s) := by
  rw [fX7_search_J35]
  refine zr_aload_n (pc := 35) (i := 0) 0 hC dX7_search_35 rfl rfl ?_
  refine zr_getR (pc := 36) (j := 0) (k1 := 63) hC mem_62 lay_62 rfl rfl (Nat.le_of_ble_eq_true rfl) iX7 m_339 dX7_search_36 ?_
  refine zr_iconst (pc := 39) (v := (0 : Int32)) hC dX7_search_39 ic_0 ?_
  refine zr_iload_n (pc := 40) (i := 3) 3 hC dX7_search_40 rfl rfl ?_
  refine zr_callSNv (pc := 41) (As := fun ad => [.ref (ad 63), .int (0 : Int32), .int v3]) (st1 := []) hC (Nat.le_of_ble_eq_true rfl) (kX11_put _ ar_63 (0 : Int32) v3 _) (Nat.le_of_ble_eq_true rfl) mc_yX11_put m_585 m_141 rfl rfl (Nat.le_of_ble_eq_true rfl) dX7_search_41 (fun y_6 s_6 => ?_)
  refine zr_aload_n (pc := 44) (i := 0) 0 hC dX7_search_44 rfl rfl ?_
  refine zr_aload_n (pc := 45) (i := 1) 1 hC dX7_search_45 rfl rfl ?_
  refine zr_aload_n (pc := 46) (i := 2) 2 hC dX7_search_46 rfl rfl ?_
  refine zr_iconst (pc := 47) (v := (1 : Int32)) hC dX7_search_47 ic_1 ?_
  refine zr_iconst (pc := 48) (v := (1 : Int32)) hC dX7_search_48 ic_1 ?_
  refine zr_iload_n (pc := 49) (i := 3) 3 hC dX7_search_49 rfl rfl ?_
  refine zr_ishl (pc := 50) hC dX7_search_50 ?_
  refine zr_callVv (pc := 51) (As := fun ad => [.ref (ad g), .ref (ad w), .int (1 : Int32), .int (jshl (1 : Int32) v3)]) (st1 := []) hC (Nat.le_of_ble_eq_true rfl) (kX7_fillFrom _ hg hw 9 (1 : Int32) (jshl (1 : Int32) v3) _) (Nat.le_of_ble_eq_true rfl) mc_yX7_fillFrom m_586 m_588 m_p6 mem_62 lay_62 rfl rfl rfl rfl (Nat.le_of_ble_eq_true rfl) dX7_search_51 (fun y_7 s_7 => ?_)
  refine zr_aload_n (pc := 54) (i := 0) 0 hC dX7_search_54 rfl rfl ?_
  refine zr_getI (pc := 55) (j := 4) hC mem_62 lay_62 rfl rfl (Nat.le_of_ble_eq_true rfl) iX7 m_345 dX7_search_55 ?_
  exact zr_iret (pc := 58) hC hR dX7_search_58
def fX7_search (g : Nat) (w : Nat) (s : St) : Option (Int32 × St) :=
  bd (fX10_manyAlive w s) (fun y_1 s_1 =>
    let s_2 := wr s_1 62 3 y_1;
    let s_3 := wr s_2 62 4 (0 : Int32);
    fX7_search_L15 (fun v3_5 s_5 => fX7_search_J35 g w v3_5 s_5) g w FU (0 : Int32) s_3)
set_option maxRecDepth 100000 in
set_option maxHeartbeats 4000000 in
theorem kX7_search (l : Launch)  {g : Nat} {w : Nat} (hg : isLand g) (hw : isWd w) (s : St) : CN l yX7_search cX7_search 4 (some .int) 20 FULL (fun ad => [.ref (ad 62), .ref (ad g), .ref (ad w)]) s (fX7_search g w s) := by
  refine cn_of (by decide) (fun _ => (Nat.le_of_ble_eq_true rfl)) (fun X hC hR hl hN => ?_)
  subst hl
  show Zr X (QFN X (some .int)) 0 s 0 [(0, .ref (X_ad X 62)), (1, .ref (X_ad X g)), (2, .ref (X_ad X w))] [] _
  rw [fX7_search]
  refine zr_aload_n (pc := 0) (i := 0) 0 hC dX7_search_0 rfl rfl ?_
  refine zr_aload_n (pc := 1) (i := 2) 2 hC dX7_search_1 rfl rfl ?_
  refine zr_callV (pc := 2) (As := fun ad => []) (st1 := [.ref (X_ad X 62)]) hC (Nat.le_of_ble_eq_true rfl) (kX10_manyAlive _ hw _) (Nat.le_of_ble_eq_true rfl) mc_yX10_manyAlive m_583 m_546 m_547 hw.1.1 hw.1.2 rfl rfl rfl rfl (Nat.le_of_ble_eq_true rfl) dX7_search_2 (fun y_1 s_1 => ?_)
  refine zr_putInt (pc := 5) (j := 3) hC mem_62 lay_62 rfl rfl (Nat.le_of_ble_eq_true rfl) iX7 tyX7_ok nmX7 m_344 rfl (by decide +kernel) dX7_search_5 ?_
  refine zr_aload_n (pc := 8) (i := 0) 0 hC dX7_search_8 rfl rfl ?_
  refine zr_iconst (pc := 9) (v := (0 : Int32)) hC dX7_search_9 ic_0 ?_
  refine zr_putInt (pc := 10) (j := 4) hC mem_62 lay_62 rfl rfl (Nat.le_of_ble_eq_true rfl) iX7 tyX7_ok nmX7 m_345 rfl (by decide +kernel) dX7_search_10 ?_
  refine zr_iconst (pc := 13) (v := (0 : Int32)) hC dX7_search_13 ic_0 ?_
  refine zr_istore_n (pc := 14) (i := 3) (ls' := [(3, _), (0, _), (1, _), (2, _)]) hC dX7_search_14 rfl (nlt hN (Nat.le_of_ble_eq_true rfl)) rfl ?_
  refine zr_sub (ls' := [(0, _), (1, _), (2, _), (3, _)]) [1, 2, 3, 0] rfl ?_
  refine tX7_search_L15 g w _ X hC hR hN hg hw (fun v3_5 s_5 => ?_) FU (0 : Int32) _
  · exact tX7_search_J35 g w v3_5 X hC hR hN hg hw  _
def fX11_seatings (s : St) : Option (Int32 × St) :=
  bd (fX10_manyAlive 33 s) (fun y_1 s_1 =>
    if y_1 < (3 : Int32) then
    (some ((-2 : Int32), s_1))
  else
    (if y_1 ≤ (7 : Int32) then
    (bd (fX7_search 21 33 s_1) (fun y_2 s_2 =>
    some (y_2, s_2)))
  else
    (some ((-2 : Int32), s_1))))
set_option maxRecDepth 100000 in
set_option maxHeartbeats 4000000 in
theorem kX11_seatings (l : Launch)  (s : St) : CN l yX11_seatings cX11_seatings 2 (some .int) 21 FULL (fun ad => [.ref (ad 0)]) s (fX11_seatings s) := by
  refine cn_of (by decide) (fun _ => (Nat.le_of_ble_eq_true rfl)) (fun X hC hR hl hN => ?_)
  subst hl
  show Zr X (QFN X (some .int)) 0 s 0 [(0, .ref (X_ad X 0))] [] _
  rw [fX11_seatings]
  refine zr_aload_n (pc := 0) (i := 0) 0 hC dX11_seatings_0 rfl rfl ?_
  refine zr_getR (pc := 1) (j := 5) (k1 := 32) hC mem_0 lay_0 rfl rfl (Nat.le_of_ble_eq_true rfl) iX11 m_387 dX11_seatings_1 ?_
  refine zr_getR (pc := 4) (j := 0) (k1 := 33) hC mem_32 lay_32 rfl rfl (Nat.le_of_ble_eq_true rfl) iX8 m_215 dX11_seatings_4 ?_
  refine zr_callV (pc := 7) (As := fun ad => []) (st1 := []) hC (Nat.le_of_ble_eq_true rfl) (kX10_manyAlive _ is_33 _) (Nat.le_of_ble_eq_true rfl) mc_yX10_manyAlive m_545 m_546 m_547 mem_33 lay_33 rfl rfl rfl rfl (Nat.le_of_ble_eq_true rfl) dX11_seatings_7 (fun y_1 s_1 => ?_)
  refine zr_istore_n (pc := 10) (i := 1) (ls' := [(1, _), (0, _)]) hC dX11_seatings_10 rfl (nlt hN (Nat.le_of_ble_eq_true rfl)) rfl ?_
  refine zr_iload_n (pc := 11) (i := 1) 0 hC dX11_seatings_11 rfl rfl ?_
  refine zr_iconst (pc := 12) (v := (3 : Int32)) hC dX11_seatings_12 ic_3 ?_
  refine zr_icmp_lt (pc := 13) (tgt := 22) hC dX11_seatings_13 (by decide) (fun c_ => ?_) (fun c_ => ?_)
  · refine zr_bipush (pc := 22) (v := (-2 : Int32)) hC dX11_seatings_22 bi_m2 ?_
    exact zr_iret (pc := 24) hC hR dX11_seatings_24
  · refine zr_iload_n (pc := 16) (i := 1) 0 hC dX11_seatings_16 rfl rfl ?_
    refine zr_bipush (pc := 17) (v := (7 : Int32)) hC dX11_seatings_17 bi_7 ?_
    refine zr_icmp_le (pc := 19) (tgt := 25) hC dX11_seatings_19 (by decide) (fun c_ => ?_) (fun c_ => ?_)
    · refine zr_aload_n (pc := 25) (i := 0) 1 hC dX11_seatings_25 rfl rfl ?_
      refine zr_getR (pc := 26) (j := 12) (k1 := 62) hC mem_0 lay_0 rfl rfl (Nat.le_of_ble_eq_true rfl) iX11 m_394 dX11_seatings_26 ?_
      refine zr_aload_n (pc := 29) (i := 0) 1 hC dX11_seatings_29 rfl rfl ?_
      refine zr_getR (pc := 30) (j := 4) (k1 := 21) hC mem_0 lay_0 rfl rfl (Nat.le_of_ble_eq_true rfl) iX11 m_386 dX11_seatings_30 ?_
      refine zr_aload_n (pc := 33) (i := 0) 1 hC dX11_seatings_33 rfl rfl ?_
      refine zr_getR (pc := 34) (j := 5) (k1 := 32) hC mem_0 lay_0 rfl rfl (Nat.le_of_ble_eq_true rfl) iX11 m_387 dX11_seatings_34 ?_
      refine zr_getR (pc := 37) (j := 0) (k1 := 33) hC mem_32 lay_32 rfl rfl (Nat.le_of_ble_eq_true rfl) iX8 m_215 dX11_seatings_37 ?_
      refine zr_callV (pc := 40) (As := fun ad => [.ref (ad 21), .ref (ad 33)]) (st1 := []) hC (Nat.le_of_ble_eq_true rfl) (kX7_search _ is_21 is_33 _) (Nat.le_of_ble_eq_true rfl) mc_yX7_search m_579 m_580 m_581 mem_62 lay_62 rfl rfl rfl rfl (Nat.le_of_ble_eq_true rfl) dX11_seatings_40 (fun y_2 s_2 => ?_)
      exact zr_iret (pc := 43) hC hR dX11_seatings_43
    · refine zr_bipush (pc := 22) (v := (-2 : Int32)) hC dX11_seatings_22 bi_m2 ?_
      exact zr_iret (pc := 24) hC hR dX11_seatings_24
def fX11_forget (s : St) : Option (Int32 × St) :=
  if (1 : Int32) ≤ (s 32 6) then
    (let s_1 := wr s 32 6 ((s 32 6) - (1 : Int32));
    some ((s_1 32 6), s_1))
  else
    (some ((-1 : Int32), s))
set_option maxRecDepth 100000 in
set_option maxHeartbeats 4000000 in
theorem kX11_forget (l : Launch)  (s : St) : CN l yX11_forget cX11_forget 1 (some .int) 1 FULL (fun ad => [.ref (ad 0)]) s (fX11_forget s) := by
  refine cn_of (by decide) (fun _ => (Nat.le_of_ble_eq_true rfl)) (fun X hC hR hl hN => ?_)
  subst hl
  show Zr X (QFN X (some .int)) 0 s 0 [(0, .ref (X_ad X 0))] [] _
  rw [fX11_forget]
  refine zr_aload_n (pc := 0) (i := 0) 0 hC dX11_forget_0 rfl rfl ?_
  refine zr_getR (pc := 1) (j := 5) (k1 := 32) hC mem_0 lay_0 rfl rfl (Nat.le_of_ble_eq_true rfl) iX11 m_387 dX11_forget_1 ?_
  refine zr_getI (pc := 4) (j := 6) hC mem_32 lay_32 rfl rfl (Nat.le_of_ble_eq_true rfl) iX8 m_226 dX11_forget_4 ?_
  refine zr_iconst (pc := 7) (v := (1 : Int32)) hC dX11_forget_7 ic_1 ?_
  refine zr_icmp_ge (pc := 8) (tgt := 13) hC dX11_forget_8 (by decide) (fun c_ => ?_) (fun c_ => ?_)
  · refine zr_aload_n (pc := 13) (i := 0) 0 hC dX11_forget_13 rfl rfl ?_
    refine zr_getR (pc := 14) (j := 5) (k1 := 32) hC mem_0 lay_0 rfl rfl (Nat.le_of_ble_eq_true rfl) iX11 m_387 dX11_forget_14 ?_
    refine zr_dup (pc := 17) hC dX11_forget_17 rfl ?_
    refine zr_getI (pc := 18) (j := 6) hC mem_32 lay_32 rfl rfl (Nat.le_of_ble_eq_true rfl) iX8 m_226 dX11_forget_18 ?_
    refine zr_iconst (pc := 21) (v := (1 : Int32)) hC dX11_forget_21 ic_1 ?_
    refine zr_isub (pc := 22) hC dX11_forget_22 ?_
    refine zr_putInt (pc := 23) (j := 6) hC mem_32 lay_32 rfl rfl (Nat.le_of_ble_eq_true rfl) iX8 tyX8_ok nmX8 m_226 rfl (by decide +kernel) dX11_forget_23 ?_
    refine zr_aload_n (pc := 26) (i := 0) 0 hC dX11_forget_26 rfl rfl ?_
    refine zr_getR (pc := 27) (j := 5) (k1 := 32) hC mem_0 lay_0 rfl rfl (Nat.le_of_ble_eq_true rfl) iX11 m_387 dX11_forget_27 ?_
    refine zr_getI (pc := 30) (j := 6) hC mem_32 lay_32 rfl rfl (Nat.le_of_ble_eq_true rfl) iX8 m_226 dX11_forget_30 ?_
    exact zr_iret (pc := 33) hC hR dX11_forget_33
  · refine zr_iconst (pc := 11) (v := (-1 : Int32)) hC dX11_forget_11 ic_m1 ?_
    exact zr_iret (pc := 12) hC hR dX11_forget_12
def fX10_copyFrom (w : Nat) (w1 : Nat) (s : St) : Option (Int32 × St) :=
  bd (fX11_copyRow (w1 + 1) (w + 1) s) (fun y_1 s_1 =>
    some (0, s_1))
set_option maxRecDepth 100000 in
set_option maxHeartbeats 4000000 in
theorem kX10_copyFrom (l : Launch)  {w : Nat} {w1 : Nat} (hw : isWd w) (hw1 : isWd w1) (s : St) : CN l yX10_copyFrom cX10_copyFrom 2 none 9 FULL (fun ad => [.ref (ad w), .ref (ad w1)]) s (fX10_copyFrom w w1 s) := by
  refine cn_of (by decide) (fun _ => (Nat.le_of_ble_eq_true rfl)) (fun X hC hR hl hN => ?_)
  subst hl
  show Zr X (QFN X none) 0 s 0 [(0, .ref (X_ad X w)), (1, .ref (X_ad X w1))] [] _
  rw [fX10_copyFrom]
  refine zr_aload_n (pc := 0) (i := 1) 1 hC dX10_copyFrom_0 rfl rfl ?_
  refine zr_getR (pc := 1) (j := 0) (k1 := (w1 + 1)) hC hw1.1.1 hw1.1.2 rfl rfl (Nat.le_of_ble_eq_true rfl) iX10 m_143 dX10_copyFrom_1 ?_
  refine zr_aload_n (pc := 4) (i := 0) 0 hC dX10_copyFrom_4 rfl rfl ?_
  refine zr_getR (pc := 5) (j := 0) (k1 := (w + 1)) hC hw.1.1 hw.1.2 rfl rfl (Nat.le_of_ble_eq_true rfl) iX10 m_143 dX10_copyFrom_5 ?_
  refine zr_callSNv (pc := 8) (As := fun ad => [.ref (ad (w1 + 1)), .ref (ad (w + 1))]) (st1 := []) hC (Nat.le_of_ble_eq_true rfl) (kX11_copyRow _ (isArr_of hw1.2) (isArr_of hw.2) _) (Nat.le_of_ble_eq_true rfl) mc_yX11_copyRow m_622 m_567 rfl rfl (Nat.le_of_ble_eq_true rfl) dX10_copyFrom_8 (fun y_1 s_1 => ?_)
  exact zr_vret (pc := 11) hC hR dX10_copyFrom_11
def fX8_copyFrom (o : Nat) (o1 : Nat) (s : St) : Option (Int32 × St) :=
  bd (fX10_copyFrom (o + 1) (o1 + 1) s) (fun y_1 s_1 =>
    bd (fX11_copyRow (o1 + 3) (o + 3) s_1) (fun y_2 s_2 =>
    let s_3 := wr s_2 o 2 (s_2 o1 2);
    let s_4 := wr s_3 o 3 (s_3 o1 3);
    bd (fX11_copyRow (o1 + 4) (o + 4) s_4) (fun y_5 s_5 =>
    bd (fX11_copyRow (o1 + 5) (o + 5) s_5) (fun y_6 s_6 =>
    let s_7 := wr s_6 o 6 (s_6 o1 6);
    bd (fX11_copyRow (o1 + 6) (o + 6) s_7) (fun y_8 s_8 =>
    some (0, s_8))))))
set_option maxRecDepth 100000 in
set_option maxHeartbeats 4000000 in
theorem kX8_copyFrom (l : Launch)  {o : Nat} {o1 : Nat} (ho : isStory o) (ho1 : isStory o1) (s : St) : CN l yX8_copyFrom cX8_copyFrom 2 none 10 FULL (fun ad => [.ref (ad o), .ref (ad o1)]) s (fX8_copyFrom o o1 s) := by
  refine cn_of (by decide) (fun _ => (Nat.le_of_ble_eq_true rfl)) (fun X hC hR hl hN => ?_)
  subst hl
  show Zr X (QFN X none) 0 s 0 [(0, .ref (X_ad X o)), (1, .ref (X_ad X o1))] [] _
  rw [fX8_copyFrom]
  refine zr_aload_n (pc := 0) (i := 0) 0 hC dX8_copyFrom_0 rfl rfl ?_
  refine zr_getR (pc := 1) (j := 0) (k1 := (o + 1)) hC ho.1.1 ho.1.2 rfl rfl (Nat.le_of_ble_eq_true rfl) iX8 m_213 dX8_copyFrom_1 ?_
  refine zr_aload_n (pc := 4) (i := 1) 1 hC dX8_copyFrom_4 rfl rfl ?_
  refine zr_getR (pc := 5) (j := 0) (k1 := (o1 + 1)) hC ho1.1.1 ho1.1.2 rfl rfl (Nat.le_of_ble_eq_true rfl) iX8 m_213 dX8_copyFrom_5 ?_
  refine zr_callVv (pc := 8) (As := fun ad => [.ref (ad (o1 + 1))]) (st1 := []) hC (Nat.le_of_ble_eq_true rfl) (kX10_copyFrom _ ho.2.1 ho1.2.1 _) (Nat.le_of_ble_eq_true rfl) mc_yX10_copyFrom m_618 m_619 m_620 ho.2.1.1.1 ho.2.1.1.2 rfl rfl rfl rfl (Nat.le_of_ble_eq_true rfl) dX8_copyFrom_8 (fun y_1 s_1 => ?_)
  refine zr_aload_n (pc := 11) (i := 1) 1 hC dX8_copyFrom_11 rfl rfl ?_
  refine zr_getR (pc := 12) (j := 1) (k1 := (o1 + 3)) hC ho1.1.1 ho1.1.2 rfl rfl (Nat.le_of_ble_eq_true rfl) iX8 m_216 dX8_copyFrom_12 ?_
  refine zr_aload_n (pc := 15) (i := 0) 0 hC dX8_copyFrom_15 rfl rfl ?_
  refine zr_getR (pc := 16) (j := 1) (k1 := (o + 3)) hC ho.1.1 ho.1.2 rfl rfl (Nat.le_of_ble_eq_true rfl) iX8 m_216 dX8_copyFrom_16 ?_
  refine zr_callSNv (pc := 19) (As := fun ad => [.ref (ad (o1 + 3)), .ref (ad (o + 3))]) (st1 := []) hC (Nat.le_of_ble_eq_true rfl) (kX11_copyRow _ (isArr_of ho1.2.2.1) (isArr_of ho.2.2.1) _) (Nat.le_of_ble_eq_true rfl) mc_yX11_copyRow m_623 m_567 rfl rfl (Nat.le_of_ble_eq_true rfl) dX8_copyFrom_19 (fun y_2 s_2 => ?_)
  refine zr_aload_n (pc := 22) (i := 0) 0 hC dX8_copyFrom_22 rfl rfl ?_
  refine zr_aload_n (pc := 23) (i := 1) 1 hC dX8_copyFrom_23 rfl rfl ?_
  refine zr_getI (pc := 24) (j := 2) hC ho1.1.1 ho1.1.2 rfl rfl (Nat.le_of_ble_eq_true rfl) iX8 m_217 dX8_copyFrom_24 ?_
  refine zr_putInt (pc := 27) (j := 2) hC ho.1.1 ho.1.2 rfl rfl (Nat.le_of_ble_eq_true rfl) iX8 tyX8_ok nmX8 m_217 rfl (by decide +kernel) dX8_copyFrom_27 ?_
  refine zr_aload_n (pc := 30) (i := 0) 0 hC dX8_copyFrom_30 rfl rfl ?_
  refine zr_aload_n (pc := 31) (i := 1) 1 hC dX8_copyFrom_31 rfl rfl ?_
  refine zr_getI (pc := 32) (j := 3) hC ho1.1.1 ho1.1.2 rfl rfl (Nat.le_of_ble_eq_true rfl) iX8 m_218 dX8_copyFrom_32 ?_
  refine zr_putInt (pc := 35) (j := 3) hC ho.1.1 ho.1.2 rfl rfl (Nat.le_of_ble_eq_true rfl) iX8 tyX8_ok nmX8 m_218 rfl (by decide +kernel) dX8_copyFrom_35 ?_
  refine zr_aload_n (pc := 38) (i := 1) 1 hC dX8_copyFrom_38 rfl rfl ?_
  refine zr_getR (pc := 39) (j := 4) (k1 := (o1 + 4)) hC ho1.1.1 ho1.1.2 rfl rfl (Nat.le_of_ble_eq_true rfl) iX8 m_220 dX8_copyFrom_39 ?_
  refine zr_aload_n (pc := 42) (i := 0) 0 hC dX8_copyFrom_42 rfl rfl ?_
  refine zr_getR (pc := 43) (j := 4) (k1 := (o + 4)) hC ho.1.1 ho.1.2 rfl rfl (Nat.le_of_ble_eq_true rfl) iX8 m_220 dX8_copyFrom_43 ?_
  refine zr_callSNv (pc := 46) (As := fun ad => [.ref (ad (o1 + 4)), .ref (ad (o + 4))]) (st1 := []) hC (Nat.le_of_ble_eq_true rfl) (kX11_copyRow _ (isArr_of ho1.2.2.2.1) (isArr_of ho.2.2.2.1) _) (Nat.le_of_ble_eq_true rfl) mc_yX11_copyRow m_623 m_567 rfl rfl (Nat.le_of_ble_eq_true rfl) dX8_copyFrom_46 (fun y_5 s_5 => ?_)
  refine zr_aload_n (pc := 49) (i := 1) 1 hC dX8_copyFrom_49 rfl rfl ?_
  refine zr_getR (pc := 50) (j := 5) (k1 := (o1 + 5)) hC ho1.1.1 ho1.1.2 rfl rfl (Nat.le_of_ble_eq_true rfl) iX8 m_222 dX8_copyFrom_50 ?_
  refine zr_aload_n (pc := 53) (i := 0) 0 hC dX8_copyFrom_53 rfl rfl ?_
  refine zr_getR (pc := 54) (j := 5) (k1 := (o + 5)) hC ho.1.1 ho.1.2 rfl rfl (Nat.le_of_ble_eq_true rfl) iX8 m_222 dX8_copyFrom_54 ?_
  refine zr_callSNv (pc := 57) (As := fun ad => [.ref (ad (o1 + 5)), .ref (ad (o + 5))]) (st1 := []) hC (Nat.le_of_ble_eq_true rfl) (kX11_copyRow _ (isArr_of ho1.2.2.2.2.1) (isArr_of ho.2.2.2.2.1) _) (Nat.le_of_ble_eq_true rfl) mc_yX11_copyRow m_623 m_567 rfl rfl (Nat.le_of_ble_eq_true rfl) dX8_copyFrom_57 (fun y_6 s_6 => ?_)
  refine zr_aload_n (pc := 60) (i := 0) 0 hC dX8_copyFrom_60 rfl rfl ?_
  refine zr_aload_n (pc := 61) (i := 1) 1 hC dX8_copyFrom_61 rfl rfl ?_
  refine zr_getI (pc := 62) (j := 6) hC ho1.1.1 ho1.1.2 rfl rfl (Nat.le_of_ble_eq_true rfl) iX8 m_224 dX8_copyFrom_62 ?_
  refine zr_putInt (pc := 65) (j := 6) hC ho.1.1 ho.1.2 rfl rfl (Nat.le_of_ble_eq_true rfl) iX8 tyX8_ok nmX8 m_224 rfl (by decide +kernel) dX8_copyFrom_65 ?_
  refine zr_aload_n (pc := 68) (i := 1) 1 hC dX8_copyFrom_68 rfl rfl ?_
  refine zr_getR (pc := 69) (j := 7) (k1 := (o1 + 6)) hC ho1.1.1 ho1.1.2 rfl rfl (Nat.le_of_ble_eq_true rfl) iX8 m_227 dX8_copyFrom_69 ?_
  refine zr_aload_n (pc := 72) (i := 0) 0 hC dX8_copyFrom_72 rfl rfl ?_
  refine zr_getR (pc := 73) (j := 7) (k1 := (o + 6)) hC ho.1.1 ho.1.2 rfl rfl (Nat.le_of_ble_eq_true rfl) iX8 m_227 dX8_copyFrom_73 ?_
  refine zr_callSNv (pc := 76) (As := fun ad => [.ref (ad (o1 + 6)), .ref (ad (o + 6))]) (st1 := []) hC (Nat.le_of_ble_eq_true rfl) (kX11_copyRow _ (isArr_of ho1.2.2.2.2.2) (isArr_of ho.2.2.2.2.2) _) (Nat.le_of_ble_eq_true rfl) mc_yX11_copyRow m_623 m_567 rfl rfl (Nat.le_of_ble_eq_true rfl) dX8_copyFrom_76 (fun y_8 s_8 => ?_)
  exact zr_vret (pc := 79) hC hR dX8_copyFrom_79
def fX11_image (s : St) : Option (Int32 × St) :=
  bd (fX8_copyFrom 39 32 s) (fun y_1 s_1 =>
    let s_2 := wr s_1 0 7 (1 : Int32);
    some (0, s_2))
set_option maxRecDepth 100000 in
set_option maxHeartbeats 4000000 in
theorem kX11_image (l : Launch)  (s : St) : CN l yX11_image cX11_image 1 none 11 FULL (fun ad => [.ref (ad 0)]) s (fX11_image s) := by
  refine cn_of (by decide) (fun _ => (Nat.le_of_ble_eq_true rfl)) (fun X hC hR hl hN => ?_)
  subst hl
  show Zr X (QFN X none) 0 s 0 [(0, .ref (X_ad X 0))] [] _
  rw [fX11_image]
  refine zr_aload_n (pc := 0) (i := 0) 0 hC dX11_image_0 rfl rfl ?_
  refine zr_getR (pc := 1) (j := 6) (k1 := 39) hC mem_0 lay_0 rfl rfl (Nat.le_of_ble_eq_true rfl) iX11 m_388 dX11_image_1 ?_
  refine zr_aload_n (pc := 4) (i := 0) 0 hC dX11_image_4 rfl rfl ?_
  refine zr_getR (pc := 5) (j := 5) (k1 := 32) hC mem_0 lay_0 rfl rfl (Nat.le_of_ble_eq_true rfl) iX11 m_387 dX11_image_5 ?_
  refine zr_callVv (pc := 8) (As := fun ad => [.ref (ad 32)]) (st1 := []) hC (Nat.le_of_ble_eq_true rfl) (kX8_copyFrom _ is_39 is_32 _) (Nat.le_of_ble_eq_true rfl) mc_yX8_copyFrom m_614 m_615 m_616 mem_39 lay_39 rfl rfl rfl rfl (Nat.le_of_ble_eq_true rfl) dX11_image_8 (fun y_1 s_1 => ?_)
  refine zr_aload_n (pc := 11) (i := 0) 0 hC dX11_image_11 rfl rfl ?_
  refine zr_iconst (pc := 12) (v := (1 : Int32)) hC dX11_image_12 ic_1 ?_
  refine zr_putB (by decide) (pc := 13) (j := 7) hC mem_0 lay_0 rfl rfl (Nat.le_of_ble_eq_true rfl) iX11 tyX11_ok nmX11 m_389 rfl (by decide +kernel) dX11_image_13 ?_
  exact zr_vret (pc := 16) hC hR dX11_image_16
def fX11_restore (s : St) : Option (Int32 × St) :=
  if (s 0 7) = 0 then
    (some ((0 : Int32), s))
  else
    (bd (fX8_copyFrom 32 39 s) (fun y_1 s_1 =>
    some ((1 : Int32), s_1)))
set_option maxRecDepth 100000 in
set_option maxHeartbeats 4000000 in
theorem kX11_restore (l : Launch)  (s : St) : CN l yX11_restore cX11_restore 1 (some .boolean) 11 FULL (fun ad => [.ref (ad 0)]) s (fX11_restore s) := by
  refine cn_of (by decide) (fun _ => (Nat.le_of_ble_eq_true rfl)) (fun X hC hR hl hN => ?_)
  subst hl
  show Zr X (QFN X (some .boolean)) 0 s 0 [(0, .ref (X_ad X 0))] [] _
  rw [fX11_restore]
  refine zr_aload_n (pc := 0) (i := 0) 0 hC dX11_restore_0 rfl rfl ?_
  refine zr_getI (pc := 1) (j := 7) hC mem_0 lay_0 rfl rfl (Nat.le_of_ble_eq_true rfl) iX11 m_389 dX11_restore_1 ?_
  refine zr_if_ne (pc := 4) (tgt := 9) hC dX11_restore_4 (by decide) (fun c_ => ?_) (fun c_ => ?_)
  · refine zr_iconst (pc := 7) (v := (0 : Int32)) hC dX11_restore_7 ic_0 ?_
    exact zr_zret (pc := 8) (by decide) hC hR dX11_restore_8
  · refine zr_aload_n (pc := 9) (i := 0) 0 hC dX11_restore_9 rfl rfl ?_
    refine zr_getR (pc := 10) (j := 5) (k1 := 32) hC mem_0 lay_0 rfl rfl (Nat.le_of_ble_eq_true rfl) iX11 m_387 dX11_restore_10 ?_
    refine zr_aload_n (pc := 13) (i := 0) 0 hC dX11_restore_13 rfl rfl ?_
    refine zr_getR (pc := 14) (j := 6) (k1 := 39) hC mem_0 lay_0 rfl rfl (Nat.le_of_ble_eq_true rfl) iX11 m_388 dX11_restore_14 ?_
    refine zr_callVv (pc := 17) (As := fun ad => [.ref (ad 39)]) (st1 := []) hC (Nat.le_of_ble_eq_true rfl) (kX8_copyFrom _ is_32 is_39 _) (Nat.le_of_ble_eq_true rfl) mc_yX8_copyFrom m_614 m_615 m_616 mem_32 lay_32 rfl rfl rfl rfl (Nat.le_of_ble_eq_true rfl) dX11_restore_17 (fun y_1 s_1 => ?_)
    refine zr_iconst (pc := 20) (v := (1 : Int32)) hC dX11_restore_20 ic_1 ?_
    exact zr_zret (pc := 21) (by decide) hC hR dX11_restore_21
def fX9_kindOf_J32 (v0 : Int32) (s : St) : Option (Int32 × St) :=
  if v0 = (10 : Int32) then
    (some ((-3 : Int32), s))
  else
    (if v0 = (32 : Int32) then
    (some ((-3 : Int32), s))
  else
    (if v0 = (40 : Int32) then
    (some (v0, s))
  else
    (if v0 = (41 : Int32) then
    (some (v0, s))
  else
    (if v0 = (42 : Int32) then
    (some (v0, s))
  else
    (if v0 = (43 : Int32) then
    (some (v0, s))
  else
    (if v0 = (45 : Int32) then
    (some (v0, s))
  else
    (if v0 = (47 : Int32) then
    (some (v0, s))
  else
    (if v0 = (59 : Int32) then
    (some (v0, s))
  else
    (if v0 = (60 : Int32) then
    (some (v0, s))
  else
    (if v0 = (61 : Int32) then
    (some (v0, s))
  else
    (some ((-2 : Int32), s))))))))))))
set_option maxRecDepth 100000 in
set_option maxHeartbeats 4000000 in
theorem tX9_kindOf_J32 (v0 : Int32) (X : KX) (hC : Ctx X RX9 cX9_kindOf FULL 1 0) (hR : RC X (some .int)) (hN : X_nL X = 1) (s : St) : Zr X (QFN X (some .int)) 0 s 32 [(0, .int v0)] [] (fX9_kindOf_J32 v0 s) := by
  rw [fX9_kindOf_J32]
  refine zr_iload_n (pc := 32) (i := 0) 0 hC dX9_kindOf_32 rfl rfl ?_
  refine zr_lcase (pc := 33) (v := (10 : Int32)) (off := 99) (tgt := 132) hC dX9_kindOf_33 (by decide) rfl (by decide) ?_ (fun e0 => ?_)
  · refine zr_bipush (pc := 132) (v := (-3 : Int32)) hC dX9_kindOf_132 bi_m3 ?_
    exact zr_iret (pc := 134) hC hR dX9_kindOf_134
  refine zr_lcase (pc := 33) (v := (32 : Int32)) (off := 99) (tgt := 132) hC dX9_kindOf_33 (by decide) rfl (by decide) ?_ (fun e1 => ?_)
  · refine zr_bipush (pc := 132) (v := (-3 : Int32)) hC dX9_kindOf_132 bi_m3 ?_
    exact zr_iret (pc := 134) hC hR dX9_kindOf_134
  refine zr_lcase (pc := 33) (v := (40 : Int32)) (off := 102) (tgt := 135) hC dX9_kindOf_33 (by decide) rfl (by decide) ?_ (fun e2 => ?_)
  · refine zr_iload_n (pc := 135) (i := 0) 0 hC dX9_kindOf_135 rfl rfl ?_
    exact zr_iret (pc := 136) hC hR dX9_kindOf_136
  refine zr_lcase (pc := 33) (v := (41 : Int32)) (off := 102) (tgt := 135) hC dX9_kindOf_33 (by decide) rfl (by decide) ?_ (fun e3 => ?_)
  · refine zr_iload_n (pc := 135) (i := 0) 0 hC dX9_kindOf_135 rfl rfl ?_
    exact zr_iret (pc := 136) hC hR dX9_kindOf_136
  refine zr_lcase (pc := 33) (v := (42 : Int32)) (off := 102) (tgt := 135) hC dX9_kindOf_33 (by decide) rfl (by decide) ?_ (fun e4 => ?_)
  · refine zr_iload_n (pc := 135) (i := 0) 0 hC dX9_kindOf_135 rfl rfl ?_
    exact zr_iret (pc := 136) hC hR dX9_kindOf_136
  refine zr_lcase (pc := 33) (v := (43 : Int32)) (off := 102) (tgt := 135) hC dX9_kindOf_33 (by decide) rfl (by decide) ?_ (fun e5 => ?_)
  · refine zr_iload_n (pc := 135) (i := 0) 0 hC dX9_kindOf_135 rfl rfl ?_
    exact zr_iret (pc := 136) hC hR dX9_kindOf_136
  refine zr_lcase (pc := 33) (v := (45 : Int32)) (off := 102) (tgt := 135) hC dX9_kindOf_33 (by decide) rfl (by decide) ?_ (fun e6 => ?_)
  · refine zr_iload_n (pc := 135) (i := 0) 0 hC dX9_kindOf_135 rfl rfl ?_
    exact zr_iret (pc := 136) hC hR dX9_kindOf_136
  refine zr_lcase (pc := 33) (v := (47 : Int32)) (off := 102) (tgt := 135) hC dX9_kindOf_33 (by decide) rfl (by decide) ?_ (fun e7 => ?_)
  · refine zr_iload_n (pc := 135) (i := 0) 0 hC dX9_kindOf_135 rfl rfl ?_
    exact zr_iret (pc := 136) hC hR dX9_kindOf_136
  refine zr_lcase (pc := 33) (v := (59 : Int32)) (off := 102) (tgt := 135) hC dX9_kindOf_33 (by decide) rfl (by decide) ?_ (fun e8 => ?_)
  · refine zr_iload_n (pc := 135) (i := 0) 0 hC dX9_kindOf_135 rfl rfl ?_
    exact zr_iret (pc := 136) hC hR dX9_kindOf_136
  refine zr_lcase (pc := 33) (v := (60 : Int32)) (off := 102) (tgt := 135) hC dX9_kindOf_33 (by decide) rfl (by decide) ?_ (fun e9 => ?_)
  · refine zr_iload_n (pc := 135) (i := 0) 0 hC dX9_kindOf_135 rfl rfl ?_
    exact zr_iret (pc := 136) hC hR dX9_kindOf_136
  refine zr_lcase (pc := 33) (v := (61 : Int32)) (off := 102) (tgt := 135) hC dX9_kindOf_33 (by decide) rfl (by decide) ?_ (fun e10 => ?_)
  · refine zr_iload_n (pc := 135) (i := 0) 0 hC dX9_kindOf_135 rfl rfl ?_
    exact zr_iret (pc := 136) hC hR dX9_kindOf_136
  refine zr_ldef (pc := 33) (tgt := 137) [(10 : Int32), (32 : Int32), (40 : Int32), (41 : Int32), (42 : Int32), (43 : Int32), (45 : Int32), (47 : Int32), (59 : Int32), (60 : Int32), (61 : Int32)] hC dX9_kindOf_33 (by decide) (List.forall_mem_cons.mpr ⟨e0, List.forall_mem_cons.mpr ⟨e1, List.forall_mem_cons.mpr ⟨e2, List.forall_mem_cons.mpr ⟨e3, List.forall_mem_cons.mpr ⟨e4, List.forall_mem_cons.mpr ⟨e5, List.forall_mem_cons.mpr ⟨e6, List.forall_mem_cons.mpr ⟨e7, List.forall_mem_cons.mpr ⟨e8, List.forall_mem_cons.mpr ⟨e9, List.forall_mem_cons.mpr ⟨e10, fun _ h => absurd h List.not_mem_nil⟩⟩⟩⟩⟩⟩⟩⟩⟩⟩⟩) (by decide) (by decide) ?_
  refine zr_bipush (pc := 137) (v := (-2 : Int32)) hC dX9_kindOf_137 bi_m2 ?_
  exact zr_iret (pc := 139) hC hR dX9_kindOf_139
def fX9_kindOf_J16 (v0 : Int32) (s : St) : Option (Int32 × St) :=
  if v0 < (48 : Int32) then
    (fX9_kindOf_J32 v0 s)
  else
    (if (57 : Int32) < v0 then
    (fX9_kindOf_J32 v0 s)
  else
    (some ((200 : Int32), s)))
set_option maxRecDepth 100000 in
set_option maxHeartbeats 4000000 in
theorem tX9_kindOf_J16 (v0 : Int32) (X : KX) (hC : Ctx X RX9 cX9_kindOf FULL 1 0) (hR : RC X (some .int)) (hN : X_nL X = 1) (s : St) : Zr X (QFN X (some .int)) 0 s 16 [(0, .int v0)] [] (fX9_kindOf_J16 v0 s) := by
  rw [fX9_kindOf_J16]
  refine zr_iload_n (pc := 16) (i := 0) 0 hC dX9_kindOf_16 rfl rfl ?_
  refine zr_bipush (pc := 17) (v := (48 : Int32)) hC dX9_kindOf_17 bi_48 ?_
  refine zr_icmp_lt (pc := 19) (tgt := 32) hC dX9_kindOf_19 (by decide) (fun c_ => ?_) (fun c_ => ?_)
  · exact tX9_kindOf_J32 v0 X hC hR hN  _
  · refine zr_iload_n (pc := 22) (i := 0) 0 hC dX9_kindOf_22 rfl rfl ?_
    refine zr_bipush (pc := 23) (v := (57 : Int32)) hC dX9_kindOf_23 bi_57 ?_
    refine zr_icmp_gt (pc := 25) (tgt := 32) hC dX9_kindOf_25 (by decide) (fun c_ => ?_) (fun c_ => ?_)
    · exact tX9_kindOf_J32 v0 X hC hR hN  _
    · refine zr_sipush (pc := 28) (v := (200 : Int32)) hC dX9_kindOf_28 si_200 ?_
      exact zr_iret (pc := 31) hC hR dX9_kindOf_31
def fX9_kindOf (a0 : Int32) (s : St) : Option (Int32 × St) :=
  if a0 < (97 : Int32) then
    (fX9_kindOf_J16 a0 s)
  else
    (if (122 : Int32) < a0 then
    (fX9_kindOf_J16 a0 s)
  else
    (some ((300 : Int32), s)))
set_option maxRecDepth 100000 in
set_option maxHeartbeats 4000000 in
theorem kX9_kindOf (l : Launch)  (a0 : Int32) (s : St) : CN l yX9_kindOf cX9_kindOf 1 (some .int) 1 FULL (fun ad => [.int a0]) s (fX9_kindOf a0 s) := by
  refine cn_of (by decide) (fun _ => (Nat.le_of_ble_eq_true rfl)) (fun X hC hR hl hN => ?_)
  subst hl
  show Zr X (QFN X (some .int)) 0 s 0 [(0, .int a0)] [] _
  rw [fX9_kindOf]
  refine zr_iload_n (pc := 0) (i := 0) 0 hC dX9_kindOf_0 rfl rfl ?_
  refine zr_bipush (pc := 1) (v := (97 : Int32)) hC dX9_kindOf_1 bi_97 ?_
  refine zr_icmp_lt (pc := 3) (tgt := 16) hC dX9_kindOf_3 (by decide) (fun c_ => ?_) (fun c_ => ?_)
  · exact tX9_kindOf_J16 a0 X hC hR hN  _
  · refine zr_iload_n (pc := 6) (i := 0) 0 hC dX9_kindOf_6 rfl rfl ?_
    refine zr_bipush (pc := 7) (v := (122 : Int32)) hC dX9_kindOf_7 bi_122 ?_
    refine zr_icmp_gt (pc := 9) (tgt := 16) hC dX9_kindOf_9 (by decide) (fun c_ => ?_) (fun c_ => ?_)
    · exact tX9_kindOf_J16 a0 X hC hR hN  _
    · refine zr_sipush (pc := 12) (v := (300 : Int32)) hC dX9_kindOf_12 si_300 ?_
      exact zr_iret (pc := 15) hC hR dX9_kindOf_15
def fX9_add (a1 : Int32) (a2 : Int32) (s : St) : Option (Int32 × St) :=
  bd (fX11_put 17 (s 16 4) a1 s) (fun y_1 s_1 =>
    bd (fX11_put 18 (s_1 16 4) a2 s_1) (fun y_2 s_2 =>
    bd (fX11_put 20 (s_2 16 4) (1 : Int32) s_2) (fun y_3 s_3 =>
    bd (fX11_put 19 (s_3 16 4) (0 : Int32) s_3) (fun y_4 s_4 =>
    let s_5 := wr s_4 16 4 ((s_4 16 4) + (1 : Int32));
    some (0, s_5)))))
set_option maxRecDepth 100000 in
set_option maxHeartbeats 4000000 in
theorem kX9_add (l : Launch)  (a1 : Int32) (a2 : Int32) (s : St) : CN l yX9_add cX9_add 3 none 2 FULL (fun ad => [.ref (ad 16), .int a1, .int a2]) s (fX9_add a1 a2 s) := by
  refine cn_of (by decide) (fun _ => (Nat.le_of_ble_eq_true rfl)) (fun X hC hR hl hN => ?_)
  subst hl
  show Zr X (QFN X none) 0 s 0 [(0, .ref (X_ad X 16)), (1, .int a1), (2, .int a2)] [] _
  rw [fX9_add]
  refine zr_aload_n (pc := 0) (i := 0) 0 hC dX9_add_0 rfl rfl ?_
  refine zr_getR (pc := 1) (j := 0) (k1 := 17) hC mem_16 lay_16 rfl rfl (Nat.le_of_ble_eq_true rfl) iX9 m_153 dX9_add_1 ?_
  refine zr_aload_n (pc := 4) (i := 0) 0 hC dX9_add_4 rfl rfl ?_
  refine zr_getI (pc := 5) (j := 4) hC mem_16 lay_16 rfl rfl (Nat.le_of_ble_eq_true rfl) iX9 m_160 dX9_add_5 ?_
  refine zr_iload_n (pc := 8) (i := 1) 1 hC dX9_add_8 rfl rfl ?_
  refine zr_callSNv (pc := 9) (As := fun ad => [.ref (ad 17), .int (s 16 4), .int a1]) (st1 := []) hC (Nat.le_of_ble_eq_true rfl) (kX11_put _ ar_17 (s 16 4) a1 _) (Nat.le_of_ble_eq_true rfl) mc_yX11_put m_710 m_141 rfl rfl (Nat.le_of_ble_eq_true rfl) dX9_add_9 (fun y_1 s_1 => ?_)
  refine zr_aload_n (pc := 12) (i := 0) 0 hC dX9_add_12 rfl rfl ?_
  refine zr_getR (pc := 13) (j := 1) (k1 := 18) hC mem_16 lay_16 rfl rfl (Nat.le_of_ble_eq_true rfl) iX9 m_155 dX9_add_13 ?_
  refine zr_aload_n (pc := 16) (i := 0) 0 hC dX9_add_16 rfl rfl ?_
  refine zr_getI (pc := 17) (j := 4) hC mem_16 lay_16 rfl rfl (Nat.le_of_ble_eq_true rfl) iX9 m_160 dX9_add_17 ?_
  refine zr_iload_n (pc := 20) (i := 2) 2 hC dX9_add_20 rfl rfl ?_
  refine zr_callSNv (pc := 21) (As := fun ad => [.ref (ad 18), .int (s_1 16 4), .int a2]) (st1 := []) hC (Nat.le_of_ble_eq_true rfl) (kX11_put _ ar_18 (s_1 16 4) a2 _) (Nat.le_of_ble_eq_true rfl) mc_yX11_put m_710 m_141 rfl rfl (Nat.le_of_ble_eq_true rfl) dX9_add_21 (fun y_2 s_2 => ?_)
  refine zr_aload_n (pc := 24) (i := 0) 0 hC dX9_add_24 rfl rfl ?_
  refine zr_getR (pc := 25) (j := 3) (k1 := 20) hC mem_16 lay_16 rfl rfl (Nat.le_of_ble_eq_true rfl) iX9 m_159 dX9_add_25 ?_
  refine zr_aload_n (pc := 28) (i := 0) 0 hC dX9_add_28 rfl rfl ?_
  refine zr_getI (pc := 29) (j := 4) hC mem_16 lay_16 rfl rfl (Nat.le_of_ble_eq_true rfl) iX9 m_160 dX9_add_29 ?_
  refine zr_iconst (pc := 32) (v := (1 : Int32)) hC dX9_add_32 ic_1 ?_
  refine zr_callSNv (pc := 33) (As := fun ad => [.ref (ad 20), .int (s_2 16 4), .int (1 : Int32)]) (st1 := []) hC (Nat.le_of_ble_eq_true rfl) (kX11_put _ ar_20 (s_2 16 4) (1 : Int32) _) (Nat.le_of_ble_eq_true rfl) mc_yX11_put m_710 m_141 rfl rfl (Nat.le_of_ble_eq_true rfl) dX9_add_33 (fun y_3 s_3 => ?_)
  refine zr_aload_n (pc := 36) (i := 0) 0 hC dX9_add_36 rfl rfl ?_
  refine zr_getR (pc := 37) (j := 2) (k1 := 19) hC mem_16 lay_16 rfl rfl (Nat.le_of_ble_eq_true rfl) iX9 m_157 dX9_add_37 ?_
  refine zr_aload_n (pc := 40) (i := 0) 0 hC dX9_add_40 rfl rfl ?_
  refine zr_getI (pc := 41) (j := 4) hC mem_16 lay_16 rfl rfl (Nat.le_of_ble_eq_true rfl) iX9 m_160 dX9_add_41 ?_
  refine zr_iconst (pc := 44) (v := (0 : Int32)) hC dX9_add_44 ic_0 ?_
  refine zr_callSNv (pc := 45) (As := fun ad => [.ref (ad 19), .int (s_3 16 4), .int (0 : Int32)]) (st1 := []) hC (Nat.le_of_ble_eq_true rfl) (kX11_put _ ar_19 (s_3 16 4) (0 : Int32) _) (Nat.le_of_ble_eq_true rfl) mc_yX11_put m_710 m_141 rfl rfl (Nat.le_of_ble_eq_true rfl) dX9_add_45 (fun y_4 s_4 => ?_)
  refine zr_aload_n (pc := 48) (i := 0) 0 hC dX9_add_48 rfl rfl ?_
  refine zr_dup (pc := 49) hC dX9_add_49 rfl ?_
  refine zr_getI (pc := 50) (j := 4) hC mem_16 lay_16 rfl rfl (Nat.le_of_ble_eq_true rfl) iX9 m_160 dX9_add_50 ?_
  refine zr_iconst (pc := 53) (v := (1 : Int32)) hC dX9_add_53 ic_1 ?_
  refine zr_iadd (pc := 54) hC dX9_add_54 ?_
  refine zr_putInt (pc := 55) (j := 4) hC mem_16 lay_16 rfl rfl (Nat.le_of_ble_eq_true rfl) iX9 tyX9_ok nmX9 m_160 rfl (by decide +kernel) dX9_add_55 ?_
  exact zr_vret (pc := 58) hC hR dX9_add_58
def fX9_valueAt_L12 (r0 : Nat) (c1 : Int32) (c2 : Int32) : Nat → Int32 → Int32 → St → Option (Int32 × St)
  | 0, _, _, _ => none
  | n + 1, v3, v4, s =>
    if c2 ≤ v4 then
    (some (v3, s))
  else
    (bd (fX11_at r0 (c1 + v4) s) (fun y_1 s_1 =>
    fX9_valueAt_L12 r0 c1 c2 n (((v3 * (10 : Int32)) + y_1) - (48 : Int32)) (v4 + (1 : Int32)) s_1))
set_option maxRecDepth 100000 in
set_option maxHeartbeats 4000000 in
theorem tX9_valueAt_L12 (r0 : Nat) (c1 : Int32) (c2 : Int32) (X : KX) (hC : Ctx X RX9 cX9_valueAt FULL 2 0) (hR : RC X (some .int)) (hN : X_nL X = 5) (hr0 : isArrD FULL r0) : ∀ (n : Nat) (v3 : Int32) (v4 : Int32) (s : St), Zr X (QFN X (some .int)) 0 s 12 [(0, .ref (X_ad X r0)), (1, .int c1), (2, .int c2), (3, .int v3), (4, .int v4)] [] (fX9_valueAt_L12 r0 c1 c2 n v3 v4 s) := by
  intro n
  induction n with
  | zero =>
    intro v3 v4 s
    exact zr_none
  | succ n ih =>
    intro v3 v4 s
    rw [fX9_valueAt_L12]
    refine zr_iload (pc := 12) 4 hC dX9_valueAt_12 rfl ?_
    refine zr_iload_n (pc := 14) (i := 2) 2 hC dX9_valueAt_14 rfl rfl ?_
    refine zr_icmp_ge (pc := 15) (tgt := 41) hC dX9_valueAt_15 (by decide) (fun c_ => ?_) (fun c_ => ?_)
    · refine zr_iload_n (pc := 41) (i := 3) 3 hC dX9_valueAt_41 rfl rfl ?_
      exact zr_iret (pc := 42) hC hR dX9_valueAt_42
    · refine zr_iload_n (pc := 18) (i := 3) 3 hC dX9_valueAt_18 rfl rfl ?_
      refine zr_bipush (pc := 19) (v := (10 : Int32)) hC dX9_valueAt_19 bi_10 ?_
      refine zr_imul (pc := 21) hC dX9_valueAt_21 ?_
      refine zr_aload_n (pc := 22) (i := 0) 0 hC dX9_valueAt_22 rfl rfl ?_
      refine zr_iload_n (pc := 23) (i := 1) 1 hC dX9_valueAt_23 rfl rfl ?_
      refine zr_iload (pc := 24) 4 hC dX9_valueAt_24 rfl ?_
      refine zr_iadd (pc := 26) hC dX9_valueAt_26 ?_
      refine zr_callSN (pc := 27) (As := fun ad => [.ref (ad r0), .int (c1 + v4)]) (st1 := [.int (v3 * (10 : Int32))]) hC (Nat.le_of_ble_eq_true rfl) (kX11_at _ hr0 (c1 + v4) _) (Nat.le_of_ble_eq_true rfl) mc_yX11_at m_706 m_453 rfl rfl (Nat.le_of_ble_eq_true rfl) dX9_valueAt_27 (fun y_1 s_1 => ?_)
      refine zr_iadd (pc := 30) hC dX9_valueAt_30 ?_
      refine zr_bipush (pc := 31) (v := (48 : Int32)) hC dX9_valueAt_31 bi_48 ?_
      refine zr_isub (pc := 33) hC dX9_valueAt_33 ?_
      refine zr_istore_n (pc := 34) (i := 3) (ls' := [(3, _), (0, _), (1, _), (2, _), (4, _)]) hC dX9_valueAt_34 rfl (nlt hN (Nat.le_of_ble_eq_true rfl)) rfl ?_
      refine zr_iinc (pc := 35) (q := 4) (ls' := [(4, _), (3, _), (0, _), (1, _), (2, _)]) hC dX9_valueAt_35 rfl (inc_1 _) (nlt hN (Nat.le_of_ble_eq_true rfl)) rfl ?_
      refine zr_goto (pc := 38) (tgt := 12) hC dX9_valueAt_38 (by decide) ?_
      refine zr_sub (ls' := [(0, _), (1, _), (2, _), (3, _), (4, _)]) [2, 3, 4, 1, 0] rfl ?_
      exact ih (((v3 * (10 : Int32)) + y_1) - (48 : Int32)) (v4 + (1 : Int32)) s_1
def fX9_valueAt (r0 : Nat) (a1 : Int32) (a2 : Int32) (s : St) : Option (Int32 × St) :=
  if a2 ≤ (4 : Int32) then
    (fX9_valueAt_L12 r0 a1 a2 FU (0 : Int32) (0 : Int32) s)
  else
    (some ((-1 : Int32), s))
set_option maxRecDepth 100000 in
set_option maxHeartbeats 4000000 in
theorem kX9_valueAt (l : Launch)  {r0 : Nat} (hr0 : isArrD FULL r0) (a1 : Int32) (a2 : Int32) (s : St) : CN l yX9_valueAt cX9_valueAt 5 (some .int) 2 FULL (fun ad => [.ref (ad r0), .int a1, .int a2]) s (fX9_valueAt r0 a1 a2 s) := by
  refine cn_of (by decide) (fun _ => (Nat.le_of_ble_eq_true rfl)) (fun X hC hR hl hN => ?_)
  subst hl
  show Zr X (QFN X (some .int)) 0 s 0 [(0, .ref (X_ad X r0)), (1, .int a1), (2, .int a2)] [] _
  rw [fX9_valueAt]
  refine zr_iload_n (pc := 0) (i := 2) 2 hC dX9_valueAt_0 rfl rfl ?_
  refine zr_iconst (pc := 1) (v := (4 : Int32)) hC dX9_valueAt_1 ic_4 ?_
  refine zr_icmp_le (pc := 2) (tgt := 7) hC dX9_valueAt_2 (by decide) (fun c_ => ?_) (fun c_ => ?_)
  · refine zr_iconst (pc := 7) (v := (0 : Int32)) hC dX9_valueAt_7 ic_0 ?_
    refine zr_istore_n (pc := 8) (i := 3) (ls' := [(3, _), (0, _), (1, _), (2, _)]) hC dX9_valueAt_8 rfl (nlt hN (Nat.le_of_ble_eq_true rfl)) rfl ?_
    refine zr_iconst (pc := 9) (v := (0 : Int32)) hC dX9_valueAt_9 ic_0 ?_
    refine zr_istore (pc := 10) (ls' := [(4, _), (3, _), (0, _), (1, _), (2, _)]) hC dX9_valueAt_10 (nlt hN (Nat.le_of_ble_eq_true rfl)) rfl ?_
    refine zr_sub (ls' := [(0, _), (1, _), (2, _), (3, _), (4, _)]) [2, 3, 4, 1, 0] rfl ?_
    exact tX9_valueAt_L12 r0 a1 a2 X hC hR hN hr0 FU (0 : Int32) (0 : Int32) _
  · refine zr_iconst (pc := 5) (v := (-1 : Int32)) hC dX9_valueAt_5 ic_m1 ?_
    exact zr_iret (pc := 6) hC hR dX9_valueAt_6
def fX9_spells_L13 (r0 : Nat) (t3 : Nat) (c1 : Int32) : Nat → Int32 → St → Option (Int32 × St)
  | 0, _, _ => none
  | n + 1, v4, s =>
    if (strLen t3) ≤ v4 then
    (some ((1 : Int32), s))
  else
    (bd (fX11_at r0 (c1 + v4) s) (fun y_1 s_1 =>
    if 0 ≤ v4.toInt ∧ v4.toInt < (strLen t3).toInt then
    (if y_1 = (strAt t3 v4.toNatClampNeg) then
    (fX9_spells_L13 r0 t3 c1 n (v4 + (1 : Int32)) s_1)
  else
    (some ((0 : Int32), s_1))) else none))
set_option maxRecDepth 100000 in
set_option maxHeartbeats 4000000 in
theorem tX9_spells_L13 (r0 : Nat) (t3 : Nat) (c1 : Int32) (X : KX) (hC : Ctx X RX9 cX9_spells FULL 10 0) (hR : RC X (some .boolean)) (hN : X_nL X = 5) (hr0 : isArrD FULL r0) (ht3 : isStr t3) : ∀ (n : Nat) (v4 : Int32) (s : St), Zr X (QFN X (some .boolean)) 0 s 13 [(0, .ref (X_ad X r0)), (1, .int c1), (3, .ref (X_ad X t3)), (4, .int v4)] [] (fX9_spells_L13 r0 t3 c1 n v4 s) := by
  intro n
  induction n with
  | zero =>
    intro v4 s
    exact zr_none
  | succ n ih =>
    intro v4 s
    rw [fX9_spells_L13]
    refine zr_iload (pc := 13) 3 hC dX9_spells_13 rfl ?_
    refine zr_aload_n (pc := 15) (i := 3) 2 hC dX9_spells_15 rfl rfl ?_
    refine zr_slen (pc := 16) (t := t3) hC (Nat.le_of_ble_eq_true rfl) (Nat.le_of_ble_eq_true rfl) ht3 m_732 dX9_spells_16 (Nat.le_of_ble_eq_true rfl) ?_
    refine zr_icmp_ge (pc := 19) (tgt := 47) hC dX9_spells_19 (by decide) (fun c_ => ?_) (fun c_ => ?_)
    · refine zr_iconst (pc := 47) (v := (1 : Int32)) hC dX9_spells_47 ic_1 ?_
      exact zr_zret (pc := 48) (by decide) hC hR dX9_spells_48
    · refine zr_aload_n (pc := 22) (i := 0) 0 hC dX9_spells_22 rfl rfl ?_
      refine zr_iload_n (pc := 23) (i := 1) 1 hC dX9_spells_23 rfl rfl ?_
      refine zr_iload (pc := 24) 3 hC dX9_spells_24 rfl ?_
      refine zr_iadd (pc := 26) hC dX9_spells_26 ?_
      refine zr_callSN (pc := 27) (As := fun ad => [.ref (ad r0), .int (c1 + v4)]) (st1 := []) hC (Nat.le_of_ble_eq_true rfl) (kX11_at _ hr0 (c1 + v4) _) (Nat.le_of_ble_eq_true rfl) mc_yX11_at m_706 m_453 rfl rfl (Nat.le_of_ble_eq_true rfl) dX9_spells_27 (fun y_1 s_1 => ?_)
      refine zr_aload_n (pc := 30) (i := 3) 2 hC dX9_spells_30 rfl rfl ?_
      refine zr_iload (pc := 31) 3 hC dX9_spells_31 rfl ?_
      refine zr_schar (pc := 33) (t := t3) hC (Nat.le_of_ble_eq_true rfl) (Nat.le_of_ble_eq_true rfl) ht3 m_742 dX9_spells_33 (Nat.le_of_ble_eq_true rfl) ?_
      refine zr_icmp_eq (pc := 36) (tgt := 41) hC dX9_spells_36 (by decide) (fun c_ => ?_) (fun c_ => ?_)
      · refine zr_iinc (pc := 41) (q := 3) (ls' := [(4, _), (0, _), (1, _), (3, _)]) hC dX9_spells_41 rfl (inc_1 _) (nlt hN (Nat.le_of_ble_eq_true rfl)) rfl ?_
        refine zr_goto (pc := 44) (tgt := 13) hC dX9_spells_44 (by decide) ?_
        refine zr_sub (ls' := [(0, _), (1, _), (3, _), (4, _)]) [1, 2, 3, 0] rfl ?_
        exact ih (v4 + (1 : Int32)) s_1
      · refine zr_iconst (pc := 39) (v := (0 : Int32)) hC dX9_spells_39 ic_0 ?_
        exact zr_zret (pc := 40) (by decide) hC hR dX9_spells_40
def fX9_spells (r0 : Nat) (a1 : Int32) (a2 : Int32) (t3 : Nat) (s : St) : Option (Int32 × St) :=
  if a2 = (strLen t3) then
    (fX9_spells_L13 r0 t3 a1 FU (0 : Int32) s)
  else
    (some ((0 : Int32), s))
set_option maxRecDepth 100000 in
set_option maxHeartbeats 4000000 in
theorem kX9_spells (l : Launch)  {r0 : Nat} {t3 : Nat} (hr0 : isArrD FULL r0) (ht3 : isStr t3) (a1 : Int32) (a2 : Int32) (s : St) : CN l yX9_spells cX9_spells 5 (some .boolean) 10 FULL (fun ad => [.ref (ad r0), .int a1, .int a2, .ref (ad t3)]) s (fX9_spells r0 a1 a2 t3 s) := by
  refine cn_of (by decide) (fun _ => (Nat.le_of_ble_eq_true rfl)) (fun X hC hR hl hN => ?_)
  subst hl
  show Zr X (QFN X (some .boolean)) 0 s 0 [(0, .ref (X_ad X r0)), (1, .int a1), (2, .int a2), (3, .ref (X_ad X t3))] [] _
  rw [fX9_spells]
  refine zr_iload_n (pc := 0) (i := 2) 2 hC dX9_spells_0 rfl rfl ?_
  refine zr_aload_n (pc := 1) (i := 3) 3 hC dX9_spells_1 rfl rfl ?_
  refine zr_slen (pc := 2) (t := t3) hC (Nat.le_of_ble_eq_true rfl) (Nat.le_of_ble_eq_true rfl) ht3 m_732 dX9_spells_2 (Nat.le_of_ble_eq_true rfl) ?_
  refine zr_icmp_eq (pc := 5) (tgt := 10) hC dX9_spells_5 (by decide) (fun c_ => ?_) (fun c_ => ?_)
  · refine zr_iconst (pc := 10) (v := (0 : Int32)) hC dX9_spells_10 ic_0 ?_
    refine zr_istore (pc := 11) (ls' := [(4, _), (0, _), (1, _), (2, _), (3, _)]) hC dX9_spells_11 (nlt hN (Nat.le_of_ble_eq_true rfl)) rfl ?_
    refine zr_sub (ls' := [(0, _), (1, _), (3, _), (4, _)]) [1, 2, 4, 0] rfl ?_
    exact tX9_spells_L13 r0 t3 a1 X hC hR hN hr0 ht3 FU (0 : Int32) _
  · refine zr_iconst (pc := 8) (v := (0 : Int32)) hC dX9_spells_8 ic_0 ?_
    exact zr_zret (pc := 9) (by decide) hC hR dX9_spells_9
def fX9_lineWordAt (r0 : Nat) (a1 : Int32) (a2 : Int32) (s : St) : Option (Int32 × St) :=
  bd (fX9_spells r0 a1 a2 1007 s) (fun y_1 s_1 =>
    if y_1 = 0 then
    (bd (fX9_spells r0 a1 a2 1000 s_1) (fun y_2 s_2 =>
    if y_2 = 0 then
    (bd (fX9_spells r0 a1 a2 1001 s_2) (fun y_3 s_3 =>
    if y_3 = 0 then
    (bd (fX9_spells r0 a1 a2 1008 s_3) (fun y_4 s_4 =>
    if y_4 = 0 then
    (bd (fX9_spells r0 a1 a2 1009 s_4) (fun y_5 s_5 =>
    if y_5 = 0 then
    (bd (fX9_spells r0 a1 a2 1010 s_5) (fun y_6 s_6 =>
    if y_6 = 0 then
    (bd (fX9_spells r0 a1 a2 1011 s_6) (fun y_7 s_7 =>
    if y_7 = 0 then
    (bd (fX9_spells r0 a1 a2 1012 s_7) (fun y_8 s_8 =>
    if y_8 = 0 then
    (some ((300 : Int32), s_8))
  else
    (some ((308 : Int32), s_8))))
  else
    (some ((307 : Int32), s_7))))
  else
    (some ((306 : Int32), s_6))))
  else
    (some ((305 : Int32), s_5))))
  else
    (some ((304 : Int32), s_4))))
  else
    (some ((303 : Int32), s_3))))
  else
    (some ((302 : Int32), s_2))))
  else
    (some ((301 : Int32), s_1)))
set_option maxRecDepth 100000 in
set_option maxHeartbeats 4000000 in
theorem kX9_lineWordAt (l : Launch)  {r0 : Nat} (hr0 : isArrD FULL r0) (a1 : Int32) (a2 : Int32) (s : St) : CN l yX9_lineWordAt cX9_lineWordAt 3 (some .int) 11 FULL (fun ad => [.ref (ad r0), .int a1, .int a2]) s (fX9_lineWordAt r0 a1 a2 s) := by
  refine cn_of (by decide) (fun _ => (Nat.le_of_ble_eq_true rfl)) (fun X hC hR hl hN => ?_)
  subst hl
  show Zr X (QFN X (some .int)) 0 s 0 [(0, .ref (X_ad X r0)), (1, .int a1), (2, .int a2)] [] _
  rw [fX9_lineWordAt]
  refine zr_aload_n (pc := 0) (i := 0) 0 hC dX9_lineWordAt_0 rfl rfl ?_
  refine zr_iload_n (pc := 1) (i := 1) 1 hC dX9_lineWordAt_1 rfl rfl ?_
  refine zr_iload_n (pc := 2) (i := 2) 2 hC dX9_lineWordAt_2 rfl rfl ?_
  refine zr_ldcS (pc := 3) (own := RX9) (t := 7) hC dX9_lineWordAt_3 (by decide +kernel) ?_
  refine zr_callS (pc := 5) (As := fun ad => [.ref (ad r0), .int a1, .int a2, .ref (ad 1007)]) (st1 := []) hC (Nat.le_of_ble_eq_true rfl) (kX9_spells _ hr0 (str_is 1007 (by decide)) a1 a2 _) (Nat.le_of_ble_eq_true rfl) mc_yX9_spells m_729 m_730 rfl rfl rfl (Nat.le_of_ble_eq_true rfl) dX9_lineWordAt_5 (fun y_1 s_1 => ?_)
  refine zr_if_eq (pc := 8) (tgt := 15) hC dX9_lineWordAt_8 (by decide) (fun c_ => ?_) (fun c_ => ?_)
  · refine zr_aload_n (pc := 15) (i := 0) 0 hC dX9_lineWordAt_15 rfl rfl ?_
    refine zr_iload_n (pc := 16) (i := 1) 1 hC dX9_lineWordAt_16 rfl rfl ?_
    refine zr_iload_n (pc := 17) (i := 2) 2 hC dX9_lineWordAt_17 rfl rfl ?_
    refine zr_ldcS (pc := 18) (own := RX9) (t := 0) hC dX9_lineWordAt_18 (by decide +kernel) ?_
    refine zr_callS (pc := 20) (As := fun ad => [.ref (ad r0), .int a1, .int a2, .ref (ad 1000)]) (st1 := []) hC (Nat.le_of_ble_eq_true rfl) (kX9_spells _ hr0 (str_is 1000 (by decide)) a1 a2 _) (Nat.le_of_ble_eq_true rfl) mc_yX9_spells m_729 m_730 rfl rfl rfl (Nat.le_of_ble_eq_true rfl) dX9_lineWordAt_20 (fun y_2 s_2 => ?_)
    refine zr_if_eq (pc := 23) (tgt := 30) hC dX9_lineWordAt_23 (by decide) (fun c_ => ?_) (fun c_ => ?_)
    · refine zr_aload_n (pc := 30) (i := 0) 0 hC dX9_lineWordAt_30 rfl rfl ?_
      refine zr_iload_n (pc := 31) (i := 1) 1 hC dX9_lineWordAt_31 rfl rfl ?_
      refine zr_iload_n (pc := 32) (i := 2) 2 hC dX9_lineWordAt_32 rfl rfl ?_
      refine zr_ldcS (pc := 33) (own := RX9) (t := 1) hC dX9_lineWordAt_33 (by decide +kernel) ?_
      refine zr_callS (pc := 35) (As := fun ad => [.ref (ad r0), .int a1, .int a2, .ref (ad 1001)]) (st1 := []) hC (Nat.le_of_ble_eq_true rfl) (kX9_spells _ hr0 (str_is 1001 (by decide)) a1 a2 _) (Nat.le_of_ble_eq_true rfl) mc_yX9_spells m_729 m_730 rfl rfl rfl (Nat.le_of_ble_eq_true rfl) dX9_lineWordAt_35 (fun y_3 s_3 => ?_)
      refine zr_if_eq (pc := 38) (tgt := 45) hC dX9_lineWordAt_38 (by decide) (fun c_ => ?_) (fun c_ => ?_)
      · refine zr_aload_n (pc := 45) (i := 0) 0 hC dX9_lineWordAt_45 rfl rfl ?_
        refine zr_iload_n (pc := 46) (i := 1) 1 hC dX9_lineWordAt_46 rfl rfl ?_
        refine zr_iload_n (pc := 47) (i := 2) 2 hC dX9_lineWordAt_47 rfl rfl ?_
        refine zr_ldcS (pc := 48) (own := RX9) (t := 8) hC dX9_lineWordAt_48 (by decide +kernel) ?_
        refine zr_callS (pc := 50) (As := fun ad => [.ref (ad r0), .int a1, .int a2, .ref (ad 1008)]) (st1 := []) hC (Nat.le_of_ble_eq_true rfl) (kX9_spells _ hr0 (str_is 1008 (by decide)) a1 a2 _) (Nat.le_of_ble_eq_true rfl) mc_yX9_spells m_729 m_730 rfl rfl rfl (Nat.le_of_ble_eq_true rfl) dX9_lineWordAt_50 (fun y_4 s_4 => ?_)
        refine zr_if_eq (pc := 53) (tgt := 60) hC dX9_lineWordAt_53 (by decide) (fun c_ => ?_) (fun c_ => ?_)
        · refine zr_aload_n (pc := 60) (i := 0) 0 hC dX9_lineWordAt_60 rfl rfl ?_
          refine zr_iload_n (pc := 61) (i := 1) 1 hC dX9_lineWordAt_61 rfl rfl ?_
          refine zr_iload_n (pc := 62) (i := 2) 2 hC dX9_lineWordAt_62 rfl rfl ?_
          refine zr_ldcS (pc := 63) (own := RX9) (t := 9) hC dX9_lineWordAt_63 (by decide +kernel) ?_
          refine zr_callS (pc := 65) (As := fun ad => [.ref (ad r0), .int a1, .int a2, .ref (ad 1009)]) (st1 := []) hC (Nat.le_of_ble_eq_true rfl) (kX9_spells _ hr0 (str_is 1009 (by decide)) a1 a2 _) (Nat.le_of_ble_eq_true rfl) mc_yX9_spells m_729 m_730 rfl rfl rfl (Nat.le_of_ble_eq_true rfl) dX9_lineWordAt_65 (fun y_5 s_5 => ?_)
          refine zr_if_eq (pc := 68) (tgt := 75) hC dX9_lineWordAt_68 (by decide) (fun c_ => ?_) (fun c_ => ?_)
          · refine zr_aload_n (pc := 75) (i := 0) 0 hC dX9_lineWordAt_75 rfl rfl ?_
            refine zr_iload_n (pc := 76) (i := 1) 1 hC dX9_lineWordAt_76 rfl rfl ?_
            refine zr_iload_n (pc := 77) (i := 2) 2 hC dX9_lineWordAt_77 rfl rfl ?_
            refine zr_ldcS (pc := 78) (own := RX9) (t := 10) hC dX9_lineWordAt_78 (by decide +kernel) ?_
            refine zr_callS (pc := 80) (As := fun ad => [.ref (ad r0), .int a1, .int a2, .ref (ad 1010)]) (st1 := []) hC (Nat.le_of_ble_eq_true rfl) (kX9_spells _ hr0 (str_is 1010 (by decide)) a1 a2 _) (Nat.le_of_ble_eq_true rfl) mc_yX9_spells m_729 m_730 rfl rfl rfl (Nat.le_of_ble_eq_true rfl) dX9_lineWordAt_80 (fun y_6 s_6 => ?_)
            refine zr_if_eq (pc := 83) (tgt := 90) hC dX9_lineWordAt_83 (by decide) (fun c_ => ?_) (fun c_ => ?_)
            · refine zr_aload_n (pc := 90) (i := 0) 0 hC dX9_lineWordAt_90 rfl rfl ?_
              refine zr_iload_n (pc := 91) (i := 1) 1 hC dX9_lineWordAt_91 rfl rfl ?_
              refine zr_iload_n (pc := 92) (i := 2) 2 hC dX9_lineWordAt_92 rfl rfl ?_
              refine zr_ldcS (pc := 93) (own := RX9) (t := 11) hC dX9_lineWordAt_93 (by decide +kernel) ?_
              refine zr_callS (pc := 95) (As := fun ad => [.ref (ad r0), .int a1, .int a2, .ref (ad 1011)]) (st1 := []) hC (Nat.le_of_ble_eq_true rfl) (kX9_spells _ hr0 (str_is 1011 (by decide)) a1 a2 _) (Nat.le_of_ble_eq_true rfl) mc_yX9_spells m_729 m_730 rfl rfl rfl (Nat.le_of_ble_eq_true rfl) dX9_lineWordAt_95 (fun y_7 s_7 => ?_)
              refine zr_if_eq (pc := 98) (tgt := 105) hC dX9_lineWordAt_98 (by decide) (fun c_ => ?_) (fun c_ => ?_)
              · refine zr_aload_n (pc := 105) (i := 0) 0 hC dX9_lineWordAt_105 rfl rfl ?_
                refine zr_iload_n (pc := 106) (i := 1) 1 hC dX9_lineWordAt_106 rfl rfl ?_
                refine zr_iload_n (pc := 107) (i := 2) 2 hC dX9_lineWordAt_107 rfl rfl ?_
                refine zr_ldcS (pc := 108) (own := RX9) (t := 12) hC dX9_lineWordAt_108 (by decide +kernel) ?_
                refine zr_callS (pc := 110) (As := fun ad => [.ref (ad r0), .int a1, .int a2, .ref (ad 1012)]) (st1 := []) hC (Nat.le_of_ble_eq_true rfl) (kX9_spells _ hr0 (str_is 1012 (by decide)) a1 a2 _) (Nat.le_of_ble_eq_true rfl) mc_yX9_spells m_729 m_730 rfl rfl rfl (Nat.le_of_ble_eq_true rfl) dX9_lineWordAt_110 (fun y_8 s_8 => ?_)
                refine zr_if_eq (pc := 113) (tgt := 122) hC dX9_lineWordAt_113 (by decide) (fun c_ => ?_) (fun c_ => ?_)
                · refine zr_sipush (pc := 122) (v := (300 : Int32)) hC dX9_lineWordAt_122 si_300 ?_
                  exact zr_iret (pc := 125) hC hR dX9_lineWordAt_125
                · refine zr_sipush (pc := 116) (v := (308 : Int32)) hC dX9_lineWordAt_116 si_308 ?_
                  refine zr_goto (pc := 119) (tgt := 125) hC dX9_lineWordAt_119 (by decide) ?_
                  exact zr_iret (pc := 125) hC hR dX9_lineWordAt_125
              · refine zr_sipush (pc := 101) (v := (307 : Int32)) hC dX9_lineWordAt_101 si_307 ?_
                exact zr_iret (pc := 104) hC hR dX9_lineWordAt_104
            · refine zr_sipush (pc := 86) (v := (306 : Int32)) hC dX9_lineWordAt_86 si_306 ?_
              exact zr_iret (pc := 89) hC hR dX9_lineWordAt_89
          · refine zr_sipush (pc := 71) (v := (305 : Int32)) hC dX9_lineWordAt_71 si_305 ?_
            exact zr_iret (pc := 74) hC hR dX9_lineWordAt_74
        · refine zr_sipush (pc := 56) (v := (304 : Int32)) hC dX9_lineWordAt_56 si_304 ?_
          exact zr_iret (pc := 59) hC hR dX9_lineWordAt_59
      · refine zr_sipush (pc := 41) (v := (303 : Int32)) hC dX9_lineWordAt_41 si_303 ?_
        exact zr_iret (pc := 44) hC hR dX9_lineWordAt_44
    · refine zr_sipush (pc := 26) (v := (302 : Int32)) hC dX9_lineWordAt_26 si_302 ?_
      exact zr_iret (pc := 29) hC hR dX9_lineWordAt_29
  · refine zr_sipush (pc := 11) (v := (301 : Int32)) hC dX9_lineWordAt_11 si_301 ?_
    exact zr_iret (pc := 14) hC hR dX9_lineWordAt_14
def fX9_wordAt (r0 : Nat) (a1 : Int32) (a2 : Int32) (s : St) : Option (Int32 × St) :=
  bd (fX9_lineWordAt r0 a1 a2 s) (fun y_1 s_1 =>
    if y_1 = (300 : Int32) then
    (bd (fX9_spells r0 a1 a2 1013 s_1) (fun y_2 s_2 =>
    if y_2 = 0 then
    (bd (fX9_spells r0 a1 a2 1014 s_2) (fun y_3 s_3 =>
    if y_3 = 0 then
    (bd (fX9_spells r0 a1 a2 1015 s_3) (fun y_4 s_4 =>
    if y_4 = 0 then
    (bd (fX9_spells r0 a1 a2 1002 s_4) (fun y_5 s_5 =>
    if y_5 = 0 then
    (bd (fX9_spells r0 a1 a2 1003 s_5) (fun y_6 s_6 =>
    if y_6 = 0 then
    (bd (fX9_spells r0 a1 a2 1004 s_6) (fun y_7 s_7 =>
    if y_7 = 0 then
    (bd (fX9_spells r0 a1 a2 1005 s_7) (fun y_8 s_8 =>
    if y_8 = 0 then
    (bd (fX9_spells r0 a1 a2 1006 s_8) (fun y_9 s_9 =>
    if y_9 = 0 then
    (some ((300 : Int32), s_9))
  else
    (some ((316 : Int32), s_9))))
  else
    (some ((315 : Int32), s_8))))
  else
    (some ((314 : Int32), s_7))))
  else
    (some ((313 : Int32), s_6))))
  else
    (some ((312 : Int32), s_5))))
  else
    (some ((311 : Int32), s_4))))
  else
    (some ((310 : Int32), s_3))))
  else
    (some ((309 : Int32), s_2))))
  else
    (some (y_1, s_1)))
set_option maxRecDepth 100000 in
set_option maxHeartbeats 4000000 in
theorem kX9_wordAt (l : Launch)  {r0 : Nat} (hr0 : isArrD FULL r0) (a1 : Int32) (a2 : Int32) (s : St) : CN l yX9_wordAt cX9_wordAt 4 (some .int) 12 FULL (fun ad => [.ref (ad r0), .int a1, .int a2]) s (fX9_wordAt r0 a1 a2 s) := by
  refine cn_of (by decide) (fun _ => (Nat.le_of_ble_eq_true rfl)) (fun X hC hR hl hN => ?_)
  subst hl
  show Zr X (QFN X (some .int)) 0 s 0 [(0, .ref (X_ad X r0)), (1, .int a1), (2, .int a2)] [] _
  rw [fX9_wordAt]
  refine zr_aload_n (pc := 0) (i := 0) 0 hC dX9_wordAt_0 rfl rfl ?_
  refine zr_iload_n (pc := 1) (i := 1) 1 hC dX9_wordAt_1 rfl rfl ?_
  refine zr_iload_n (pc := 2) (i := 2) 2 hC dX9_wordAt_2 rfl rfl ?_
  refine zr_callS (pc := 3) (As := fun ad => [.ref (ad r0), .int a1, .int a2]) (st1 := []) hC (Nat.le_of_ble_eq_true rfl) (kX9_lineWordAt _ hr0 a1 a2 _) (Nat.le_of_ble_eq_true rfl) mc_yX9_lineWordAt m_725 m_726 rfl rfl rfl (Nat.le_of_ble_eq_true rfl) dX9_wordAt_3 (fun y_1 s_1 => ?_)
  refine zr_istore_n (pc := 6) (i := 3) (ls' := [(3, _), (0, _), (1, _), (2, _)]) hC dX9_wordAt_6 rfl (nlt hN (Nat.le_of_ble_eq_true rfl)) rfl ?_
  refine zr_iload_n (pc := 7) (i := 3) 0 hC dX9_wordAt_7 rfl rfl ?_
  refine zr_sipush (pc := 8) (v := (300 : Int32)) hC dX9_wordAt_8 si_300 ?_
  refine zr_icmp_eq (pc := 11) (tgt := 16) hC dX9_wordAt_11 (by decide) (fun c_ => ?_) (fun c_ => ?_)
  · refine zr_aload_n (pc := 16) (i := 0) 1 hC dX9_wordAt_16 rfl rfl ?_
    refine zr_iload_n (pc := 17) (i := 1) 2 hC dX9_wordAt_17 rfl rfl ?_
    refine zr_iload_n (pc := 18) (i := 2) 3 hC dX9_wordAt_18 rfl rfl ?_
    refine zr_ldcS (pc := 19) (own := RX9) (t := 13) hC dX9_wordAt_19 (by decide +kernel) ?_
    refine zr_callS (pc := 21) (As := fun ad => [.ref (ad r0), .int a1, .int a2, .ref (ad 1013)]) (st1 := []) hC (Nat.le_of_ble_eq_true rfl) (kX9_spells _ hr0 (str_is 1013 (by decide)) a1 a2 _) (Nat.le_of_ble_eq_true rfl) mc_yX9_spells m_729 m_730 rfl rfl rfl (Nat.le_of_ble_eq_true rfl) dX9_wordAt_21 (fun y_2 s_2 => ?_)
    refine zr_if_eq (pc := 24) (tgt := 31) hC dX9_wordAt_24 (by decide) (fun c_ => ?_) (fun c_ => ?_)
    · refine zr_aload_n (pc := 31) (i := 0) 1 hC dX9_wordAt_31 rfl rfl ?_
      refine zr_iload_n (pc := 32) (i := 1) 2 hC dX9_wordAt_32 rfl rfl ?_
      refine zr_iload_n (pc := 33) (i := 2) 3 hC dX9_wordAt_33 rfl rfl ?_
      refine zr_ldcS (pc := 34) (own := RX9) (t := 14) hC dX9_wordAt_34 (by decide +kernel) ?_
      refine zr_callS (pc := 36) (As := fun ad => [.ref (ad r0), .int a1, .int a2, .ref (ad 1014)]) (st1 := []) hC (Nat.le_of_ble_eq_true rfl) (kX9_spells _ hr0 (str_is 1014 (by decide)) a1 a2 _) (Nat.le_of_ble_eq_true rfl) mc_yX9_spells m_729 m_730 rfl rfl rfl (Nat.le_of_ble_eq_true rfl) dX9_wordAt_36 (fun y_3 s_3 => ?_)
      refine zr_if_eq (pc := 39) (tgt := 46) hC dX9_wordAt_39 (by decide) (fun c_ => ?_) (fun c_ => ?_)
      · refine zr_aload_n (pc := 46) (i := 0) 1 hC dX9_wordAt_46 rfl rfl ?_
        refine zr_iload_n (pc := 47) (i := 1) 2 hC dX9_wordAt_47 rfl rfl ?_
        refine zr_iload_n (pc := 48) (i := 2) 3 hC dX9_wordAt_48 rfl rfl ?_
        refine zr_ldcS (pc := 49) (own := RX9) (t := 15) hC dX9_wordAt_49 (by decide +kernel) ?_
        refine zr_callS (pc := 51) (As := fun ad => [.ref (ad r0), .int a1, .int a2, .ref (ad 1015)]) (st1 := []) hC (Nat.le_of_ble_eq_true rfl) (kX9_spells _ hr0 (str_is 1015 (by decide)) a1 a2 _) (Nat.le_of_ble_eq_true rfl) mc_yX9_spells m_729 m_730 rfl rfl rfl (Nat.le_of_ble_eq_true rfl) dX9_wordAt_51 (fun y_4 s_4 => ?_)
        refine zr_if_eq (pc := 54) (tgt := 61) hC dX9_wordAt_54 (by decide) (fun c_ => ?_) (fun c_ => ?_)
        · refine zr_aload_n (pc := 61) (i := 0) 1 hC dX9_wordAt_61 rfl rfl ?_
          refine zr_iload_n (pc := 62) (i := 1) 2 hC dX9_wordAt_62 rfl rfl ?_
          refine zr_iload_n (pc := 63) (i := 2) 3 hC dX9_wordAt_63 rfl rfl ?_
          refine zr_ldcS (pc := 64) (own := RX9) (t := 2) hC dX9_wordAt_64 (by decide +kernel) ?_
          refine zr_callS (pc := 66) (As := fun ad => [.ref (ad r0), .int a1, .int a2, .ref (ad 1002)]) (st1 := []) hC (Nat.le_of_ble_eq_true rfl) (kX9_spells _ hr0 (str_is 1002 (by decide)) a1 a2 _) (Nat.le_of_ble_eq_true rfl) mc_yX9_spells m_729 m_730 rfl rfl rfl (Nat.le_of_ble_eq_true rfl) dX9_wordAt_66 (fun y_5 s_5 => ?_)
          refine zr_if_eq (pc := 69) (tgt := 76) hC dX9_wordAt_69 (by decide) (fun c_ => ?_) (fun c_ => ?_)
          · refine zr_aload_n (pc := 76) (i := 0) 1 hC dX9_wordAt_76 rfl rfl ?_
            refine zr_iload_n (pc := 77) (i := 1) 2 hC dX9_wordAt_77 rfl rfl ?_
            refine zr_iload_n (pc := 78) (i := 2) 3 hC dX9_wordAt_78 rfl rfl ?_
            refine zr_ldcS (pc := 79) (own := RX9) (t := 3) hC dX9_wordAt_79 (by decide +kernel) ?_
            refine zr_callS (pc := 81) (As := fun ad => [.ref (ad r0), .int a1, .int a2, .ref (ad 1003)]) (st1 := []) hC (Nat.le_of_ble_eq_true rfl) (kX9_spells _ hr0 (str_is 1003 (by decide)) a1 a2 _) (Nat.le_of_ble_eq_true rfl) mc_yX9_spells m_729 m_730 rfl rfl rfl (Nat.le_of_ble_eq_true rfl) dX9_wordAt_81 (fun y_6 s_6 => ?_)
            refine zr_if_eq (pc := 84) (tgt := 91) hC dX9_wordAt_84 (by decide) (fun c_ => ?_) (fun c_ => ?_)
            · refine zr_aload_n (pc := 91) (i := 0) 1 hC dX9_wordAt_91 rfl rfl ?_
              refine zr_iload_n (pc := 92) (i := 1) 2 hC dX9_wordAt_92 rfl rfl ?_
              refine zr_iload_n (pc := 93) (i := 2) 3 hC dX9_wordAt_93 rfl rfl ?_
              refine zr_ldcS (pc := 94) (own := RX9) (t := 4) hC dX9_wordAt_94 (by decide +kernel) ?_
              refine zr_callS (pc := 96) (As := fun ad => [.ref (ad r0), .int a1, .int a2, .ref (ad 1004)]) (st1 := []) hC (Nat.le_of_ble_eq_true rfl) (kX9_spells _ hr0 (str_is 1004 (by decide)) a1 a2 _) (Nat.le_of_ble_eq_true rfl) mc_yX9_spells m_729 m_730 rfl rfl rfl (Nat.le_of_ble_eq_true rfl) dX9_wordAt_96 (fun y_7 s_7 => ?_)
              refine zr_if_eq (pc := 99) (tgt := 106) hC dX9_wordAt_99 (by decide) (fun c_ => ?_) (fun c_ => ?_)
              · refine zr_aload_n (pc := 106) (i := 0) 1 hC dX9_wordAt_106 rfl rfl ?_
                refine zr_iload_n (pc := 107) (i := 1) 2 hC dX9_wordAt_107 rfl rfl ?_
                refine zr_iload_n (pc := 108) (i := 2) 3 hC dX9_wordAt_108 rfl rfl ?_
                refine zr_ldcS (pc := 109) (own := RX9) (t := 5) hC dX9_wordAt_109 (by decide +kernel) ?_
                refine zr_callS (pc := 111) (As := fun ad => [.ref (ad r0), .int a1, .int a2, .ref (ad 1005)]) (st1 := []) hC (Nat.le_of_ble_eq_true rfl) (kX9_spells _ hr0 (str_is 1005 (by decide)) a1 a2 _) (Nat.le_of_ble_eq_true rfl) mc_yX9_spells m_729 m_730 rfl rfl rfl (Nat.le_of_ble_eq_true rfl) dX9_wordAt_111 (fun y_8 s_8 => ?_)
                refine zr_if_eq (pc := 114) (tgt := 121) hC dX9_wordAt_114 (by decide) (fun c_ => ?_) (fun c_ => ?_)
                · refine zr_aload_n (pc := 121) (i := 0) 1 hC dX9_wordAt_121 rfl rfl ?_
                  refine zr_iload_n (pc := 122) (i := 1) 2 hC dX9_wordAt_122 rfl rfl ?_
                  refine zr_iload_n (pc := 123) (i := 2) 3 hC dX9_wordAt_123 rfl rfl ?_
                  refine zr_ldcS (pc := 124) (own := RX9) (t := 6) hC dX9_wordAt_124 (by decide +kernel) ?_
                  refine zr_callS (pc := 126) (As := fun ad => [.ref (ad r0), .int a1, .int a2, .ref (ad 1006)]) (st1 := []) hC (Nat.le_of_ble_eq_true rfl) (kX9_spells _ hr0 (str_is 1006 (by decide)) a1 a2 _) (Nat.le_of_ble_eq_true rfl) mc_yX9_spells m_729 m_730 rfl rfl rfl (Nat.le_of_ble_eq_true rfl) dX9_wordAt_126 (fun y_9 s_9 => ?_)
                  refine zr_if_eq (pc := 129) (tgt := 138) hC dX9_wordAt_129 (by decide) (fun c_ => ?_) (fun c_ => ?_)
                  · refine zr_sipush (pc := 138) (v := (300 : Int32)) hC dX9_wordAt_138 si_300 ?_
                    exact zr_iret (pc := 141) hC hR dX9_wordAt_141
                  · refine zr_sipush (pc := 132) (v := (316 : Int32)) hC dX9_wordAt_132 si_316 ?_
                    refine zr_goto (pc := 135) (tgt := 141) hC dX9_wordAt_135 (by decide) ?_
                    exact zr_iret (pc := 141) hC hR dX9_wordAt_141
                · refine zr_sipush (pc := 117) (v := (315 : Int32)) hC dX9_wordAt_117 si_315 ?_
                  exact zr_iret (pc := 120) hC hR dX9_wordAt_120
              · refine zr_sipush (pc := 102) (v := (314 : Int32)) hC dX9_wordAt_102 si_314 ?_
                exact zr_iret (pc := 105) hC hR dX9_wordAt_105
            · refine zr_sipush (pc := 87) (v := (313 : Int32)) hC dX9_wordAt_87 si_313 ?_
              exact zr_iret (pc := 90) hC hR dX9_wordAt_90
          · refine zr_sipush (pc := 72) (v := (312 : Int32)) hC dX9_wordAt_72 si_312 ?_
            exact zr_iret (pc := 75) hC hR dX9_wordAt_75
        · refine zr_sipush (pc := 57) (v := (311 : Int32)) hC dX9_wordAt_57 si_311 ?_
          exact zr_iret (pc := 60) hC hR dX9_wordAt_60
      · refine zr_sipush (pc := 42) (v := (310 : Int32)) hC dX9_wordAt_42 si_310 ?_
        exact zr_iret (pc := 45) hC hR dX9_wordAt_45
    · refine zr_sipush (pc := 27) (v := (309 : Int32)) hC dX9_wordAt_27 si_309 ?_
      exact zr_iret (pc := 30) hC hR dX9_wordAt_30
  · refine zr_iload_n (pc := 14) (i := 3) 0 hC dX9_wordAt_14 rfl rfl ?_
    exact zr_iret (pc := 15) hC hR dX9_wordAt_15
def fX9_tell (r1 : Nat) (a2 : Int32) (s : St) : Option (Int32 × St) :=
  bd (fX11_at 17 a2 s) (fun y_1 s_1 =>
    if y_1 = (200 : Int32) then
    (bd (fX11_at 18 a2 s_1) (fun y_7 s_7 =>
    bd (fX11_at 20 a2 s_7) (fun y_8 s_8 =>
    bd (fX9_valueAt r1 y_7 y_8 s_8) (fun y_9 s_9 =>
    bd (fX11_put 19 a2 y_9 s_9) (fun y_10 s_10 =>
    some (0, s_10))))))
  else
    (bd (fX11_at 17 a2 s_1) (fun y_2 s_2 =>
    if y_2 = (300 : Int32) then
    (bd (fX11_at 18 a2 s_2) (fun y_3 s_3 =>
    bd (fX11_at 20 a2 s_3) (fun y_4 s_4 =>
    bd (fX9_wordAt r1 y_3 y_4 s_4) (fun y_5 s_5 =>
    bd (fX11_put 17 a2 y_5 s_5) (fun y_6 s_6 =>
    some (0, s_6))))))
  else
    (some (0, s_2)))))
set_option maxRecDepth 100000 in
set_option maxHeartbeats 4000000 in
theorem kX9_tell (l : Launch)  {r1 : Nat} (hr1 : isArrD FULL r1) (a2 : Int32) (s : St) : CN l yX9_tell cX9_tell 3 none 13 FULL (fun ad => [.ref (ad 16), .ref (ad r1), .int a2]) s (fX9_tell r1 a2 s) := by
  refine cn_of (by decide) (fun _ => (Nat.le_of_ble_eq_true rfl)) (fun X hC hR hl hN => ?_)
  subst hl
  show Zr X (QFN X none) 0 s 0 [(0, .ref (X_ad X 16)), (1, .ref (X_ad X r1)), (2, .int a2)] [] _
  rw [fX9_tell]
  refine zr_aload_n (pc := 0) (i := 0) 0 hC dX9_tell_0 rfl rfl ?_
  refine zr_getR (pc := 1) (j := 0) (k1 := 17) hC mem_16 lay_16 rfl rfl (Nat.le_of_ble_eq_true rfl) iX9 m_153 dX9_tell_1 ?_
  refine zr_iload_n (pc := 4) (i := 2) 2 hC dX9_tell_4 rfl rfl ?_
  refine zr_callSN (pc := 5) (As := fun ad => [.ref (ad 17), .int a2]) (st1 := []) hC (Nat.le_of_ble_eq_true rfl) (kX11_at _ ar_17 a2 _) (Nat.le_of_ble_eq_true rfl) mc_yX11_at m_706 m_453 rfl rfl (Nat.le_of_ble_eq_true rfl) dX9_tell_5 (fun y_1 s_1 => ?_)
  refine zr_sipush (pc := 8) (v := (200 : Int32)) hC dX9_tell_8 si_200 ?_
  refine zr_icmp_ne (pc := 11) (tgt := 45) hC dX9_tell_11 (by decide) (fun c_ => ?_) (fun c_ => ?_)
  · refine zr_aload_n (pc := 14) (i := 0) 0 hC dX9_tell_14 rfl rfl ?_
    refine zr_getR (pc := 15) (j := 2) (k1 := 19) hC mem_16 lay_16 rfl rfl (Nat.le_of_ble_eq_true rfl) iX9 m_157 dX9_tell_15 ?_
    refine zr_iload_n (pc := 18) (i := 2) 2 hC dX9_tell_18 rfl rfl ?_
    refine zr_aload_n (pc := 19) (i := 1) 1 hC dX9_tell_19 rfl rfl ?_
    refine zr_aload_n (pc := 20) (i := 0) 0 hC dX9_tell_20 rfl rfl ?_
    refine zr_getR (pc := 21) (j := 1) (k1 := 18) hC mem_16 lay_16 rfl rfl (Nat.le_of_ble_eq_true rfl) iX9 m_155 dX9_tell_21 ?_
    refine zr_iload_n (pc := 24) (i := 2) 2 hC dX9_tell_24 rfl rfl ?_
    refine zr_callSN (pc := 25) (As := fun ad => [.ref (ad 18), .int a2]) (st1 := [.ref (X_ad X r1), .int a2, .ref (X_ad X 19)]) hC (Nat.le_of_ble_eq_true rfl) (kX11_at _ ar_18 a2 _) (Nat.le_of_ble_eq_true rfl) mc_yX11_at m_706 m_453 rfl rfl (Nat.le_of_ble_eq_true rfl) dX9_tell_25 (fun y_7 s_7 => ?_)
    refine zr_aload_n (pc := 28) (i := 0) 0 hC dX9_tell_28 rfl rfl ?_
    refine zr_getR (pc := 29) (j := 3) (k1 := 20) hC mem_16 lay_16 rfl rfl (Nat.le_of_ble_eq_true rfl) iX9 m_159 dX9_tell_29 ?_
    refine zr_iload_n (pc := 32) (i := 2) 2 hC dX9_tell_32 rfl rfl ?_
    refine zr_callSN (pc := 33) (As := fun ad => [.ref (ad 20), .int a2]) (st1 := [.int y_7, .ref (X_ad X r1), .int a2, .ref (X_ad X 19)]) hC (Nat.le_of_ble_eq_true rfl) (kX11_at _ ar_20 a2 _) (Nat.le_of_ble_eq_true rfl) mc_yX11_at m_706 m_453 rfl rfl (Nat.le_of_ble_eq_true rfl) dX9_tell_33 (fun y_8 s_8 => ?_)
    refine zr_callS (pc := 36) (As := fun ad => [.ref (ad r1), .int y_7, .int y_8]) (st1 := [.int a2, .ref (X_ad X 19)]) hC (Nat.le_of_ble_eq_true rfl) (kX9_valueAt _ hr1 y_7 y_8 _) (Nat.le_of_ble_eq_true rfl) mc_yX9_valueAt m_719 m_720 rfl rfl rfl (Nat.le_of_ble_eq_true rfl) dX9_tell_36 (fun y_9 s_9 => ?_)
    refine zr_callSNv (pc := 39) (As := fun ad => [.ref (ad 19), .int a2, .int y_9]) (st1 := []) hC (Nat.le_of_ble_eq_true rfl) (kX11_put _ ar_19 a2 y_9 _) (Nat.le_of_ble_eq_true rfl) mc_yX11_put m_710 m_141 rfl rfl (Nat.le_of_ble_eq_true rfl) dX9_tell_39 (fun y_10 s_10 => ?_)
    refine zr_goto (pc := 42) (tgt := 87) hC dX9_tell_42 (by decide) ?_
    exact zr_vret (pc := 87) hC hR dX9_tell_87
  · refine zr_aload_n (pc := 45) (i := 0) 0 hC dX9_tell_45 rfl rfl ?_
    refine zr_getR (pc := 46) (j := 0) (k1 := 17) hC mem_16 lay_16 rfl rfl (Nat.le_of_ble_eq_true rfl) iX9 m_153 dX9_tell_46 ?_
    refine zr_iload_n (pc := 49) (i := 2) 2 hC dX9_tell_49 rfl rfl ?_
    refine zr_callSN (pc := 50) (As := fun ad => [.ref (ad 17), .int a2]) (st1 := []) hC (Nat.le_of_ble_eq_true rfl) (kX11_at _ ar_17 a2 _) (Nat.le_of_ble_eq_true rfl) mc_yX11_at m_706 m_453 rfl rfl (Nat.le_of_ble_eq_true rfl) dX9_tell_50 (fun y_2 s_2 => ?_)
    refine zr_sipush (pc := 53) (v := (300 : Int32)) hC dX9_tell_53 si_300 ?_
    refine zr_icmp_ne (pc := 56) (tgt := 87) hC dX9_tell_56 (by decide) (fun c_ => ?_) (fun c_ => ?_)
    · refine zr_aload_n (pc := 59) (i := 0) 0 hC dX9_tell_59 rfl rfl ?_
      refine zr_getR (pc := 60) (j := 0) (k1 := 17) hC mem_16 lay_16 rfl rfl (Nat.le_of_ble_eq_true rfl) iX9 m_153 dX9_tell_60 ?_
      refine zr_iload_n (pc := 63) (i := 2) 2 hC dX9_tell_63 rfl rfl ?_
      refine zr_aload_n (pc := 64) (i := 1) 1 hC dX9_tell_64 rfl rfl ?_
      refine zr_aload_n (pc := 65) (i := 0) 0 hC dX9_tell_65 rfl rfl ?_
      refine zr_getR (pc := 66) (j := 1) (k1 := 18) hC mem_16 lay_16 rfl rfl (Nat.le_of_ble_eq_true rfl) iX9 m_155 dX9_tell_66 ?_
      refine zr_iload_n (pc := 69) (i := 2) 2 hC dX9_tell_69 rfl rfl ?_
      refine zr_callSN (pc := 70) (As := fun ad => [.ref (ad 18), .int a2]) (st1 := [.ref (X_ad X r1), .int a2, .ref (X_ad X 17)]) hC (Nat.le_of_ble_eq_true rfl) (kX11_at _ ar_18 a2 _) (Nat.le_of_ble_eq_true rfl) mc_yX11_at m_706 m_453 rfl rfl (Nat.le_of_ble_eq_true rfl) dX9_tell_70 (fun y_3 s_3 => ?_)
      refine zr_aload_n (pc := 73) (i := 0) 0 hC dX9_tell_73 rfl rfl ?_
      refine zr_getR (pc := 74) (j := 3) (k1 := 20) hC mem_16 lay_16 rfl rfl (Nat.le_of_ble_eq_true rfl) iX9 m_159 dX9_tell_74 ?_
      refine zr_iload_n (pc := 77) (i := 2) 2 hC dX9_tell_77 rfl rfl ?_
      refine zr_callSN (pc := 78) (As := fun ad => [.ref (ad 20), .int a2]) (st1 := [.int y_3, .ref (X_ad X r1), .int a2, .ref (X_ad X 17)]) hC (Nat.le_of_ble_eq_true rfl) (kX11_at _ ar_20 a2 _) (Nat.le_of_ble_eq_true rfl) mc_yX11_at m_706 m_453 rfl rfl (Nat.le_of_ble_eq_true rfl) dX9_tell_78 (fun y_4 s_4 => ?_)
      refine zr_callS (pc := 81) (As := fun ad => [.ref (ad r1), .int y_3, .int y_4]) (st1 := [.int a2, .ref (X_ad X 17)]) hC (Nat.le_of_ble_eq_true rfl) (kX9_wordAt _ hr1 y_3 y_4 _) (Nat.le_of_ble_eq_true rfl) mc_yX9_wordAt m_722 m_723 rfl rfl rfl (Nat.le_of_ble_eq_true rfl) dX9_tell_81 (fun y_5 s_5 => ?_)
      refine zr_callSNv (pc := 84) (As := fun ad => [.ref (ad 17), .int a2, .int y_5]) (st1 := []) hC (Nat.le_of_ble_eq_true rfl) (kX11_put _ ar_17 a2 y_5 _) (Nat.le_of_ble_eq_true rfl) mc_yX11_put m_710 m_141 rfl rfl (Nat.le_of_ble_eq_true rfl) dX9_tell_84 (fun y_6 s_6 => ?_)
      exact zr_vret (pc := 87) hC hR dX9_tell_87
    · exact zr_vret (pc := 87) hC hR dX9_tell_87
def fX9_cut_J55 (k117 : St → Option (Int32 × St)) (lp : Int32 → Int32 → St → Option (Int32 × St)) (r1 : Nat) (v2 : Int32) (v4 : Int32) (v5 : Int32) (q0 : Int32) (s : St) : Option (Int32 × St) :=
  if q0 = 0 then
    (if v5 = (-3 : Int32) then
    (lp v5 (v4 + (1 : Int32)) s)
  else
    (bd (fX9_add v5 v4 s) (fun y_4 s_4 =>
    lp v5 (v4 + (1 : Int32)) s_4)))
  else
    (bd (fX11_at 20 ((s 16 4) - (1 : Int32)) s) (fun y_5 s_5 =>
    bd (fX11_put 20 ((s 16 4) - (1 : Int32)) (y_5 + (1 : Int32)) s_5) (fun y_6 s_6 =>
    lp v5 (v4 + (1 : Int32)) s_6)))
set_option maxRecDepth 100000 in
set_option maxHeartbeats 4000000 in
theorem tX9_cut_J55 (r1 : Nat) (v2 : Int32) (v4 : Int32) (v5 : Int32) (q0 : Int32) (k117 : St → Option (Int32 × St)) (lp : Int32 → Int32 → St → Option (Int32 × St)) (X : KX) (hC : Ctx X RX9 cX9_cut FULL 14 0) (hR : RC X none) (hN : X_nL X = 7) (hr1 : isArrD FULL r1) (hk117 : ∀ (s : St), Zr X (QFN X none) 0 s 117 [(0, .ref (X_ad X 16)), (1, .ref (X_ad X r1)), (2, .int v2)] [] (k117 s)) (ih : ∀ (u3 : Int32) (u4 : Int32) (s : St), Zr X (QFN X none) 0 s 11 [(0, .ref (X_ad X 16)), (1, .ref (X_ad X r1)), (2, .int v2), (3, .int u3), (4, .int u4)] [] (lp u3 u4 s)) (s : St) : Zr X (QFN X none) 0 s 55 [(0, .ref (X_ad X 16)), (1, .ref (X_ad X r1)), (2, .int v2), (4, .int v4), (5, .int v5)] [.int q0] (fX9_cut_J55 k117 lp r1 v2 v4 v5 q0 s) := by
  rw [fX9_cut_J55]
  refine zr_istore (pc := 55) (ls' := [(6, _), (0, _), (1, _), (2, _), (4, _), (5, _)]) hC dX9_cut_55 (nlt hN (Nat.le_of_ble_eq_true rfl)) rfl ?_
  refine zr_iload (pc := 57) 0 hC dX9_cut_57 rfl ?_
  refine zr_if_eq (pc := 59) (tgt := 93) hC dX9_cut_59 (by decide) (fun c_ => ?_) (fun c_ => ?_)
  · refine zr_iload (pc := 93) 5 hC dX9_cut_93 rfl ?_
    refine zr_bipush (pc := 95) (v := (-3 : Int32)) hC dX9_cut_95 bi_m3 ?_
    refine zr_icmp_eq (pc := 97) (tgt := 108) hC dX9_cut_97 (by decide) (fun c_ => ?_) (fun c_ => ?_)
    · refine zr_iload (pc := 108) 5 hC dX9_cut_108 rfl ?_
      refine zr_istore_n (pc := 110) (i := 3) (ls' := [(3, _), (6, _), (0, _), (1, _), (2, _), (4, _), (5, _)]) hC dX9_cut_110 rfl (nlt hN (Nat.le_of_ble_eq_true rfl)) rfl ?_
      refine zr_iinc (pc := 111) (q := 5) (ls' := [(4, _), (3, _), (6, _), (0, _), (1, _), (2, _), (5, _)]) hC dX9_cut_111 rfl (inc_1 _) (nlt hN (Nat.le_of_ble_eq_true rfl)) rfl ?_
      refine zr_goto (pc := 114) (tgt := 11) hC dX9_cut_114 (by decide) ?_
      refine zr_sub (ls' := [(0, _), (1, _), (2, _), (3, _), (4, _)]) [3, 4, 5, 1, 0] rfl ?_
      exact ih v5 (v4 + (1 : Int32)) s
    · refine zr_aload_n (pc := 100) (i := 0) 1 hC dX9_cut_100 rfl rfl ?_
      refine zr_iload (pc := 101) 5 hC dX9_cut_101 rfl ?_
      refine zr_iload (pc := 103) 4 hC dX9_cut_103 rfl ?_
      refine zr_callVv (pc := 105) (As := fun ad => [.int v5, .int v4]) (st1 := []) hC (Nat.le_of_ble_eq_true rfl) (kX9_add _ v5 v4 _) (Nat.le_of_ble_eq_true rfl) mc_yX9_add m_711 m_713 m_p9 mem_16 lay_16 rfl rfl rfl rfl (Nat.le_of_ble_eq_true rfl) dX9_cut_105 (fun y_4 s_4 => ?_)
      refine zr_iload (pc := 108) 5 hC dX9_cut_108 rfl ?_
      refine zr_istore_n (pc := 110) (i := 3) (ls' := [(3, _), (6, _), (0, _), (1, _), (2, _), (4, _), (5, _)]) hC dX9_cut_110 rfl (nlt hN (Nat.le_of_ble_eq_true rfl)) rfl ?_
      refine zr_iinc (pc := 111) (q := 5) (ls' := [(4, _), (3, _), (6, _), (0, _), (1, _), (2, _), (5, _)]) hC dX9_cut_111 rfl (inc_1 _) (nlt hN (Nat.le_of_ble_eq_true rfl)) rfl ?_
      refine zr_goto (pc := 114) (tgt := 11) hC dX9_cut_114 (by decide) ?_
      refine zr_sub (ls' := [(0, _), (1, _), (2, _), (3, _), (4, _)]) [3, 4, 5, 1, 0] rfl ?_
      exact ih v5 (v4 + (1 : Int32)) s_4
  · refine zr_aload_n (pc := 62) (i := 0) 1 hC dX9_cut_62 rfl rfl ?_
    refine zr_getR (pc := 63) (j := 3) (k1 := 20) hC mem_16 lay_16 rfl rfl (Nat.le_of_ble_eq_true rfl) iX9 m_159 dX9_cut_63 ?_
    refine zr_aload_n (pc := 66) (i := 0) 1 hC dX9_cut_66 rfl rfl ?_
    refine zr_getI (pc := 67) (j := 4) hC mem_16 lay_16 rfl rfl (Nat.le_of_ble_eq_true rfl) iX9 m_160 dX9_cut_67 ?_
    refine zr_iconst (pc := 70) (v := (1 : Int32)) hC dX9_cut_70 ic_1 ?_
    refine zr_isub (pc := 71) hC dX9_cut_71 ?_
    refine zr_aload_n (pc := 72) (i := 0) 1 hC dX9_cut_72 rfl rfl ?_
    refine zr_getR (pc := 73) (j := 3) (k1 := 20) hC mem_16 lay_16 rfl rfl (Nat.le_of_ble_eq_true rfl) iX9 m_159 dX9_cut_73 ?_
    refine zr_aload_n (pc := 76) (i := 0) 1 hC dX9_cut_76 rfl rfl ?_
    refine zr_getI (pc := 77) (j := 4) hC mem_16 lay_16 rfl rfl (Nat.le_of_ble_eq_true rfl) iX9 m_160 dX9_cut_77 ?_
    refine zr_iconst (pc := 80) (v := (1 : Int32)) hC dX9_cut_80 ic_1 ?_
    refine zr_isub (pc := 81) hC dX9_cut_81 ?_
    refine zr_callSN (pc := 82) (As := fun ad => [.ref (ad 20), .int ((s 16 4) - (1 : Int32))]) (st1 := [.int ((s 16 4) - (1 : Int32)), .ref (X_ad X 20)]) hC (Nat.le_of_ble_eq_true rfl) (kX11_at _ ar_20 ((s 16 4) - (1 : Int32)) _) (Nat.le_of_ble_eq_true rfl) mc_yX11_at m_706 m_453 rfl rfl (Nat.le_of_ble_eq_true rfl) dX9_cut_82 (fun y_5 s_5 => ?_)
    refine zr_iconst (pc := 85) (v := (1 : Int32)) hC dX9_cut_85 ic_1 ?_
    refine zr_iadd (pc := 86) hC dX9_cut_86 ?_
    refine zr_callSNv (pc := 87) (As := fun ad => [.ref (ad 20), .int ((s 16 4) - (1 : Int32)), .int (y_5 + (1 : Int32))]) (st1 := []) hC (Nat.le_of_ble_eq_true rfl) (kX11_put _ ar_20 ((s 16 4) - (1 : Int32)) (y_5 + (1 : Int32)) _) (Nat.le_of_ble_eq_true rfl) mc_yX11_put m_710 m_141 rfl rfl (Nat.le_of_ble_eq_true rfl) dX9_cut_87 (fun y_6 s_6 => ?_)
    refine zr_goto (pc := 90) (tgt := 108) hC dX9_cut_90 (by decide) ?_
    refine zr_iload (pc := 108) 5 hC dX9_cut_108 rfl ?_
    refine zr_istore_n (pc := 110) (i := 3) (ls' := [(3, _), (6, _), (0, _), (1, _), (2, _), (4, _), (5, _)]) hC dX9_cut_110 rfl (nlt hN (Nat.le_of_ble_eq_true rfl)) rfl ?_
    refine zr_iinc (pc := 111) (q := 5) (ls' := [(4, _), (3, _), (6, _), (0, _), (1, _), (2, _), (5, _)]) hC dX9_cut_111 rfl (inc_1 _) (nlt hN (Nat.le_of_ble_eq_true rfl)) rfl ?_
    refine zr_goto (pc := 114) (tgt := 11) hC dX9_cut_114 (by decide) ?_
    refine zr_sub (ls' := [(0, _), (1, _), (2, _), (3, _), (4, _)]) [3, 4, 5, 1, 0] rfl ?_
    exact ih v5 (v4 + (1 : Int32)) s_6
def fX9_cut_J54 (k117 : St → Option (Int32 × St)) (lp : Int32 → Int32 → St → Option (Int32 × St)) (r1 : Nat) (v2 : Int32) (v4 : Int32) (v5 : Int32) (s : St) : Option (Int32 × St) :=
  fX9_cut_J55 k117 (lp) r1 v2 v4 v5 (0 : Int32) s
set_option maxRecDepth 100000 in
set_option maxHeartbeats 4000000 in
theorem tX9_cut_J54 (r1 : Nat) (v2 : Int32) (v4 : Int32) (v5 : Int32) (k117 : St → Option (Int32 × St)) (lp : Int32 → Int32 → St → Option (Int32 × St)) (X : KX) (hC : Ctx X RX9 cX9_cut FULL 14 0) (hR : RC X none) (hN : X_nL X = 7) (hr1 : isArrD FULL r1) (hk117 : ∀ (s : St), Zr X (QFN X none) 0 s 117 [(0, .ref (X_ad X 16)), (1, .ref (X_ad X r1)), (2, .int v2)] [] (k117 s)) (ih : ∀ (u3 : Int32) (u4 : Int32) (s : St), Zr X (QFN X none) 0 s 11 [(0, .ref (X_ad X 16)), (1, .ref (X_ad X r1)), (2, .int v2), (3, .int u3), (4, .int u4)] [] (lp u3 u4 s)) (s : St) : Zr X (QFN X none) 0 s 54 [(0, .ref (X_ad X 16)), (1, .ref (X_ad X r1)), (2, .int v2), (4, .int v4), (5, .int v5)] [] (fX9_cut_J54 k117 lp r1 v2 v4 v5 s) := by
  rw [fX9_cut_J54]
  refine zr_iconst (pc := 54) (v := (0 : Int32)) hC dX9_cut_54 ic_0 ?_
  exact tX9_cut_J55 r1 v2 v4 v5 (0 : Int32) _ _ X hC hR hN hr1 hk117 ih _
def fX9_cut_J50 (k117 : St → Option (Int32 × St)) (lp : Int32 → Int32 → St → Option (Int32 × St)) (r1 : Nat) (v2 : Int32) (v4 : Int32) (v5 : Int32) (s : St) : Option (Int32 × St) :=
  fX9_cut_J55 k117 (lp) r1 v2 v4 v5 (1 : Int32) s
set_option maxRecDepth 100000 in
set_option maxHeartbeats 4000000 in
theorem tX9_cut_J50 (r1 : Nat) (v2 : Int32) (v4 : Int32) (v5 : Int32) (k117 : St → Option (Int32 × St)) (lp : Int32 → Int32 → St → Option (Int32 × St)) (X : KX) (hC : Ctx X RX9 cX9_cut FULL 14 0) (hR : RC X none) (hN : X_nL X = 7) (hr1 : isArrD FULL r1) (hk117 : ∀ (s : St), Zr X (QFN X none) 0 s 117 [(0, .ref (X_ad X 16)), (1, .ref (X_ad X r1)), (2, .int v2)] [] (k117 s)) (ih : ∀ (u3 : Int32) (u4 : Int32) (s : St), Zr X (QFN X none) 0 s 11 [(0, .ref (X_ad X 16)), (1, .ref (X_ad X r1)), (2, .int v2), (3, .int u3), (4, .int u4)] [] (lp u3 u4 s)) (s : St) : Zr X (QFN X none) 0 s 50 [(0, .ref (X_ad X 16)), (1, .ref (X_ad X r1)), (2, .int v2), (4, .int v4), (5, .int v5)] [] (fX9_cut_J50 k117 lp r1 v2 v4 v5 s) := by
  rw [fX9_cut_J50]
  refine zr_iconst (pc := 50) (v := (1 : Int32)) hC dX9_cut_50 ic_1 ?_
  refine zr_goto (pc := 51) (tgt := 55) hC dX9_cut_51 (by decide) ?_
  exact tX9_cut_J55 r1 v2 v4 v5 (1 : Int32) _ _ X hC hR hN hr1 hk117 ih _
def fX9_cut_L11 (k117 : St → Option (Int32 × St)) (r1 : Nat) (c2 : Int32) : Nat → Int32 → Int32 → St → Option (Int32 × St)
  | 0, _, _, _ => none
  | n + 1, v3, v4, s =>
    if c2 ≤ v4 then
    (k117 s)
  else
    (bd (fX11_at r1 v4 s) (fun y_2 s_2 =>
    bd (fX9_kindOf y_2 s_2) (fun y_3 s_3 =>
    if y_3 = v3 then
    (if y_3 = (300 : Int32) then
    (fX9_cut_J50 k117 (fX9_cut_L11 k117 r1 c2 n) r1 c2 v4 y_3 s_3)
  else
    (if y_3 = (200 : Int32) then
    (fX9_cut_J50 k117 (fX9_cut_L11 k117 r1 c2 n) r1 c2 v4 y_3 s_3)
  else
    (fX9_cut_J54 k117 (fX9_cut_L11 k117 r1 c2 n) r1 c2 v4 y_3 s_3)))
  else
    (fX9_cut_J54 k117 (fX9_cut_L11 k117 r1 c2 n) r1 c2 v4 y_3 s_3))))
set_option maxRecDepth 100000 in
set_option maxHeartbeats 4000000 in
theorem tX9_cut_L11 (r1 : Nat) (c2 : Int32) (k117 : St → Option (Int32 × St)) (X : KX) (hC : Ctx X RX9 cX9_cut FULL 14 0) (hR : RC X none) (hN : X_nL X = 7) (hr1 : isArrD FULL r1) (hk117 : ∀ (s : St), Zr X (QFN X none) 0 s 117 [(0, .ref (X_ad X 16)), (1, .ref (X_ad X r1)), (2, .int c2)] [] (k117 s)) : ∀ (n : Nat) (v3 : Int32) (v4 : Int32) (s : St), Zr X (QFN X none) 0 s 11 [(0, .ref (X_ad X 16)), (1, .ref (X_ad X r1)), (2, .int c2), (3, .int v3), (4, .int v4)] [] (fX9_cut_L11 k117 r1 c2 n v3 v4 s) := by
  intro n
  induction n with
  | zero =>
    intro v3 v4 s
    exact zr_none
  | succ n ih =>
    intro v3 v4 s
    rw [fX9_cut_L11]
    refine zr_iload (pc := 11) 4 hC dX9_cut_11 rfl ?_
    refine zr_iload_n (pc := 13) (i := 2) 2 hC dX9_cut_13 rfl rfl ?_
    refine zr_icmp_ge (pc := 14) (tgt := 117) hC dX9_cut_14 (by decide) (fun c_ => ?_) (fun c_ => ?_)
    · refine zr_sub (ls' := [(0, _), (1, _), (2, _)]) [0, 1, 2] rfl ?_
      exact hk117 s
    · refine zr_aload_n (pc := 17) (i := 1) 1 hC dX9_cut_17 rfl rfl ?_
      refine zr_iload (pc := 18) 4 hC dX9_cut_18 rfl ?_
      refine zr_callSN (pc := 20) (As := fun ad => [.ref (ad r1), .int v4]) (st1 := []) hC (Nat.le_of_ble_eq_true rfl) (kX11_at _ hr1 v4 _) (Nat.le_of_ble_eq_true rfl) mc_yX11_at m_706 m_453 rfl rfl (Nat.le_of_ble_eq_true rfl) dX9_cut_20 (fun y_2 s_2 => ?_)
      refine zr_callS (pc := 23) (As := fun ad => [.int y_2]) (st1 := []) hC (Nat.le_of_ble_eq_true rfl) (kX9_kindOf _ y_2 _) (Nat.le_of_ble_eq_true rfl) mc_yX9_kindOf m_707 m_708 rfl rfl rfl (Nat.le_of_ble_eq_true rfl) dX9_cut_23 (fun y_3 s_3 => ?_)
      refine zr_istore (pc := 26) (ls' := [(5, _), (0, _), (1, _), (2, _), (3, _), (4, _)]) hC dX9_cut_26 (nlt hN (Nat.le_of_ble_eq_true rfl)) rfl ?_
      refine zr_iload (pc := 28) 0 hC dX9_cut_28 rfl ?_
      refine zr_iload_n (pc := 30) (i := 3) 4 hC dX9_cut_30 rfl rfl ?_
      refine zr_icmp_ne (pc := 31) (tgt := 54) hC dX9_cut_31 (by decide) (fun c_ => ?_) (fun c_ => ?_)
      · refine zr_iload (pc := 34) 0 hC dX9_cut_34 rfl ?_
        refine zr_sipush (pc := 36) (v := (300 : Int32)) hC dX9_cut_36 si_300 ?_
        refine zr_icmp_eq (pc := 39) (tgt := 50) hC dX9_cut_39 (by decide) (fun c_ => ?_) (fun c_ => ?_)
        · refine zr_sub (ls' := [(0, _), (1, _), (2, _), (4, _), (5, _)]) [1, 2, 3, 5, 0] rfl ?_
          exact tX9_cut_J50 r1 c2 v4 y_3 _ _ X hC hR hN hr1 hk117 ih _
        · refine zr_iload (pc := 42) 0 hC dX9_cut_42 rfl ?_
          refine zr_sipush (pc := 44) (v := (200 : Int32)) hC dX9_cut_44 si_200 ?_
          refine zr_icmp_ne (pc := 47) (tgt := 54) hC dX9_cut_47 (by decide) (fun c_ => ?_) (fun c_ => ?_)
          · refine zr_sub (ls' := [(0, _), (1, _), (2, _), (4, _), (5, _)]) [1, 2, 3, 5, 0] rfl ?_
            exact tX9_cut_J50 r1 c2 v4 y_3 _ _ X hC hR hN hr1 hk117 ih _
          · refine zr_sub (ls' := [(0, _), (1, _), (2, _), (4, _), (5, _)]) [1, 2, 3, 5, 0] rfl ?_
            exact tX9_cut_J54 r1 c2 v4 y_3 _ _ X hC hR hN hr1 hk117 ih _
      · refine zr_sub (ls' := [(0, _), (1, _), (2, _), (4, _), (5, _)]) [1, 2, 3, 5, 0] rfl ?_
        exact tX9_cut_J54 r1 c2 v4 y_3 _ _ X hC hR hN hr1 hk117 ih _
def fX9_cut_L120 (k142 : St → Option (Int32 × St)) (r1 : Nat) (c2 : Int32) : Nat → Int32 → St → Option (Int32 × St)
  | 0, _, _ => none
  | n + 1, v4, s =>
    if (s 16 4) ≤ v4 then
    (k142 s)
  else
    (bd (fX9_tell r1 v4 s) (fun y_8 s_8 =>
    fX9_cut_L120 k142 r1 c2 n (v4 + (1 : Int32)) s_8))
set_option maxRecDepth 100000 in
set_option maxHeartbeats 4000000 in
theorem tX9_cut_L120 (r1 : Nat) (c2 : Int32) (k142 : St → Option (Int32 × St)) (X : KX) (hC : Ctx X RX9 cX9_cut FULL 14 0) (hR : RC X none) (hN : X_nL X = 7) (hr1 : isArrD FULL r1) (hk142 : ∀ (s : St), Zr X (QFN X none) 0 s 142 [(0, .ref (X_ad X 16)), (2, .int c2)] [] (k142 s)) : ∀ (n : Nat) (v4 : Int32) (s : St), Zr X (QFN X none) 0 s 120 [(0, .ref (X_ad X 16)), (1, .ref (X_ad X r1)), (2, .int c2), (4, .int v4)] [] (fX9_cut_L120 k142 r1 c2 n v4 s) := by
  intro n
  induction n with
  | zero =>
    intro v4 s
    exact zr_none
  | succ n ih =>
    intro v4 s
    rw [fX9_cut_L120]
    refine zr_iload (pc := 120) 3 hC dX9_cut_120 rfl ?_
    refine zr_aload_n (pc := 122) (i := 0) 0 hC dX9_cut_122 rfl rfl ?_
    refine zr_getI (pc := 123) (j := 4) hC mem_16 lay_16 rfl rfl (Nat.le_of_ble_eq_true rfl) iX9 m_160 dX9_cut_123 ?_
    refine zr_icmp_ge (pc := 126) (tgt := 142) hC dX9_cut_126 (by decide) (fun c_ => ?_) (fun c_ => ?_)
    · refine zr_sub (ls' := [(0, _), (2, _)]) [0, 2] rfl ?_
      exact hk142 s
    · refine zr_aload_n (pc := 129) (i := 0) 0 hC dX9_cut_129 rfl rfl ?_
      refine zr_aload_n (pc := 130) (i := 1) 1 hC dX9_cut_130 rfl rfl ?_
      refine zr_iload (pc := 131) 3 hC dX9_cut_131 rfl ?_
      refine zr_callVv (pc := 133) (As := fun ad => [.ref (ad r1), .int v4]) (st1 := []) hC (Nat.le_of_ble_eq_true rfl) (kX9_tell _ hr1 v4 _) (Nat.le_of_ble_eq_true rfl) mc_yX9_tell m_715 m_717 m_p10 mem_16 lay_16 rfl rfl rfl rfl (Nat.le_of_ble_eq_true rfl) dX9_cut_133 (fun y_8 s_8 => ?_)
      refine zr_iinc (pc := 136) (q := 3) (ls' := [(4, _), (0, _), (1, _), (2, _)]) hC dX9_cut_136 rfl (inc_1 _) (nlt hN (Nat.le_of_ble_eq_true rfl)) rfl ?_
      refine zr_goto (pc := 139) (tgt := 120) hC dX9_cut_139 (by decide) ?_
      refine zr_sub (ls' := [(0, _), (1, _), (2, _), (4, _)]) [1, 2, 3, 0] rfl ?_
      exact ih (v4 + (1 : Int32)) s_8
def fX9_cut (r1 : Nat) (a2 : Int32) (s : St) : Option (Int32 × St) :=
  let s_1 := wr s 16 4 (0 : Int32);
    fX9_cut_L11 (fun s_7 => fX9_cut_L120 (fun s_9 => bd (fX9_add (-1 : Int32) a2 s_9) (fun y_10 s_10 =>
    some (0, s_10))) r1 a2 FU (0 : Int32) s_7) r1 a2 FU (-3 : Int32) (0 : Int32) s_1
set_option maxRecDepth 100000 in
set_option maxHeartbeats 4000000 in
theorem kX9_cut (l : Launch)  {r1 : Nat} (hr1 : isArrD FULL r1) (a2 : Int32) (s : St) : CN l yX9_cut cX9_cut 7 none 14 FULL (fun ad => [.ref (ad 16), .ref (ad r1), .int a2]) s (fX9_cut r1 a2 s) := by
  refine cn_of (by decide) (fun _ => (Nat.le_of_ble_eq_true rfl)) (fun X hC hR hl hN => ?_)
  subst hl
  show Zr X (QFN X none) 0 s 0 [(0, .ref (X_ad X 16)), (1, .ref (X_ad X r1)), (2, .int a2)] [] _
  rw [fX9_cut]
  refine zr_aload_n (pc := 0) (i := 0) 0 hC dX9_cut_0 rfl rfl ?_
  refine zr_iconst (pc := 1) (v := (0 : Int32)) hC dX9_cut_1 ic_0 ?_
  refine zr_putInt (pc := 2) (j := 4) hC mem_16 lay_16 rfl rfl (Nat.le_of_ble_eq_true rfl) iX9 tyX9_ok nmX9 m_160 rfl (by decide +kernel) dX9_cut_2 ?_
  refine zr_bipush (pc := 5) (v := (-3 : Int32)) hC dX9_cut_5 bi_m3 ?_
  refine zr_istore_n (pc := 7) (i := 3) (ls' := [(3, _), (0, _), (1, _), (2, _)]) hC dX9_cut_7 rfl (nlt hN (Nat.le_of_ble_eq_true rfl)) rfl ?_
  refine zr_iconst (pc := 8) (v := (0 : Int32)) hC dX9_cut_8 ic_0 ?_
  refine zr_istore (pc := 9) (ls' := [(4, _), (3, _), (0, _), (1, _), (2, _)]) hC dX9_cut_9 (nlt hN (Nat.le_of_ble_eq_true rfl)) rfl ?_
  refine zr_sub (ls' := [(0, _), (1, _), (2, _), (3, _), (4, _)]) [2, 3, 4, 1, 0] rfl ?_
  refine tX9_cut_L11 r1 a2 _ X hC hR hN hr1 (fun s_7 => ?_) FU (-3 : Int32) (0 : Int32) _
  · refine zr_iconst (pc := 117) (v := (0 : Int32)) hC dX9_cut_117 ic_0 ?_
    refine zr_istore (pc := 118) (ls' := [(4, _), (0, _), (1, _), (2, _)]) hC dX9_cut_118 (nlt hN (Nat.le_of_ble_eq_true rfl)) rfl ?_
    refine zr_sub (ls' := [(0, _), (1, _), (2, _), (4, _)]) [1, 2, 3, 0] rfl ?_
    refine tX9_cut_L120 r1 a2 _ X hC hR hN hr1 (fun s_9 => ?_) FU (0 : Int32) _
    · refine zr_aload_n (pc := 142) (i := 0) 0 hC dX9_cut_142 rfl rfl ?_
      refine zr_iconst (pc := 143) (v := (-1 : Int32)) hC dX9_cut_143 ic_m1 ?_
      refine zr_iload_n (pc := 144) (i := 2) 1 hC dX9_cut_144 rfl rfl ?_
      refine zr_callVv (pc := 145) (As := fun ad => [.int (-1 : Int32), .int a2]) (st1 := []) hC (Nat.le_of_ble_eq_true rfl) (kX9_add _ (-1 : Int32) a2 _) (Nat.le_of_ble_eq_true rfl) mc_yX9_add m_711 m_713 m_p9 mem_16 lay_16 rfl rfl rfl rfl (Nat.le_of_ble_eq_true rfl) dX9_cut_145 (fun y_10 s_10 => ?_)
      exact zr_vret (pc := 148) hC hR dX9_cut_148
def fX5_clear (w : Nat) (s : St) : Option (Int32 × St) :=
  let s_1 := wr s w 2 (0 : Int32);
    let s_2 := wr s_1 w 3 (0 : Int32);
    some (0, s_2)
set_option maxRecDepth 100000 in
set_option maxHeartbeats 4000000 in
theorem kX5_clear (l : Launch)  {w : Nat} (hw : isLaw w) (s : St) : CN l yX5_clear cX5_clear 1 none 1 FULL (fun ad => [.ref (ad w)]) s (fX5_clear w s) := by
  refine cn_of (by decide) (fun _ => (Nat.le_of_ble_eq_true rfl)) (fun X hC hR hl hN => ?_)
  subst hl
  show Zr X (QFN X none) 0 s 0 [(0, .ref (X_ad X w))] [] _
  rw [fX5_clear]
  refine zr_aload_n (pc := 0) (i := 0) 0 hC dX5_clear_0 rfl rfl ?_
  refine zr_iconst (pc := 1) (v := (0 : Int32)) hC dX5_clear_1 ic_0 ?_
  refine zr_putInt (pc := 2) (j := 2) hC hw.1.1 hw.1.2 rfl rfl (Nat.le_of_ble_eq_true rfl) iX5 tyX5_ok nmX5 m_53 rfl (by decide +kernel) dX5_clear_2 ?_
  refine zr_aload_n (pc := 5) (i := 0) 0 hC dX5_clear_5 rfl rfl ?_
  refine zr_iconst (pc := 6) (v := (0 : Int32)) hC dX5_clear_6 ic_0 ?_
  refine zr_putB (by decide) (pc := 7) (j := 3) hC hw.1.1 hw.1.2 rfl rfl (Nat.le_of_ble_eq_true rfl) iX5 tyX5_ok nmX5 m_54 rfl (by decide +kernel) dX5_clear_7 ?_
  exact zr_vret (pc := 10) hC hR dX5_clear_10
def fX4_clear (g : Nat) (s : St) : Option (Int32 × St) :=
  let s_1 := wr s g 0 (0 : Int32);
    let s_2 := wr s_1 g 4 (0 : Int32);
    let s_3 := wr s_2 g 6 (0 : Int32);
    let s_4 := wr s_3 g 10 (300 : Int32);
    bd (fX11_fill (g + 4) (0 : Int32) (144 : Int32) (0 : Int32) s_4) (fun y_5 s_5 =>
    bd (fX5_clear (g + 8) s_5) (fun y_6 s_6 =>
    some (0, s_6)))
set_option maxRecDepth 100000 in
set_option maxHeartbeats 4000000 in
theorem kX4_clear (l : Launch)  {g : Nat} (hg : isLand g) (s : St) : CN l yX4_clear cX4_clear 1 none 3 FULL (fun ad => [.ref (ad g)]) s (fX4_clear g s) := by
  refine cn_of (by decide) (fun _ => (Nat.le_of_ble_eq_true rfl)) (fun X hC hR hl hN => ?_)
  subst hl
  show Zr X (QFN X none) 0 s 0 [(0, .ref (X_ad X g))] [] _
  rw [fX4_clear]
  refine zr_aload_n (pc := 0) (i := 0) 0 hC dX4_clear_0 rfl rfl ?_
  refine zr_iconst (pc := 1) (v := (0 : Int32)) hC dX4_clear_1 ic_0 ?_
  refine zr_putInt (pc := 2) (j := 0) hC hg.1.1 hg.1.2 rfl rfl (Nat.le_of_ble_eq_true rfl) iX4 tyX4_ok nmX4 m_66 rfl (by decide +kernel) dX4_clear_2 ?_
  refine zr_aload_n (pc := 5) (i := 0) 0 hC dX4_clear_5 rfl rfl ?_
  refine zr_iconst (pc := 6) (v := (0 : Int32)) hC dX4_clear_6 ic_0 ?_
  refine zr_putInt (pc := 7) (j := 4) hC hg.1.1 hg.1.2 rfl rfl (Nat.le_of_ble_eq_true rfl) iX4 tyX4_ok nmX4 m_78 rfl (by decide +kernel) dX4_clear_7 ?_
  refine zr_aload_n (pc := 10) (i := 0) 0 hC dX4_clear_10 rfl rfl ?_
  refine zr_iconst (pc := 11) (v := (0 : Int32)) hC dX4_clear_11 ic_0 ?_
  refine zr_putInt (pc := 12) (j := 6) hC hg.1.1 hg.1.2 rfl rfl (Nat.le_of_ble_eq_true rfl) iX4 tyX4_ok nmX4 m_82 rfl (by decide +kernel) dX4_clear_12 ?_
  refine zr_aload_n (pc := 15) (i := 0) 0 hC dX4_clear_15 rfl rfl ?_
  refine zr_sipush (pc := 16) (v := (300 : Int32)) hC dX4_clear_16 si_300 ?_
  refine zr_putInt (pc := 19) (j := 10) hC hg.1.1 hg.1.2 rfl rfl (Nat.le_of_ble_eq_true rfl) iX4 tyX4_ok nmX4 m_99 rfl (by decide +kernel) dX4_clear_19 ?_
  refine zr_aload_n (pc := 22) (i := 0) 0 hC dX4_clear_22 rfl rfl ?_
  refine zr_getR (pc := 23) (j := 5) (k1 := (g + 4)) hC hg.1.1 hg.1.2 rfl rfl (Nat.le_of_ble_eq_true rfl) iX4 m_81 dX4_clear_23 ?_
  refine zr_iconst (pc := 26) (v := (0 : Int32)) hC dX4_clear_26 ic_0 ?_
  refine zr_sipush (pc := 27) (v := (144 : Int32)) hC dX4_clear_27 si_144 ?_
  refine zr_iconst (pc := 30) (v := (0 : Int32)) hC dX4_clear_30 ic_0 ?_
  refine zr_callSNv (pc := 31) (As := fun ad => [.ref (ad (g + 4)), .int (0 : Int32), .int (144 : Int32), .int (0 : Int32)]) (st1 := []) hC (Nat.le_of_ble_eq_true rfl) (kX11_fill _ (isArr_of hg.2.2.2.2.1) (0 : Int32) (144 : Int32) (0 : Int32) _) (Nat.le_of_ble_eq_true rfl) mc_yX11_fill m_799 m_138 rfl rfl (Nat.le_of_ble_eq_true rfl) dX4_clear_31 (fun y_5 s_5 => ?_)
  refine zr_aload_n (pc := 34) (i := 0) 0 hC dX4_clear_34 rfl rfl ?_
  refine zr_getR (pc := 35) (j := 11) (k1 := (g + 8)) hC hg.1.1 hg.1.2 rfl rfl (Nat.le_of_ble_eq_true rfl) iX4 m_103 dX4_clear_35 ?_
  refine zr_callVv (pc := 38) (As := fun ad => []) (st1 := []) hC (Nat.le_of_ble_eq_true rfl) (kX5_clear _ hg.2.2.2.2.2.2.2.2 _) (Nat.le_of_ble_eq_true rfl) mc_yX5_clear m_800 m_801 m_802 hg.2.2.2.2.2.2.2.2.1.1 hg.2.2.2.2.2.2.2.2.1.2 rfl rfl rfl rfl (Nat.le_of_ble_eq_true rfl) dX4_clear_38 (fun y_6 s_6 => ?_)
  exact zr_vret (pc := 41) hC hR dX4_clear_41
def fX10_clear (w : Nat) (s : St) : Option (Int32 × St) :=
  bd (fX11_fill (w + 1) (0 : Int32) (94 : Int32) (0 : Int32) s) (fun y_1 s_1 =>
    bd (fX11_fill (w + 1) (48 : Int32) (72 : Int32) (-1 : Int32) s_1) (fun y_2 s_2 =>
    some (0, s_2)))
set_option maxRecDepth 100000 in
set_option maxHeartbeats 4000000 in
theorem kX10_clear (l : Launch)  {w : Nat} (hw : isWd w) (s : St) : CN l yX10_clear cX10_clear 1 none 3 FULL (fun ad => [.ref (ad w)]) s (fX10_clear w s) := by
  refine cn_of (by decide) (fun _ => (Nat.le_of_ble_eq_true rfl)) (fun X hC hR hl hN => ?_)
  subst hl
  show Zr X (QFN X none) 0 s 0 [(0, .ref (X_ad X w))] [] _
  rw [fX10_clear]
  refine zr_aload_n (pc := 0) (i := 0) 0 hC dX10_clear_0 rfl rfl ?_
  refine zr_getR (pc := 1) (j := 0) (k1 := (w + 1)) hC hw.1.1 hw.1.2 rfl rfl (Nat.le_of_ble_eq_true rfl) iX10 m_143 dX10_clear_1 ?_
  refine zr_iconst (pc := 4) (v := (0 : Int32)) hC dX10_clear_4 ic_0 ?_
  refine zr_bipush (pc := 5) (v := (94 : Int32)) hC dX10_clear_5 bi_94 ?_
  refine zr_iconst (pc := 7) (v := (0 : Int32)) hC dX10_clear_7 ic_0 ?_
  refine zr_callSNv (pc := 8) (As := fun ad => [.ref (ad (w + 1)), .int (0 : Int32), .int (94 : Int32), .int (0 : Int32)]) (st1 := []) hC (Nat.le_of_ble_eq_true rfl) (kX11_fill _ (isArr_of hw.2) (0 : Int32) (94 : Int32) (0 : Int32) _) (Nat.le_of_ble_eq_true rfl) mc_yX11_fill m_137 m_138 rfl rfl (Nat.le_of_ble_eq_true rfl) dX10_clear_8 (fun y_1 s_1 => ?_)
  refine zr_aload_n (pc := 11) (i := 0) 0 hC dX10_clear_11 rfl rfl ?_
  refine zr_getR (pc := 12) (j := 0) (k1 := (w + 1)) hC hw.1.1 hw.1.2 rfl rfl (Nat.le_of_ble_eq_true rfl) iX10 m_143 dX10_clear_12 ?_
  refine zr_bipush (pc := 15) (v := (48 : Int32)) hC dX10_clear_15 bi_48 ?_
  refine zr_bipush (pc := 17) (v := (72 : Int32)) hC dX10_clear_17 bi_72 ?_
  refine zr_iconst (pc := 19) (v := (-1 : Int32)) hC dX10_clear_19 ic_m1 ?_
  refine zr_callSNv (pc := 20) (As := fun ad => [.ref (ad (w + 1)), .int (48 : Int32), .int (72 : Int32), .int (-1 : Int32)]) (st1 := []) hC (Nat.le_of_ble_eq_true rfl) (kX11_fill _ (isArr_of hw.2) (48 : Int32) (72 : Int32) (-1 : Int32) _) (Nat.le_of_ble_eq_true rfl) mc_yX11_fill m_137 m_138 rfl rfl (Nat.le_of_ble_eq_true rfl) dX10_clear_20 (fun y_2 s_2 => ?_)
  exact zr_vret (pc := 23) hC hR dX10_clear_23
def fX6_advance (s : St) : Option (Int32 × St) :=
  if (s 2 4) = 0 then
    (let s_1 := wr s 2 5 ((s 2 5) + (1 : Int32));
    bd (fX11_at 17 (s_1 2 5) s_1) (fun y_2 s_2 =>
    let s_3 := wr s_2 2 6 y_2;
    bd (fX11_at 19 (s_3 2 5) s_3) (fun y_4 s_4 =>
    let s_5 := wr s_4 2 7 y_4;
    some (0, s_5))))
  else
    (some (0, s))
set_option maxRecDepth 100000 in
set_option maxHeartbeats 4000000 in
theorem kX6_advance (l : Launch)  (s : St) : CN l yX6_advance cX6_advance 1 none 2 FULL (fun ad => [.ref (ad 2)]) s (fX6_advance s) := by
  refine cn_of (by decide) (fun _ => (Nat.le_of_ble_eq_true rfl)) (fun X hC hR hl hN => ?_)
  subst hl
  show Zr X (QFN X none) 0 s 0 [(0, .ref (X_ad X 2))] [] _
  rw [fX6_advance]
  refine zr_aload_n (pc := 0) (i := 0) 0 hC dX6_advance_0 rfl rfl ?_
  refine zr_getI (pc := 1) (j := 4) hC mem_2 lay_2 rfl rfl (Nat.le_of_ble_eq_true rfl) iX6 m_179 dX6_advance_1 ?_
  refine zr_if_ne (pc := 4) (tgt := 53) hC dX6_advance_4 (by decide) (fun c_ => ?_) (fun c_ => ?_)
  · refine zr_aload_n (pc := 7) (i := 0) 0 hC dX6_advance_7 rfl rfl ?_
    refine zr_dup (pc := 8) hC dX6_advance_8 rfl ?_
    refine zr_getI (pc := 9) (j := 5) hC mem_2 lay_2 rfl rfl (Nat.le_of_ble_eq_true rfl) iX6 m_180 dX6_advance_9 ?_
    refine zr_iconst (pc := 12) (v := (1 : Int32)) hC dX6_advance_12 ic_1 ?_
    refine zr_iadd (pc := 13) hC dX6_advance_13 ?_
    refine zr_putInt (pc := 14) (j := 5) hC mem_2 lay_2 rfl rfl (Nat.le_of_ble_eq_true rfl) iX6 tyX6_ok nmX6 m_180 rfl (by decide +kernel) dX6_advance_14 ?_
    refine zr_aload_n (pc := 17) (i := 0) 0 hC dX6_advance_17 rfl rfl ?_
    refine zr_aload_n (pc := 18) (i := 0) 0 hC dX6_advance_18 rfl rfl ?_
    refine zr_getR (pc := 19) (j := 3) (k1 := 16) hC mem_2 lay_2 rfl rfl (Nat.le_of_ble_eq_true rfl) iX6 m_178 dX6_advance_19 ?_
    refine zr_getR (pc := 22) (j := 0) (k1 := 17) hC mem_16 lay_16 rfl rfl (Nat.le_of_ble_eq_true rfl) iX9 m_154 dX6_advance_22 ?_
    refine zr_aload_n (pc := 25) (i := 0) 0 hC dX6_advance_25 rfl rfl ?_
    refine zr_getI (pc := 26) (j := 5) hC mem_2 lay_2 rfl rfl (Nat.le_of_ble_eq_true rfl) iX6 m_180 dX6_advance_26 ?_
    refine zr_callSN (pc := 29) (As := fun ad => [.ref (ad 17), .int ((wr s 2 5 ((s 2 5) + (1 : Int32))) 2 5)]) (st1 := [.ref (X_ad X 2)]) hC (Nat.le_of_ble_eq_true rfl) (kX11_at _ ar_17 ((wr s 2 5 ((s 2 5) + (1 : Int32))) 2 5) _) (Nat.le_of_ble_eq_true rfl) mc_yX11_at m_812 m_453 rfl rfl (Nat.le_of_ble_eq_true rfl) dX6_advance_29 (fun y_2 s_2 => ?_)
    refine zr_putInt (pc := 32) (j := 6) hC mem_2 lay_2 rfl rfl (Nat.le_of_ble_eq_true rfl) iX6 tyX6_ok nmX6 m_181 rfl (by decide +kernel) dX6_advance_32 ?_
    refine zr_aload_n (pc := 35) (i := 0) 0 hC dX6_advance_35 rfl rfl ?_
    refine zr_aload_n (pc := 36) (i := 0) 0 hC dX6_advance_36 rfl rfl ?_
    refine zr_getR (pc := 37) (j := 3) (k1 := 16) hC mem_2 lay_2 rfl rfl (Nat.le_of_ble_eq_true rfl) iX6 m_178 dX6_advance_37 ?_
    refine zr_getR (pc := 40) (j := 2) (k1 := 19) hC mem_16 lay_16 rfl rfl (Nat.le_of_ble_eq_true rfl) iX9 m_158 dX6_advance_40 ?_
    refine zr_aload_n (pc := 43) (i := 0) 0 hC dX6_advance_43 rfl rfl ?_
    refine zr_getI (pc := 44) (j := 5) hC mem_2 lay_2 rfl rfl (Nat.le_of_ble_eq_true rfl) iX6 m_180 dX6_advance_44 ?_
    refine zr_callSN (pc := 47) (As := fun ad => [.ref (ad 19), .int ((wr s_2 2 6 y_2) 2 5)]) (st1 := [.ref (X_ad X 2)]) hC (Nat.le_of_ble_eq_true rfl) (kX11_at _ ar_19 ((wr s_2 2 6 y_2) 2 5) _) (Nat.le_of_ble_eq_true rfl) mc_yX11_at m_812 m_453 rfl rfl (Nat.le_of_ble_eq_true rfl) dX6_advance_47 (fun y_4 s_4 => ?_)
    refine zr_putInt (pc := 50) (j := 7) hC mem_2 lay_2 rfl rfl (Nat.le_of_ble_eq_true rfl) iX6 tyX6_ok nmX6 m_182 rfl (by decide +kernel) dX6_advance_50 ?_
    exact zr_vret (pc := 53) hC hR dX6_advance_53
  · exact zr_vret (pc := 53) hC hR dX6_advance_53
def fX6_refuse (a1 : Int32) (s : St) : Option (Int32 × St) :=
  if (s 2 4) = 0 then
    (let s_1 := wr s 2 4 a1;
    some (0, s_1))
  else
    (some (0, s))
set_option maxRecDepth 100000 in
set_option maxHeartbeats 4000000 in
theorem kX6_refuse (l : Launch)  (a1 : Int32) (s : St) : CN l yX6_refuse cX6_refuse 2 none 1 FULL (fun ad => [.ref (ad 2), .int a1]) s (fX6_refuse a1 s) := by
  refine cn_of (by decide) (fun _ => (Nat.le_of_ble_eq_true rfl)) (fun X hC hR hl hN => ?_)
  subst hl
  show Zr X (QFN X none) 0 s 0 [(0, .ref (X_ad X 2)), (1, .int a1)] [] _
  rw [fX6_refuse]
  refine zr_aload_n (pc := 0) (i := 0) 0 hC dX6_refuse_0 rfl rfl ?_
  refine zr_getI (pc := 1) (j := 4) hC mem_2 lay_2 rfl rfl (Nat.le_of_ble_eq_true rfl) iX6 m_179 dX6_refuse_1 ?_
  refine zr_if_ne (pc := 4) (tgt := 12) hC dX6_refuse_4 (by decide) (fun c_ => ?_) (fun c_ => ?_)
  · refine zr_aload_n (pc := 7) (i := 0) 0 hC dX6_refuse_7 rfl rfl ?_
    refine zr_iload_n (pc := 8) (i := 1) 1 hC dX6_refuse_8 rfl rfl ?_
    refine zr_putInt (pc := 9) (j := 4) hC mem_2 lay_2 rfl rfl (Nat.le_of_ble_eq_true rfl) iX6 tyX6_ok nmX6 m_179 rfl (by decide +kernel) dX6_refuse_9 ?_
    exact zr_vret (pc := 12) hC hR dX6_refuse_12
  · exact zr_vret (pc := 12) hC hR dX6_refuse_12
def fX6_takeFirst (a1 : Int32) (a2 : Int32) (s : St) : Option (Int32 × St) :=
  if a1 = 0 then
    (bd (fX6_advance s) (fun y_1 s_1 =>
    some (0, s_1)))
  else
    (bd (fX6_refuse a2 s) (fun y_2 s_2 =>
    bd (fX6_advance s_2) (fun y_3 s_3 =>
    some (0, s_3))))
set_option maxRecDepth 100000 in
set_option maxHeartbeats 4000000 in
theorem kX6_takeFirst (l : Launch)  (a1 : Int32) (a2 : Int32) (s : St) : CN l yX6_takeFirst cX6_takeFirst 3 none 3 FULL (fun ad => [.ref (ad 2), .int a1, .int a2]) s (fX6_takeFirst a1 a2 s) := by
  refine cn_of (by decide) (fun _ => (Nat.le_of_ble_eq_true rfl)) (fun X hC hR hl hN => ?_)
  subst hl
  show Zr X (QFN X none) 0 s 0 [(0, .ref (X_ad X 2)), (1, .int a1), (2, .int a2)] [] _
  rw [fX6_takeFirst]
  refine zr_iload_n (pc := 0) (i := 1) 1 hC dX6_takeFirst_0 rfl rfl ?_
  refine zr_if_eq (pc := 1) (tgt := 9) hC dX6_takeFirst_1 (by decide) (fun c_ => ?_) (fun c_ => ?_)
  · refine zr_aload_n (pc := 9) (i := 0) 0 hC dX6_takeFirst_9 rfl rfl ?_
    refine zr_callVv (pc := 10) (As := fun ad => []) (st1 := []) hC (Nat.le_of_ble_eq_true rfl) (kX6_advance _  _) (Nat.le_of_ble_eq_true rfl) mc_yX6_advance m_808 m_810 m_p11 mem_2 lay_2 rfl rfl rfl rfl (Nat.le_of_ble_eq_true rfl) dX6_takeFirst_10 (fun y_1 s_1 => ?_)
    exact zr_vret (pc := 13) hC hR dX6_takeFirst_13
  · refine zr_aload_n (pc := 4) (i := 0) 0 hC dX6_takeFirst_4 rfl rfl ?_
    refine zr_iload_n (pc := 5) (i := 2) 2 hC dX6_takeFirst_5 rfl rfl ?_
    refine zr_callVv (pc := 6) (As := fun ad => [.int a2]) (st1 := []) hC (Nat.le_of_ble_eq_true rfl) (kX6_refuse _ a2 _) (Nat.le_of_ble_eq_true rfl) mc_yX6_refuse m_825 m_827 m_p15 mem_2 lay_2 rfl rfl rfl rfl (Nat.le_of_ble_eq_true rfl) dX6_takeFirst_6 (fun y_2 s_2 => ?_)
    refine zr_aload_n (pc := 9) (i := 0) 0 hC dX6_takeFirst_9 rfl rfl ?_
    refine zr_callVv (pc := 10) (As := fun ad => []) (st1 := []) hC (Nat.le_of_ble_eq_true rfl) (kX6_advance _  _) (Nat.le_of_ble_eq_true rfl) mc_yX6_advance m_808 m_810 m_p11 mem_2 lay_2 rfl rfl rfl rfl (Nat.le_of_ble_eq_true rfl) dX6_takeFirst_10 (fun y_3 s_3 => ?_)
    exact zr_vret (pc := 13) hC hR dX6_takeFirst_13
def fX6_lookNumber_J22 (v1 : Int32) (v2 : Int32) (s : St) : Option (Int32 × St) :=
  if (s 2 7) < v1 then
    (bd (fX6_refuse (2 : Int32) s) (fun y_1 s_1 =>
    some ((s_1 2 7), s_1)))
  else
    (if (s 2 7) ≤ v2 then
    (some ((s 2 7), s))
  else
    (bd (fX6_refuse (2 : Int32) s) (fun y_2 s_2 =>
    some ((s_2 2 7), s_2))))
set_option maxRecDepth 100000 in
set_option maxHeartbeats 4000000 in
theorem tX6_lookNumber_J22 (v1 : Int32) (v2 : Int32) (X : KX) (hC : Ctx X RX6 cX6_lookNumber FULL 2 0) (hR : RC X (some .int)) (hN : X_nL X = 3) (s : St) : Zr X (QFN X (some .int)) 0 s 22 [(0, .ref (X_ad X 2)), (1, .int v1), (2, .int v2)] [] (fX6_lookNumber_J22 v1 v2 s) := by
  rw [fX6_lookNumber_J22]
  refine zr_aload_n (pc := 22) (i := 0) 0 hC dX6_lookNumber_22 rfl rfl ?_
  refine zr_getI (pc := 23) (j := 7) hC mem_2 lay_2 rfl rfl (Nat.le_of_ble_eq_true rfl) iX6 m_182 dX6_lookNumber_23 ?_
  refine zr_iload_n (pc := 26) (i := 1) 1 hC dX6_lookNumber_26 rfl rfl ?_
  refine zr_icmp_lt (pc := 27) (tgt := 38) hC dX6_lookNumber_27 (by decide) (fun c_ => ?_) (fun c_ => ?_)
  · refine zr_aload_n (pc := 38) (i := 0) 0 hC dX6_lookNumber_38 rfl rfl ?_
    refine zr_iconst (pc := 39) (v := (2 : Int32)) hC dX6_lookNumber_39 ic_2 ?_
    refine zr_callVv (pc := 40) (As := fun ad => [.int (2 : Int32)]) (st1 := []) hC (Nat.le_of_ble_eq_true rfl) (kX6_refuse _ (2 : Int32) _) (Nat.le_of_ble_eq_true rfl) mc_yX6_refuse m_825 m_827 m_p15 mem_2 lay_2 rfl rfl rfl rfl (Nat.le_of_ble_eq_true rfl) dX6_lookNumber_40 (fun y_1 s_1 => ?_)
    refine zr_aload_n (pc := 43) (i := 0) 0 hC dX6_lookNumber_43 rfl rfl ?_
    refine zr_getI (pc := 44) (j := 7) hC mem_2 lay_2 rfl rfl (Nat.le_of_ble_eq_true rfl) iX6 m_182 dX6_lookNumber_44 ?_
    exact zr_iret (pc := 47) hC hR dX6_lookNumber_47
  · refine zr_aload_n (pc := 30) (i := 0) 0 hC dX6_lookNumber_30 rfl rfl ?_
    refine zr_getI (pc := 31) (j := 7) hC mem_2 lay_2 rfl rfl (Nat.le_of_ble_eq_true rfl) iX6 m_182 dX6_lookNumber_31 ?_
    refine zr_iload_n (pc := 34) (i := 2) 2 hC dX6_lookNumber_34 rfl rfl ?_
    refine zr_icmp_le (pc := 35) (tgt := 43) hC dX6_lookNumber_35 (by decide) (fun c_ => ?_) (fun c_ => ?_)
    · refine zr_aload_n (pc := 43) (i := 0) 0 hC dX6_lookNumber_43 rfl rfl ?_
      refine zr_getI (pc := 44) (j := 7) hC mem_2 lay_2 rfl rfl (Nat.le_of_ble_eq_true rfl) iX6 m_182 dX6_lookNumber_44 ?_
      exact zr_iret (pc := 47) hC hR dX6_lookNumber_47
    · refine zr_aload_n (pc := 38) (i := 0) 0 hC dX6_lookNumber_38 rfl rfl ?_
      refine zr_iconst (pc := 39) (v := (2 : Int32)) hC dX6_lookNumber_39 ic_2 ?_
      refine zr_callVv (pc := 40) (As := fun ad => [.int (2 : Int32)]) (st1 := []) hC (Nat.le_of_ble_eq_true rfl) (kX6_refuse _ (2 : Int32) _) (Nat.le_of_ble_eq_true rfl) mc_yX6_refuse m_825 m_827 m_p15 mem_2 lay_2 rfl rfl rfl rfl (Nat.le_of_ble_eq_true rfl) dX6_lookNumber_40 (fun y_2 s_2 => ?_)
      refine zr_aload_n (pc := 43) (i := 0) 0 hC dX6_lookNumber_43 rfl rfl ?_
      refine zr_getI (pc := 44) (j := 7) hC mem_2 lay_2 rfl rfl (Nat.le_of_ble_eq_true rfl) iX6 m_182 dX6_lookNumber_44 ?_
      exact zr_iret (pc := 47) hC hR dX6_lookNumber_47
def fX6_lookNumber (a1 : Int32) (a2 : Int32) (s : St) : Option (Int32 × St) :=
  if (s 2 4) = 0 then
    (if (s 2 6) = (200 : Int32) then
    (fX6_lookNumber_J22 a1 a2 s)
  else
    (bd (fX6_refuse (1 : Int32) s) (fun y_3 s_3 =>
    fX6_lookNumber_J22 a1 a2 s_3)))
  else
    (fX6_lookNumber_J22 a1 a2 s)
set_option maxRecDepth 100000 in
set_option maxHeartbeats 4000000 in
theorem kX6_lookNumber (l : Launch)  (a1 : Int32) (a2 : Int32) (s : St) : CN l yX6_lookNumber cX6_lookNumber 3 (some .int) 2 FULL (fun ad => [.ref (ad 2), .int a1, .int a2]) s (fX6_lookNumber a1 a2 s) := by
  refine cn_of (by decide) (fun _ => (Nat.le_of_ble_eq_true rfl)) (fun X hC hR hl hN => ?_)
  subst hl
  show Zr X (QFN X (some .int)) 0 s 0 [(0, .ref (X_ad X 2)), (1, .int a1), (2, .int a2)] [] _
  rw [fX6_lookNumber]
  refine zr_aload_n (pc := 0) (i := 0) 0 hC dX6_lookNumber_0 rfl rfl ?_
  refine zr_getI (pc := 1) (j := 4) hC mem_2 lay_2 rfl rfl (Nat.le_of_ble_eq_true rfl) iX6 m_179 dX6_lookNumber_1 ?_
  refine zr_if_ne (pc := 4) (tgt := 22) hC dX6_lookNumber_4 (by decide) (fun c_ => ?_) (fun c_ => ?_)
  · refine zr_aload_n (pc := 7) (i := 0) 0 hC dX6_lookNumber_7 rfl rfl ?_
    refine zr_getI (pc := 8) (j := 6) hC mem_2 lay_2 rfl rfl (Nat.le_of_ble_eq_true rfl) iX6 m_181 dX6_lookNumber_8 ?_
    refine zr_sipush (pc := 11) (v := (200 : Int32)) hC dX6_lookNumber_11 si_200 ?_
    refine zr_icmp_eq (pc := 14) (tgt := 22) hC dX6_lookNumber_14 (by decide) (fun c_ => ?_) (fun c_ => ?_)
    · exact tX6_lookNumber_J22 a1 a2 X hC hR hN  _
    · refine zr_aload_n (pc := 17) (i := 0) 0 hC dX6_lookNumber_17 rfl rfl ?_
      refine zr_iconst (pc := 18) (v := (1 : Int32)) hC dX6_lookNumber_18 ic_1 ?_
      refine zr_callVv (pc := 19) (As := fun ad => [.int (1 : Int32)]) (st1 := []) hC (Nat.le_of_ble_eq_true rfl) (kX6_refuse _ (1 : Int32) _) (Nat.le_of_ble_eq_true rfl) mc_yX6_refuse m_825 m_827 m_p15 mem_2 lay_2 rfl rfl rfl rfl (Nat.le_of_ble_eq_true rfl) dX6_lookNumber_19 (fun y_3 s_3 => ?_)
      exact tX6_lookNumber_J22 a1 a2 X hC hR hN  _
  · exact tX6_lookNumber_J22 a1 a2 X hC hR hN  _
def fX6_lookPerson_J25 (v1 : Int32) (v2 : Int32) (s : St) : Option (Int32 × St) :=
  if v2 = v1 then
    (bd (fX6_refuse (4 : Int32) s) (fun y_2 s_2 =>
    some (v2, s_2)))
  else
    (some (v2, s))
set_option maxRecDepth 100000 in
set_option maxHeartbeats 4000000 in
theorem tX6_lookPerson_J25 (v1 : Int32) (v2 : Int32) (X : KX) (hC : Ctx X RX6 cX6_lookPerson FULL 3 0) (hR : RC X (some .int)) (hN : X_nL X = 3) (s : St) : Zr X (QFN X (some .int)) 0 s 25 [(0, .ref (X_ad X 2)), (1, .int v1), (2, .int v2)] [] (fX6_lookPerson_J25 v1 v2 s) := by
  rw [fX6_lookPerson_J25]
  refine zr_iload_n (pc := 25) (i := 2) 2 hC dX6_lookPerson_25 rfl rfl ?_
  refine zr_iload_n (pc := 26) (i := 1) 1 hC dX6_lookPerson_26 rfl rfl ?_
  refine zr_icmp_ne (pc := 27) (tgt := 35) hC dX6_lookPerson_27 (by decide) (fun c_ => ?_) (fun c_ => ?_)
  · refine zr_aload_n (pc := 30) (i := 0) 0 hC dX6_lookPerson_30 rfl rfl ?_
    refine zr_iconst (pc := 31) (v := (4 : Int32)) hC dX6_lookPerson_31 ic_4 ?_
    refine zr_callVv (pc := 32) (As := fun ad => [.int (4 : Int32)]) (st1 := []) hC (Nat.le_of_ble_eq_true rfl) (kX6_refuse _ (4 : Int32) _) (Nat.le_of_ble_eq_true rfl) mc_yX6_refuse m_825 m_827 m_p15 mem_2 lay_2 rfl rfl rfl rfl (Nat.le_of_ble_eq_true rfl) dX6_lookPerson_32 (fun y_2 s_2 => ?_)
    refine zr_iload_n (pc := 35) (i := 2) 2 hC dX6_lookPerson_35 rfl rfl ?_
    exact zr_iret (pc := 36) hC hR dX6_lookPerson_36
  · refine zr_iload_n (pc := 35) (i := 2) 2 hC dX6_lookPerson_35 rfl rfl ?_
    exact zr_iret (pc := 36) hC hR dX6_lookPerson_36
def fX6_lookPerson (a1 : Int32) (s : St) : Option (Int32 × St) :=
  bd (fX6_lookNumber (0 : Int32) (9999 : Int32) s) (fun y_1 s_1 =>
    if y_1 < (s_1 3 0) then
    (fX6_lookPerson_J25 a1 y_1 s_1)
  else
    (bd (fX6_refuse (3 : Int32) s_1) (fun y_3 s_3 =>
    fX6_lookPerson_J25 a1 y_1 s_3)))
set_option maxRecDepth 100000 in
set_option maxHeartbeats 4000000 in
theorem kX6_lookPerson (l : Launch)  (a1 : Int32) (s : St) : CN l yX6_lookPerson cX6_lookPerson 3 (some .int) 3 FULL (fun ad => [.ref (ad 2), .int a1]) s (fX6_lookPerson a1 s) := by
  refine cn_of (by decide) (fun _ => (Nat.le_of_ble_eq_true rfl)) (fun X hC hR hl hN => ?_)
  subst hl
  show Zr X (QFN X (some .int)) 0 s 0 [(0, .ref (X_ad X 2)), (1, .int a1)] [] _
  rw [fX6_lookPerson]
  refine zr_aload_n (pc := 0) (i := 0) 0 hC dX6_lookPerson_0 rfl rfl ?_
  refine zr_iconst (pc := 1) (v := (0 : Int32)) hC dX6_lookPerson_1 ic_0 ?_
  refine zr_sipush (pc := 2) (v := (9999 : Int32)) hC dX6_lookPerson_2 si_9999 ?_
  refine zr_callV (pc := 5) (As := fun ad => [.int (0 : Int32), .int (9999 : Int32)]) (st1 := []) hC (Nat.le_of_ble_eq_true rfl) (kX6_lookNumber _ (0 : Int32) (9999 : Int32) _) (Nat.le_of_ble_eq_true rfl) mc_yX6_lookNumber m_837 m_839 m_p18 mem_2 lay_2 rfl rfl rfl rfl (Nat.le_of_ble_eq_true rfl) dX6_lookPerson_5 (fun y_1 s_1 => ?_)
  refine zr_istore_n (pc := 8) (i := 2) (ls' := [(2, _), (0, _), (1, _)]) hC dX6_lookPerson_8 rfl (nlt hN (Nat.le_of_ble_eq_true rfl)) rfl ?_
  refine zr_iload_n (pc := 9) (i := 2) 0 hC dX6_lookPerson_9 rfl rfl ?_
  refine zr_aload_n (pc := 10) (i := 0) 1 hC dX6_lookPerson_10 rfl rfl ?_
  refine zr_getR (pc := 11) (j := 0) (k1 := 3) hC mem_2 lay_2 rfl rfl (Nat.le_of_ble_eq_true rfl) iX6 m_172 dX6_lookPerson_11 ?_
  refine zr_getI (pc := 14) (j := 0) hC mem_3 lay_3 rfl rfl (Nat.le_of_ble_eq_true rfl) iX4 m_71 dX6_lookPerson_14 ?_
  refine zr_icmp_lt (pc := 17) (tgt := 25) hC dX6_lookPerson_17 (by decide) (fun c_ => ?_) (fun c_ => ?_)
  · refine zr_sub (ls' := [(0, _), (1, _), (2, _)]) [1, 2, 0] rfl ?_
    exact tX6_lookPerson_J25 a1 y_1 X hC hR hN  _
  · refine zr_aload_n (pc := 20) (i := 0) 1 hC dX6_lookPerson_20 rfl rfl ?_
    refine zr_iconst (pc := 21) (v := (3 : Int32)) hC dX6_lookPerson_21 ic_3 ?_
    refine zr_callVv (pc := 22) (As := fun ad => [.int (3 : Int32)]) (st1 := []) hC (Nat.le_of_ble_eq_true rfl) (kX6_refuse _ (3 : Int32) _) (Nat.le_of_ble_eq_true rfl) mc_yX6_refuse m_825 m_827 m_p15 mem_2 lay_2 rfl rfl rfl rfl (Nat.le_of_ble_eq_true rfl) dX6_lookPerson_22 (fun y_3 s_3 => ?_)
    refine zr_sub (ls' := [(0, _), (1, _), (2, _)]) [1, 2, 0] rfl ?_
    exact tX6_lookPerson_J25 a1 y_1 X hC hR hN  _
def fX6_takePerson (a1 : Int32) (s : St) : Option (Int32 × St) :=
  bd (fX6_lookPerson a1 s) (fun y_1 s_1 =>
    bd (fX6_advance s_1) (fun y_2 s_2 =>
    some (y_1, s_2)))
set_option maxRecDepth 100000 in
set_option maxHeartbeats 4000000 in
theorem kX6_takePerson (l : Launch)  (a1 : Int32) (s : St) : CN l yX6_takePerson cX6_takePerson 3 (some .int) 4 FULL (fun ad => [.ref (ad 2), .int a1]) s (fX6_takePerson a1 s) := by
  refine cn_of (by decide) (fun _ => (Nat.le_of_ble_eq_true rfl)) (fun X hC hR hl hN => ?_)
  subst hl
  show Zr X (QFN X (some .int)) 0 s 0 [(0, .ref (X_ad X 2)), (1, .int a1)] [] _
  rw [fX6_takePerson]
  refine zr_aload_n (pc := 0) (i := 0) 0 hC dX6_takePerson_0 rfl rfl ?_
  refine zr_iload_n (pc := 1) (i := 1) 1 hC dX6_takePerson_1 rfl rfl ?_
  refine zr_callV (pc := 2) (As := fun ad => [.int a1]) (st1 := []) hC (Nat.le_of_ble_eq_true rfl) (kX6_lookPerson _ a1 _) (Nat.le_of_ble_eq_true rfl) mc_yX6_lookPerson m_833 m_835 m_p17 mem_2 lay_2 rfl rfl rfl rfl (Nat.le_of_ble_eq_true rfl) dX6_takePerson_2 (fun y_1 s_1 => ?_)
  refine zr_istore_n (pc := 5) (i := 2) (ls' := [(2, _), (0, _), (1, _)]) hC dX6_takePerson_5 rfl (nlt hN (Nat.le_of_ble_eq_true rfl)) rfl ?_
  refine zr_aload_n (pc := 6) (i := 0) 1 hC dX6_takePerson_6 rfl rfl ?_
  refine zr_callVv (pc := 7) (As := fun ad => []) (st1 := []) hC (Nat.le_of_ble_eq_true rfl) (kX6_advance _  _) (Nat.le_of_ble_eq_true rfl) mc_yX6_advance m_808 m_810 m_p11 mem_2 lay_2 rfl rfl rfl rfl (Nat.le_of_ble_eq_true rfl) dX6_takePerson_7 (fun y_2 s_2 => ?_)
  refine zr_iload_n (pc := 10) (i := 2) 0 hC dX6_takePerson_10 rfl rfl ?_
  exact zr_iret (pc := 11) hC hR dX6_takePerson_11
def fX6_takeNumber (a1 : Int32) (a2 : Int32) (s : St) : Option (Int32 × St) :=
  bd (fX6_lookNumber a1 a2 s) (fun y_1 s_1 =>
    bd (fX6_advance s_1) (fun y_2 s_2 =>
    some (y_1, s_2)))
set_option maxRecDepth 100000 in
set_option maxHeartbeats 4000000 in
theorem kX6_takeNumber (l : Launch)  (a1 : Int32) (a2 : Int32) (s : St) : CN l yX6_takeNumber cX6_takeNumber 4 (some .int) 3 FULL (fun ad => [.ref (ad 2), .int a1, .int a2]) s (fX6_takeNumber a1 a2 s) := by
  refine cn_of (by decide) (fun _ => (Nat.le_of_ble_eq_true rfl)) (fun X hC hR hl hN => ?_)
  subst hl
  show Zr X (QFN X (some .int)) 0 s 0 [(0, .ref (X_ad X 2)), (1, .int a1), (2, .int a2)] [] _
  rw [fX6_takeNumber]
  refine zr_aload_n (pc := 0) (i := 0) 0 hC dX6_takeNumber_0 rfl rfl ?_
  refine zr_iload_n (pc := 1) (i := 1) 1 hC dX6_takeNumber_1 rfl rfl ?_
  refine zr_iload_n (pc := 2) (i := 2) 2 hC dX6_takeNumber_2 rfl rfl ?_
  refine zr_callV (pc := 3) (As := fun ad => [.int a1, .int a2]) (st1 := []) hC (Nat.le_of_ble_eq_true rfl) (kX6_lookNumber _ a1 a2 _) (Nat.le_of_ble_eq_true rfl) mc_yX6_lookNumber m_837 m_839 m_p18 mem_2 lay_2 rfl rfl rfl rfl (Nat.le_of_ble_eq_true rfl) dX6_takeNumber_3 (fun y_1 s_1 => ?_)
  refine zr_istore_n (pc := 6) (i := 3) (ls' := [(3, _), (0, _), (1, _), (2, _)]) hC dX6_takeNumber_6 rfl (nlt hN (Nat.le_of_ble_eq_true rfl)) rfl ?_
  refine zr_aload_n (pc := 7) (i := 0) 1 hC dX6_takeNumber_7 rfl rfl ?_
  refine zr_callVv (pc := 8) (As := fun ad => []) (st1 := []) hC (Nat.le_of_ble_eq_true rfl) (kX6_advance _  _) (Nat.le_of_ble_eq_true rfl) mc_yX6_advance m_808 m_810 m_p11 mem_2 lay_2 rfl rfl rfl rfl (Nat.le_of_ble_eq_true rfl) dX6_takeNumber_8 (fun y_2 s_2 => ?_)
  refine zr_iload_n (pc := 11) (i := 3) 0 hC dX6_takeNumber_11 rfl rfl ?_
  exact zr_iret (pc := 12) hC hR dX6_takeNumber_12
def fX10_setPart (w : Nat) (a1 : Int32) (a2 : Int32) (a3 : Int32) (s : St) : Option (Int32 × St) :=
  bd (fX11_put (w + 1) ((a1 * (4 : Int32)) + a2) a3 s) (fun y_1 s_1 =>
    some (0, s_1))
set_option maxRecDepth 100000 in
set_option maxHeartbeats 4000000 in
theorem kX10_setPart (l : Launch)  {w : Nat} (hw : isWd w) (a1 : Int32) (a2 : Int32) (a3 : Int32) (s : St) : CN l yX10_setPart cX10_setPart 4 none 2 FULL (fun ad => [.ref (ad w), .int a1, .int a2, .int a3]) s (fX10_setPart w a1 a2 a3 s) := by
  refine cn_of (by decide) (fun _ => (Nat.le_of_ble_eq_true rfl)) (fun X hC hR hl hN => ?_)
  subst hl
  show Zr X (QFN X none) 0 s 0 [(0, .ref (X_ad X w)), (1, .int a1), (2, .int a2), (3, .int a3)] [] _
  rw [fX10_setPart]
  refine zr_aload_n (pc := 0) (i := 0) 0 hC dX10_setPart_0 rfl rfl ?_
  refine zr_getR (pc := 1) (j := 0) (k1 := (w + 1)) hC hw.1.1 hw.1.2 rfl rfl (Nat.le_of_ble_eq_true rfl) iX10 m_143 dX10_setPart_1 ?_
  refine zr_iload_n (pc := 4) (i := 1) 1 hC dX10_setPart_4 rfl rfl ?_
  refine zr_iconst (pc := 5) (v := (4 : Int32)) hC dX10_setPart_5 ic_4 ?_
  refine zr_imul (pc := 6) hC dX10_setPart_6 ?_
  refine zr_iload_n (pc := 7) (i := 2) 2 hC dX10_setPart_7 rfl rfl ?_
  refine zr_iadd (pc := 8) hC dX10_setPart_8 ?_
  refine zr_iload_n (pc := 9) (i := 3) 3 hC dX10_setPart_9 rfl rfl ?_
  refine zr_callSNv (pc := 10) (As := fun ad => [.ref (ad (w + 1)), .int ((a1 * (4 : Int32)) + a2), .int a3]) (st1 := []) hC (Nat.le_of_ble_eq_true rfl) (kX11_put _ (isArr_of hw.2) ((a1 * (4 : Int32)) + a2) a3 _) (Nat.le_of_ble_eq_true rfl) mc_yX11_put m_498 m_141 rfl rfl (Nat.le_of_ble_eq_true rfl) dX10_setPart_10 (fun y_1 s_1 => ?_)
  exact zr_vret (pc := 13) hC hR dX10_setPart_13
def fX10_setPlace (w : Nat) (a1 : Int32) (a2 : Int32) (s : St) : Option (Int32 × St) :=
  bd (fX11_put (w + 1) ((48 : Int32) + a1) a2 s) (fun y_1 s_1 =>
    some (0, s_1))
set_option maxRecDepth 100000 in
set_option maxHeartbeats 4000000 in
theorem kX10_setPlace (l : Launch)  {w : Nat} (hw : isWd w) (a1 : Int32) (a2 : Int32) (s : St) : CN l yX10_setPlace cX10_setPlace 3 none 2 FULL (fun ad => [.ref (ad w), .int a1, .int a2]) s (fX10_setPlace w a1 a2 s) := by
  refine cn_of (by decide) (fun _ => (Nat.le_of_ble_eq_true rfl)) (fun X hC hR hl hN => ?_)
  subst hl
  show Zr X (QFN X none) 0 s 0 [(0, .ref (X_ad X w)), (1, .int a1), (2, .int a2)] [] _
  rw [fX10_setPlace]
  refine zr_aload_n (pc := 0) (i := 0) 0 hC dX10_setPlace_0 rfl rfl ?_
  refine zr_getR (pc := 1) (j := 0) (k1 := (w + 1)) hC hw.1.1 hw.1.2 rfl rfl (Nat.le_of_ble_eq_true rfl) iX10 m_143 dX10_setPlace_1 ?_
  refine zr_bipush (pc := 4) (v := (48 : Int32)) hC dX10_setPlace_4 bi_48 ?_
  refine zr_iload_n (pc := 6) (i := 1) 1 hC dX10_setPlace_6 rfl rfl ?_
  refine zr_iadd (pc := 7) hC dX10_setPlace_7 ?_
  refine zr_iload_n (pc := 8) (i := 2) 2 hC dX10_setPlace_8 rfl rfl ?_
  refine zr_callSNv (pc := 9) (As := fun ad => [.ref (ad (w + 1)), .int ((48 : Int32) + a1), .int a2]) (st1 := []) hC (Nat.le_of_ble_eq_true rfl) (kX11_put _ (isArr_of hw.2) ((48 : Int32) + a1) a2 _) (Nat.le_of_ble_eq_true rfl) mc_yX11_put m_498 m_141 rfl rfl (Nat.le_of_ble_eq_true rfl) dX10_setPlace_9 (fun y_1 s_1 => ?_)
  exact zr_vret (pc := 12) hC hR dX10_setPlace_12
