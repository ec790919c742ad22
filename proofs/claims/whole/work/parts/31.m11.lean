def fX12_contested_L72 (k108 : Int32 → St → Option (Int32 × St)) (c1 : Int32) (c2 : Int32) (c3 : Int32) (c4 : Int32) : Nat → Int32 → Int32 → St → Option (Int32 × St)
  | 0, _, _, _ => none
  | n + 1, v5, v6, s =>
    if (4 : Int32) ≤ v6 then
    (k108 v5 s)
  else
    (if c4 = c1 then
    (fX12_contested_L72 k108 c1 c2 c3 c4 n (v5 + (0 : Int32)) (v6 + (1 : Int32)) s)
  else
    (bd (fX12_partOf c1 c4 v6 s) (fun y_5 s_5 =>
    fX12_contested_L72 k108 c1 c2 c3 c4 n (v5 + y_5) (v6 + (1 : Int32)) s_5)))
set_option maxRecDepth 100000 in
set_option maxHeartbeats 4000000 in
theorem tX12_contested_L72 (c1 : Int32) (c2 : Int32) (c3 : Int32) (c4 : Int32) (k108 : Int32 → St → Option (Int32 × St)) (X : KX) (hC : Ctx X RX12 cX12_contested FULL 9 0) (hR : RC X (some .int)) (hN : X_nL X = 7) (hk108 : ∀ (v5 : Int32) (s : St), Zr X (QFN X (some .int)) 0 s 108 [(0, .ref (X_ad X 69)), (1, .int c1), (2, .int c2), (3, .int c3), (4, .int c4), (5, .int v5)] [] (k108 v5 s)) : ∀ (n : Nat) (v5 : Int32) (v6 : Int32) (s : St), Zr X (QFN X (some .int)) 0 s 72 [(0, .ref (X_ad X 69)), (1, .int c1), (2, .int c2), (3, .int c3), (4, .int c4), (5, .int v5), (6, .int v6)] [] (fX12_contested_L72 k108 c1 c2 c3 c4 n v5 v6 s) := by
  intro n
  induction n with
  | zero =>
    intro v5 v6 s
    exact zr_none
  | succ n ih =>
    intro v5 v6 s
    rw [fX12_contested_L72]
    refine zr_iload (pc := 72) 6 hC dX12_contested_72 rfl ?_
    refine zr_iconst (pc := 74) (v := (4 : Int32)) hC dX12_contested_74 ic_4 ?_
    refine zr_icmp_ge (pc := 75) (tgt := 108) hC dX12_contested_75 (by decide) (fun c_ => ?_) (fun c_ => ?_)
    · refine zr_sub (ls' := [(0, _), (1, _), (2, _), (3, _), (4, _), (5, _)]) [0, 1, 2, 3, 4, 5] rfl ?_
      exact hk108 v5 s
    · refine zr_iload (pc := 78) 5 hC dX12_contested_78 rfl ?_
      refine zr_iload (pc := 80) 4 hC dX12_contested_80 rfl ?_
      refine zr_iload_n (pc := 82) (i := 1) 1 hC dX12_contested_82 rfl rfl ?_
      refine zr_icmp_ne (pc := 83) (tgt := 90) hC dX12_contested_83 (by decide) (fun c_ => ?_) (fun c_ => ?_)
      · refine zr_iconst (pc := 86) (v := (0 : Int32)) hC dX12_contested_86 ic_0 ?_
        refine zr_goto (pc := 87) (tgt := 99) hC dX12_contested_87 (by decide) ?_
        refine zr_iadd (pc := 99) hC dX12_contested_99 ?_
        refine zr_istore (pc := 100) (ls' := [(5, _), (0, _), (1, _), (2, _), (3, _), (4, _), (6, _)]) hC dX12_contested_100 (nlt hN (Nat.le_of_ble_eq_true rfl)) rfl ?_
        refine zr_iinc (pc := 102) (q := 6) (ls' := [(6, _), (5, _), (0, _), (1, _), (2, _), (3, _), (4, _)]) hC dX12_contested_102 rfl (inc_1 _) (nlt hN (Nat.le_of_ble_eq_true rfl)) rfl ?_
        refine zr_goto (pc := 105) (tgt := 72) hC dX12_contested_105 (by decide) ?_
        refine zr_sub (ls' := [(0, _), (1, _), (2, _), (3, _), (4, _), (5, _), (6, _)]) [2, 3, 4, 5, 6, 1, 0] rfl ?_
        exact ih (v5 + (0 : Int32)) (v6 + (1 : Int32)) s
      · refine zr_aload_n (pc := 90) (i := 0) 0 hC dX12_contested_90 rfl rfl ?_
        refine zr_iload_n (pc := 91) (i := 1) 1 hC dX12_contested_91 rfl rfl ?_
        refine zr_iload (pc := 92) 4 hC dX12_contested_92 rfl ?_
        refine zr_iload (pc := 94) 6 hC dX12_contested_94 rfl ?_
        refine zr_callV (pc := 96) (As := fun ad => [.int c1, .int c4, .int v6]) (st1 := [.int v5]) hC (Nat.le_of_ble_eq_true rfl) (kX12_partOf _ c1 c4 v6 _) (Nat.le_of_ble_eq_true rfl) mc_yX12_partOf m_1884 m_1886 m_p101 mem_69 lay_69 rfl rfl rfl rfl (Nat.le_of_ble_eq_true rfl) dX12_contested_96 (fun y_5 s_5 => ?_)
        refine zr_iadd (pc := 99) hC dX12_contested_99 ?_
        refine zr_istore (pc := 100) (ls' := [(5, _), (0, _), (1, _), (2, _), (3, _), (4, _), (6, _)]) hC dX12_contested_100 (nlt hN (Nat.le_of_ble_eq_true rfl)) rfl ?_
        refine zr_iinc (pc := 102) (q := 6) (ls' := [(6, _), (5, _), (0, _), (1, _), (2, _), (3, _), (4, _)]) hC dX12_contested_102 rfl (inc_1 _) (nlt hN (Nat.le_of_ble_eq_true rfl)) rfl ?_
        refine zr_goto (pc := 105) (tgt := 72) hC dX12_contested_105 (by decide) ?_
        refine zr_sub (ls' := [(0, _), (1, _), (2, _), (3, _), (4, _), (5, _), (6, _)]) [2, 3, 4, 5, 6, 1, 0] rfl ?_
        exact ih (v5 + y_5) (v6 + (1 : Int32)) s_5
def fX12_contested_L55 (k149 : Int32 → St → Option (Int32 × St)) (c1 : Int32) (c3 : Int32) : Nat → Int32 → Int32 → St → Option (Int32 × St)
  | 0, _, _, _ => none
  | n + 1, v2, v4, s =>
    if inA (0 : Int32) 10 then
    (if (s 71 (0 : Int32).toNatClampNeg) ≤ v4 then
    (k149 v2 s)
  else
    (fX12_contested_L72 (fun v5_6 s_6 => if c3 = 0 then
    (if inA v4 12 then
    (let s_7 := wr s_6 94 v4.toNatClampNeg v5_6;
    fX12_contested_L55 k149 c1 c3 n v2 (v4 + (1 : Int32)) s_7) else none)
  else
    (if inA v4 12 then
    (if v5_6 ≤ (s_6 94 v4.toNatClampNeg) then
    (fX12_contested_L55 k149 c1 c3 n v2 (v4 + (1 : Int32)) s_6)
  else
    (fX12_contested_L55 k149 c1 c3 n (v2 ||| (jshl (1 : Int32) v4)) (v4 + (1 : Int32)) s_6)) else none)) c1 v2 c3 v4 FU (0 : Int32) (0 : Int32) s)) else none
set_option maxRecDepth 100000 in
set_option maxHeartbeats 4000000 in
theorem tX12_contested_L55 (c1 : Int32) (c3 : Int32) (k149 : Int32 → St → Option (Int32 × St)) (X : KX) (hC : Ctx X RX12 cX12_contested FULL 9 0) (hR : RC X (some .int)) (hN : X_nL X = 7) (hk149 : ∀ (v2 : Int32) (s : St), Zr X (QFN X (some .int)) 0 s 149 [(0, .ref (X_ad X 69)), (1, .int c1), (2, .int v2), (3, .int c3)] [] (k149 v2 s)) : ∀ (n : Nat) (v2 : Int32) (v4 : Int32) (s : St), Zr X (QFN X (some .int)) 0 s 55 [(0, .ref (X_ad X 69)), (1, .int c1), (2, .int v2), (3, .int c3), (4, .int v4)] [] (fX12_contested_L55 k149 c1 c3 n v2 v4 s) := by
  intro n
  induction n with
  | zero =>
    intro v2 v4 s
    exact zr_none
  | succ n ih =>
    intro v2 v4 s
    rw [fX12_contested_L55]
    refine zr_iload (pc := 55) 4 hC dX12_contested_55 rfl ?_
    refine zr_aload_n (pc := 57) (i := 0) 0 hC dX12_contested_57 rfl rfl ?_
    refine zr_getR (pc := 58) (j := 2) (k1 := 71) hC mem_69 lay_69 rfl rfl (Nat.le_of_ble_eq_true rfl) iX12 m_1397 dX12_contested_58 ?_
    refine zr_iconst (pc := 61) (v := (0 : Int32)) hC dX12_contested_61 ic_0 ?_
    refine zr_iald (pc := 62) hC mem_71 lay_71 dX12_contested_62 ?_
    refine zr_icmp_ge (pc := 63) (tgt := 149) hC dX12_contested_63 (by decide) (fun c_ => ?_) (fun c_ => ?_)
    · refine zr_sub (ls' := [(0, _), (1, _), (2, _), (3, _)]) [0, 1, 2, 3] rfl ?_
      exact hk149 v2 s
    · refine zr_iconst (pc := 66) (v := (0 : Int32)) hC dX12_contested_66 ic_0 ?_
      refine zr_istore (pc := 67) (ls' := [(5, _), (0, _), (1, _), (2, _), (3, _), (4, _)]) hC dX12_contested_67 (nlt hN (Nat.le_of_ble_eq_true rfl)) rfl ?_
      refine zr_iconst (pc := 69) (v := (0 : Int32)) hC dX12_contested_69 ic_0 ?_
      refine zr_istore (pc := 70) (ls' := [(6, _), (5, _), (0, _), (1, _), (2, _), (3, _), (4, _)]) hC dX12_contested_70 (nlt hN (Nat.le_of_ble_eq_true rfl)) rfl ?_
      refine zr_sub (ls' := [(0, _), (1, _), (2, _), (3, _), (4, _), (5, _), (6, _)]) [2, 3, 4, 5, 6, 1, 0] rfl ?_
      refine tX12_contested_L72 c1 v2 c3 v4 _ X hC hR hN (fun v5_6 s_6 => ?_) FU (0 : Int32) (0 : Int32) _
      · refine zr_iload_n (pc := 108) (i := 3) 3 hC dX12_contested_108 rfl rfl ?_
        refine zr_if_ne (pc := 109) (tgt := 124) hC dX12_contested_109 (by decide) (fun c_ => ?_) (fun c_ => ?_)
        · refine zr_aload_n (pc := 112) (i := 0) 0 hC dX12_contested_112 rfl rfl ?_
          refine zr_getR (pc := 113) (j := 40) (k1 := 94) hC mem_69 lay_69 rfl rfl (Nat.le_of_ble_eq_true rfl) iX12 m_1435 dX12_contested_113 ?_
          refine zr_iload (pc := 116) 4 hC dX12_contested_116 rfl ?_
          refine zr_iload (pc := 118) 5 hC dX12_contested_118 rfl ?_
          refine zr_iast (pc := 120) hC mem_94 lay_94 dX12_contested_120 ?_
          refine zr_goto (pc := 121) (tgt := 143) hC dX12_contested_121 (by decide) ?_
          refine zr_iinc (pc := 143) (q := 4) (ls' := [(4, _), (0, _), (1, _), (2, _), (3, _), (5, _)]) hC dX12_contested_143 rfl (inc_1 _) (nlt hN (Nat.le_of_ble_eq_true rfl)) rfl ?_
          refine zr_goto (pc := 146) (tgt := 55) hC dX12_contested_146 (by decide) ?_
          refine zr_sub (ls' := [(0, _), (1, _), (2, _), (3, _), (4, _)]) [1, 2, 3, 4, 0] rfl ?_
          exact ih v2 (v4 + (1 : Int32)) (wr s_6 94 v4.toNatClampNeg v5_6)
        · refine zr_iload (pc := 124) 5 hC dX12_contested_124 rfl ?_
          refine zr_aload_n (pc := 126) (i := 0) 0 hC dX12_contested_126 rfl rfl ?_
          refine zr_getR (pc := 127) (j := 40) (k1 := 94) hC mem_69 lay_69 rfl rfl (Nat.le_of_ble_eq_true rfl) iX12 m_1435 dX12_contested_127 ?_
          refine zr_iload (pc := 130) 4 hC dX12_contested_130 rfl ?_
          refine zr_iald (pc := 132) hC mem_94 lay_94 dX12_contested_132 ?_
          refine zr_icmp_le (pc := 133) (tgt := 143) hC dX12_contested_133 (by decide) (fun c_ => ?_) (fun c_ => ?_)
          · refine zr_iinc (pc := 143) (q := 4) (ls' := [(4, _), (0, _), (1, _), (2, _), (3, _), (5, _)]) hC dX12_contested_143 rfl (inc_1 _) (nlt hN (Nat.le_of_ble_eq_true rfl)) rfl ?_
            refine zr_goto (pc := 146) (tgt := 55) hC dX12_contested_146 (by decide) ?_
            refine zr_sub (ls' := [(0, _), (1, _), (2, _), (3, _), (4, _)]) [1, 2, 3, 4, 0] rfl ?_
            exact ih v2 (v4 + (1 : Int32)) s_6
          · refine zr_iload_n (pc := 136) (i := 2) 2 hC dX12_contested_136 rfl rfl ?_
            refine zr_iconst (pc := 137) (v := (1 : Int32)) hC dX12_contested_137 ic_1 ?_
            refine zr_iload (pc := 138) 4 hC dX12_contested_138 rfl ?_
            refine zr_ishl (pc := 140) hC dX12_contested_140 ?_
            refine zr_ior (pc := 141) hC dX12_contested_141 ?_
            refine zr_istore_n (pc := 142) (i := 2) (ls' := [(2, _), (0, _), (1, _), (3, _), (4, _), (5, _)]) hC dX12_contested_142 rfl (nlt hN (Nat.le_of_ble_eq_true rfl)) rfl ?_
            refine zr_iinc (pc := 143) (q := 4) (ls' := [(4, _), (2, _), (0, _), (1, _), (3, _), (5, _)]) hC dX12_contested_143 rfl (inc_1 _) (nlt hN (Nat.le_of_ble_eq_true rfl)) rfl ?_
            refine zr_goto (pc := 146) (tgt := 55) hC dX12_contested_146 (by decide) ?_
            refine zr_sub (ls' := [(0, _), (1, _), (2, _), (3, _), (4, _)]) [2, 3, 1, 4, 0] rfl ?_
            exact ih (v2 ||| (jshl (1 : Int32) v4)) (v4 + (1 : Int32)) s_6
def fX12_contested_J49 (lp : Int32 → Int32 → St → Option (Int32 × St)) (v1 : Int32) (v2 : Int32) (v3 : Int32) (q0 : Int32) (q1 : Int32) (s : St) : Option (Int32 × St) :=
  bd (fX12_tellShares q1 q0 s) (fun y_4 s_4 =>
    fX12_contested_L55 (fun v2_8 s_8 => lp v2_8 (v3 + (1 : Int32)) s_8) v1 v3 FU v2 (0 : Int32) s_4)
set_option maxRecDepth 100000 in
set_option maxHeartbeats 4000000 in
theorem tX12_contested_J49 (v1 : Int32) (v2 : Int32) (v3 : Int32) (q0 : Int32) (q1 : Int32) (lp : Int32 → Int32 → St → Option (Int32 × St)) (X : KX) (hC : Ctx X RX12 cX12_contested FULL 9 0) (hR : RC X (some .int)) (hN : X_nL X = 7) (ih : ∀ (u2 : Int32) (u3 : Int32) (s : St), Zr X (QFN X (some .int)) 0 s 33 [(0, .ref (X_ad X 69)), (1, .int v1), (2, .int u2), (3, .int u3)] [] (lp u2 u3 s)) (s : St) : Zr X (QFN X (some .int)) 0 s 49 [(0, .ref (X_ad X 69)), (1, .int v1), (2, .int v2), (3, .int v3)] [.int q0, .int q1, .ref (X_ad X 69)] (fX12_contested_J49 lp v1 v2 v3 q0 q1 s) := by
  rw [fX12_contested_J49]
  refine zr_callVv (pc := 49) (As := fun ad => [.int q1, .int q0]) (st1 := []) hC (Nat.le_of_ble_eq_true rfl) (kX12_tellShares _ q1 q0 _) (Nat.le_of_ble_eq_true rfl) mc_yX12_tellShares m_1860 m_1862 m_p96 mem_69 lay_69 rfl rfl rfl rfl (Nat.le_of_ble_eq_true rfl) dX12_contested_49 (fun y_4 s_4 => ?_)
  refine zr_iconst (pc := 52) (v := (0 : Int32)) hC dX12_contested_52 ic_0 ?_
  refine zr_istore (pc := 53) (ls' := [(4, _), (0, _), (1, _), (2, _), (3, _)]) hC dX12_contested_53 (nlt hN (Nat.le_of_ble_eq_true rfl)) rfl ?_
  refine zr_sub (ls' := [(0, _), (1, _), (2, _), (3, _), (4, _)]) [1, 2, 3, 4, 0] rfl ?_
  refine tX12_contested_L55 v1 v3 _ X hC hR hN (fun v2_8 s_8 => ?_) FU v2 (0 : Int32) _
  · refine zr_iinc (pc := 149) (q := 3) (ls' := [(3, _), (0, _), (1, _), (2, _)]) hC dX12_contested_149 rfl (inc_1 _) (nlt hN (Nat.le_of_ble_eq_true rfl)) rfl ?_
    refine zr_goto (pc := 152) (tgt := 33) hC dX12_contested_152 (by decide) ?_
    refine zr_sub (ls' := [(0, _), (1, _), (2, _), (3, _)]) [1, 2, 3, 0] rfl ?_
    exact ih v2_8 (v3 + (1 : Int32)) s_8
def fX12_contested_L33 (c1 : Int32) : Nat → Int32 → Int32 → St → Option (Int32 × St)
  | 0, _, _, _ => none
  | n + 1, v2, v3, s =>
    if (2 : Int32) ≤ v3 then
    (some (v2, s))
  else
    (if v3 = 0 then
    (fX12_contested_J49 (fX12_contested_L33 c1 n) c1 v2 v3 (1 : Int32) c1 s)
  else
    (fX12_contested_J49 (fX12_contested_L33 c1 n) c1 v2 v3 (0 : Int32) c1 s))
set_option maxRecDepth 100000 in
set_option maxHeartbeats 4000000 in
theorem tX12_contested_L33 (c1 : Int32) (X : KX) (hC : Ctx X RX12 cX12_contested FULL 9 0) (hR : RC X (some .int)) (hN : X_nL X = 7) : ∀ (n : Nat) (v2 : Int32) (v3 : Int32) (s : St), Zr X (QFN X (some .int)) 0 s 33 [(0, .ref (X_ad X 69)), (1, .int c1), (2, .int v2), (3, .int v3)] [] (fX12_contested_L33 c1 n v2 v3 s) := by
  intro n
  induction n with
  | zero =>
    intro v2 v3 s
    exact zr_none
  | succ n ih =>
    intro v2 v3 s
    rw [fX12_contested_L33]
    refine zr_iload_n (pc := 33) (i := 3) 3 hC dX12_contested_33 rfl rfl ?_
    refine zr_iconst (pc := 34) (v := (2 : Int32)) hC dX12_contested_34 ic_2 ?_
    refine zr_icmp_ge (pc := 35) (tgt := 155) hC dX12_contested_35 (by decide) (fun c_ => ?_) (fun c_ => ?_)
    · refine zr_iload_n (pc := 155) (i := 2) 2 hC dX12_contested_155 rfl rfl ?_
      exact zr_iret (pc := 156) hC hR dX12_contested_156
    · refine zr_aload_n (pc := 38) (i := 0) 0 hC dX12_contested_38 rfl rfl ?_
      refine zr_iload_n (pc := 39) (i := 1) 1 hC dX12_contested_39 rfl rfl ?_
      refine zr_iload_n (pc := 40) (i := 3) 3 hC dX12_contested_40 rfl rfl ?_
      refine zr_if_ne (pc := 41) (tgt := 48) hC dX12_contested_41 (by decide) (fun c_ => ?_) (fun c_ => ?_)
      · refine zr_iconst (pc := 44) (v := (1 : Int32)) hC dX12_contested_44 ic_1 ?_
        refine zr_goto (pc := 45) (tgt := 49) hC dX12_contested_45 (by decide) ?_
        exact tX12_contested_J49 c1 v2 v3 (1 : Int32) c1 _ X hC hR hN  ih _
      · refine zr_iconst (pc := 48) (v := (0 : Int32)) hC dX12_contested_48 ic_0 ?_
        exact tX12_contested_J49 c1 v2 v3 (0 : Int32) c1 _ X hC hR hN  ih _
def fX12_contested (a1 : Int32) (s : St) : Option (Int32 × St) :=
  let s_1 := wr s 69 1 (0 : Int32);
    bd (fX12_isPerson a1 s_1) (fun y_2 s_2 =>
    if y_2 = 0 then
    (bd (fX12_fail (1 : Int32) s_2) (fun y_9 s_9 =>
    some (y_9, s_9)))
  else
    (bd (fX12_isAlive a1 s_2) (fun y_3 s_3 =>
    if y_3 = 0 then
    (some ((0 : Int32), s_3))
  else
    (fX12_contested_L33 a1 FU (0 : Int32) (0 : Int32) s_3))))
set_option maxRecDepth 100000 in
set_option maxHeartbeats 4000000 in
theorem kX12_contested (l : Launch)  (a1 : Int32) (s : St) : CN l yX12_contested cX12_contested 7 (some .int) 9 FULL (fun ad => [.ref (ad 69), .int a1]) s (fX12_contested a1 s) := by
  refine cn_of (by decide) (fun _ => (Nat.le_of_ble_eq_true rfl)) (fun X hC hR hl hN => ?_)
  subst hl
  show Zr X (QFN X (some .int)) 0 s 0 [(0, .ref (X_ad X 69)), (1, .int a1)] [] _
  rw [fX12_contested]
  refine zr_aload_n (pc := 0) (i := 0) 0 hC dX12_contested_0 rfl rfl ?_
  refine zr_iconst (pc := 1) (v := (0 : Int32)) hC dX12_contested_1 ic_0 ?_
  refine zr_putInt (pc := 2) (j := 1) hC mem_69 lay_69 rfl rfl (Nat.le_of_ble_eq_true rfl) iX12 tyX12_ok nmX12 m_1396 rfl (by decide +kernel) dX12_contested_2 ?_
  refine zr_aload_n (pc := 5) (i := 0) 0 hC dX12_contested_5 rfl rfl ?_
  refine zr_iload_n (pc := 6) (i := 1) 1 hC dX12_contested_6 rfl rfl ?_
  refine zr_callV (pc := 7) (As := fun ad => [.int a1]) (st1 := []) hC (Nat.le_of_ble_eq_true rfl) (kX12_isPerson _ a1 _) (Nat.le_of_ble_eq_true rfl) mc_yX12_isPerson m_1762 m_1764 m_p82 mem_69 lay_69 rfl rfl rfl rfl (Nat.le_of_ble_eq_true rfl) dX12_contested_7 (fun y_2 s_2 => ?_)
  refine zr_if_ne (pc := 10) (tgt := 19) hC dX12_contested_10 (by decide) (fun c_ => ?_) (fun c_ => ?_)
  · refine zr_aload_n (pc := 13) (i := 0) 0 hC dX12_contested_13 rfl rfl ?_
    refine zr_iconst (pc := 14) (v := (1 : Int32)) hC dX12_contested_14 ic_1 ?_
    refine zr_callV (pc := 15) (As := fun ad => [.int (1 : Int32)]) (st1 := []) hC (Nat.le_of_ble_eq_true rfl) (kX12_fail _ (1 : Int32) _) (Nat.le_of_ble_eq_true rfl) mc_yX12_fail m_1606 m_1608 m_p53 mem_69 lay_69 rfl rfl rfl rfl (Nat.le_of_ble_eq_true rfl) dX12_contested_15 (fun y_9 s_9 => ?_)
    exact zr_iret (pc := 18) hC hR dX12_contested_18
  · refine zr_aload_n (pc := 19) (i := 0) 0 hC dX12_contested_19 rfl rfl ?_
    refine zr_iload_n (pc := 20) (i := 1) 1 hC dX12_contested_20 rfl rfl ?_
    refine zr_callV (pc := 21) (As := fun ad => [.int a1]) (st1 := []) hC (Nat.le_of_ble_eq_true rfl) (kX12_isAlive _ a1 _) (Nat.le_of_ble_eq_true rfl) mc_yX12_isAlive m_1769 m_1771 m_p83 mem_69 lay_69 rfl rfl rfl rfl (Nat.le_of_ble_eq_true rfl) dX12_contested_21 (fun y_3 s_3 => ?_)
    refine zr_if_ne (pc := 24) (tgt := 29) hC dX12_contested_24 (by decide) (fun c_ => ?_) (fun c_ => ?_)
    · refine zr_iconst (pc := 27) (v := (0 : Int32)) hC dX12_contested_27 ic_0 ?_
      exact zr_iret (pc := 28) hC hR dX12_contested_28
    · refine zr_iconst (pc := 29) (v := (0 : Int32)) hC dX12_contested_29 ic_0 ?_
      refine zr_istore_n (pc := 30) (i := 2) (ls' := [(2, _), (0, _), (1, _)]) hC dX12_contested_30 rfl (nlt hN (Nat.le_of_ble_eq_true rfl)) rfl ?_
      refine zr_iconst (pc := 31) (v := (0 : Int32)) hC dX12_contested_31 ic_0 ?_
      refine zr_istore_n (pc := 32) (i := 3) (ls' := [(3, _), (2, _), (0, _), (1, _)]) hC dX12_contested_32 rfl (nlt hN (Nat.le_of_ble_eq_true rfl)) rfl ?_
      refine zr_sub (ls' := [(0, _), (1, _), (2, _), (3, _)]) [2, 3, 1, 0] rfl ?_
      exact tX12_contested_L33 a1 X hC hR hN FU (0 : Int32) (0 : Int32) _
def fX12_canBe_L42 (rc : Int32 → Int32 → Int32 → Int32 → Int32 → St → Option (Int32 × St)) (c1 : Int32) (c2 : Int32) (c3 : Int32) (c4 : Int32) (c5 : Int32) : Nat → Int32 → St → Option (Int32 × St)
  | 0, _, _ => none
  | n + 1, v6, s =>
    if inA (0 : Int32) 10 then
    (if (s 71 (0 : Int32).toNatClampNeg) ≤ v6 then
    (some ((0 : Int32), s))
  else
    (if v6 = c3 then
    (fX12_canBe_L42 rc c1 c2 c3 c4 c5 n (v6 + (1 : Int32)) s)
  else
    (bd (fX12_isAlive v6 s) (fun y_2 s_2 =>
    if y_2 = 0 then
    (fX12_canBe_L42 rc c1 c2 c3 c4 c5 n (v6 + (1 : Int32)) s_2)
  else
    (bd (fX12_dieNow v6 s_2) (fun y_3 s_3 =>
    if inA c1 3 then
    (let s_4 := wr s_3 96 c1.toNatClampNeg v6;
    bd (rc (c1 + (1 : Int32)) c2 c3 c4 c5 s_4) (fun y_5 s_5 =>
    bd (fX12_unpack 95 ((95 : Int32) * c1) s_5) (fun y_6 s_6 =>
    if y_5 = 0 then
    (fX12_canBe_L42 rc c1 c2 c3 c4 c5 n (v6 + (1 : Int32)) s_6)
  else
    (some ((1 : Int32), s_6))))) else none)))))) else none
set_option maxRecDepth 100000 in
set_option maxHeartbeats 4000000 in
theorem tX12_canBe_L42 (rc : Int32 → Int32 → Int32 → Int32 → Int32 → St → Option (Int32 × St)) (c1 : Int32) (c2 : Int32) (c3 : Int32) (c4 : Int32) (c5 : Int32) (dd : Nat) (hdd : 9 ≤ dd) (X : KX) (hC : Ctx X RX12 cX12_canBe FULL (dd + 1) 0) (hR : RC X (some .boolean)) (hN : X_nL X = 8) (hrc : ∀ (z0 z1 z2 z3 z4 : Int32) (s : St), CN (X_l X) yX12_canBe cX12_canBe 8 (some .boolean) dd FULL (fun ad => [.ref (ad 69), .int z0, .int z1, .int z2, .int z3, .int z4]) s (rc z0 z1 z2 z3 z4 s)) : ∀ (n : Nat) (v6 : Int32) (s : St), Zr X (QFN X (some .boolean)) 0 s 42 [(0, .ref (X_ad X 69)), (1, .int c1), (2, .int c2), (3, .int c3), (4, .int c4), (5, .int c5), (6, .int v6)] [] (fX12_canBe_L42 rc c1 c2 c3 c4 c5 n v6 s) := by
  intro n
  induction n with
  | zero =>
    intro v6 s
    exact zr_none
  | succ n ih =>
    intro v6 s
    rw [fX12_canBe_L42]
    refine zr_iload (pc := 42) 6 hC dX12_canBe_42 rfl ?_
    refine zr_aload_n (pc := 44) (i := 0) 0 hC dX12_canBe_44 rfl rfl ?_
    refine zr_getR (pc := 45) (j := 2) (k1 := 71) hC mem_69 lay_69 rfl rfl (Nat.le_of_ble_eq_true rfl) iX12 m_1397 dX12_canBe_45 ?_
    refine zr_iconst (pc := 48) (v := (0 : Int32)) hC dX12_canBe_48 ic_0 ?_
    refine zr_iald (pc := 49) hC mem_71 lay_71 dX12_canBe_49 ?_
    refine zr_icmp_ge (pc := 50) (tgt := 126) hC dX12_canBe_50 (by decide) (fun c_ => ?_) (fun c_ => ?_)
    · refine zr_iconst (pc := 126) (v := (0 : Int32)) hC dX12_canBe_126 ic_0 ?_
      exact zr_zret (pc := 127) (by decide) hC hR dX12_canBe_127
    · refine zr_iload (pc := 53) 6 hC dX12_canBe_53 rfl ?_
      refine zr_iload_n (pc := 55) (i := 3) 3 hC dX12_canBe_55 rfl rfl ?_
      refine zr_icmp_eq (pc := 56) (tgt := 120) hC dX12_canBe_56 (by decide) (fun c_ => ?_) (fun c_ => ?_)
      · refine zr_iinc (pc := 120) (q := 6) (ls' := [(6, _), (0, _), (1, _), (2, _), (3, _), (4, _), (5, _)]) hC dX12_canBe_120 rfl (inc_1 _) (nlt hN (Nat.le_of_ble_eq_true rfl)) rfl ?_
        refine zr_goto (pc := 123) (tgt := 42) hC dX12_canBe_123 (by decide) ?_
        refine zr_sub (ls' := [(0, _), (1, _), (2, _), (3, _), (4, _), (5, _), (6, _)]) [1, 2, 3, 4, 5, 6, 0] rfl ?_
        exact ih (v6 + (1 : Int32)) s
      · refine zr_aload_n (pc := 59) (i := 0) 0 hC dX12_canBe_59 rfl rfl ?_
        refine zr_iload (pc := 60) 6 hC dX12_canBe_60 rfl ?_
        refine zr_callV (pc := 62) (As := fun ad => [.int v6]) (st1 := []) hC (Nat.le_of_ble_eq_true rfl) (kX12_isAlive _ v6 _) (by omega) mc_yX12_isAlive m_1769 m_1771 m_p83 mem_69 lay_69 rfl rfl rfl rfl (Nat.le_of_ble_eq_true rfl) dX12_canBe_62 (fun y_2 s_2 => ?_)
        refine zr_if_ne (pc := 65) (tgt := 71) hC dX12_canBe_65 (by decide) (fun c_ => ?_) (fun c_ => ?_)
        · refine zr_goto (pc := 68) (tgt := 120) hC dX12_canBe_68 (by decide) ?_
          refine zr_iinc (pc := 120) (q := 6) (ls' := [(6, _), (0, _), (1, _), (2, _), (3, _), (4, _), (5, _)]) hC dX12_canBe_120 rfl (inc_1 _) (nlt hN (Nat.le_of_ble_eq_true rfl)) rfl ?_
          refine zr_goto (pc := 123) (tgt := 42) hC dX12_canBe_123 (by decide) ?_
          refine zr_sub (ls' := [(0, _), (1, _), (2, _), (3, _), (4, _), (5, _), (6, _)]) [1, 2, 3, 4, 5, 6, 0] rfl ?_
          exact ih (v6 + (1 : Int32)) s_2
        · refine zr_aload_n (pc := 71) (i := 0) 0 hC dX12_canBe_71 rfl rfl ?_
          refine zr_iload (pc := 72) 6 hC dX12_canBe_72 rfl ?_
          refine zr_callV (pc := 74) (As := fun ad => [.int v6]) (st1 := []) hC (Nat.le_of_ble_eq_true rfl) (kX12_dieNow _ v6 _) (by omega) mc_yX12_dieNow m_1856 m_1858 m_p95 mem_69 lay_69 rfl rfl rfl rfl (Nat.le_of_ble_eq_true rfl) dX12_canBe_74 (fun y_3 s_3 => ?_)
          refine zr_pop (pc := 77) hC dX12_canBe_77 rfl ?_
          refine zr_aload_n (pc := 78) (i := 0) 0 hC dX12_canBe_78 rfl rfl ?_
          refine zr_getR (pc := 79) (j := 42) (k1 := 96) hC mem_69 lay_69 rfl rfl (Nat.le_of_ble_eq_true rfl) iX12 m_1437 dX12_canBe_79 ?_
          refine zr_iload_n (pc := 82) (i := 1) 1 hC dX12_canBe_82 rfl rfl ?_
          refine zr_iload (pc := 83) 6 hC dX12_canBe_83 rfl ?_
          refine zr_iast (pc := 85) hC mem_96 lay_96 dX12_canBe_85 ?_
          refine zr_aload_n (pc := 86) (i := 0) 0 hC dX12_canBe_86 rfl rfl ?_
          refine zr_iload_n (pc := 87) (i := 1) 1 hC dX12_canBe_87 rfl rfl ?_
          refine zr_iconst (pc := 88) (v := (1 : Int32)) hC dX12_canBe_88 ic_1 ?_
          refine zr_iadd (pc := 89) hC dX12_canBe_89 ?_
          refine zr_iload_n (pc := 90) (i := 2) 2 hC dX12_canBe_90 rfl rfl ?_
          refine zr_iload_n (pc := 91) (i := 3) 3 hC dX12_canBe_91 rfl rfl ?_
          refine zr_iload (pc := 92) 4 hC dX12_canBe_92 rfl ?_
          refine zr_iload (pc := 94) 5 hC dX12_canBe_94 rfl ?_
          refine zr_callV (pc := 96) (As := fun ad => [.int (c1 + (1 : Int32)), .int c2, .int c3, .int c4, .int c5]) (st1 := []) hC (Nat.le_of_ble_eq_true rfl) (hrc (c1 + (1 : Int32)) c2 c3 c4 c5 _) (by omega) mc_yX12_canBe m_1926 m_1928 m_p104 mem_69 lay_69 rfl rfl rfl rfl (Nat.le_of_ble_eq_true rfl) dX12_canBe_96 (fun y_5 s_5 => ?_)
          refine zr_istore (pc := 99) (ls' := [(7, _), (0, _), (1, _), (2, _), (3, _), (4, _), (5, _), (6, _)]) hC dX12_canBe_99 (nlt hN (Nat.le_of_ble_eq_true rfl)) rfl ?_
          refine zr_aload_n (pc := 101) (i := 0) 1 hC dX12_canBe_101 rfl rfl ?_
          refine zr_aload_n (pc := 102) (i := 0) 1 hC dX12_canBe_102 rfl rfl ?_
          refine zr_getR (pc := 103) (j := 41) (k1 := 95) hC mem_69 lay_69 rfl rfl (Nat.le_of_ble_eq_true rfl) iX12 m_1436 dX12_canBe_103 ?_
          refine zr_bipush (pc := 106) (v := (95 : Int32)) hC dX12_canBe_106 bi_95 ?_
          refine zr_iload_n (pc := 108) (i := 1) 2 hC dX12_canBe_108 rfl rfl ?_
          refine zr_imul (pc := 109) hC dX12_canBe_109 ?_
          refine zr_callVv (pc := 110) (As := fun ad => [.ref (ad 95), .int ((95 : Int32) * c1)]) (st1 := []) hC (Nat.le_of_ble_eq_true rfl) (kX12_unpack _ ar_95 ((95 : Int32) * c1) _) (by omega) mc_yX12_unpack m_1905 m_1907 m_p103 mem_69 lay_69 rfl rfl rfl rfl (Nat.le_of_ble_eq_true rfl) dX12_canBe_110 (fun y_6 s_6 => ?_)
          refine zr_iload (pc := 113) 0 hC dX12_canBe_113 rfl ?_
          refine zr_if_eq (pc := 115) (tgt := 120) hC dX12_canBe_115 (by decide) (fun c_ => ?_) (fun c_ => ?_)
          · refine zr_iinc (pc := 120) (q := 7) (ls' := [(6, _), (7, _), (0, _), (1, _), (2, _), (3, _), (4, _), (5, _)]) hC dX12_canBe_120 rfl (inc_1 _) (nlt hN (Nat.le_of_ble_eq_true rfl)) rfl ?_
            refine zr_goto (pc := 123) (tgt := 42) hC dX12_canBe_123 (by decide) ?_
            refine zr_sub (ls' := [(0, _), (1, _), (2, _), (3, _), (4, _), (5, _), (6, _)]) [2, 3, 4, 5, 6, 7, 0] rfl ?_
            exact ih (v6 + (1 : Int32)) s_6
          · refine zr_iconst (pc := 118) (v := (1 : Int32)) hC dX12_canBe_118 ic_1 ?_
            exact zr_zret (pc := 119) (by decide) hC hR dX12_canBe_119
def gX12_canBe (rc : Int32 → Int32 → Int32 → Int32 → Int32 → St → Option (Int32 × St)) (a1 : Int32) (a2 : Int32) (a3 : Int32) (a4 : Int32) (a5 : Int32) (s : St) : Option (Int32 × St) :=
  if a1 = a2 then
    (if inA (((4 : Int32) * a3) + a4) 96 then
    (if (s 72 (((4 : Int32) * a3) + a4).toNatClampNeg) < a5 then
    (some ((0 : Int32), s))
  else
    (some ((1 : Int32), s))) else none)
  else
    (bd (fX12_pack 95 ((95 : Int32) * a1) s) (fun y_1 s_1 =>
    fX12_canBe_L42 rc a1 a2 a3 a4 a5 FU (0 : Int32) s_1))
set_option maxRecDepth 100000 in
set_option maxHeartbeats 4000000 in
theorem gkX12_canBe (l : Launch) (rc : Int32 → Int32 → Int32 → Int32 → Int32 → St → Option (Int32 × St)) (dd : Nat) (hdd : 9 ≤ dd)  (hrc : ∀ (z0 z1 z2 z3 z4 : Int32) (s : St), CN l yX12_canBe cX12_canBe 8 (some .boolean) dd FULL (fun ad => [.ref (ad 69), .int z0, .int z1, .int z2, .int z3, .int z4]) s (rc z0 z1 z2 z3 z4 s)) (a1 : Int32) (a2 : Int32) (a3 : Int32) (a4 : Int32) (a5 : Int32) (s : St) : CN l yX12_canBe cX12_canBe 8 (some .boolean) (dd + 1) FULL (fun ad => [.ref (ad 69), .int a1, .int a2, .int a3, .int a4, .int a5]) s (gX12_canBe rc a1 a2 a3 a4 a5 s) := by
  refine cn_of (by decide) (fun _ => (Nat.le_of_ble_eq_true rfl)) (fun X hC hR hl hN => ?_)
  subst hl
  show Zr X (QFN X (some .boolean)) 0 s 0 [(0, .ref (X_ad X 69)), (1, .int a1), (2, .int a2), (3, .int a3), (4, .int a4), (5, .int a5)] [] _
  rw [gX12_canBe]
  refine zr_iload_n (pc := 0) (i := 1) 1 hC dX12_canBe_0 rfl rfl ?_
  refine zr_iload_n (pc := 1) (i := 2) 2 hC dX12_canBe_1 rfl rfl ?_
  refine zr_icmp_ne (pc := 2) (tgt := 27) hC dX12_canBe_2 (by decide) (fun c_ => ?_) (fun c_ => ?_)
  · refine zr_aload_n (pc := 5) (i := 0) 0 hC dX12_canBe_5 rfl rfl ?_
    refine zr_getR (pc := 6) (j := 3) (k1 := 72) hC mem_69 lay_69 rfl rfl (Nat.le_of_ble_eq_true rfl) iX12 m_1398 dX12_canBe_6 ?_
    refine zr_iconst (pc := 9) (v := (4 : Int32)) hC dX12_canBe_9 ic_4 ?_
    refine zr_iload_n (pc := 10) (i := 3) 3 hC dX12_canBe_10 rfl rfl ?_
    refine zr_imul (pc := 11) hC dX12_canBe_11 ?_
    refine zr_iload (pc := 12) 4 hC dX12_canBe_12 rfl ?_
    refine zr_iadd (pc := 14) hC dX12_canBe_14 ?_
    refine zr_iald (pc := 15) hC mem_72 lay_72 dX12_canBe_15 ?_
    refine zr_iload (pc := 16) 5 hC dX12_canBe_16 rfl ?_
    refine zr_icmp_lt (pc := 18) (tgt := 25) hC dX12_canBe_18 (by decide) (fun c_ => ?_) (fun c_ => ?_)
    · refine zr_iconst (pc := 25) (v := (0 : Int32)) hC dX12_canBe_25 ic_0 ?_
      exact zr_zret (pc := 26) (by decide) hC hR dX12_canBe_26
    · refine zr_iconst (pc := 21) (v := (1 : Int32)) hC dX12_canBe_21 ic_1 ?_
      refine zr_goto (pc := 22) (tgt := 26) hC dX12_canBe_22 (by decide) ?_
      exact zr_zret (pc := 26) (by decide) hC hR dX12_canBe_26
  · refine zr_aload_n (pc := 27) (i := 0) 0 hC dX12_canBe_27 rfl rfl ?_
    refine zr_aload_n (pc := 28) (i := 0) 0 hC dX12_canBe_28 rfl rfl ?_
    refine zr_getR (pc := 29) (j := 41) (k1 := 95) hC mem_69 lay_69 rfl rfl (Nat.le_of_ble_eq_true rfl) iX12 m_1436 dX12_canBe_29 ?_
    refine zr_bipush (pc := 32) (v := (95 : Int32)) hC dX12_canBe_32 bi_95 ?_
    refine zr_iload_n (pc := 34) (i := 1) 1 hC dX12_canBe_34 rfl rfl ?_
    refine zr_imul (pc := 35) hC dX12_canBe_35 ?_
    refine zr_callVv (pc := 36) (As := fun ad => [.ref (ad 95), .int ((95 : Int32) * a1)]) (st1 := []) hC (Nat.le_of_ble_eq_true rfl) (kX12_pack _ ar_95 ((95 : Int32) * a1) _) (by omega) mc_yX12_pack m_1836 m_1838 m_p92 mem_69 lay_69 rfl rfl rfl rfl (Nat.le_of_ble_eq_true rfl) dX12_canBe_36 (fun y_1 s_1 => ?_)
    refine zr_iconst (pc := 39) (v := (0 : Int32)) hC dX12_canBe_39 ic_0 ?_
    refine zr_istore (pc := 40) (ls' := [(6, _), (0, _), (1, _), (2, _), (3, _), (4, _), (5, _)]) hC dX12_canBe_40 (nlt hN (Nat.le_of_ble_eq_true rfl)) rfl ?_
    refine zr_sub (ls' := [(0, _), (1, _), (2, _), (3, _), (4, _), (5, _), (6, _)]) [1, 2, 3, 4, 5, 6, 0] rfl ?_
    exact tX12_canBe_L42 rc a1 a2 a3 a4 a5 dd hdd X hC hR hN hrc FU (0 : Int32) _
def fX12_canBe : Nat → Int32 → Int32 → Int32 → Int32 → Int32 → St → Option (Int32 × St)
  | 0, _, _, _, _, _, _ => none
  | n + 1, a1, a2, a3, a4, a5, s => gX12_canBe (fX12_canBe n) a1 a2 a3 a4 a5 s
theorem kX12_canBe (l : Launch) : ∀ (n : Nat) (a1 : Int32) (a2 : Int32) (a3 : Int32) (a4 : Int32) (a5 : Int32) (s : St), CN l yX12_canBe cX12_canBe 8 (some .boolean) (9 + 1 * n) FULL (fun ad => [.ref (ad 69), .int a1, .int a2, .int a3, .int a4, .int a5]) s (fX12_canBe n a1 a2 a3 a4 a5 s)
  | 0, _, _, _, _, _, _ => fun _ _ h => by cases h
  | n + 1, a1, a2, a3, a4, a5, s => gkX12_canBe l (fX12_canBe n) (9 + 1 * n) (Nat.le_add_right _ _) (fun z0 z1 z2 z3 z4 s => kX12_canBe l n z0 z1 z2 z3 z4 s) a1 a2 a3 a4 a5 s
def fX12_deaths_L55 (k77 : Int32 → St → Option (Int32 × St)) (c1 : Int32) (c2 : Int32) (c3 : Int32) : Nat → Int32 → St → Option (Int32 × St)
  | 0, _, _ => none
  | n + 1, v4, s =>
    if (3 : Int32) < v4 then
    (some ((-1 : Int32), s))
  else
    (bd (fX12_canBe 5 (0 : Int32) v4 c1 c2 c3 s) (fun y_8 s_8 =>
    if y_8 = 0 then
    (fX12_deaths_L55 k77 c1 c2 c3 n (v4 + (1 : Int32)) s_8)
  else
    (k77 v4 s_8)))
set_option maxRecDepth 100000 in
set_option maxHeartbeats 4000000 in
theorem tX12_deaths_L55 (c1 : Int32) (c2 : Int32) (c3 : Int32) (k77 : Int32 → St → Option (Int32 × St)) (X : KX) (hC : Ctx X RX12 cX12_deaths FULL 16 0) (hR : RC X (some .int)) (hN : X_nL X = 6) (hk77 : ∀ (v4 : Int32) (s : St), Zr X (QFN X (some .int)) 0 s 77 [(0, .ref (X_ad X 69)), (4, .int v4)] [] (k77 v4 s)) : ∀ (n : Nat) (v4 : Int32) (s : St), Zr X (QFN X (some .int)) 0 s 55 [(0, .ref (X_ad X 69)), (1, .int c1), (2, .int c2), (3, .int c3), (4, .int v4)] [] (fX12_deaths_L55 k77 c1 c2 c3 n v4 s) := by
  intro n
  induction n with
  | zero =>
    intro v4 s
    exact zr_none
  | succ n ih =>
    intro v4 s
    rw [fX12_deaths_L55]
    refine zr_iload (pc := 55) 4 hC dX12_deaths_55 rfl ?_
    refine zr_iconst (pc := 57) (v := (3 : Int32)) hC dX12_deaths_57 ic_3 ?_
    refine zr_icmp_gt (pc := 58) (tgt := 122) hC dX12_deaths_58 (by decide) (fun c_ => ?_) (fun c_ => ?_)
    · refine zr_iconst (pc := 122) (v := (-1 : Int32)) hC dX12_deaths_122 ic_m1 ?_
      exact zr_iret (pc := 123) hC hR dX12_deaths_123
    · refine zr_aload_n (pc := 61) (i := 0) 0 hC dX12_deaths_61 rfl rfl ?_
      refine zr_iconst (pc := 62) (v := (0 : Int32)) hC dX12_deaths_62 ic_0 ?_
      refine zr_iload (pc := 63) 4 hC dX12_deaths_63 rfl ?_
      refine zr_iload_n (pc := 65) (i := 1) 1 hC dX12_deaths_65 rfl rfl ?_
      refine zr_iload_n (pc := 66) (i := 2) 2 hC dX12_deaths_66 rfl rfl ?_
      refine zr_iload_n (pc := 67) (i := 3) 3 hC dX12_deaths_67 rfl rfl ?_
      refine zr_callV (pc := 68) (As := fun ad => [.int (0 : Int32), .int v4, .int c1, .int c2, .int c3]) (st1 := []) hC (Nat.le_of_ble_eq_true rfl) (kX12_canBe _ 5 (0 : Int32) v4 c1 c2 c3 _) (Nat.le_of_ble_eq_true rfl) mc_yX12_canBe m_1926 m_1928 m_p104 mem_69 lay_69 rfl rfl rfl rfl (Nat.le_of_ble_eq_true rfl) dX12_deaths_68 (fun y_8 s_8 => ?_)
      refine zr_if_ne (pc := 71) (tgt := 77) hC dX12_deaths_71 (by decide) (fun c_ => ?_) (fun c_ => ?_)
      · refine zr_goto (pc := 74) (tgt := 116) hC dX12_deaths_74 (by decide) ?_
        refine zr_iinc (pc := 116) (q := 4) (ls' := [(4, _), (0, _), (1, _), (2, _), (3, _)]) hC dX12_deaths_116 rfl (inc_1 _) (nlt hN (Nat.le_of_ble_eq_true rfl)) rfl ?_
        refine zr_goto (pc := 119) (tgt := 55) hC dX12_deaths_119 (by decide) ?_
        refine zr_sub (ls' := [(0, _), (1, _), (2, _), (3, _), (4, _)]) [1, 2, 3, 4, 0] rfl ?_
        exact ih (v4 + (1 : Int32)) s_8
      · refine zr_sub (ls' := [(0, _), (4, _)]) [0, 4] rfl ?_
        exact hk77 v4 s_8
def fX12_deaths_L86 (c4 : Int32) : Nat → Int32 → St → Option (Int32 × St)
  | 0, _, _ => none
  | n + 1, v5, s =>
    if c4 ≤ v5 then
    (some (c4, s))
  else
    (if inA v5 3 then
    (if inA v5 3 then
    (let s_11 := wr s 97 v5.toNatClampNeg (s 96 v5.toNatClampNeg);
    fX12_deaths_L86 c4 n (v5 + (1 : Int32)) s_11) else none) else none)
set_option maxRecDepth 100000 in
set_option maxHeartbeats 4000000 in
theorem tX12_deaths_L86 (c4 : Int32) (X : KX) (hC : Ctx X RX12 cX12_deaths FULL 16 0) (hR : RC X (some .int)) (hN : X_nL X = 6) : ∀ (n : Nat) (v5 : Int32) (s : St), Zr X (QFN X (some .int)) 0 s 86 [(0, .ref (X_ad X 69)), (4, .int c4), (5, .int v5)] [] (fX12_deaths_L86 c4 n v5 s) := by
  intro n
  induction n with
  | zero =>
    intro v5 s
    exact zr_none
  | succ n ih =>
    intro v5 s
    rw [fX12_deaths_L86]
    refine zr_iload (pc := 86) 2 hC dX12_deaths_86 rfl ?_
    refine zr_iload (pc := 88) 1 hC dX12_deaths_88 rfl ?_
    refine zr_icmp_ge (pc := 90) (tgt := 113) hC dX12_deaths_90 (by decide) (fun c_ => ?_) (fun c_ => ?_)
    · refine zr_iload (pc := 113) 1 hC dX12_deaths_113 rfl ?_
      exact zr_iret (pc := 115) hC hR dX12_deaths_115
    · refine zr_aload_n (pc := 93) (i := 0) 0 hC dX12_deaths_93 rfl rfl ?_
      refine zr_getR (pc := 94) (j := 43) (k1 := 97) hC mem_69 lay_69 rfl rfl (Nat.le_of_ble_eq_true rfl) iX12 m_1438 dX12_deaths_94 ?_
      refine zr_iload (pc := 97) 2 hC dX12_deaths_97 rfl ?_
      refine zr_aload_n (pc := 99) (i := 0) 0 hC dX12_deaths_99 rfl rfl ?_
      refine zr_getR (pc := 100) (j := 42) (k1 := 96) hC mem_69 lay_69 rfl rfl (Nat.le_of_ble_eq_true rfl) iX12 m_1437 dX12_deaths_100 ?_
      refine zr_iload (pc := 103) 2 hC dX12_deaths_103 rfl ?_
      refine zr_iald (pc := 105) hC mem_96 lay_96 dX12_deaths_105 ?_
      refine zr_iast (pc := 106) hC mem_97 lay_97 dX12_deaths_106 ?_
      refine zr_iinc (pc := 107) (q := 2) (ls' := [(5, _), (0, _), (4, _)]) hC dX12_deaths_107 rfl (inc_1 _) (nlt hN (Nat.le_of_ble_eq_true rfl)) rfl ?_
      refine zr_goto (pc := 110) (tgt := 86) hC dX12_deaths_110 (by decide) ?_
      refine zr_sub (ls' := [(0, _), (4, _), (5, _)]) [1, 2, 0] rfl ?_
      exact ih (v5 + (1 : Int32)) (wr s 97 v5.toNatClampNeg (s 96 v5.toNatClampNeg))
def fX12_deaths (a1 : Int32) (a2 : Int32) (a3 : Int32) (s : St) : Option (Int32 × St) :=
  let s_1 := wr s 69 1 (0 : Int32);
    bd (fX12_isPerson a1 s_1) (fun y_2 s_2 =>
    if y_2 = 0 then
    (bd (fX12_fail (1 : Int32) s_2) (fun y_3 s_3 =>
    some (y_3, s_3)))
  else
    (bd (fX12_isPart a2 s_2) (fun y_4 s_4 =>
    if y_4 = 0 then
    (bd (fX12_fail (1 : Int32) s_4) (fun y_13 s_13 =>
    some (y_13, s_13)))
  else
    (bd (fX12_isIn (Int32.toInt64 a3) (1 : Int64) (9999 : Int64) s_4) (fun y_5 s_5 =>
    if y_5 = 0 then
    (bd (fX12_fail (2 : Int32) s_5) (fun y_6 s_6 =>
    some (y_6, s_6)))
  else
    (bd (fX12_isAlive a1 s_5) (fun y_7 s_7 =>
    if y_7 = 0 then
    (bd (fX12_fail (2 : Int32) s_7) (fun y_12 s_12 =>
    some (y_12, s_12)))
  else
    (fX12_deaths_L55 (fun v4_9 s_9 => let s_10 := wr s_9 69 44 v4_9;
    fX12_deaths_L86 v4_9 FU (0 : Int32) s_10) a1 a2 a3 FU (0 : Int32) s_7))))))))
set_option maxRecDepth 100000 in
set_option maxHeartbeats 4000000 in
theorem kX12_deaths (l : Launch)  (a1 : Int32) (a2 : Int32) (a3 : Int32) (s : St) : CN l yX12_deaths cX12_deaths 6 (some .int) 16 FULL (fun ad => [.ref (ad 69), .int a1, .int a2, .int a3]) s (fX12_deaths a1 a2 a3 s) := by
  refine cn_of (by decide) (fun _ => (Nat.le_of_ble_eq_true rfl)) (fun X hC hR hl hN => ?_)
  subst hl
  show Zr X (QFN X (some .int)) 0 s 0 [(0, .ref (X_ad X 69)), (1, .int a1), (2, .int a2), (3, .int a3)] [] _
  rw [fX12_deaths]
  refine zr_aload_n (pc := 0) (i := 0) 0 hC dX12_deaths_0 rfl rfl ?_
  refine zr_iconst (pc := 1) (v := (0 : Int32)) hC dX12_deaths_1 ic_0 ?_
  refine zr_putInt (pc := 2) (j := 1) hC mem_69 lay_69 rfl rfl (Nat.le_of_ble_eq_true rfl) iX12 tyX12_ok nmX12 m_1396 rfl (by decide +kernel) dX12_deaths_2 ?_
  refine zr_aload_n (pc := 5) (i := 0) 0 hC dX12_deaths_5 rfl rfl ?_
  refine zr_iload_n (pc := 6) (i := 1) 1 hC dX12_deaths_6 rfl rfl ?_
  refine zr_callV (pc := 7) (As := fun ad => [.int a1]) (st1 := []) hC (Nat.le_of_ble_eq_true rfl) (kX12_isPerson _ a1 _) (Nat.le_of_ble_eq_true rfl) mc_yX12_isPerson m_1762 m_1764 m_p82 mem_69 lay_69 rfl rfl rfl rfl (Nat.le_of_ble_eq_true rfl) dX12_deaths_7 (fun y_2 s_2 => ?_)
  refine zr_if_eq (pc := 10) (tgt := 20) hC dX12_deaths_10 (by decide) (fun c_ => ?_) (fun c_ => ?_)
  · refine zr_aload_n (pc := 20) (i := 0) 0 hC dX12_deaths_20 rfl rfl ?_
    refine zr_iconst (pc := 21) (v := (1 : Int32)) hC dX12_deaths_21 ic_1 ?_
    refine zr_callV (pc := 22) (As := fun ad => [.int (1 : Int32)]) (st1 := []) hC (Nat.le_of_ble_eq_true rfl) (kX12_fail _ (1 : Int32) _) (Nat.le_of_ble_eq_true rfl) mc_yX12_fail m_1606 m_1608 m_p53 mem_69 lay_69 rfl rfl rfl rfl (Nat.le_of_ble_eq_true rfl) dX12_deaths_22 (fun y_3 s_3 => ?_)
    exact zr_iret (pc := 25) hC hR dX12_deaths_25
  · refine zr_iload_n (pc := 13) (i := 2) 2 hC dX12_deaths_13 rfl rfl ?_
    refine zr_callS (pc := 14) (As := fun ad => [.int a2]) (st1 := []) hC (Nat.le_of_ble_eq_true rfl) (kX12_isPart _ a2 _) (Nat.le_of_ble_eq_true rfl) mc_yX12_isPart m_1777 m_1778 rfl rfl rfl (Nat.le_of_ble_eq_true rfl) dX12_deaths_14 (fun y_4 s_4 => ?_)
    refine zr_if_ne (pc := 17) (tgt := 26) hC dX12_deaths_17 (by decide) (fun c_ => ?_) (fun c_ => ?_)
    · refine zr_aload_n (pc := 20) (i := 0) 0 hC dX12_deaths_20 rfl rfl ?_
      refine zr_iconst (pc := 21) (v := (1 : Int32)) hC dX12_deaths_21 ic_1 ?_
      refine zr_callV (pc := 22) (As := fun ad => [.int (1 : Int32)]) (st1 := []) hC (Nat.le_of_ble_eq_true rfl) (kX12_fail _ (1 : Int32) _) (Nat.le_of_ble_eq_true rfl) mc_yX12_fail m_1606 m_1608 m_p53 mem_69 lay_69 rfl rfl rfl rfl (Nat.le_of_ble_eq_true rfl) dX12_deaths_22 (fun y_13 s_13 => ?_)
      exact zr_iret (pc := 25) hC hR dX12_deaths_25
    · refine zr_iload_n (pc := 26) (i := 3) 3 hC dX12_deaths_26 rfl rfl ?_
      refine zr_i2l (pc := 27) hC dX12_deaths_27 ?_
      refine zr_lconst (pc := 28) (v := (1 : Int64)) hC dX12_deaths_28 rfl ?_
      refine zr_ldc2 (pc := 29) hC dX12_deaths_29 m_1925 ?_
      refine zr_callS (pc := 32) (As := fun ad => [.long (Int32.toInt64 a3), .long (1 : Int64), .long (9999 : Int64)]) (st1 := []) hC (Nat.le_of_ble_eq_true rfl) (kX12_isIn _ (Int32.toInt64 a3) (1 : Int64) (9999 : Int64) _) (Nat.le_of_ble_eq_true rfl) mc_yX12_isIn m_1766 m_1767 rfl rfl rfl (Nat.le_of_ble_eq_true rfl) dX12_deaths_32 (fun y_5 s_5 => ?_)
      refine zr_if_eq (pc := 35) (tgt := 46) hC dX12_deaths_35 (by decide) (fun c_ => ?_) (fun c_ => ?_)
      · refine zr_aload_n (pc := 46) (i := 0) 0 hC dX12_deaths_46 rfl rfl ?_
        refine zr_iconst (pc := 47) (v := (2 : Int32)) hC dX12_deaths_47 ic_2 ?_
        refine zr_callV (pc := 48) (As := fun ad => [.int (2 : Int32)]) (st1 := []) hC (Nat.le_of_ble_eq_true rfl) (kX12_fail _ (2 : Int32) _) (Nat.le_of_ble_eq_true rfl) mc_yX12_fail m_1606 m_1608 m_p53 mem_69 lay_69 rfl rfl rfl rfl (Nat.le_of_ble_eq_true rfl) dX12_deaths_48 (fun y_6 s_6 => ?_)
        exact zr_iret (pc := 51) hC hR dX12_deaths_51
      · refine zr_aload_n (pc := 38) (i := 0) 0 hC dX12_deaths_38 rfl rfl ?_
        refine zr_iload_n (pc := 39) (i := 1) 1 hC dX12_deaths_39 rfl rfl ?_
        refine zr_callV (pc := 40) (As := fun ad => [.int a1]) (st1 := []) hC (Nat.le_of_ble_eq_true rfl) (kX12_isAlive _ a1 _) (Nat.le_of_ble_eq_true rfl) mc_yX12_isAlive m_1769 m_1771 m_p83 mem_69 lay_69 rfl rfl rfl rfl (Nat.le_of_ble_eq_true rfl) dX12_deaths_40 (fun y_7 s_7 => ?_)
        refine zr_if_ne (pc := 43) (tgt := 52) hC dX12_deaths_43 (by decide) (fun c_ => ?_) (fun c_ => ?_)
        · refine zr_aload_n (pc := 46) (i := 0) 0 hC dX12_deaths_46 rfl rfl ?_
          refine zr_iconst (pc := 47) (v := (2 : Int32)) hC dX12_deaths_47 ic_2 ?_
          refine zr_callV (pc := 48) (As := fun ad => [.int (2 : Int32)]) (st1 := []) hC (Nat.le_of_ble_eq_true rfl) (kX12_fail _ (2 : Int32) _) (Nat.le_of_ble_eq_true rfl) mc_yX12_fail m_1606 m_1608 m_p53 mem_69 lay_69 rfl rfl rfl rfl (Nat.le_of_ble_eq_true rfl) dX12_deaths_48 (fun y_12 s_12 => ?_)
          exact zr_iret (pc := 51) hC hR dX12_deaths_51
        · refine zr_iconst (pc := 52) (v := (0 : Int32)) hC dX12_deaths_52 ic_0 ?_
          refine zr_istore (pc := 53) (ls' := [(4, _), (0, _), (1, _), (2, _), (3, _)]) hC dX12_deaths_53 (nlt hN (Nat.le_of_ble_eq_true rfl)) rfl ?_
          refine zr_sub (ls' := [(0, _), (1, _), (2, _), (3, _), (4, _)]) [1, 2, 3, 4, 0] rfl ?_
          refine tX12_deaths_L55 a1 a2 a3 _ X hC hR hN (fun v4_9 s_9 => ?_) FU (0 : Int32) _
          · refine zr_aload_n (pc := 77) (i := 0) 0 hC dX12_deaths_77 rfl rfl ?_
            refine zr_iload (pc := 78) 1 hC dX12_deaths_78 rfl ?_
            refine zr_putInt (pc := 80) (j := 44) hC mem_69 lay_69 rfl rfl (Nat.le_of_ble_eq_true rfl) iX12 tyX12_ok nmX12 m_1439 rfl (by decide +kernel) dX12_deaths_80 ?_
            refine zr_iconst (pc := 83) (v := (0 : Int32)) hC dX12_deaths_83 ic_0 ?_
            refine zr_istore (pc := 84) (ls' := [(5, _), (0, _), (4, _)]) hC dX12_deaths_84 (nlt hN (Nat.le_of_ble_eq_true rfl)) rfl ?_
            refine zr_sub (ls' := [(0, _), (4, _), (5, _)]) [1, 2, 0] rfl ?_
            exact tX12_deaths_L86 v4_9 X hC hR hN FU (0 : Int32) _
def fX12_death (a1 : Int32) (s : St) : Option (Int32 × St) :=
  let s_1 := wr s 69 1 (0 : Int32);
    if (s_1 69 44) = (-1 : Int32) then
    (bd (fX12_fail (1 : Int32) s_1) (fun y_2 s_2 =>
    some (y_2, s_2)))
  else
    (bd (fX12_isIn (Int32.toInt64 a1) (0 : Int64) (Int32.toInt64 ((s_1 69 44) - (1 : Int32))) s_1) (fun y_3 s_3 =>
    if y_3 = 0 then
    (bd (fX12_fail (1 : Int32) s_3) (fun y_4 s_4 =>
    some (y_4, s_4)))
  else
    (if inA a1 3 then
    (some ((s_3 97 a1.toNatClampNeg), s_3)) else none)))
set_option maxRecDepth 100000 in
set_option maxHeartbeats 4000000 in
theorem kX12_death (l : Launch)  (a1 : Int32) (s : St) : CN l yX12_death cX12_death 2 (some .int) 2 FULL (fun ad => [.ref (ad 69), .int a1]) s (fX12_death a1 s) := by
  refine cn_of (by decide) (fun _ => (Nat.le_of_ble_eq_true rfl)) (fun X hC hR hl hN => ?_)
  subst hl
  show Zr X (QFN X (some .int)) 0 s 0 [(0, .ref (X_ad X 69)), (1, .int a1)] [] _
  rw [fX12_death]
  refine zr_aload_n (pc := 0) (i := 0) 0 hC dX12_death_0 rfl rfl ?_
  refine zr_iconst (pc := 1) (v := (0 : Int32)) hC dX12_death_1 ic_0 ?_
  refine zr_putInt (pc := 2) (j := 1) hC mem_69 lay_69 rfl rfl (Nat.le_of_ble_eq_true rfl) iX12 tyX12_ok nmX12 m_1396 rfl (by decide +kernel) dX12_death_2 ?_
  refine zr_aload_n (pc := 5) (i := 0) 0 hC dX12_death_5 rfl rfl ?_
  refine zr_getI (pc := 6) (j := 44) hC mem_69 lay_69 rfl rfl (Nat.le_of_ble_eq_true rfl) iX12 m_1439 dX12_death_6 ?_
  refine zr_iconst (pc := 9) (v := (-1 : Int32)) hC dX12_death_9 ic_m1 ?_
  refine zr_icmp_eq (pc := 10) (tgt := 38) hC dX12_death_10 (by decide) (fun c_ => ?_) (fun c_ => ?_)
  · refine zr_aload_n (pc := 38) (i := 0) 0 hC dX12_death_38 rfl rfl ?_
    refine zr_iconst (pc := 39) (v := (1 : Int32)) hC dX12_death_39 ic_1 ?_
    refine zr_callV (pc := 40) (As := fun ad => [.int (1 : Int32)]) (st1 := []) hC (Nat.le_of_ble_eq_true rfl) (kX12_fail _ (1 : Int32) _) (Nat.le_of_ble_eq_true rfl) mc_yX12_fail m_1606 m_1608 m_p53 mem_69 lay_69 rfl rfl rfl rfl (Nat.le_of_ble_eq_true rfl) dX12_death_40 (fun y_2 s_2 => ?_)
    exact zr_iret (pc := 43) hC hR dX12_death_43
  · refine zr_iload_n (pc := 13) (i := 1) 1 hC dX12_death_13 rfl rfl ?_
    refine zr_i2l (pc := 14) hC dX12_death_14 ?_
    refine zr_lconst (pc := 15) (v := (0 : Int64)) hC dX12_death_15 rfl ?_
    refine zr_aload_n (pc := 16) (i := 0) 0 hC dX12_death_16 rfl rfl ?_
    refine zr_getI (pc := 17) (j := 44) hC mem_69 lay_69 rfl rfl (Nat.le_of_ble_eq_true rfl) iX12 m_1439 dX12_death_17 ?_
    refine zr_iconst (pc := 20) (v := (1 : Int32)) hC dX12_death_20 ic_1 ?_
    refine zr_isub (pc := 21) hC dX12_death_21 ?_
    refine zr_i2l (pc := 22) hC dX12_death_22 ?_
    refine zr_callS (pc := 23) (As := fun ad => [.long (Int32.toInt64 a1), .long (0 : Int64), .long (Int32.toInt64 (((wr s 69 1 (0 : Int32)) 69 44) - (1 : Int32)))]) (st1 := []) hC (Nat.le_of_ble_eq_true rfl) (kX12_isIn _ (Int32.toInt64 a1) (0 : Int64) (Int32.toInt64 (((wr s 69 1 (0 : Int32)) 69 44) - (1 : Int32))) _) (Nat.le_of_ble_eq_true rfl) mc_yX12_isIn m_1766 m_1767 rfl rfl rfl (Nat.le_of_ble_eq_true rfl) dX12_death_23 (fun y_3 s_3 => ?_)
    refine zr_if_eq (pc := 26) (tgt := 38) hC dX12_death_26 (by decide) (fun c_ => ?_) (fun c_ => ?_)
    · refine zr_aload_n (pc := 38) (i := 0) 0 hC dX12_death_38 rfl rfl ?_
      refine zr_iconst (pc := 39) (v := (1 : Int32)) hC dX12_death_39 ic_1 ?_
      refine zr_callV (pc := 40) (As := fun ad => [.int (1 : Int32)]) (st1 := []) hC (Nat.le_of_ble_eq_true rfl) (kX12_fail _ (1 : Int32) _) (Nat.le_of_ble_eq_true rfl) mc_yX12_fail m_1606 m_1608 m_p53 mem_69 lay_69 rfl rfl rfl rfl (Nat.le_of_ble_eq_true rfl) dX12_death_40 (fun y_4 s_4 => ?_)
      exact zr_iret (pc := 43) hC hR dX12_death_43
    · refine zr_aload_n (pc := 29) (i := 0) 0 hC dX12_death_29 rfl rfl ?_
      refine zr_getR (pc := 30) (j := 43) (k1 := 97) hC mem_69 lay_69 rfl rfl (Nat.le_of_ble_eq_true rfl) iX12 m_1438 dX12_death_30 ?_
      refine zr_iload_n (pc := 33) (i := 1) 1 hC dX12_death_33 rfl rfl ?_
      refine zr_iald (pc := 34) hC mem_97 lay_97 dX12_death_34 ?_
      refine zr_goto (pc := 35) (tgt := 43) hC dX12_death_35 (by decide) ?_
      exact zr_iret (pc := 43) hC hR dX12_death_43
def fX12_ripeBy_L35 (k105 : Int32 → Int32 → St → Option (Int32 × St)) (c1 : Int32) (c2 : Int32) : Nat → Int32 → Int32 → Int32 → St → Option (Int32 × St)
  | 0, _, _, _, _ => none
  | n + 1, v3, v4, v5, s =>
    if inA (0 : Int32) 10 then
    (if (s 71 (0 : Int32).toNatClampNeg) ≤ v5 then
    (k105 v3 v4 s)
  else
    (bd (fX12_isAlive v5 s) (fun y_1 s_1 =>
    if y_1 = 0 then
    (fX12_ripeBy_L35 k105 c1 c2 n v3 v4 (v5 + (1 : Int32)) s_1)
  else
    (if inA v5 12 then
    (if (s_1 99 v5.toNatClampNeg) = c2 then
    (if inA (((4 : Int32) * v5) + (0 : Int32)) 96 then
    (if inA (((4 : Int32) * v5) + (1 : Int32)) 96 then
    (fX12_ripeBy_L35 k105 c1 c2 n (v3 + (s_1 72 (((4 : Int32) * v5) + (0 : Int32)).toNatClampNeg)) (v4 + (s_1 72 (((4 : Int32) * v5) + (1 : Int32)).toNatClampNeg)) (v5 + (1 : Int32)) s_1) else none) else none)
  else
    (fX12_ripeBy_L35 k105 c1 c2 n v3 v4 (v5 + (1 : Int32)) s_1)) else none)))) else none
set_option maxRecDepth 100000 in
set_option maxHeartbeats 4000000 in
theorem tX12_ripeBy_L35 (c1 : Int32) (c2 : Int32) (k105 : Int32 → Int32 → St → Option (Int32 × St)) (X : KX) (hC : Ctx X RX12 cX12_ripeBy FULL 2 0) (hR : RC X (some .int)) (hN : X_nL X = 6) (hk105 : ∀ (v3 : Int32) (v4 : Int32) (s : St), Zr X (QFN X (some .int)) 0 s 105 [(0, .ref (X_ad X 69)), (1, .int c1), (2, .int c2), (3, .int v3), (4, .int v4)] [] (k105 v3 v4 s)) : ∀ (n : Nat) (v3 : Int32) (v4 : Int32) (v5 : Int32) (s : St), Zr X (QFN X (some .int)) 0 s 35 [(0, .ref (X_ad X 69)), (1, .int c1), (2, .int c2), (3, .int v3), (4, .int v4), (5, .int v5)] [] (fX12_ripeBy_L35 k105 c1 c2 n v3 v4 v5 s) := by
  intro n
  induction n with
  | zero =>
    intro v3 v4 v5 s
    exact zr_none
  | succ n ih =>
    intro v3 v4 v5 s
    rw [fX12_ripeBy_L35]
    refine zr_iload (pc := 35) 5 hC dX12_ripeBy_35 rfl ?_
    refine zr_aload_n (pc := 37) (i := 0) 0 hC dX12_ripeBy_37 rfl rfl ?_
    refine zr_getR (pc := 38) (j := 2) (k1 := 71) hC mem_69 lay_69 rfl rfl (Nat.le_of_ble_eq_true rfl) iX12 m_1397 dX12_ripeBy_38 ?_
    refine zr_iconst (pc := 41) (v := (0 : Int32)) hC dX12_ripeBy_41 ic_0 ?_
    refine zr_iald (pc := 42) hC mem_71 lay_71 dX12_ripeBy_42 ?_
    refine zr_icmp_ge (pc := 43) (tgt := 105) hC dX12_ripeBy_43 (by decide) (fun c_ => ?_) (fun c_ => ?_)
    · refine zr_sub (ls' := [(0, _), (1, _), (2, _), (3, _), (4, _)]) [0, 1, 2, 3, 4] rfl ?_
      exact hk105 v3 v4 s
    · refine zr_aload_n (pc := 46) (i := 0) 0 hC dX12_ripeBy_46 rfl rfl ?_
      refine zr_iload (pc := 47) 5 hC dX12_ripeBy_47 rfl ?_
      refine zr_callV (pc := 49) (As := fun ad => [.int v5]) (st1 := []) hC (Nat.le_of_ble_eq_true rfl) (kX12_isAlive _ v5 _) (Nat.le_of_ble_eq_true rfl) mc_yX12_isAlive m_1769 m_1771 m_p83 mem_69 lay_69 rfl rfl rfl rfl (Nat.le_of_ble_eq_true rfl) dX12_ripeBy_49 (fun y_1 s_1 => ?_)
      refine zr_if_eq (pc := 52) (tgt := 99) hC dX12_ripeBy_52 (by decide) (fun c_ => ?_) (fun c_ => ?_)
      · refine zr_iinc (pc := 99) (q := 5) (ls' := [(5, _), (0, _), (1, _), (2, _), (3, _), (4, _)]) hC dX12_ripeBy_99 rfl (inc_1 _) (nlt hN (Nat.le_of_ble_eq_true rfl)) rfl ?_
        refine zr_goto (pc := 102) (tgt := 35) hC dX12_ripeBy_102 (by decide) ?_
        refine zr_sub (ls' := [(0, _), (1, _), (2, _), (3, _), (4, _), (5, _)]) [1, 2, 3, 4, 5, 0] rfl ?_
        exact ih v3 v4 (v5 + (1 : Int32)) s_1
      · refine zr_aload_n (pc := 55) (i := 0) 0 hC dX12_ripeBy_55 rfl rfl ?_
        refine zr_getR (pc := 56) (j := 46) (k1 := 99) hC mem_69 lay_69 rfl rfl (Nat.le_of_ble_eq_true rfl) iX12 m_1441 dX12_ripeBy_56 ?_
        refine zr_iload (pc := 59) 5 hC dX12_ripeBy_59 rfl ?_
        refine zr_iald (pc := 61) hC mem_99 lay_99 dX12_ripeBy_61 ?_
        refine zr_iload_n (pc := 62) (i := 2) 2 hC dX12_ripeBy_62 rfl rfl ?_
        refine zr_icmp_eq (pc := 63) (tgt := 69) hC dX12_ripeBy_63 (by decide) (fun c_ => ?_) (fun c_ => ?_)
        · refine zr_iload_n (pc := 69) (i := 3) 3 hC dX12_ripeBy_69 rfl rfl ?_
          refine zr_aload_n (pc := 70) (i := 0) 0 hC dX12_ripeBy_70 rfl rfl ?_
          refine zr_getR (pc := 71) (j := 3) (k1 := 72) hC mem_69 lay_69 rfl rfl (Nat.le_of_ble_eq_true rfl) iX12 m_1398 dX12_ripeBy_71 ?_
          refine zr_iconst (pc := 74) (v := (4 : Int32)) hC dX12_ripeBy_74 ic_4 ?_
          refine zr_iload (pc := 75) 5 hC dX12_ripeBy_75 rfl ?_
          refine zr_imul (pc := 77) hC dX12_ripeBy_77 ?_
          refine zr_iconst (pc := 78) (v := (0 : Int32)) hC dX12_ripeBy_78 ic_0 ?_
          refine zr_iadd (pc := 79) hC dX12_ripeBy_79 ?_
          refine zr_iald (pc := 80) hC mem_72 lay_72 dX12_ripeBy_80 ?_
          refine zr_iadd (pc := 81) hC dX12_ripeBy_81 ?_
          refine zr_istore_n (pc := 82) (i := 3) (ls' := [(3, _), (0, _), (1, _), (2, _), (4, _), (5, _)]) hC dX12_ripeBy_82 rfl (nlt hN (Nat.le_of_ble_eq_true rfl)) rfl ?_
          refine zr_iload (pc := 83) 4 hC dX12_ripeBy_83 rfl ?_
          refine zr_aload_n (pc := 85) (i := 0) 1 hC dX12_ripeBy_85 rfl rfl ?_
          refine zr_getR (pc := 86) (j := 3) (k1 := 72) hC mem_69 lay_69 rfl rfl (Nat.le_of_ble_eq_true rfl) iX12 m_1398 dX12_ripeBy_86 ?_
          refine zr_iconst (pc := 89) (v := (4 : Int32)) hC dX12_ripeBy_89 ic_4 ?_
          refine zr_iload (pc := 90) 5 hC dX12_ripeBy_90 rfl ?_
          refine zr_imul (pc := 92) hC dX12_ripeBy_92 ?_
          refine zr_iconst (pc := 93) (v := (1 : Int32)) hC dX12_ripeBy_93 ic_1 ?_
          refine zr_iadd (pc := 94) hC dX12_ripeBy_94 ?_
          refine zr_iald (pc := 95) hC mem_72 lay_72 dX12_ripeBy_95 ?_
          refine zr_iadd (pc := 96) hC dX12_ripeBy_96 ?_
          refine zr_istore (pc := 97) (ls' := [(4, _), (3, _), (0, _), (1, _), (2, _), (5, _)]) hC dX12_ripeBy_97 (nlt hN (Nat.le_of_ble_eq_true rfl)) rfl ?_
          refine zr_iinc (pc := 99) (q := 5) (ls' := [(5, _), (4, _), (3, _), (0, _), (1, _), (2, _)]) hC dX12_ripeBy_99 rfl (inc_1 _) (nlt hN (Nat.le_of_ble_eq_true rfl)) rfl ?_
          refine zr_goto (pc := 102) (tgt := 35) hC dX12_ripeBy_102 (by decide) ?_
          refine zr_sub (ls' := [(0, _), (1, _), (2, _), (3, _), (4, _), (5, _)]) [3, 4, 5, 2, 1, 0] rfl ?_
          exact ih (v3 + (s_1 72 (((4 : Int32) * v5) + (0 : Int32)).toNatClampNeg)) (v4 + (s_1 72 (((4 : Int32) * v5) + (1 : Int32)).toNatClampNeg)) (v5 + (1 : Int32)) s_1
        · refine zr_goto (pc := 66) (tgt := 99) hC dX12_ripeBy_66 (by decide) ?_
          refine zr_iinc (pc := 99) (q := 5) (ls' := [(5, _), (0, _), (1, _), (2, _), (3, _), (4, _)]) hC dX12_ripeBy_99 rfl (inc_1 _) (nlt hN (Nat.le_of_ble_eq_true rfl)) rfl ?_
          refine zr_goto (pc := 102) (tgt := 35) hC dX12_ripeBy_102 (by decide) ?_
          refine zr_sub (ls' := [(0, _), (1, _), (2, _), (3, _), (4, _), (5, _)]) [1, 2, 3, 4, 5, 0] rfl ?_
          exact ih v3 v4 (v5 + (1 : Int32)) s_1
def fX12_ripeBy_L4 : Nat → Int32 → Int32 → St → Option (Int32 × St)
  | 0, _, _, _ => none
  | n + 1, v1, v2, s =>
    if inA (2 : Int32) 10 then
    (if (s 71 (2 : Int32).toNatClampNeg) ≤ v2 then
    (some (v1, s))
  else
    (if inA v2 12 then
    (if inA (s 81 v2.toNatClampNeg) 10 then
    (fX12_ripeBy_L35 (fun v3_2 v4_2 s_2 => if inA v2 12 then
    (if v3_2 < (s_2 82 v2.toNatClampNeg) then
    (fX12_ripeBy_L4 n (v1 + (0 : Int32)) (v2 + (1 : Int32)) s_2)
  else
    (if inA v2 12 then
    (if v4_2 < (s_2 83 v2.toNatClampNeg) then
    (fX12_ripeBy_L4 n (v1 + (0 : Int32)) (v2 + (1 : Int32)) s_2)
  else
    (fX12_ripeBy_L4 n (v1 + (1 : Int32)) (v2 + (1 : Int32)) s_2)) else none)) else none) v1 v2 FU ((10 : Int32) * (s 88 (s 81 v2.toNatClampNeg).toNatClampNeg)) (0 : Int32) (0 : Int32) s) else none) else none)) else none
set_option maxRecDepth 100000 in
set_option maxHeartbeats 4000000 in
theorem tX12_ripeBy_L4 (X : KX) (hC : Ctx X RX12 cX12_ripeBy FULL 2 0) (hR : RC X (some .int)) (hN : X_nL X = 6) : ∀ (n : Nat) (v1 : Int32) (v2 : Int32) (s : St), Zr X (QFN X (some .int)) 0 s 4 [(0, .ref (X_ad X 69)), (1, .int v1), (2, .int v2)] [] (fX12_ripeBy_L4 n v1 v2 s) := by
  intro n
  induction n with
  | zero =>
    intro v1 v2 s
    exact zr_none
  | succ n ih =>
    intro v1 v2 s
    rw [fX12_ripeBy_L4]
    refine zr_iload_n (pc := 4) (i := 2) 2 hC dX12_ripeBy_4 rfl rfl ?_
    refine zr_aload_n (pc := 5) (i := 0) 0 hC dX12_ripeBy_5 rfl rfl ?_
    refine zr_getR (pc := 6) (j := 2) (k1 := 71) hC mem_69 lay_69 rfl rfl (Nat.le_of_ble_eq_true rfl) iX12 m_1397 dX12_ripeBy_6 ?_
    refine zr_iconst (pc := 9) (v := (2 : Int32)) hC dX12_ripeBy_9 ic_2 ?_
    refine zr_iald (pc := 10) hC mem_71 lay_71 dX12_ripeBy_10 ?_
    refine zr_icmp_ge (pc := 11) (tgt := 140) hC dX12_ripeBy_11 (by decide) (fun c_ => ?_) (fun c_ => ?_)
    · refine zr_iload_n (pc := 140) (i := 1) 1 hC dX12_ripeBy_140 rfl rfl ?_
      exact zr_iret (pc := 141) hC hR dX12_ripeBy_141
    · refine zr_bipush (pc := 14) (v := (10 : Int32)) hC dX12_ripeBy_14 bi_10 ?_
      refine zr_aload_n (pc := 16) (i := 0) 0 hC dX12_ripeBy_16 rfl rfl ?_
      refine zr_getR (pc := 17) (j := 30) (k1 := 88) hC mem_69 lay_69 rfl rfl (Nat.le_of_ble_eq_true rfl) iX12 m_1425 dX12_ripeBy_17 ?_
      refine zr_aload_n (pc := 20) (i := 0) 0 hC dX12_ripeBy_20 rfl rfl ?_
      refine zr_getR (pc := 21) (j := 12) (k1 := 81) hC mem_69 lay_69 rfl rfl (Nat.le_of_ble_eq_true rfl) iX12 m_1407 dX12_ripeBy_21 ?_
      refine zr_iload_n (pc := 24) (i := 2) 2 hC dX12_ripeBy_24 rfl rfl ?_
      refine zr_iald (pc := 25) hC mem_81 lay_81 dX12_ripeBy_25 ?_
      refine zr_iald (pc := 26) hC mem_88 lay_88 dX12_ripeBy_26 ?_
      refine zr_imul (pc := 27) hC dX12_ripeBy_27 ?_
      refine zr_istore_n (pc := 28) (i := 3) (ls' := [(3, _), (0, _), (1, _), (2, _)]) hC dX12_ripeBy_28 rfl (nlt hN (Nat.le_of_ble_eq_true rfl)) rfl ?_
      refine zr_iconst (pc := 29) (v := (0 : Int32)) hC dX12_ripeBy_29 ic_0 ?_
      refine zr_istore (pc := 30) (ls' := [(4, _), (3, _), (0, _), (1, _), (2, _)]) hC dX12_ripeBy_30 (nlt hN (Nat.le_of_ble_eq_true rfl)) rfl ?_
      refine zr_iconst (pc := 32) (v := (0 : Int32)) hC dX12_ripeBy_32 ic_0 ?_
      refine zr_istore (pc := 33) (ls' := [(5, _), (4, _), (3, _), (0, _), (1, _), (2, _)]) hC dX12_ripeBy_33 (nlt hN (Nat.le_of_ble_eq_true rfl)) rfl ?_
      refine zr_sub (ls' := [(0, _), (1, _), (2, _), (3, _), (4, _), (5, _)]) [3, 4, 5, 2, 1, 0] rfl ?_
      refine tX12_ripeBy_L35 v1 v2 _ X hC hR hN (fun v3_2 v4_2 s_2 => ?_) FU ((10 : Int32) * (s 88 (s 81 v2.toNatClampNeg).toNatClampNeg)) (0 : Int32) (0 : Int32) _
      · refine zr_iload_n (pc := 105) (i := 1) 1 hC dX12_ripeBy_105 rfl rfl ?_
        refine zr_iload_n (pc := 106) (i := 3) 3 hC dX12_ripeBy_106 rfl rfl ?_
        refine zr_aload_n (pc := 107) (i := 0) 0 hC dX12_ripeBy_107 rfl rfl ?_
        refine zr_getR (pc := 108) (j := 13) (k1 := 82) hC mem_69 lay_69 rfl rfl (Nat.le_of_ble_eq_true rfl) iX12 m_1408 dX12_ripeBy_108 ?_
        refine zr_iload_n (pc := 111) (i := 2) 2 hC dX12_ripeBy_111 rfl rfl ?_
        refine zr_iald (pc := 112) hC mem_82 lay_82 dX12_ripeBy_112 ?_
        refine zr_icmp_lt (pc := 113) (tgt := 131) hC dX12_ripeBy_113 (by decide) (fun c_ => ?_) (fun c_ => ?_)
        · refine zr_iconst (pc := 131) (v := (0 : Int32)) hC dX12_ripeBy_131 ic_0 ?_
          refine zr_iadd (pc := 132) hC dX12_ripeBy_132 ?_
          refine zr_istore_n (pc := 133) (i := 1) (ls' := [(1, _), (0, _), (2, _), (3, _), (4, _)]) hC dX12_ripeBy_133 rfl (nlt hN (Nat.le_of_ble_eq_true rfl)) rfl ?_
          refine zr_iinc (pc := 134) (q := 2) (ls' := [(2, _), (1, _), (0, _), (3, _), (4, _)]) hC dX12_ripeBy_134 rfl (inc_1 _) (nlt hN (Nat.le_of_ble_eq_true rfl)) rfl ?_
          refine zr_goto (pc := 137) (tgt := 4) hC dX12_ripeBy_137 (by decide) ?_
          refine zr_sub (ls' := [(0, _), (1, _), (2, _)]) [2, 1, 0] rfl ?_
          exact ih (v1 + (0 : Int32)) (v2 + (1 : Int32)) s_2
        · refine zr_iload (pc := 116) 4 hC dX12_ripeBy_116 rfl ?_
          refine zr_aload_n (pc := 118) (i := 0) 0 hC dX12_ripeBy_118 rfl rfl ?_
          refine zr_getR (pc := 119) (j := 14) (k1 := 83) hC mem_69 lay_69 rfl rfl (Nat.le_of_ble_eq_true rfl) iX12 m_1409 dX12_ripeBy_119 ?_
          refine zr_iload_n (pc := 122) (i := 2) 2 hC dX12_ripeBy_122 rfl rfl ?_
          refine zr_iald (pc := 123) hC mem_83 lay_83 dX12_ripeBy_123 ?_
          refine zr_icmp_lt (pc := 124) (tgt := 131) hC dX12_ripeBy_124 (by decide) (fun c_ => ?_) (fun c_ => ?_)
          · refine zr_iconst (pc := 131) (v := (0 : Int32)) hC dX12_ripeBy_131 ic_0 ?_
            refine zr_iadd (pc := 132) hC dX12_ripeBy_132 ?_
            refine zr_istore_n (pc := 133) (i := 1) (ls' := [(1, _), (0, _), (2, _), (3, _), (4, _)]) hC dX12_ripeBy_133 rfl (nlt hN (Nat.le_of_ble_eq_true rfl)) rfl ?_
            refine zr_iinc (pc := 134) (q := 2) (ls' := [(2, _), (1, _), (0, _), (3, _), (4, _)]) hC dX12_ripeBy_134 rfl (inc_1 _) (nlt hN (Nat.le_of_ble_eq_true rfl)) rfl ?_
            refine zr_goto (pc := 137) (tgt := 4) hC dX12_ripeBy_137 (by decide) ?_
            refine zr_sub (ls' := [(0, _), (1, _), (2, _)]) [2, 1, 0] rfl ?_
            exact ih (v1 + (0 : Int32)) (v2 + (1 : Int32)) s_2
          · refine zr_iconst (pc := 127) (v := (1 : Int32)) hC dX12_ripeBy_127 ic_1 ?_
            refine zr_goto (pc := 128) (tgt := 132) hC dX12_ripeBy_128 (by decide) ?_
            refine zr_iadd (pc := 132) hC dX12_ripeBy_132 ?_
            refine zr_istore_n (pc := 133) (i := 1) (ls' := [(1, _), (0, _), (2, _), (3, _), (4, _)]) hC dX12_ripeBy_133 rfl (nlt hN (Nat.le_of_ble_eq_true rfl)) rfl ?_
            refine zr_iinc (pc := 134) (q := 2) (ls' := [(2, _), (1, _), (0, _), (3, _), (4, _)]) hC dX12_ripeBy_134 rfl (inc_1 _) (nlt hN (Nat.le_of_ble_eq_true rfl)) rfl ?_
            refine zr_goto (pc := 137) (tgt := 4) hC dX12_ripeBy_137 (by decide) ?_
            refine zr_sub (ls' := [(0, _), (1, _), (2, _)]) [2, 1, 0] rfl ?_
            exact ih (v1 + (1 : Int32)) (v2 + (1 : Int32)) s_2
def fX12_ripeBy (s : St) : Option (Int32 × St) :=
  fX12_ripeBy_L4 FU (0 : Int32) (0 : Int32) s
set_option maxRecDepth 100000 in
set_option maxHeartbeats 4000000 in
theorem kX12_ripeBy (l : Launch)  (s : St) : CN l yX12_ripeBy cX12_ripeBy 6 (some .int) 2 FULL (fun ad => [.ref (ad 69)]) s (fX12_ripeBy s) := by
  refine cn_of (by decide) (fun _ => (Nat.le_of_ble_eq_true rfl)) (fun X hC hR hl hN => ?_)
  subst hl
  show Zr X (QFN X (some .int)) 0 s 0 [(0, .ref (X_ad X 69))] [] _
  rw [fX12_ripeBy]
  refine zr_iconst (pc := 0) (v := (0 : Int32)) hC dX12_ripeBy_0 ic_0 ?_
  refine zr_istore_n (pc := 1) (i := 1) (ls' := [(1, _), (0, _)]) hC dX12_ripeBy_1 rfl (nlt hN (Nat.le_of_ble_eq_true rfl)) rfl ?_
  refine zr_iconst (pc := 2) (v := (0 : Int32)) hC dX12_ripeBy_2 ic_0 ?_
  refine zr_istore_n (pc := 3) (i := 2) (ls' := [(2, _), (1, _), (0, _)]) hC dX12_ripeBy_3 rfl (nlt hN (Nat.le_of_ble_eq_true rfl)) rfl ?_
  refine zr_sub (ls' := [(0, _), (1, _), (2, _)]) [2, 1, 0] rfl ?_
  exact tX12_ripeBy_L4  X hC hR hN FU (0 : Int32) (0 : Int32) _
def fX12_arrange_L36 (k58 : Int32 → St → Option (Int32 × St)) (c1 : Int32) : Nat → Int32 → Int32 → St → Option (Int32 × St)
  | 0, _, _, _ => none
  | n + 1, v2, v3, s =>
    if c1 ≤ v3 then
    (k58 v2 s)
  else
    (if inA (2 : Int32) 10 then
    (fX12_arrange_L36 k58 c1 n (v2 * ((s 71 (2 : Int32).toNatClampNeg) + (1 : Int32))) (v3 + (1 : Int32)) s) else none)
set_option maxRecDepth 100000 in
set_option maxHeartbeats 4000000 in
theorem tX12_arrange_L36 (c1 : Int32) (k58 : Int32 → St → Option (Int32 × St)) (X : KX) (hC : Ctx X RX12 cX12_arrange FULL 3 0) (hR : RC X (some .int)) (hN : X_nL X = 8) (hk58 : ∀ (v2 : Int32) (s : St), Zr X (QFN X (some .int)) 0 s 58 [(0, .ref (X_ad X 69)), (2, .int v2)] [] (k58 v2 s)) : ∀ (n : Nat) (v2 : Int32) (v3 : Int32) (s : St), Zr X (QFN X (some .int)) 0 s 36 [(0, .ref (X_ad X 69)), (1, .int c1), (2, .int v2), (3, .int v3)] [] (fX12_arrange_L36 k58 c1 n v2 v3 s) := by
  intro n
  induction n with
  | zero =>
    intro v2 v3 s
    exact zr_none
  | succ n ih =>
    intro v2 v3 s
    rw [fX12_arrange_L36]
    refine zr_iload_n (pc := 36) (i := 3) 3 hC dX12_arrange_36 rfl rfl ?_
    refine zr_iload_n (pc := 37) (i := 1) 1 hC dX12_arrange_37 rfl rfl ?_
    refine zr_icmp_ge (pc := 38) (tgt := 58) hC dX12_arrange_38 (by decide) (fun c_ => ?_) (fun c_ => ?_)
    · refine zr_sub (ls' := [(0, _), (2, _)]) [0, 2] rfl ?_
      exact hk58 v2 s
    · refine zr_iload_n (pc := 41) (i := 2) 2 hC dX12_arrange_41 rfl rfl ?_
      refine zr_aload_n (pc := 42) (i := 0) 0 hC dX12_arrange_42 rfl rfl ?_
      refine zr_getR (pc := 43) (j := 2) (k1 := 71) hC mem_69 lay_69 rfl rfl (Nat.le_of_ble_eq_true rfl) iX12 m_1397 dX12_arrange_43 ?_
      refine zr_iconst (pc := 46) (v := (2 : Int32)) hC dX12_arrange_46 ic_2 ?_
      refine zr_iald (pc := 47) hC mem_71 lay_71 dX12_arrange_47 ?_
      refine zr_iconst (pc := 48) (v := (1 : Int32)) hC dX12_arrange_48 ic_1 ?_
      refine zr_iadd (pc := 49) hC dX12_arrange_49 ?_
      refine zr_imul (pc := 50) hC dX12_arrange_50 ?_
      refine zr_istore_n (pc := 51) (i := 2) (ls' := [(2, _), (0, _), (1, _), (3, _)]) hC dX12_arrange_51 rfl (nlt hN (Nat.le_of_ble_eq_true rfl)) rfl ?_
      refine zr_iinc (pc := 52) (q := 3) (ls' := [(3, _), (2, _), (0, _), (1, _)]) hC dX12_arrange_52 rfl (inc_1 _) (nlt hN (Nat.le_of_ble_eq_true rfl)) rfl ?_
      refine zr_goto (pc := 55) (tgt := 36) hC dX12_arrange_55 (by decide) ?_
      refine zr_sub (ls' := [(0, _), (1, _), (2, _), (3, _)]) [2, 3, 1, 0] rfl ?_
      exact ih (v2 * ((s 71 (2 : Int32).toNatClampNeg) + (1 : Int32))) (v3 + (1 : Int32)) s
def fX12_arrange_L83 (k139 : St → Option (Int32 × St)) (c2 : Int32) (c3 : Int32) (c4 : Int32) : Nat → Int32 → Int32 → St → Option (Int32 × St)
  | 0, _, _, _ => none
  | n + 1, v5, v6, s =>
    if v6 < 0 then
    (k139 s)
  else
    (bd (fX12_isAlive v6 s) (fun y_6 s_6 =>
    if y_6 = 0 then
    (fX12_arrange_L83 k139 c2 c3 c4 n v5 (v6 + (-1 : Int32)) s_6)
  else
    (if inA (2 : Int32) 10 then
    (if ((s_6 71 (2 : Int32).toNatClampNeg) + (1 : Int32)) = 0 then none else
    if inA v6 12 then
    (let s_7 := wr s_6 99 v6.toNatClampNeg ((jrem v5 ((s_6 71 (2 : Int32).toNatClampNeg) + (1 : Int32))) - (1 : Int32));
    if inA (2 : Int32) 10 then
    (if ((s_7 71 (2 : Int32).toNatClampNeg) + (1 : Int32)) = 0 then none else
    fX12_arrange_L83 k139 c2 c3 c4 n (v5 / ((s_7 71 (2 : Int32).toNatClampNeg) + (1 : Int32))) (v6 + (-1 : Int32)) s_7) else none) else none) else none)))
set_option maxRecDepth 100000 in
set_option maxHeartbeats 4000000 in
theorem tX12_arrange_L83 (c2 : Int32) (c3 : Int32) (c4 : Int32) (k139 : St → Option (Int32 × St)) (X : KX) (hC : Ctx X RX12 cX12_arrange FULL 3 0) (hR : RC X (some .int)) (hN : X_nL X = 8) (hk139 : ∀ (s : St), Zr X (QFN X (some .int)) 0 s 139 [(0, .ref (X_ad X 69)), (2, .int c2), (3, .int c3), (4, .int c4)] [] (k139 s)) : ∀ (n : Nat) (v5 : Int32) (v6 : Int32) (s : St), Zr X (QFN X (some .int)) 0 s 83 [(0, .ref (X_ad X 69)), (2, .int c2), (3, .int c3), (4, .int c4), (5, .int v5), (6, .int v6)] [] (fX12_arrange_L83 k139 c2 c3 c4 n v5 v6 s) := by
  intro n
  induction n with
  | zero =>
    intro v5 v6 s
    exact zr_none
  | succ n ih =>
    intro v5 v6 s
    rw [fX12_arrange_L83]
    refine zr_iload (pc := 83) 5 hC dX12_arrange_83 rfl ?_
    refine zr_if_lt (pc := 85) (tgt := 139) hC dX12_arrange_85 (by decide) (fun c_ => ?_) (fun c_ => ?_)
    · refine zr_sub (ls' := [(0, _), (2, _), (3, _), (4, _)]) [0, 1, 2, 3] rfl ?_
      exact hk139 s
    · refine zr_aload_n (pc := 88) (i := 0) 0 hC dX12_arrange_88 rfl rfl ?_
      refine zr_iload (pc := 89) 5 hC dX12_arrange_89 rfl ?_
      refine zr_callV (pc := 91) (As := fun ad => [.int v6]) (st1 := []) hC (Nat.le_of_ble_eq_true rfl) (kX12_isAlive _ v6 _) (Nat.le_of_ble_eq_true rfl) mc_yX12_isAlive m_1769 m_1771 m_p83 mem_69 lay_69 rfl rfl rfl rfl (Nat.le_of_ble_eq_true rfl) dX12_arrange_91 (fun y_6 s_6 => ?_)
      refine zr_if_ne (pc := 94) (tgt := 100) hC dX12_arrange_94 (by decide) (fun c_ => ?_) (fun c_ => ?_)
      · refine zr_goto (pc := 97) (tgt := 133) hC dX12_arrange_97 (by decide) ?_
        refine zr_iinc (pc := 133) (q := 5) (ls' := [(6, _), (0, _), (2, _), (3, _), (4, _), (5, _)]) hC dX12_arrange_133 rfl (inc_m1 _) (nlt hN (Nat.le_of_ble_eq_true rfl)) rfl ?_
        refine zr_goto (pc := 136) (tgt := 83) hC dX12_arrange_136 (by decide) ?_
        refine zr_sub (ls' := [(0, _), (2, _), (3, _), (4, _), (5, _), (6, _)]) [1, 2, 3, 4, 5, 0] rfl ?_
        exact ih v5 (v6 + (-1 : Int32)) s_6
      · refine zr_aload_n (pc := 100) (i := 0) 0 hC dX12_arrange_100 rfl rfl ?_
        refine zr_getR (pc := 101) (j := 46) (k1 := 99) hC mem_69 lay_69 rfl rfl (Nat.le_of_ble_eq_true rfl) iX12 m_1441 dX12_arrange_101 ?_
        refine zr_iload (pc := 104) 5 hC dX12_arrange_104 rfl ?_
        refine zr_iload (pc := 106) 4 hC dX12_arrange_106 rfl ?_
        refine zr_aload_n (pc := 108) (i := 0) 0 hC dX12_arrange_108 rfl rfl ?_
        refine zr_getR (pc := 109) (j := 2) (k1 := 71) hC mem_69 lay_69 rfl rfl (Nat.le_of_ble_eq_true rfl) iX12 m_1397 dX12_arrange_109 ?_
        refine zr_iconst (pc := 112) (v := (2 : Int32)) hC dX12_arrange_112 ic_2 ?_
        refine zr_iald (pc := 113) hC mem_71 lay_71 dX12_arrange_113 ?_
        refine zr_iconst (pc := 114) (v := (1 : Int32)) hC dX12_arrange_114 ic_1 ?_
        refine zr_iadd (pc := 115) hC dX12_arrange_115 ?_
        refine zr_irem (pc := 116) hC dX12_arrange_116 ?_
        refine zr_iconst (pc := 117) (v := (1 : Int32)) hC dX12_arrange_117 ic_1 ?_
        refine zr_isub (pc := 118) hC dX12_arrange_118 ?_
        refine zr_iast (pc := 119) hC mem_99 lay_99 dX12_arrange_119 ?_
        refine zr_iload (pc := 120) 4 hC dX12_arrange_120 rfl ?_
        refine zr_aload_n (pc := 122) (i := 0) 0 hC dX12_arrange_122 rfl rfl ?_
        refine zr_getR (pc := 123) (j := 2) (k1 := 71) hC mem_69 lay_69 rfl rfl (Nat.le_of_ble_eq_true rfl) iX12 m_1397 dX12_arrange_123 ?_
        refine zr_iconst (pc := 126) (v := (2 : Int32)) hC dX12_arrange_126 ic_2 ?_
        refine zr_iald (pc := 127) hC mem_71 lay_71 dX12_arrange_127 ?_
        refine zr_iconst (pc := 128) (v := (1 : Int32)) hC dX12_arrange_128 ic_1 ?_
        refine zr_iadd (pc := 129) hC dX12_arrange_129 ?_
        refine zr_idiv (pc := 130) hC dX12_arrange_130 ?_
        refine zr_istore (pc := 131) (ls' := [(5, _), (0, _), (2, _), (3, _), (4, _), (6, _)]) hC dX12_arrange_131 (nlt hN (Nat.le_of_ble_eq_true rfl)) rfl ?_
        refine zr_iinc (pc := 133) (q := 5) (ls' := [(6, _), (5, _), (0, _), (2, _), (3, _), (4, _)]) hC dX12_arrange_133 rfl (inc_m1 _) (nlt hN (Nat.le_of_ble_eq_true rfl)) rfl ?_
        refine zr_goto (pc := 136) (tgt := 83) hC dX12_arrange_136 (by decide) ?_
        refine zr_sub (ls' := [(0, _), (2, _), (3, _), (4, _), (5, _), (6, _)]) [2, 3, 4, 5, 1, 0] rfl ?_
        exact ih (v5 / (((wr s_6 99 v6.toNatClampNeg ((jrem v5 ((s_6 71 (2 : Int32).toNatClampNeg) + (1 : Int32))) - (1 : Int32))) 71 (2 : Int32).toNatClampNeg) + (1 : Int32))) (v6 + (-1 : Int32)) (wr s_6 99 v6.toNatClampNeg ((jrem v5 ((s_6 71 (2 : Int32).toNatClampNeg) + (1 : Int32))) - (1 : Int32)))
def fX12_arrange_L160 (k191 : St → Option (Int32 × St)) (c2 : Int32) (c3 : Int32) (c4 : Int32) : Nat → Int32 → St → Option (Int32 × St)
  | 0, _, _ => none
  | n + 1, v7, s =>
    if inA (0 : Int32) 10 then
    (if (s 71 (0 : Int32).toNatClampNeg) ≤ v7 then
    (k191 s)
  else
    (if inA v7 12 then
    (if inA v7 12 then
    (let s_10 := wr s 98 v7.toNatClampNeg (s 99 v7.toNatClampNeg);
    fX12_arrange_L160 k191 c2 c3 c4 n (v7 + (1 : Int32)) s_10) else none) else none)) else none
set_option maxRecDepth 100000 in
set_option maxHeartbeats 4000000 in
theorem tX12_arrange_L160 (c2 : Int32) (c3 : Int32) (c4 : Int32) (k191 : St → Option (Int32 × St)) (X : KX) (hC : Ctx X RX12 cX12_arrange FULL 3 0) (hR : RC X (some .int)) (hN : X_nL X = 8) (hk191 : ∀ (s : St), Zr X (QFN X (some .int)) 0 s 191 [(0, .ref (X_ad X 69)), (2, .int c2), (3, .int c3), (4, .int c4)] [] (k191 s)) : ∀ (n : Nat) (v7 : Int32) (s : St), Zr X (QFN X (some .int)) 0 s 160 [(0, .ref (X_ad X 69)), (2, .int c2), (3, .int c3), (4, .int c4), (7, .int v7)] [] (fX12_arrange_L160 k191 c2 c3 c4 n v7 s) := by
  intro n
  induction n with
  | zero =>
    intro v7 s
    exact zr_none
  | succ n ih =>
    intro v7 s
    rw [fX12_arrange_L160]
    refine zr_iload (pc := 160) 4 hC dX12_arrange_160 rfl ?_
    refine zr_aload_n (pc := 162) (i := 0) 0 hC dX12_arrange_162 rfl rfl ?_
    refine zr_getR (pc := 163) (j := 2) (k1 := 71) hC mem_69 lay_69 rfl rfl (Nat.le_of_ble_eq_true rfl) iX12 m_1397 dX12_arrange_163 ?_
    refine zr_iconst (pc := 166) (v := (0 : Int32)) hC dX12_arrange_166 ic_0 ?_
    refine zr_iald (pc := 167) hC mem_71 lay_71 dX12_arrange_167 ?_
    refine zr_icmp_ge (pc := 168) (tgt := 191) hC dX12_arrange_168 (by decide) (fun c_ => ?_) (fun c_ => ?_)
    · refine zr_sub (ls' := [(0, _), (2, _), (3, _), (4, _)]) [0, 1, 2, 3] rfl ?_
      exact hk191 s
    · refine zr_aload_n (pc := 171) (i := 0) 0 hC dX12_arrange_171 rfl rfl ?_
      refine zr_getR (pc := 172) (j := 45) (k1 := 98) hC mem_69 lay_69 rfl rfl (Nat.le_of_ble_eq_true rfl) iX12 m_1440 dX12_arrange_172 ?_
      refine zr_iload (pc := 175) 4 hC dX12_arrange_175 rfl ?_
      refine zr_aload_n (pc := 177) (i := 0) 0 hC dX12_arrange_177 rfl rfl ?_
      refine zr_getR (pc := 178) (j := 46) (k1 := 99) hC mem_69 lay_69 rfl rfl (Nat.le_of_ble_eq_true rfl) iX12 m_1441 dX12_arrange_178 ?_
      refine zr_iload (pc := 181) 4 hC dX12_arrange_181 rfl ?_
      refine zr_iald (pc := 183) hC mem_99 lay_99 dX12_arrange_183 ?_
      refine zr_iast (pc := 184) hC mem_98 lay_98 dX12_arrange_184 ?_
      refine zr_iinc (pc := 185) (q := 4) (ls' := [(7, _), (0, _), (2, _), (3, _), (4, _)]) hC dX12_arrange_185 rfl (inc_1 _) (nlt hN (Nat.le_of_ble_eq_true rfl)) rfl ?_
      refine zr_goto (pc := 188) (tgt := 160) hC dX12_arrange_188 (by decide) ?_
      refine zr_sub (ls' := [(0, _), (2, _), (3, _), (4, _), (7, _)]) [1, 2, 3, 4, 0] rfl ?_
      exact ih (v7 + (1 : Int32)) (wr s 98 v7.toNatClampNeg (s 99 v7.toNatClampNeg))
def fX12_arrange_L63 (c2 : Int32) : Nat → Int32 → Int32 → St → Option (Int32 × St)
  | 0, _, _, _ => none
  | n + 1, v3, v4, s =>
    if c2 ≤ v4 then
    (let s_4 := wr s 69 48 (1 : Int32);
    let s_5 := wr s_4 69 47 (s_4 69 17);
    some (v3, s_5))
  else
    (if inA (0 : Int32) 10 then
    (fX12_arrange_L83 (fun s_8 => bd (fX12_ripeBy s_8) (fun y_9 s_9 =>
    if v3 < y_9 then
    (fX12_arrange_L160 (fun s_11 => fX12_arrange_L63 c2 n y_9 (v4 + (1 : Int32)) s_11) c2 y_9 v4 FU (0 : Int32) s_9)
  else
    (fX12_arrange_L63 c2 n v3 (v4 + (1 : Int32)) s_9))) c2 v3 v4 FU v4 ((s 71 (0 : Int32).toNatClampNeg) - (1 : Int32)) s) else none)
set_option maxRecDepth 100000 in
set_option maxHeartbeats 4000000 in
theorem tX12_arrange_L63 (c2 : Int32) (X : KX) (hC : Ctx X RX12 cX12_arrange FULL 3 0) (hR : RC X (some .int)) (hN : X_nL X = 8) : ∀ (n : Nat) (v3 : Int32) (v4 : Int32) (s : St), Zr X (QFN X (some .int)) 0 s 63 [(0, .ref (X_ad X 69)), (2, .int c2), (3, .int v3), (4, .int v4)] [] (fX12_arrange_L63 c2 n v3 v4 s) := by
  intro n
  induction n with
  | zero =>
    intro v3 v4 s
    exact zr_none
  | succ n ih =>
    intro v3 v4 s
    rw [fX12_arrange_L63]
    refine zr_iload (pc := 63) 3 hC dX12_arrange_63 rfl ?_
    refine zr_iload_n (pc := 65) (i := 2) 1 hC dX12_arrange_65 rfl rfl ?_
    refine zr_icmp_ge (pc := 66) (tgt := 197) hC dX12_arrange_66 (by decide) (fun c_ => ?_) (fun c_ => ?_)
    · refine zr_aload_n (pc := 197) (i := 0) 0 hC dX12_arrange_197 rfl rfl ?_
      refine zr_iconst (pc := 198) (v := (1 : Int32)) hC dX12_arrange_198 ic_1 ?_
      refine zr_putB (by decide) (pc := 199) (j := 48) hC mem_69 lay_69 rfl rfl (Nat.le_of_ble_eq_true rfl) iX12 tyX12_ok nmX12 m_1443 rfl (by decide +kernel) dX12_arrange_199 ?_
      refine zr_aload_n (pc := 202) (i := 0) 0 hC dX12_arrange_202 rfl rfl ?_
      refine zr_aload_n (pc := 203) (i := 0) 0 hC dX12_arrange_203 rfl rfl ?_
      refine zr_getI (pc := 204) (j := 17) hC mem_69 lay_69 rfl rfl (Nat.le_of_ble_eq_true rfl) iX12 m_1412 dX12_arrange_204 ?_
      refine zr_putInt (pc := 207) (j := 47) hC mem_69 lay_69 rfl rfl (Nat.le_of_ble_eq_true rfl) iX12 tyX12_ok nmX12 m_1442 rfl (by decide +kernel) dX12_arrange_207 ?_
      refine zr_iload_n (pc := 210) (i := 3) 2 hC dX12_arrange_210 rfl rfl ?_
      exact zr_iret (pc := 211) hC hR dX12_arrange_211
    · refine zr_iload (pc := 69) 3 hC dX12_arrange_69 rfl ?_
      refine zr_istore (pc := 71) (ls' := [(5, _), (0, _), (2, _), (3, _), (4, _)]) hC dX12_arrange_71 (nlt hN (Nat.le_of_ble_eq_true rfl)) rfl ?_
      refine zr_aload_n (pc := 73) (i := 0) 1 hC dX12_arrange_73 rfl rfl ?_
      refine zr_getR (pc := 74) (j := 2) (k1 := 71) hC mem_69 lay_69 rfl rfl (Nat.le_of_ble_eq_true rfl) iX12 m_1397 dX12_arrange_74 ?_
      refine zr_iconst (pc := 77) (v := (0 : Int32)) hC dX12_arrange_77 ic_0 ?_
      refine zr_iald (pc := 78) hC mem_71 lay_71 dX12_arrange_78 ?_
      refine zr_iconst (pc := 79) (v := (1 : Int32)) hC dX12_arrange_79 ic_1 ?_
      refine zr_isub (pc := 80) hC dX12_arrange_80 ?_
      refine zr_istore (pc := 81) (ls' := [(6, _), (5, _), (0, _), (2, _), (3, _), (4, _)]) hC dX12_arrange_81 (nlt hN (Nat.le_of_ble_eq_true rfl)) rfl ?_
      refine zr_sub (ls' := [(0, _), (2, _), (3, _), (4, _), (5, _), (6, _)]) [2, 3, 4, 5, 1, 0] rfl ?_
      refine tX12_arrange_L83 c2 v3 v4 _ X hC hR hN (fun s_8 => ?_) FU v4 ((s 71 (0 : Int32).toNatClampNeg) - (1 : Int32)) _
      · refine zr_aload_n (pc := 139) (i := 0) 0 hC dX12_arrange_139 rfl rfl ?_
        refine zr_callV (pc := 140) (As := fun ad => []) (st1 := []) hC (Nat.le_of_ble_eq_true rfl) (kX12_ripeBy _  _) (Nat.le_of_ble_eq_true rfl) mc_yX12_ripeBy m_1938 m_1940 m_p105 mem_69 lay_69 rfl rfl rfl rfl (Nat.le_of_ble_eq_true rfl) dX12_arrange_140 (fun y_9 s_9 => ?_)
        refine zr_istore (pc := 143) (ls' := [(6, _), (0, _), (2, _), (3, _), (4, _)]) hC dX12_arrange_143 (nlt hN (Nat.le_of_ble_eq_true rfl)) rfl ?_
        refine zr_iload (pc := 145) 0 hC dX12_arrange_145 rfl ?_
        refine zr_iload_n (pc := 147) (i := 3) 3 hC dX12_arrange_147 rfl rfl ?_
        refine zr_icmp_gt (pc := 148) (tgt := 154) hC dX12_arrange_148 (by decide) (fun c_ => ?_) (fun c_ => ?_)
        · refine zr_iload (pc := 154) 0 hC dX12_arrange_154 rfl ?_
          refine zr_istore_n (pc := 156) (i := 3) (ls' := [(3, _), (6, _), (0, _), (2, _), (4, _)]) hC dX12_arrange_156 rfl (nlt hN (Nat.le_of_ble_eq_true rfl)) rfl ?_
          refine zr_iconst (pc := 157) (v := (0 : Int32)) hC dX12_arrange_157 ic_0 ?_
          refine zr_istore (pc := 158) (ls' := [(7, _), (3, _), (6, _), (0, _), (2, _), (4, _)]) hC dX12_arrange_158 (nlt hN (Nat.le_of_ble_eq_true rfl)) rfl ?_
          refine zr_sub (ls' := [(0, _), (2, _), (3, _), (4, _), (7, _)]) [3, 4, 1, 5, 0] rfl ?_
          refine tX12_arrange_L160 c2 y_9 v4 _ X hC hR hN (fun s_11 => ?_) FU (0 : Int32) _
          · refine zr_iinc (pc := 191) (q := 3) (ls' := [(4, _), (0, _), (2, _), (3, _)]) hC dX12_arrange_191 rfl (inc_1 _) (nlt hN (Nat.le_of_ble_eq_true rfl)) rfl ?_
            refine zr_goto (pc := 194) (tgt := 63) hC dX12_arrange_194 (by decide) ?_
            refine zr_sub (ls' := [(0, _), (2, _), (3, _), (4, _)]) [1, 2, 3, 0] rfl ?_
            exact ih y_9 (v4 + (1 : Int32)) s_11
        · refine zr_goto (pc := 151) (tgt := 191) hC dX12_arrange_151 (by decide) ?_
          refine zr_iinc (pc := 191) (q := 4) (ls' := [(4, _), (6, _), (0, _), (2, _), (3, _)]) hC dX12_arrange_191 rfl (inc_1 _) (nlt hN (Nat.le_of_ble_eq_true rfl)) rfl ?_
          refine zr_goto (pc := 194) (tgt := 63) hC dX12_arrange_194 (by decide) ?_
          refine zr_sub (ls' := [(0, _), (2, _), (3, _), (4, _)]) [2, 3, 4, 0] rfl ?_
          exact ih v3 (v4 + (1 : Int32)) s_9
def fX12_arrange (s : St) : Option (Int32 × St) :=
  let s_1 := wr s 69 1 (0 : Int32);
    bd (fX12_bitsOf (s_1 69 17) s_1) (fun y_2 s_2 =>
    if (6 : Int32) < y_2 then
    (some ((-2 : Int32), s_2))
  else
    (if inA (2 : Int32) 10 then
    (if (s_2 71 (2 : Int32).toNatClampNeg) ≤ (4 : Int32) then
    (fX12_arrange_L36 (fun v2_3 s_3 => fX12_arrange_L63 v2_3 FU (-1 : Int32) (0 : Int32) s_3) y_2 FU (1 : Int32) (0 : Int32) s_2)
  else
    (some ((-2 : Int32), s_2))) else none))
set_option maxRecDepth 100000 in
set_option maxHeartbeats 4000000 in
theorem kX12_arrange (l : Launch)  (s : St) : CN l yX12_arrange cX12_arrange 8 (some .int) 3 FULL (fun ad => [.ref (ad 69)]) s (fX12_arrange s) := by
  refine cn_of (by decide) (fun _ => (Nat.le_of_ble_eq_true rfl)) (fun X hC hR hl hN => ?_)
  subst hl
  show Zr X (QFN X (some .int)) 0 s 0 [(0, .ref (X_ad X 69))] [] _
  rw [fX12_arrange]
  refine zr_aload_n (pc := 0) (i := 0) 0 hC dX12_arrange_0 rfl rfl ?_
  refine zr_iconst (pc := 1) (v := (0 : Int32)) hC dX12_arrange_1 ic_0 ?_
  refine zr_putInt (pc := 2) (j := 1) hC mem_69 lay_69 rfl rfl (Nat.le_of_ble_eq_true rfl) iX12 tyX12_ok nmX12 m_1396 rfl (by decide +kernel) dX12_arrange_2 ?_
  refine zr_aload_n (pc := 5) (i := 0) 0 hC dX12_arrange_5 rfl rfl ?_
  refine zr_getI (pc := 6) (j := 17) hC mem_69 lay_69 rfl rfl (Nat.le_of_ble_eq_true rfl) iX12 m_1412 dX12_arrange_6 ?_
  refine zr_callS (pc := 9) (As := fun ad => [.int ((wr s 69 1 (0 : Int32)) 69 17)]) (st1 := []) hC (Nat.le_of_ble_eq_true rfl) (kX12_bitsOf _ ((wr s 69 1 (0 : Int32)) 69 17) _) (Nat.le_of_ble_eq_true rfl) mc_yX12_bitsOf m_1743 m_1744 rfl rfl rfl (Nat.le_of_ble_eq_true rfl) dX12_arrange_9 (fun y_2 s_2 => ?_)
  refine zr_istore_n (pc := 12) (i := 1) (ls' := [(1, _), (0, _)]) hC dX12_arrange_12 rfl (nlt hN (Nat.le_of_ble_eq_true rfl)) rfl ?_
  refine zr_iload_n (pc := 13) (i := 1) 0 hC dX12_arrange_13 rfl rfl ?_
  refine zr_bipush (pc := 14) (v := (6 : Int32)) hC dX12_arrange_14 bi_6 ?_
  refine zr_icmp_gt (pc := 16) (tgt := 29) hC dX12_arrange_16 (by decide) (fun c_ => ?_) (fun c_ => ?_)
  · refine zr_bipush (pc := 29) (v := (-2 : Int32)) hC dX12_arrange_29 bi_m2 ?_
    exact zr_iret (pc := 31) hC hR dX12_arrange_31
  · refine zr_aload_n (pc := 19) (i := 0) 1 hC dX12_arrange_19 rfl rfl ?_
    refine zr_getR (pc := 20) (j := 2) (k1 := 71) hC mem_69 lay_69 rfl rfl (Nat.le_of_ble_eq_true rfl) iX12 m_1397 dX12_arrange_20 ?_
    refine zr_iconst (pc := 23) (v := (2 : Int32)) hC dX12_arrange_23 ic_2 ?_
    refine zr_iald (pc := 24) hC mem_71 lay_71 dX12_arrange_24 ?_
    refine zr_iconst (pc := 25) (v := (4 : Int32)) hC dX12_arrange_25 ic_4 ?_
    refine zr_icmp_le (pc := 26) (tgt := 32) hC dX12_arrange_26 (by decide) (fun c_ => ?_) (fun c_ => ?_)
    · refine zr_iconst (pc := 32) (v := (1 : Int32)) hC dX12_arrange_32 ic_1 ?_
      refine zr_istore_n (pc := 33) (i := 2) (ls' := [(2, _), (1, _), (0, _)]) hC dX12_arrange_33 rfl (nlt hN (Nat.le_of_ble_eq_true rfl)) rfl ?_
      refine zr_iconst (pc := 34) (v := (0 : Int32)) hC dX12_arrange_34 ic_0 ?_
      refine zr_istore_n (pc := 35) (i := 3) (ls' := [(3, _), (2, _), (1, _), (0, _)]) hC dX12_arrange_35 rfl (nlt hN (Nat.le_of_ble_eq_true rfl)) rfl ?_
      refine zr_sub (ls' := [(0, _), (1, _), (2, _), (3, _)]) [3, 2, 1, 0] rfl ?_
      refine tX12_arrange_L36 y_2 _ X hC hR hN (fun v2_3 s_3 => ?_) FU (1 : Int32) (0 : Int32) _
      · refine zr_iconst (pc := 58) (v := (-1 : Int32)) hC dX12_arrange_58 ic_m1 ?_
        refine zr_istore_n (pc := 59) (i := 3) (ls' := [(3, _), (0, _), (2, _)]) hC dX12_arrange_59 rfl (nlt hN (Nat.le_of_ble_eq_true rfl)) rfl ?_
        refine zr_iconst (pc := 60) (v := (0 : Int32)) hC dX12_arrange_60 ic_0 ?_
        refine zr_istore (pc := 61) (ls' := [(4, _), (3, _), (0, _), (2, _)]) hC dX12_arrange_61 (nlt hN (Nat.le_of_ble_eq_true rfl)) rfl ?_
        refine zr_sub (ls' := [(0, _), (2, _), (3, _), (4, _)]) [2, 3, 1, 0] rfl ?_
        exact tX12_arrange_L63 v2_3 X hC hR hN FU (-1 : Int32) (0 : Int32) _
    · refine zr_bipush (pc := 29) (v := (-2 : Int32)) hC dX12_arrange_29 bi_m2 ?_
      exact zr_iret (pc := 31) hC hR dX12_arrange_31
def fX12_post (a1 : Int32) (s : St) : Option (Int32 × St) :=
  let s_1 := wr s 69 1 (0 : Int32);
    bd (fX12_isPerson a1 s_1) (fun y_2 s_2 =>
    if y_2 = 0 then
    (bd (fX12_fail (1 : Int32) s_2) (fun y_3 s_3 =>
    some (y_3, s_3)))
  else
    (if (s_2 69 48) = 0 then
    (bd (fX12_fail (1 : Int32) s_2) (fun y_4 s_4 =>
    some (y_4, s_4)))
  else
    (if ((jshr (s_2 69 47) a1) &&& (1 : Int32)) = (1 : Int32) then
    (if inA a1 12 then
    (some ((s_2 98 a1.toNatClampNeg), s_2)) else none)
  else
    (bd (fX12_fail (1 : Int32) s_2) (fun y_5 s_5 =>
    some (y_5, s_5))))))
set_option maxRecDepth 100000 in
set_option maxHeartbeats 4000000 in
theorem kX12_post (l : Launch)  (a1 : Int32) (s : St) : CN l yX12_post cX12_post 2 (some .int) 3 FULL (fun ad => [.ref (ad 69), .int a1]) s (fX12_post a1 s) := by
  refine cn_of (by decide) (fun _ => (Nat.le_of_ble_eq_true rfl)) (fun X hC hR hl hN => ?_)
  subst hl
  show Zr X (QFN X (some .int)) 0 s 0 [(0, .ref (X_ad X 69)), (1, .int a1)] [] _
  rw [fX12_post]
  refine zr_aload_n (pc := 0) (i := 0) 0 hC dX12_post_0 rfl rfl ?_
  refine zr_iconst (pc := 1) (v := (0 : Int32)) hC dX12_post_1 ic_0 ?_
  refine zr_putInt (pc := 2) (j := 1) hC mem_69 lay_69 rfl rfl (Nat.le_of_ble_eq_true rfl) iX12 tyX12_ok nmX12 m_1396 rfl (by decide +kernel) dX12_post_2 ?_
  refine zr_aload_n (pc := 5) (i := 0) 0 hC dX12_post_5 rfl rfl ?_
  refine zr_iload_n (pc := 6) (i := 1) 1 hC dX12_post_6 rfl rfl ?_
  refine zr_callV (pc := 7) (As := fun ad => [.int a1]) (st1 := []) hC (Nat.le_of_ble_eq_true rfl) (kX12_isPerson _ a1 _) (Nat.le_of_ble_eq_true rfl) mc_yX12_isPerson m_1762 m_1764 m_p82 mem_69 lay_69 rfl rfl rfl rfl (Nat.le_of_ble_eq_true rfl) dX12_post_7 (fun y_2 s_2 => ?_)
  refine zr_if_eq (pc := 10) (tgt := 41) hC dX12_post_10 (by decide) (fun c_ => ?_) (fun c_ => ?_)
  · refine zr_aload_n (pc := 41) (i := 0) 0 hC dX12_post_41 rfl rfl ?_
    refine zr_iconst (pc := 42) (v := (1 : Int32)) hC dX12_post_42 ic_1 ?_
    refine zr_callV (pc := 43) (As := fun ad => [.int (1 : Int32)]) (st1 := []) hC (Nat.le_of_ble_eq_true rfl) (kX12_fail _ (1 : Int32) _) (Nat.le_of_ble_eq_true rfl) mc_yX12_fail m_1606 m_1608 m_p53 mem_69 lay_69 rfl rfl rfl rfl (Nat.le_of_ble_eq_true rfl) dX12_post_43 (fun y_3 s_3 => ?_)
    exact zr_iret (pc := 46) hC hR dX12_post_46
  · refine zr_aload_n (pc := 13) (i := 0) 0 hC dX12_post_13 rfl rfl ?_
    refine zr_getI (pc := 14) (j := 48) hC mem_69 lay_69 rfl rfl (Nat.le_of_ble_eq_true rfl) iX12 m_1443 dX12_post_14 ?_
    refine zr_if_eq (pc := 17) (tgt := 41) hC dX12_post_17 (by decide) (fun c_ => ?_) (fun c_ => ?_)
    · refine zr_aload_n (pc := 41) (i := 0) 0 hC dX12_post_41 rfl rfl ?_
      refine zr_iconst (pc := 42) (v := (1 : Int32)) hC dX12_post_42 ic_1 ?_
      refine zr_callV (pc := 43) (As := fun ad => [.int (1 : Int32)]) (st1 := []) hC (Nat.le_of_ble_eq_true rfl) (kX12_fail _ (1 : Int32) _) (Nat.le_of_ble_eq_true rfl) mc_yX12_fail m_1606 m_1608 m_p53 mem_69 lay_69 rfl rfl rfl rfl (Nat.le_of_ble_eq_true rfl) dX12_post_43 (fun y_4 s_4 => ?_)
      exact zr_iret (pc := 46) hC hR dX12_post_46
    · refine zr_aload_n (pc := 20) (i := 0) 0 hC dX12_post_20 rfl rfl ?_
      refine zr_getI (pc := 21) (j := 47) hC mem_69 lay_69 rfl rfl (Nat.le_of_ble_eq_true rfl) iX12 m_1442 dX12_post_21 ?_
      refine zr_iload_n (pc := 24) (i := 1) 1 hC dX12_post_24 rfl rfl ?_
      refine zr_ishr (pc := 25) hC dX12_post_25 ?_
      refine zr_iconst (pc := 26) (v := (1 : Int32)) hC dX12_post_26 ic_1 ?_
      refine zr_iand (pc := 27) hC dX12_post_27 ?_
      refine zr_iconst (pc := 28) (v := (1 : Int32)) hC dX12_post_28 ic_1 ?_
      refine zr_icmp_ne (pc := 29) (tgt := 41) hC dX12_post_29 (by decide) (fun c_ => ?_) (fun c_ => ?_)
      · refine zr_aload_n (pc := 32) (i := 0) 0 hC dX12_post_32 rfl rfl ?_
        refine zr_getR (pc := 33) (j := 45) (k1 := 98) hC mem_69 lay_69 rfl rfl (Nat.le_of_ble_eq_true rfl) iX12 m_1440 dX12_post_33 ?_
        refine zr_iload_n (pc := 36) (i := 1) 1 hC dX12_post_36 rfl rfl ?_
        refine zr_iald (pc := 37) hC mem_98 lay_98 dX12_post_37 ?_
        refine zr_goto (pc := 38) (tgt := 46) hC dX12_post_38 (by decide) ?_
        exact zr_iret (pc := 46) hC hR dX12_post_46
      · refine zr_aload_n (pc := 41) (i := 0) 0 hC dX12_post_41 rfl rfl ?_
        refine zr_iconst (pc := 42) (v := (1 : Int32)) hC dX12_post_42 ic_1 ?_
        refine zr_callV (pc := 43) (As := fun ad => [.int (1 : Int32)]) (st1 := []) hC (Nat.le_of_ble_eq_true rfl) (kX12_fail _ (1 : Int32) _) (Nat.le_of_ble_eq_true rfl) mc_yX12_fail m_1606 m_1608 m_p53 mem_69 lay_69 rfl rfl rfl rfl (Nat.le_of_ble_eq_true rfl) dX12_post_43 (fun y_5 s_5 => ?_)
        exact zr_iret (pc := 46) hC hR dX12_post_46
def fX12_seatOn_L89 (rc : Int32 → Int32 → Int32 → St → Option (Int32 × St)) (c1 : Int32) (c2 : Int32) (c3 : Int32) : Nat → Int32 → St → Option (Int32 × St)
  | 0, _, _ => none
  | n + 1, v4, s =>
    if inA (0 : Int32) 10 then
    (if (s 71 (0 : Int32).toNatClampNeg) ≤ v4 then
    (some (0, s))
  else
    (if ((jshr c3 v4) &&& (1 : Int32)) = 0 then
    (fX12_seatOn_L89 rc c1 c2 c3 n (v4 + (1 : Int32)) s)
  else
    (if inA (c1 - (1 : Int32)) 7 then
    (bd (fX12_isFront (s 100 (c1 - (1 : Int32)).toNatClampNeg) v4 s) (fun y_1 s_1 =>
    if y_1 = 0 then
    (if inA c1 7 then
    (let s_2 := wr s_1 100 c1.toNatClampNeg v4;
    bd (rc (c1 + (1 : Int32)) c2 (c3 &&& ((jshl (1 : Int32) v4) ^^^ (-1 : Int32))) s_2) (fun y_3 s_3 =>
    fX12_seatOn_L89 rc c1 c2 c3 n (v4 + (1 : Int32)) s_3)) else none)
  else
    (fX12_seatOn_L89 rc c1 c2 c3 n (v4 + (1 : Int32)) s_1))) else none))) else none
set_option maxRecDepth 100000 in
set_option maxHeartbeats 4000000 in
theorem tX12_seatOn_L89 (rc : Int32 → Int32 → Int32 → St → Option (Int32 × St)) (c1 : Int32) (c2 : Int32) (c3 : Int32) (dd : Nat) (hdd : 8 ≤ dd) (X : KX) (hC : Ctx X RX12 cX12_seatOn FULL (dd + 1) 0) (hR : RC X none) (hN : X_nL X = 5) (hrc : ∀ (z0 z1 z2 : Int32) (s : St), CN (X_l X) yX12_seatOn cX12_seatOn 5 none dd FULL (fun ad => [.ref (ad 69), .int z0, .int z1, .int z2]) s (rc z0 z1 z2 s)) : ∀ (n : Nat) (v4 : Int32) (s : St), Zr X (QFN X none) 0 s 89 [(0, .ref (X_ad X 69)), (1, .int c1), (2, .int c2), (3, .int c3), (4, .int v4)] [] (fX12_seatOn_L89 rc c1 c2 c3 n v4 s) := by
  intro n
  induction n with
  | zero =>
    intro v4 s
    exact zr_none
  | succ n ih =>
    intro v4 s
    rw [fX12_seatOn_L89]
    refine zr_iload (pc := 89) 4 hC dX12_seatOn_89 rfl ?_
    refine zr_aload_n (pc := 91) (i := 0) 0 hC dX12_seatOn_91 rfl rfl ?_
    refine zr_getR (pc := 92) (j := 2) (k1 := 71) hC mem_69 lay_69 rfl rfl (Nat.le_of_ble_eq_true rfl) iX12 m_1397 dX12_seatOn_92 ?_
    refine zr_iconst (pc := 95) (v := (0 : Int32)) hC dX12_seatOn_95 ic_0 ?_
    refine zr_iald (pc := 96) hC mem_71 lay_71 dX12_seatOn_96 ?_
    refine zr_icmp_ge (pc := 97) (tgt := 159) hC dX12_seatOn_97 (by decide) (fun c_ => ?_) (fun c_ => ?_)
    · exact zr_vret (pc := 159) hC hR dX12_seatOn_159
    · refine zr_iload_n (pc := 100) (i := 3) 3 hC dX12_seatOn_100 rfl rfl ?_
      refine zr_iload (pc := 101) 4 hC dX12_seatOn_101 rfl ?_
      refine zr_ishr (pc := 103) hC dX12_seatOn_103 ?_
      refine zr_iconst (pc := 104) (v := (1 : Int32)) hC dX12_seatOn_104 ic_1 ?_
      refine zr_iand (pc := 105) hC dX12_seatOn_105 ?_
      refine zr_if_eq (pc := 106) (tgt := 153) hC dX12_seatOn_106 (by decide) (fun c_ => ?_) (fun c_ => ?_)
      · refine zr_iinc (pc := 153) (q := 4) (ls' := [(4, _), (0, _), (1, _), (2, _), (3, _)]) hC dX12_seatOn_153 rfl (inc_1 _) (nlt hN (Nat.le_of_ble_eq_true rfl)) rfl ?_
        refine zr_goto (pc := 156) (tgt := 89) hC dX12_seatOn_156 (by decide) ?_
        refine zr_sub (ls' := [(0, _), (1, _), (2, _), (3, _), (4, _)]) [1, 2, 3, 4, 0] rfl ?_
        exact ih (v4 + (1 : Int32)) s
      · refine zr_aload_n (pc := 109) (i := 0) 0 hC dX12_seatOn_109 rfl rfl ?_
        refine zr_aload_n (pc := 110) (i := 0) 0 hC dX12_seatOn_110 rfl rfl ?_
        refine zr_getR (pc := 111) (j := 49) (k1 := 100) hC mem_69 lay_69 rfl rfl (Nat.le_of_ble_eq_true rfl) iX12 m_1444 dX12_seatOn_111 ?_
        refine zr_iload_n (pc := 114) (i := 1) 1 hC dX12_seatOn_114 rfl rfl ?_
        refine zr_iconst (pc := 115) (v := (1 : Int32)) hC dX12_seatOn_115 ic_1 ?_
        refine zr_isub (pc := 116) hC dX12_seatOn_116 ?_
        refine zr_iald (pc := 117) hC mem_100 lay_100 dX12_seatOn_117 ?_
        refine zr_iload (pc := 118) 4 hC dX12_seatOn_118 rfl ?_
        refine zr_callV (pc := 120) (As := fun ad => [.int (s 100 (c1 - (1 : Int32)).toNatClampNeg), .int v4]) (st1 := []) hC (Nat.le_of_ble_eq_true rfl) (kX12_isFront _ (s 100 (c1 - (1 : Int32)).toNatClampNeg) v4 _) (by omega) mc_yX12_isFront m_1807 m_1809 m_p87 mem_69 lay_69 rfl rfl rfl rfl (Nat.le_of_ble_eq_true rfl) dX12_seatOn_120 (fun y_1 s_1 => ?_)
        refine zr_if_eq (pc := 123) (tgt := 129) hC dX12_seatOn_123 (by decide) (fun c_ => ?_) (fun c_ => ?_)
        · refine zr_aload_n (pc := 129) (i := 0) 0 hC dX12_seatOn_129 rfl rfl ?_
          refine zr_getR (pc := 130) (j := 49) (k1 := 100) hC mem_69 lay_69 rfl rfl (Nat.le_of_ble_eq_true rfl) iX12 m_1444 dX12_seatOn_130 ?_
          refine zr_iload_n (pc := 133) (i := 1) 1 hC dX12_seatOn_133 rfl rfl ?_
          refine zr_iload (pc := 134) 4 hC dX12_seatOn_134 rfl ?_
          refine zr_iast (pc := 136) hC mem_100 lay_100 dX12_seatOn_136 ?_
          refine zr_aload_n (pc := 137) (i := 0) 0 hC dX12_seatOn_137 rfl rfl ?_
          refine zr_iload_n (pc := 138) (i := 1) 1 hC dX12_seatOn_138 rfl rfl ?_
          refine zr_iconst (pc := 139) (v := (1 : Int32)) hC dX12_seatOn_139 ic_1 ?_
          refine zr_iadd (pc := 140) hC dX12_seatOn_140 ?_
          refine zr_iload_n (pc := 141) (i := 2) 2 hC dX12_seatOn_141 rfl rfl ?_
          refine zr_iload_n (pc := 142) (i := 3) 3 hC dX12_seatOn_142 rfl rfl ?_
          refine zr_iconst (pc := 143) (v := (1 : Int32)) hC dX12_seatOn_143 ic_1 ?_
          refine zr_iload (pc := 144) 4 hC dX12_seatOn_144 rfl ?_
          refine zr_ishl (pc := 146) hC dX12_seatOn_146 ?_
          refine zr_iconst (pc := 147) (v := (-1 : Int32)) hC dX12_seatOn_147 ic_m1 ?_
          refine zr_ixor (pc := 148) hC dX12_seatOn_148 ?_
          refine zr_iand (pc := 149) hC dX12_seatOn_149 ?_
          refine zr_callVv (pc := 150) (As := fun ad => [.int (c1 + (1 : Int32)), .int c2, .int (c3 &&& ((jshl (1 : Int32) v4) ^^^ (-1 : Int32)))]) (st1 := []) hC (Nat.le_of_ble_eq_true rfl) (hrc (c1 + (1 : Int32)) c2 (c3 &&& ((jshl (1 : Int32) v4) ^^^ (-1 : Int32))) _) (by omega) mc_yX12_seatOn m_1951 m_1953 m_p106 mem_69 lay_69 rfl rfl rfl rfl (Nat.le_of_ble_eq_true rfl) dX12_seatOn_150 (fun y_3 s_3 => ?_)
          refine zr_iinc (pc := 153) (q := 4) (ls' := [(4, _), (0, _), (1, _), (2, _), (3, _)]) hC dX12_seatOn_153 rfl (inc_1 _) (nlt hN (Nat.le_of_ble_eq_true rfl)) rfl ?_
          refine zr_goto (pc := 156) (tgt := 89) hC dX12_seatOn_156 (by decide) ?_
          refine zr_sub (ls' := [(0, _), (1, _), (2, _), (3, _), (4, _)]) [1, 2, 3, 4, 0] rfl ?_
          exact ih (v4 + (1 : Int32)) s_3
        · refine zr_goto (pc := 126) (tgt := 153) hC dX12_seatOn_126 (by decide) ?_
          refine zr_iinc (pc := 153) (q := 4) (ls' := [(4, _), (0, _), (1, _), (2, _), (3, _)]) hC dX12_seatOn_153 rfl (inc_1 _) (nlt hN (Nat.le_of_ble_eq_true rfl)) rfl ?_
          refine zr_goto (pc := 156) (tgt := 89) hC dX12_seatOn_156 (by decide) ?_
          refine zr_sub (ls' := [(0, _), (1, _), (2, _), (3, _), (4, _)]) [1, 2, 3, 4, 0] rfl ?_
          exact ih (v4 + (1 : Int32)) s_1
def fX12_seatOn_L30 (k63 : St → Option (Int32 × St)) (rc : Int32 → Int32 → Int32 → St → Option (Int32 × St)) (c2 : Int32) : Nat → Int32 → St → Option (Int32 × St)
  | 0, _, _ => none
  | n + 1, v4, s =>
    if c2 ≤ v4 then
    (k63 s)
  else
    (if (s 69 52) = 0 then
    (if inA v4 7 then
    (if inA v4 7 then
    (let s_5 := wr s 101 v4.toNatClampNeg (s 100 v4.toNatClampNeg);
    fX12_seatOn_L30 k63 rc c2 n (v4 + (1 : Int32)) s_5) else none) else none)
  else
    (k63 s))
set_option maxRecDepth 100000 in
set_option maxHeartbeats 4000000 in
theorem tX12_seatOn_L30 (rc : Int32 → Int32 → Int32 → St → Option (Int32 × St)) (c2 : Int32) (k63 : St → Option (Int32 × St)) (dd : Nat) (hdd : 8 ≤ dd) (X : KX) (hC : Ctx X RX12 cX12_seatOn FULL (dd + 1) 0) (hR : RC X none) (hN : X_nL X = 5) (hrc : ∀ (z0 z1 z2 : Int32) (s : St), CN (X_l X) yX12_seatOn cX12_seatOn 5 none dd FULL (fun ad => [.ref (ad 69), .int z0, .int z1, .int z2]) s (rc z0 z1 z2 s)) (hk63 : ∀ (s : St), Zr X (QFN X none) 0 s 63 [(0, .ref (X_ad X 69)), (2, .int c2)] [] (k63 s)) : ∀ (n : Nat) (v4 : Int32) (s : St), Zr X (QFN X none) 0 s 30 [(0, .ref (X_ad X 69)), (2, .int c2), (4, .int v4)] [] (fX12_seatOn_L30 k63 rc c2 n v4 s) := by
  intro n
  induction n with
  | zero =>
    intro v4 s
    exact zr_none
  | succ n ih =>
    intro v4 s
    rw [fX12_seatOn_L30]
    refine zr_iload (pc := 30) 2 hC dX12_seatOn_30 rfl ?_
    refine zr_iload_n (pc := 32) (i := 2) 1 hC dX12_seatOn_32 rfl rfl ?_
    refine zr_icmp_ge (pc := 33) (tgt := 63) hC dX12_seatOn_33 (by decide) (fun c_ => ?_) (fun c_ => ?_)
    · refine zr_sub (ls' := [(0, _), (2, _)]) [0, 1] rfl ?_
      exact hk63 s
    · refine zr_aload_n (pc := 36) (i := 0) 0 hC dX12_seatOn_36 rfl rfl ?_
      refine zr_getI (pc := 37) (j := 52) hC mem_69 lay_69 rfl rfl (Nat.le_of_ble_eq_true rfl) iX12 m_1447 dX12_seatOn_37 ?_
      refine zr_if_ne (pc := 40) (tgt := 63) hC dX12_seatOn_40 (by decide) (fun c_ => ?_) (fun c_ => ?_)
      · refine zr_aload_n (pc := 43) (i := 0) 0 hC dX12_seatOn_43 rfl rfl ?_
        refine zr_getR (pc := 44) (j := 50) (k1 := 101) hC mem_69 lay_69 rfl rfl (Nat.le_of_ble_eq_true rfl) iX12 m_1445 dX12_seatOn_44 ?_
        refine zr_iload (pc := 47) 2 hC dX12_seatOn_47 rfl ?_
        refine zr_aload_n (pc := 49) (i := 0) 0 hC dX12_seatOn_49 rfl rfl ?_
        refine zr_getR (pc := 50) (j := 49) (k1 := 100) hC mem_69 lay_69 rfl rfl (Nat.le_of_ble_eq_true rfl) iX12 m_1444 dX12_seatOn_50 ?_
        refine zr_iload (pc := 53) 2 hC dX12_seatOn_53 rfl ?_
        refine zr_iald (pc := 55) hC mem_100 lay_100 dX12_seatOn_55 ?_
        refine zr_iast (pc := 56) hC mem_101 lay_101 dX12_seatOn_56 ?_
        refine zr_iinc (pc := 57) (q := 2) (ls' := [(4, _), (0, _), (2, _)]) hC dX12_seatOn_57 rfl (inc_1 _) (nlt hN (Nat.le_of_ble_eq_true rfl)) rfl ?_
        refine zr_goto (pc := 60) (tgt := 30) hC dX12_seatOn_60 (by decide) ?_
        refine zr_sub (ls' := [(0, _), (2, _), (4, _)]) [1, 2, 0] rfl ?_
        exact ih (v4 + (1 : Int32)) (wr s 101 v4.toNatClampNeg (s 100 v4.toNatClampNeg))
      · refine zr_sub (ls' := [(0, _), (2, _)]) [0, 1] rfl ?_
        exact hk63 s
def fX12_seatOn_J63 (rc : Int32 → Int32 → Int32 → St → Option (Int32 × St)) (v2 : Int32) (s : St) : Option (Int32 × St) :=
  if (s 69 52) = 0 then
    (let s_8 := wr s 69 51 v2;
    let s_9 := wr s_8 69 52 ((s_8 69 52) + (1 : Int32));
    some (0, s_9))
  else
    (let s_7 := wr s 69 52 ((s 69 52) + (1 : Int32));
    some (0, s_7))
set_option maxRecDepth 100000 in
set_option maxHeartbeats 4000000 in
theorem tX12_seatOn_J63 (rc : Int32 → Int32 → Int32 → St → Option (Int32 × St)) (v2 : Int32) (dd : Nat) (hdd : 8 ≤ dd) (X : KX) (hC : Ctx X RX12 cX12_seatOn FULL (dd + 1) 0) (hR : RC X none) (hN : X_nL X = 5) (hrc : ∀ (z0 z1 z2 : Int32) (s : St), CN (X_l X) yX12_seatOn cX12_seatOn 5 none dd FULL (fun ad => [.ref (ad 69), .int z0, .int z1, .int z2]) s (rc z0 z1 z2 s)) (s : St) : Zr X (QFN X none) 0 s 63 [(0, .ref (X_ad X 69)), (2, .int v2)] [] (fX12_seatOn_J63 rc v2 s) := by
  rw [fX12_seatOn_J63]
  refine zr_aload_n (pc := 63) (i := 0) 0 hC dX12_seatOn_63 rfl rfl ?_
  refine zr_getI (pc := 64) (j := 52) hC mem_69 lay_69 rfl rfl (Nat.le_of_ble_eq_true rfl) iX12 m_1447 dX12_seatOn_64 ?_
  refine zr_if_ne (pc := 67) (tgt := 75) hC dX12_seatOn_67 (by decide) (fun c_ => ?_) (fun c_ => ?_)
  · refine zr_aload_n (pc := 70) (i := 0) 0 hC dX12_seatOn_70 rfl rfl ?_
    refine zr_iload_n (pc := 71) (i := 2) 1 hC dX12_seatOn_71 rfl rfl ?_
    refine zr_putInt (pc := 72) (j := 51) hC mem_69 lay_69 rfl rfl (Nat.le_of_ble_eq_true rfl) iX12 tyX12_ok nmX12 m_1446 rfl (by decide +kernel) dX12_seatOn_72 ?_
    refine zr_aload_n (pc := 75) (i := 0) 0 hC dX12_seatOn_75 rfl rfl ?_
    refine zr_dup (pc := 76) hC dX12_seatOn_76 rfl ?_
    refine zr_getI (pc := 77) (j := 52) hC mem_69 lay_69 rfl rfl (Nat.le_of_ble_eq_true rfl) iX12 m_1447 dX12_seatOn_77 ?_
    refine zr_iconst (pc := 80) (v := (1 : Int32)) hC dX12_seatOn_80 ic_1 ?_
    refine zr_iadd (pc := 81) hC dX12_seatOn_81 ?_
    refine zr_putInt (pc := 82) (j := 52) hC mem_69 lay_69 rfl rfl (Nat.le_of_ble_eq_true rfl) iX12 tyX12_ok nmX12 m_1447 rfl (by decide +kernel) dX12_seatOn_82 ?_
    exact zr_vret (pc := 85) hC hR dX12_seatOn_85
  · refine zr_aload_n (pc := 75) (i := 0) 0 hC dX12_seatOn_75 rfl rfl ?_
    refine zr_dup (pc := 76) hC dX12_seatOn_76 rfl ?_
    refine zr_getI (pc := 77) (j := 52) hC mem_69 lay_69 rfl rfl (Nat.le_of_ble_eq_true rfl) iX12 m_1447 dX12_seatOn_77 ?_
    refine zr_iconst (pc := 80) (v := (1 : Int32)) hC dX12_seatOn_80 ic_1 ?_
    refine zr_iadd (pc := 81) hC dX12_seatOn_81 ?_
    refine zr_putInt (pc := 82) (j := 52) hC mem_69 lay_69 rfl rfl (Nat.le_of_ble_eq_true rfl) iX12 tyX12_ok nmX12 m_1447 rfl (by decide +kernel) dX12_seatOn_82 ?_
    exact zr_vret (pc := 85) hC hR dX12_seatOn_85
def gX12_seatOn (rc : Int32 → Int32 → Int32 → St → Option (Int32 × St)) (a1 : Int32) (a2 : Int32) (a3 : Int32) (s : St) : Option (Int32 × St) :=
  if a1 = a2 then
    (if inA (a2 - (1 : Int32)) 7 then
    (if inA (0 : Int32) 7 then
    (bd (fX12_isFront (s 100 (a2 - (1 : Int32)).toNatClampNeg) (s 100 (0 : Int32).toNatClampNeg) s) (fun y_4 s_4 =>
    if y_4 = 0 then
    (fX12_seatOn_L30 (fun s_6 => fX12_seatOn_J63 rc a2 s_6) rc a2 FU (0 : Int32) s_4)
  else
    (some (0, s_4)))) else none) else none)
  else
    (fX12_seatOn_L89 rc a1 a2 a3 FU (0 : Int32) s)
set_option maxRecDepth 100000 in
set_option maxHeartbeats 4000000 in
theorem gkX12_seatOn (l : Launch) (rc : Int32 → Int32 → Int32 → St → Option (Int32 × St)) (dd : Nat) (hdd : 8 ≤ dd)  (hrc : ∀ (z0 z1 z2 : Int32) (s : St), CN l yX12_seatOn cX12_seatOn 5 none dd FULL (fun ad => [.ref (ad 69), .int z0, .int z1, .int z2]) s (rc z0 z1 z2 s)) (a1 : Int32) (a2 : Int32) (a3 : Int32) (s : St) : CN l yX12_seatOn cX12_seatOn 5 none (dd + 1) FULL (fun ad => [.ref (ad 69), .int a1, .int a2, .int a3]) s (gX12_seatOn rc a1 a2 a3 s) := by
  refine cn_of (by decide) (fun _ => (Nat.le_of_ble_eq_true rfl)) (fun X hC hR hl hN => ?_)
  subst hl
  show Zr X (QFN X none) 0 s 0 [(0, .ref (X_ad X 69)), (1, .int a1), (2, .int a2), (3, .int a3)] [] _
  rw [gX12_seatOn]
  refine zr_iload_n (pc := 0) (i := 1) 1 hC dX12_seatOn_0 rfl rfl ?_
  refine zr_iload_n (pc := 1) (i := 2) 2 hC dX12_seatOn_1 rfl rfl ?_
  refine zr_icmp_ne (pc := 2) (tgt := 86) hC dX12_seatOn_2 (by decide) (fun c_ => ?_) (fun c_ => ?_)
  · refine zr_aload_n (pc := 5) (i := 0) 0 hC dX12_seatOn_5 rfl rfl ?_
    refine zr_aload_n (pc := 6) (i := 0) 0 hC dX12_seatOn_6 rfl rfl ?_
    refine zr_getR (pc := 7) (j := 49) (k1 := 100) hC mem_69 lay_69 rfl rfl (Nat.le_of_ble_eq_true rfl) iX12 m_1444 dX12_seatOn_7 ?_
    refine zr_iload_n (pc := 10) (i := 2) 2 hC dX12_seatOn_10 rfl rfl ?_
    refine zr_iconst (pc := 11) (v := (1 : Int32)) hC dX12_seatOn_11 ic_1 ?_
    refine zr_isub (pc := 12) hC dX12_seatOn_12 ?_
    refine zr_iald (pc := 13) hC mem_100 lay_100 dX12_seatOn_13 ?_
    refine zr_aload_n (pc := 14) (i := 0) 0 hC dX12_seatOn_14 rfl rfl ?_
    refine zr_getR (pc := 15) (j := 49) (k1 := 100) hC mem_69 lay_69 rfl rfl (Nat.le_of_ble_eq_true rfl) iX12 m_1444 dX12_seatOn_15 ?_
    refine zr_iconst (pc := 18) (v := (0 : Int32)) hC dX12_seatOn_18 ic_0 ?_
    refine zr_iald (pc := 19) hC mem_100 lay_100 dX12_seatOn_19 ?_
    refine zr_callV (pc := 20) (As := fun ad => [.int (s 100 (a2 - (1 : Int32)).toNatClampNeg), .int (s 100 (0 : Int32).toNatClampNeg)]) (st1 := []) hC (Nat.le_of_ble_eq_true rfl) (kX12_isFront _ (s 100 (a2 - (1 : Int32)).toNatClampNeg) (s 100 (0 : Int32).toNatClampNeg) _) (by omega) mc_yX12_isFront m_1807 m_1809 m_p87 mem_69 lay_69 rfl rfl rfl rfl (Nat.le_of_ble_eq_true rfl) dX12_seatOn_20 (fun y_4 s_4 => ?_)
    refine zr_if_eq (pc := 23) (tgt := 27) hC dX12_seatOn_23 (by decide) (fun c_ => ?_) (fun c_ => ?_)
    · refine zr_iconst (pc := 27) (v := (0 : Int32)) hC dX12_seatOn_27 ic_0 ?_
      refine zr_istore (pc := 28) (ls' := [(4, _), (0, _), (1, _), (2, _), (3, _)]) hC dX12_seatOn_28 (nlt hN (Nat.le_of_ble_eq_true rfl)) rfl ?_
      refine zr_sub (ls' := [(0, _), (2, _), (4, _)]) [1, 3, 0] rfl ?_
      refine tX12_seatOn_L30 rc a2 _ dd hdd X hC hR hN hrc (fun s_6 => ?_) FU (0 : Int32) _
      · exact tX12_seatOn_J63 rc a2 dd hdd X hC hR hN hrc  _
    · exact zr_vret (pc := 26) hC hR dX12_seatOn_26
  · refine zr_iconst (pc := 86) (v := (0 : Int32)) hC dX12_seatOn_86 ic_0 ?_
    refine zr_istore (pc := 87) (ls' := [(4, _), (0, _), (1, _), (2, _), (3, _)]) hC dX12_seatOn_87 (nlt hN (Nat.le_of_ble_eq_true rfl)) rfl ?_
    refine zr_sub (ls' := [(0, _), (1, _), (2, _), (3, _), (4, _)]) [1, 2, 3, 4, 0] rfl ?_
    exact tX12_seatOn_L89 rc a1 a2 a3 dd hdd X hC hR hN hrc FU (0 : Int32) _
def fX12_seatOn : Nat → Int32 → Int32 → Int32 → St → Option (Int32 × St)
  | 0, _, _, _, _ => none
  | n + 1, a1, a2, a3, s => gX12_seatOn (fX12_seatOn n) a1 a2 a3 s
theorem kX12_seatOn (l : Launch) : ∀ (n : Nat) (a1 : Int32) (a2 : Int32) (a3 : Int32) (s : St), CN l yX12_seatOn cX12_seatOn 5 none (8 + 1 * n) FULL (fun ad => [.ref (ad 69), .int a1, .int a2, .int a3]) s (fX12_seatOn n a1 a2 a3 s)
  | 0, _, _, _, _ => fun _ _ h => by cases h
  | n + 1, a1, a2, a3, s => gkX12_seatOn l (fX12_seatOn n) (8 + 1 * n) (Nat.le_add_right _ _) (fun z0 z1 z2 s => kX12_seatOn l n z0 z1 z2 s) a1 a2 a3 s
def fX12_seatings_L42 (k68 : St → Option (Int32 × St)) (c1 : Int32) : Nat → St → Option (Int32 × St)
  | 0, _ => none
  | n + 1, s =>
    if inA (0 : Int32) 7 then
    (bd (fX12_isAlive (s 100 (0 : Int32).toNatClampNeg) s) (fun y_6 s_6 =>
    if y_6 = 0 then
    (if inA (0 : Int32) 7 then
    (if inA (0 : Int32) 7 then
    (let s_7 := wr s_6 100 (0 : Int32).toNatClampNeg ((s_6 100 (0 : Int32).toNatClampNeg) + (1 : Int32));
    fX12_seatings_L42 k68 c1 n s_7) else none) else none)
  else
    (k68 s_6))) else none
set_option maxRecDepth 100000 in
set_option maxHeartbeats 4000000 in
theorem tX12_seatings_L42 (c1 : Int32) (k68 : St → Option (Int32 × St)) (X : KX) (hC : Ctx X RX12 cX12_seatings FULL 19 0) (hR : RC X (some .int)) (hN : X_nL X = 2) (hk68 : ∀ (s : St), Zr X (QFN X (some .int)) 0 s 68 [(0, .ref (X_ad X 69)), (1, .int c1)] [] (k68 s)) : ∀ (n : Nat) (s : St), Zr X (QFN X (some .int)) 0 s 42 [(0, .ref (X_ad X 69)), (1, .int c1)] [] (fX12_seatings_L42 k68 c1 n s) := by
  intro n
  induction n with
  | zero =>
    intro s
    exact zr_none
  | succ n ih =>
    intro s
    rw [fX12_seatings_L42]
    refine zr_aload_n (pc := 42) (i := 0) 0 hC dX12_seatings_42 rfl rfl ?_
    refine zr_aload_n (pc := 43) (i := 0) 0 hC dX12_seatings_43 rfl rfl ?_
    refine zr_getR (pc := 44) (j := 49) (k1 := 100) hC mem_69 lay_69 rfl rfl (Nat.le_of_ble_eq_true rfl) iX12 m_1444 dX12_seatings_44 ?_
    refine zr_iconst (pc := 47) (v := (0 : Int32)) hC dX12_seatings_47 ic_0 ?_
    refine zr_iald (pc := 48) hC mem_100 lay_100 dX12_seatings_48 ?_
    refine zr_callV (pc := 49) (As := fun ad => [.int (s 100 (0 : Int32).toNatClampNeg)]) (st1 := []) hC (Nat.le_of_ble_eq_true rfl) (kX12_isAlive _ (s 100 (0 : Int32).toNatClampNeg) _) (Nat.le_of_ble_eq_true rfl) mc_yX12_isAlive m_1769 m_1771 m_p83 mem_69 lay_69 rfl rfl rfl rfl (Nat.le_of_ble_eq_true rfl) dX12_seatings_49 (fun y_6 s_6 => ?_)
    refine zr_if_ne (pc := 52) (tgt := 68) hC dX12_seatings_52 (by decide) (fun c_ => ?_) (fun c_ => ?_)
    · refine zr_aload_n (pc := 55) (i := 0) 0 hC dX12_seatings_55 rfl rfl ?_
      refine zr_getR (pc := 56) (j := 49) (k1 := 100) hC mem_69 lay_69 rfl rfl (Nat.le_of_ble_eq_true rfl) iX12 m_1444 dX12_seatings_56 ?_
      refine zr_iconst (pc := 59) (v := (0 : Int32)) hC dX12_seatings_59 ic_0 ?_
      refine zr_dup2 (pc := 60) hC dX12_seatings_60 rfl rfl ?_
      refine zr_iald (pc := 61) hC mem_100 lay_100 dX12_seatings_61 ?_
      refine zr_iconst (pc := 62) (v := (1 : Int32)) hC dX12_seatings_62 ic_1 ?_
      refine zr_iadd (pc := 63) hC dX12_seatings_63 ?_
      refine zr_iast (pc := 64) hC mem_100 lay_100 dX12_seatings_64 ?_
      refine zr_goto (pc := 65) (tgt := 42) hC dX12_seatings_65 (by decide) ?_
      exact ih (wr s_6 100 (0 : Int32).toNatClampNeg ((s_6 100 (0 : Int32).toNatClampNeg) + (1 : Int32)))
    · exact hk68 s_6
def fX12_seatings (s : St) : Option (Int32 × St) :=
  let s_1 := wr s 69 1 (0 : Int32);
    bd (fX12_bitsOf (s_1 69 17) s_1) (fun y_2 s_2 =>
    bd (fX12_isIn (Int32.toInt64 y_2) (3 : Int64) (7 : Int64) s_2) (fun y_3 s_3 =>
    if y_3 = 0 then
    (some ((-2 : Int32), s_3))
  else
    (let s_4 := wr s_3 69 52 (0 : Int32);
    if inA (0 : Int32) 7 then
    (let s_5 := wr s_4 100 (0 : Int32).toNatClampNeg (0 : Int32);
    fX12_seatings_L42 (fun s_8 => if inA (0 : Int32) 7 then
    (bd (fX12_seatOn 9 (1 : Int32) y_2 ((s_8 69 17) &&& ((jshl (1 : Int32) (s_8 100 (0 : Int32).toNatClampNeg)) ^^^ (-1 : Int32))) s_8) (fun y_9 s_9 =>
    some ((s_9 69 52), s_9))) else none) y_2 FU s_5) else none)))
set_option maxRecDepth 100000 in
set_option maxHeartbeats 4000000 in
theorem kX12_seatings (l : Launch)  (s : St) : CN l yX12_seatings cX12_seatings 2 (some .int) 19 FULL (fun ad => [.ref (ad 69)]) s (fX12_seatings s) := by
  refine cn_of (by decide) (fun _ => (Nat.le_of_ble_eq_true rfl)) (fun X hC hR hl hN => ?_)
  subst hl
  show Zr X (QFN X (some .int)) 0 s 0 [(0, .ref (X_ad X 69))] [] _
  rw [fX12_seatings]
  refine zr_aload_n (pc := 0) (i := 0) 0 hC dX12_seatings_0 rfl rfl ?_
  refine zr_iconst (pc := 1) (v := (0 : Int32)) hC dX12_seatings_1 ic_0 ?_
  refine zr_putInt (pc := 2) (j := 1) hC mem_69 lay_69 rfl rfl (Nat.le_of_ble_eq_true rfl) iX12 tyX12_ok nmX12 m_1396 rfl (by decide +kernel) dX12_seatings_2 ?_
  refine zr_aload_n (pc := 5) (i := 0) 0 hC dX12_seatings_5 rfl rfl ?_
  refine zr_getI (pc := 6) (j := 17) hC mem_69 lay_69 rfl rfl (Nat.le_of_ble_eq_true rfl) iX12 m_1412 dX12_seatings_6 ?_
  refine zr_callS (pc := 9) (As := fun ad => [.int ((wr s 69 1 (0 : Int32)) 69 17)]) (st1 := []) hC (Nat.le_of_ble_eq_true rfl) (kX12_bitsOf _ ((wr s 69 1 (0 : Int32)) 69 17) _) (Nat.le_of_ble_eq_true rfl) mc_yX12_bitsOf m_1743 m_1744 rfl rfl rfl (Nat.le_of_ble_eq_true rfl) dX12_seatings_9 (fun y_2 s_2 => ?_)
  refine zr_istore_n (pc := 12) (i := 1) (ls' := [(1, _), (0, _)]) hC dX12_seatings_12 rfl (nlt hN (Nat.le_of_ble_eq_true rfl)) rfl ?_
  refine zr_iload_n (pc := 13) (i := 1) 0 hC dX12_seatings_13 rfl rfl ?_
  refine zr_i2l (pc := 14) hC dX12_seatings_14 ?_
  refine zr_ldc2 (pc := 15) hC dX12_seatings_15 m_1780 ?_
  refine zr_ldc2 (pc := 18) hC dX12_seatings_18 m_1950 ?_
  refine zr_callS (pc := 21) (As := fun ad => [.long (Int32.toInt64 y_2), .long (3 : Int64), .long (7 : Int64)]) (st1 := []) hC (Nat.le_of_ble_eq_true rfl) (kX12_isIn _ (Int32.toInt64 y_2) (3 : Int64) (7 : Int64) _) (Nat.le_of_ble_eq_true rfl) mc_yX12_isIn m_1766 m_1767 rfl rfl rfl (Nat.le_of_ble_eq_true rfl) dX12_seatings_21 (fun y_3 s_3 => ?_)
  refine zr_if_ne (pc := 24) (tgt := 30) hC dX12_seatings_24 (by decide) (fun c_ => ?_) (fun c_ => ?_)
  · refine zr_bipush (pc := 27) (v := (-2 : Int32)) hC dX12_seatings_27 bi_m2 ?_
    exact zr_iret (pc := 29) hC hR dX12_seatings_29
  · refine zr_aload_n (pc := 30) (i := 0) 1 hC dX12_seatings_30 rfl rfl ?_
    refine zr_iconst (pc := 31) (v := (0 : Int32)) hC dX12_seatings_31 ic_0 ?_
    refine zr_putInt (pc := 32) (j := 52) hC mem_69 lay_69 rfl rfl (Nat.le_of_ble_eq_true rfl) iX12 tyX12_ok nmX12 m_1447 rfl (by decide +kernel) dX12_seatings_32 ?_
    refine zr_aload_n (pc := 35) (i := 0) 1 hC dX12_seatings_35 rfl rfl ?_
    refine zr_getR (pc := 36) (j := 49) (k1 := 100) hC mem_69 lay_69 rfl rfl (Nat.le_of_ble_eq_true rfl) iX12 m_1444 dX12_seatings_36 ?_
    refine zr_iconst (pc := 39) (v := (0 : Int32)) hC dX12_seatings_39 ic_0 ?_
    refine zr_iconst (pc := 40) (v := (0 : Int32)) hC dX12_seatings_40 ic_0 ?_
    refine zr_iast (pc := 41) hC mem_100 lay_100 dX12_seatings_41 ?_
    refine zr_sub (ls' := [(0, _), (1, _)]) [1, 0] rfl ?_
    refine tX12_seatings_L42 y_2 _ X hC hR hN (fun s_8 => ?_) FU _
    · refine zr_aload_n (pc := 68) (i := 0) 0 hC dX12_seatings_68 rfl rfl ?_
      refine zr_iconst (pc := 69) (v := (1 : Int32)) hC dX12_seatings_69 ic_1 ?_
      refine zr_iload_n (pc := 70) (i := 1) 1 hC dX12_seatings_70 rfl rfl ?_
      refine zr_aload_n (pc := 71) (i := 0) 0 hC dX12_seatings_71 rfl rfl ?_
      refine zr_getI (pc := 72) (j := 17) hC mem_69 lay_69 rfl rfl (Nat.le_of_ble_eq_true rfl) iX12 m_1412 dX12_seatings_72 ?_
      refine zr_iconst (pc := 75) (v := (1 : Int32)) hC dX12_seatings_75 ic_1 ?_
      refine zr_aload_n (pc := 76) (i := 0) 0 hC dX12_seatings_76 rfl rfl ?_
      refine zr_getR (pc := 77) (j := 49) (k1 := 100) hC mem_69 lay_69 rfl rfl (Nat.le_of_ble_eq_true rfl) iX12 m_1444 dX12_seatings_77 ?_
      refine zr_iconst (pc := 80) (v := (0 : Int32)) hC dX12_seatings_80 ic_0 ?_
      refine zr_iald (pc := 81) hC mem_100 lay_100 dX12_seatings_81 ?_
      refine zr_ishl (pc := 82) hC dX12_seatings_82 ?_
      refine zr_iconst (pc := 83) (v := (-1 : Int32)) hC dX12_seatings_83 ic_m1 ?_
      refine zr_ixor (pc := 84) hC dX12_seatings_84 ?_
      refine zr_iand (pc := 85) hC dX12_seatings_85 ?_
      refine zr_callVv (pc := 86) (As := fun ad => [.int (1 : Int32), .int y_2, .int ((s_8 69 17) &&& ((jshl (1 : Int32) (s_8 100 (0 : Int32).toNatClampNeg)) ^^^ (-1 : Int32)))]) (st1 := []) hC (Nat.le_of_ble_eq_true rfl) (kX12_seatOn _ 9 (1 : Int32) y_2 ((s_8 69 17) &&& ((jshl (1 : Int32) (s_8 100 (0 : Int32).toNatClampNeg)) ^^^ (-1 : Int32))) _) (Nat.le_of_ble_eq_true rfl) mc_yX12_seatOn m_1951 m_1953 m_p106 mem_69 lay_69 rfl rfl rfl rfl (Nat.le_of_ble_eq_true rfl) dX12_seatings_86 (fun y_9 s_9 => ?_)
      refine zr_aload_n (pc := 89) (i := 0) 0 hC dX12_seatings_89 rfl rfl ?_
      refine zr_getI (pc := 90) (j := 52) hC mem_69 lay_69 rfl rfl (Nat.le_of_ble_eq_true rfl) iX12 m_1447 dX12_seatings_90 ?_
      exact zr_iret (pc := 93) hC hR dX12_seatings_93
def fX12_seat (a1 : Int32) (s : St) : Option (Int32 × St) :=
  let s_1 := wr s 69 1 (0 : Int32);
    if (s_1 69 51) = (-1 : Int32) then
    (bd (fX12_fail (1 : Int32) s_1) (fun y_2 s_2 =>
    some (y_2, s_2)))
  else
    (bd (fX12_isIn (Int32.toInt64 a1) (0 : Int64) (Int32.toInt64 ((s_1 69 51) - (1 : Int32))) s_1) (fun y_3 s_3 =>
    if y_3 = 0 then
    (bd (fX12_fail (1 : Int32) s_3) (fun y_4 s_4 =>
    some (y_4, s_4)))
  else
    (if inA a1 7 then
    (some ((s_3 101 a1.toNatClampNeg), s_3)) else none)))
set_option maxRecDepth 100000 in
set_option maxHeartbeats 4000000 in
theorem kX12_seat (l : Launch)  (a1 : Int32) (s : St) : CN l yX12_seat cX12_seat 2 (some .int) 2 FULL (fun ad => [.ref (ad 69), .int a1]) s (fX12_seat a1 s) := by
  refine cn_of (by decide) (fun _ => (Nat.le_of_ble_eq_true rfl)) (fun X hC hR hl hN => ?_)
  subst hl
  show Zr X (QFN X (some .int)) 0 s 0 [(0, .ref (X_ad X 69)), (1, .int a1)] [] _
  rw [fX12_seat]
  refine zr_aload_n (pc := 0) (i := 0) 0 hC dX12_seat_0 rfl rfl ?_
  refine zr_iconst (pc := 1) (v := (0 : Int32)) hC dX12_seat_1 ic_0 ?_
  refine zr_putInt (pc := 2) (j := 1) hC mem_69 lay_69 rfl rfl (Nat.le_of_ble_eq_true rfl) iX12 tyX12_ok nmX12 m_1396 rfl (by decide +kernel) dX12_seat_2 ?_
  refine zr_aload_n (pc := 5) (i := 0) 0 hC dX12_seat_5 rfl rfl ?_
  refine zr_getI (pc := 6) (j := 51) hC mem_69 lay_69 rfl rfl (Nat.le_of_ble_eq_true rfl) iX12 m_1446 dX12_seat_6 ?_
  refine zr_iconst (pc := 9) (v := (-1 : Int32)) hC dX12_seat_9 ic_m1 ?_
  refine zr_icmp_eq (pc := 10) (tgt := 38) hC dX12_seat_10 (by decide) (fun c_ => ?_) (fun c_ => ?_)
  · refine zr_aload_n (pc := 38) (i := 0) 0 hC dX12_seat_38 rfl rfl ?_
    refine zr_iconst (pc := 39) (v := (1 : Int32)) hC dX12_seat_39 ic_1 ?_
    refine zr_callV (pc := 40) (As := fun ad => [.int (1 : Int32)]) (st1 := []) hC (Nat.le_of_ble_eq_true rfl) (kX12_fail _ (1 : Int32) _) (Nat.le_of_ble_eq_true rfl) mc_yX12_fail m_1606 m_1608 m_p53 mem_69 lay_69 rfl rfl rfl rfl (Nat.le_of_ble_eq_true rfl) dX12_seat_40 (fun y_2 s_2 => ?_)
    exact zr_iret (pc := 43) hC hR dX12_seat_43
  · refine zr_iload_n (pc := 13) (i := 1) 1 hC dX12_seat_13 rfl rfl ?_
    refine zr_i2l (pc := 14) hC dX12_seat_14 ?_
    refine zr_lconst (pc := 15) (v := (0 : Int64)) hC dX12_seat_15 rfl ?_
    refine zr_aload_n (pc := 16) (i := 0) 0 hC dX12_seat_16 rfl rfl ?_
    refine zr_getI (pc := 17) (j := 51) hC mem_69 lay_69 rfl rfl (Nat.le_of_ble_eq_true rfl) iX12 m_1446 dX12_seat_17 ?_
    refine zr_iconst (pc := 20) (v := (1 : Int32)) hC dX12_seat_20 ic_1 ?_
    refine zr_isub (pc := 21) hC dX12_seat_21 ?_
    refine zr_i2l (pc := 22) hC dX12_seat_22 ?_
    refine zr_callS (pc := 23) (As := fun ad => [.long (Int32.toInt64 a1), .long (0 : Int64), .long (Int32.toInt64 (((wr s 69 1 (0 : Int32)) 69 51) - (1 : Int32)))]) (st1 := []) hC (Nat.le_of_ble_eq_true rfl) (kX12_isIn _ (Int32.toInt64 a1) (0 : Int64) (Int32.toInt64 (((wr s 69 1 (0 : Int32)) 69 51) - (1 : Int32))) _) (Nat.le_of_ble_eq_true rfl) mc_yX12_isIn m_1766 m_1767 rfl rfl rfl (Nat.le_of_ble_eq_true rfl) dX12_seat_23 (fun y_3 s_3 => ?_)
    refine zr_if_eq (pc := 26) (tgt := 38) hC dX12_seat_26 (by decide) (fun c_ => ?_) (fun c_ => ?_)
    · refine zr_aload_n (pc := 38) (i := 0) 0 hC dX12_seat_38 rfl rfl ?_
      refine zr_iconst (pc := 39) (v := (1 : Int32)) hC dX12_seat_39 ic_1 ?_
      refine zr_callV (pc := 40) (As := fun ad => [.int (1 : Int32)]) (st1 := []) hC (Nat.le_of_ble_eq_true rfl) (kX12_fail _ (1 : Int32) _) (Nat.le_of_ble_eq_true rfl) mc_yX12_fail m_1606 m_1608 m_p53 mem_69 lay_69 rfl rfl rfl rfl (Nat.le_of_ble_eq_true rfl) dX12_seat_40 (fun y_4 s_4 => ?_)
      exact zr_iret (pc := 43) hC hR dX12_seat_43
    · refine zr_aload_n (pc := 29) (i := 0) 0 hC dX12_seat_29 rfl rfl ?_
      refine zr_getR (pc := 30) (j := 50) (k1 := 101) hC mem_69 lay_69 rfl rfl (Nat.le_of_ble_eq_true rfl) iX12 m_1445 dX12_seat_30 ?_
      refine zr_iload_n (pc := 33) (i := 1) 1 hC dX12_seat_33 rfl rfl ?_
      refine zr_iald (pc := 34) hC mem_101 lay_101 dX12_seat_34 ?_
      refine zr_goto (pc := 35) (tgt := 43) hC dX12_seat_35 (by decide) ?_
      exact zr_iret (pc := 43) hC hR dX12_seat_43
def fX12_see (a1 : Int32) (a2 : Int32) (s : St) : Option (Int32 × St) :=
  let s_1 := wr s 69 1 (0 : Int32);
    bd (fX12_isPart a1 s_1) (fun y_2 s_2 =>
    if y_2 = 0 then
    (bd (fX12_fail (1 : Int32) s_2) (fun y_9 s_9 =>
    some (y_9, s_9)))
  else
    (if (s_2 69 33) = (4 : Int32) then
    (bd (fX12_refuse (2 : Int32) s_2) (fun y_3 s_3 =>
    some (y_3, s_3)))
  else
    (bd (fX12_isIn (Int32.toInt64 a2) (0 : Int64) (9999 : Int64) s_2) (fun y_4 s_4 =>
    if y_4 = 0 then
    (bd (fX12_refuse (2 : Int32) s_4) (fun y_8 s_8 =>
    some (y_8, s_8)))
  else
    (if inA (s_4 69 33) 4 then
    (let s_5 := wr s_4 102 (s_4 69 33).toNatClampNeg a1;
    if inA (s_5 69 33) 4 then
    (let s_6 := wr s_5 103 (s_5 69 33).toNatClampNeg a2;
    let s_7 := wr s_6 69 33 ((s_6 69 33) + (1 : Int32));
    some ((s_7 69 33), s_7)) else none) else none)))))
set_option maxRecDepth 100000 in
set_option maxHeartbeats 4000000 in
theorem kX12_see (l : Launch)  (a1 : Int32) (a2 : Int32) (s : St) : CN l yX12_see cX12_see 3 (some .int) 3 FULL (fun ad => [.ref (ad 69), .int a1, .int a2]) s (fX12_see a1 a2 s) := by
  refine cn_of (by decide) (fun _ => (Nat.le_of_ble_eq_true rfl)) (fun X hC hR hl hN => ?_)
  subst hl
  show Zr X (QFN X (some .int)) 0 s 0 [(0, .ref (X_ad X 69)), (1, .int a1), (2, .int a2)] [] _
  rw [fX12_see]
  refine zr_aload_n (pc := 0) (i := 0) 0 hC dX12_see_0 rfl rfl ?_
  refine zr_iconst (pc := 1) (v := (0 : Int32)) hC dX12_see_1 ic_0 ?_
  refine zr_putInt (pc := 2) (j := 1) hC mem_69 lay_69 rfl rfl (Nat.le_of_ble_eq_true rfl) iX12 tyX12_ok nmX12 m_1396 rfl (by decide +kernel) dX12_see_2 ?_
  refine zr_iload_n (pc := 5) (i := 1) 1 hC dX12_see_5 rfl rfl ?_
  refine zr_callS (pc := 6) (As := fun ad => [.int a1]) (st1 := []) hC (Nat.le_of_ble_eq_true rfl) (kX12_isPart _ a1 _) (Nat.le_of_ble_eq_true rfl) mc_yX12_isPart m_1777 m_1778 rfl rfl rfl (Nat.le_of_ble_eq_true rfl) dX12_see_6 (fun y_2 s_2 => ?_)
  refine zr_if_ne (pc := 9) (tgt := 18) hC dX12_see_9 (by decide) (fun c_ => ?_) (fun c_ => ?_)
  · refine zr_aload_n (pc := 12) (i := 0) 0 hC dX12_see_12 rfl rfl ?_
    refine zr_iconst (pc := 13) (v := (1 : Int32)) hC dX12_see_13 ic_1 ?_
    refine zr_callV (pc := 14) (As := fun ad => [.int (1 : Int32)]) (st1 := []) hC (Nat.le_of_ble_eq_true rfl) (kX12_fail _ (1 : Int32) _) (Nat.le_of_ble_eq_true rfl) mc_yX12_fail m_1606 m_1608 m_p53 mem_69 lay_69 rfl rfl rfl rfl (Nat.le_of_ble_eq_true rfl) dX12_see_14 (fun y_9 s_9 => ?_)
    exact zr_iret (pc := 17) hC hR dX12_see_17
  · refine zr_aload_n (pc := 18) (i := 0) 0 hC dX12_see_18 rfl rfl ?_
    refine zr_getI (pc := 19) (j := 33) hC mem_69 lay_69 rfl rfl (Nat.le_of_ble_eq_true rfl) iX12 m_1428 dX12_see_19 ?_
    refine zr_iconst (pc := 22) (v := (4 : Int32)) hC dX12_see_22 ic_4 ?_
    refine zr_icmp_eq (pc := 23) (tgt := 38) hC dX12_see_23 (by decide) (fun c_ => ?_) (fun c_ => ?_)
    · refine zr_aload_n (pc := 38) (i := 0) 0 hC dX12_see_38 rfl rfl ?_
      refine zr_iconst (pc := 39) (v := (2 : Int32)) hC dX12_see_39 ic_2 ?_
      refine zr_callV (pc := 40) (As := fun ad => [.int (2 : Int32)]) (st1 := []) hC (Nat.le_of_ble_eq_true rfl) (kX12_refuse _ (2 : Int32) _) (Nat.le_of_ble_eq_true rfl) mc_yX12_refuse m_1828 m_1830 m_p90 mem_69 lay_69 rfl rfl rfl rfl (Nat.le_of_ble_eq_true rfl) dX12_see_40 (fun y_3 s_3 => ?_)
      exact zr_iret (pc := 43) hC hR dX12_see_43
    · refine zr_iload_n (pc := 26) (i := 2) 2 hC dX12_see_26 rfl rfl ?_
      refine zr_i2l (pc := 27) hC dX12_see_27 ?_
      refine zr_lconst (pc := 28) (v := (0 : Int64)) hC dX12_see_28 rfl ?_
      refine zr_ldc2 (pc := 29) hC dX12_see_29 m_1925 ?_
      refine zr_callS (pc := 32) (As := fun ad => [.long (Int32.toInt64 a2), .long (0 : Int64), .long (9999 : Int64)]) (st1 := []) hC (Nat.le_of_ble_eq_true rfl) (kX12_isIn _ (Int32.toInt64 a2) (0 : Int64) (9999 : Int64) _) (Nat.le_of_ble_eq_true rfl) mc_yX12_isIn m_1766 m_1767 rfl rfl rfl (Nat.le_of_ble_eq_true rfl) dX12_see_32 (fun y_4 s_4 => ?_)
      refine zr_if_ne (pc := 35) (tgt := 44) hC dX12_see_35 (by decide) (fun c_ => ?_) (fun c_ => ?_)
      · refine zr_aload_n (pc := 38) (i := 0) 0 hC dX12_see_38 rfl rfl ?_
        refine zr_iconst (pc := 39) (v := (2 : Int32)) hC dX12_see_39 ic_2 ?_
        refine zr_callV (pc := 40) (As := fun ad => [.int (2 : Int32)]) (st1 := []) hC (Nat.le_of_ble_eq_true rfl) (kX12_refuse _ (2 : Int32) _) (Nat.le_of_ble_eq_true rfl) mc_yX12_refuse m_1828 m_1830 m_p90 mem_69 lay_69 rfl rfl rfl rfl (Nat.le_of_ble_eq_true rfl) dX12_see_40 (fun y_8 s_8 => ?_)
        exact zr_iret (pc := 43) hC hR dX12_see_43
      · refine zr_aload_n (pc := 44) (i := 0) 0 hC dX12_see_44 rfl rfl ?_
        refine zr_getR (pc := 45) (j := 53) (k1 := 102) hC mem_69 lay_69 rfl rfl (Nat.le_of_ble_eq_true rfl) iX12 m_1448 dX12_see_45 ?_
        refine zr_aload_n (pc := 48) (i := 0) 0 hC dX12_see_48 rfl rfl ?_
        refine zr_getI (pc := 49) (j := 33) hC mem_69 lay_69 rfl rfl (Nat.le_of_ble_eq_true rfl) iX12 m_1428 dX12_see_49 ?_
        refine zr_iload_n (pc := 52) (i := 1) 1 hC dX12_see_52 rfl rfl ?_
        refine zr_iast (pc := 53) hC mem_102 lay_102 dX12_see_53 ?_
        refine zr_aload_n (pc := 54) (i := 0) 0 hC dX12_see_54 rfl rfl ?_
        refine zr_getR (pc := 55) (j := 54) (k1 := 103) hC mem_69 lay_69 rfl rfl (Nat.le_of_ble_eq_true rfl) iX12 m_1449 dX12_see_55 ?_
        refine zr_aload_n (pc := 58) (i := 0) 0 hC dX12_see_58 rfl rfl ?_
        refine zr_getI (pc := 59) (j := 33) hC mem_69 lay_69 rfl rfl (Nat.le_of_ble_eq_true rfl) iX12 m_1428 dX12_see_59 ?_
        refine zr_iload_n (pc := 62) (i := 2) 2 hC dX12_see_62 rfl rfl ?_
        refine zr_iast (pc := 63) hC mem_103 lay_103 dX12_see_63 ?_
        refine zr_aload_n (pc := 64) (i := 0) 0 hC dX12_see_64 rfl rfl ?_
        refine zr_dup (pc := 65) hC dX12_see_65 rfl ?_
        refine zr_getI (pc := 66) (j := 33) hC mem_69 lay_69 rfl rfl (Nat.le_of_ble_eq_true rfl) iX12 m_1428 dX12_see_66 ?_
        refine zr_iconst (pc := 69) (v := (1 : Int32)) hC dX12_see_69 ic_1 ?_
        refine zr_iadd (pc := 70) hC dX12_see_70 ?_
        refine zr_putInt (pc := 71) (j := 33) hC mem_69 lay_69 rfl rfl (Nat.le_of_ble_eq_true rfl) iX12 tyX12_ok nmX12 m_1428 rfl (by decide +kernel) dX12_see_71 ?_
        refine zr_aload_n (pc := 74) (i := 0) 0 hC dX12_see_74 rfl rfl ?_
        refine zr_getI (pc := 75) (j := 33) hC mem_69 lay_69 rfl rfl (Nat.le_of_ble_eq_true rfl) iX12 m_1428 dX12_see_75 ?_
        exact zr_iret (pc := 78) hC hR dX12_see_78
def fX12_forget (s : St) : Option (Int32 × St) :=
  let s_1 := wr s 69 1 (0 : Int32);
    if (s_1 69 33) = 0 then
    (some ((-1 : Int32), s_1))
  else
    (let s_2 := wr s_1 69 33 ((s_1 69 33) - (1 : Int32));
    some ((s_2 69 33), s_2))
set_option maxRecDepth 100000 in
set_option maxHeartbeats 4000000 in
theorem kX12_forget (l : Launch)  (s : St) : CN l yX12_forget cX12_forget 1 (some .int) 1 FULL (fun ad => [.ref (ad 69)]) s (fX12_forget s) := by
  refine cn_of (by decide) (fun _ => (Nat.le_of_ble_eq_true rfl)) (fun X hC hR hl hN => ?_)
  subst hl
  show Zr X (QFN X (some .int)) 0 s 0 [(0, .ref (X_ad X 69))] [] _
  rw [fX12_forget]
  refine zr_aload_n (pc := 0) (i := 0) 0 hC dX12_forget_0 rfl rfl ?_
  refine zr_iconst (pc := 1) (v := (0 : Int32)) hC dX12_forget_1 ic_0 ?_
  refine zr_putInt (pc := 2) (j := 1) hC mem_69 lay_69 rfl rfl (Nat.le_of_ble_eq_true rfl) iX12 tyX12_ok nmX12 m_1396 rfl (by decide +kernel) dX12_forget_2 ?_
  refine zr_aload_n (pc := 5) (i := 0) 0 hC dX12_forget_5 rfl rfl ?_
  refine zr_getI (pc := 6) (j := 33) hC mem_69 lay_69 rfl rfl (Nat.le_of_ble_eq_true rfl) iX12 m_1428 dX12_forget_6 ?_
  refine zr_if_ne (pc := 9) (tgt := 14) hC dX12_forget_9 (by decide) (fun c_ => ?_) (fun c_ => ?_)
  · refine zr_iconst (pc := 12) (v := (-1 : Int32)) hC dX12_forget_12 ic_m1 ?_
    exact zr_iret (pc := 13) hC hR dX12_forget_13
  · refine zr_aload_n (pc := 14) (i := 0) 0 hC dX12_forget_14 rfl rfl ?_
    refine zr_dup (pc := 15) hC dX12_forget_15 rfl ?_
    refine zr_getI (pc := 16) (j := 33) hC mem_69 lay_69 rfl rfl (Nat.le_of_ble_eq_true rfl) iX12 m_1428 dX12_forget_16 ?_
    refine zr_iconst (pc := 19) (v := (1 : Int32)) hC dX12_forget_19 ic_1 ?_
    refine zr_isub (pc := 20) hC dX12_forget_20 ?_
    refine zr_putInt (pc := 21) (j := 33) hC mem_69 lay_69 rfl rfl (Nat.le_of_ble_eq_true rfl) iX12 tyX12_ok nmX12 m_1428 rfl (by decide +kernel) dX12_forget_21 ?_
    refine zr_aload_n (pc := 24) (i := 0) 0 hC dX12_forget_24 rfl rfl ?_
    refine zr_getI (pc := 25) (j := 33) hC mem_69 lay_69 rfl rfl (Nat.le_of_ble_eq_true rfl) iX12 m_1428 dX12_forget_25 ?_
    exact zr_iret (pc := 28) hC hR dX12_forget_28
def fX12_isAsSeen_L15 (k65 : Int32 → St → Option (Int32 × St)) (c1 : Int32) (c2 : Int32) : Nat → Int32 → Int32 → St → Option (Int32 × St)
  | 0, _, _, _ => none
  | n + 1, v3, v4, s =>
    if inA (0 : Int32) 10 then
    (if (s 71 (0 : Int32).toNatClampNeg) ≤ v4 then
    (k65 v3 s)
  else
    (if ((jshr c1 v4) &&& (1 : Int32)) = (1 : Int32) then
    (if inA c2 4 then
    (if inA (((4 : Int32) * v4) + (s 102 c2.toNatClampNeg)) 96 then
    (fX12_isAsSeen_L15 k65 c1 c2 n (v3 + (s 72 (((4 : Int32) * v4) + (s 102 c2.toNatClampNeg)).toNatClampNeg)) (v4 + (1 : Int32)) s) else none) else none)
  else
    (fX12_isAsSeen_L15 k65 c1 c2 n (v3 + (0 : Int32)) (v4 + (1 : Int32)) s))) else none
set_option maxRecDepth 100000 in
set_option maxHeartbeats 4000000 in
theorem tX12_isAsSeen_L15 (c1 : Int32) (c2 : Int32) (k65 : Int32 → St → Option (Int32 × St)) (X : KX) (hC : Ctx X RX12 cX12_isAsSeen FULL 1 0) (hR : RC X (some .boolean)) (hN : X_nL X = 5) (hk65 : ∀ (v3 : Int32) (s : St), Zr X (QFN X (some .boolean)) 0 s 65 [(0, .ref (X_ad X 69)), (1, .int c1), (2, .int c2), (3, .int v3)] [] (k65 v3 s)) : ∀ (n : Nat) (v3 : Int32) (v4 : Int32) (s : St), Zr X (QFN X (some .boolean)) 0 s 15 [(0, .ref (X_ad X 69)), (1, .int c1), (2, .int c2), (3, .int v3), (4, .int v4)] [] (fX12_isAsSeen_L15 k65 c1 c2 n v3 v4 s) := by
  intro n
  induction n with
  | zero =>
    intro v3 v4 s
    exact zr_none
  | succ n ih =>
    intro v3 v4 s
    rw [fX12_isAsSeen_L15]
    refine zr_iload (pc := 15) 4 hC dX12_isAsSeen_15 rfl ?_
    refine zr_aload_n (pc := 17) (i := 0) 0 hC dX12_isAsSeen_17 rfl rfl ?_
    refine zr_getR (pc := 18) (j := 2) (k1 := 71) hC mem_69 lay_69 rfl rfl (Nat.le_of_ble_eq_true rfl) iX12 m_1397 dX12_isAsSeen_18 ?_
    refine zr_iconst (pc := 21) (v := (0 : Int32)) hC dX12_isAsSeen_21 ic_0 ?_
    refine zr_iald (pc := 22) hC mem_71 lay_71 dX12_isAsSeen_22 ?_
    refine zr_icmp_ge (pc := 23) (tgt := 65) hC dX12_isAsSeen_23 (by decide) (fun c_ => ?_) (fun c_ => ?_)
    · refine zr_sub (ls' := [(0, _), (1, _), (2, _), (3, _)]) [0, 1, 2, 3] rfl ?_
      exact hk65 v3 s
    · refine zr_iload_n (pc := 26) (i := 3) 3 hC dX12_isAsSeen_26 rfl rfl ?_
      refine zr_iload_n (pc := 27) (i := 1) 1 hC dX12_isAsSeen_27 rfl rfl ?_
      refine zr_iload (pc := 28) 4 hC dX12_isAsSeen_28 rfl ?_
      refine zr_ishr (pc := 30) hC dX12_isAsSeen_30 ?_
      refine zr_iconst (pc := 31) (v := (1 : Int32)) hC dX12_isAsSeen_31 ic_1 ?_
      refine zr_iand (pc := 32) hC dX12_isAsSeen_32 ?_
      refine zr_iconst (pc := 33) (v := (1 : Int32)) hC dX12_isAsSeen_33 ic_1 ?_
      refine zr_icmp_ne (pc := 34) (tgt := 56) hC dX12_isAsSeen_34 (by decide) (fun c_ => ?_) (fun c_ => ?_)
      · refine zr_aload_n (pc := 37) (i := 0) 0 hC dX12_isAsSeen_37 rfl rfl ?_
        refine zr_getR (pc := 38) (j := 3) (k1 := 72) hC mem_69 lay_69 rfl rfl (Nat.le_of_ble_eq_true rfl) iX12 m_1398 dX12_isAsSeen_38 ?_
        refine zr_iconst (pc := 41) (v := (4 : Int32)) hC dX12_isAsSeen_41 ic_4 ?_
        refine zr_iload (pc := 42) 4 hC dX12_isAsSeen_42 rfl ?_
        refine zr_imul (pc := 44) hC dX12_isAsSeen_44 ?_
        refine zr_aload_n (pc := 45) (i := 0) 0 hC dX12_isAsSeen_45 rfl rfl ?_
        refine zr_getR (pc := 46) (j := 53) (k1 := 102) hC mem_69 lay_69 rfl rfl (Nat.le_of_ble_eq_true rfl) iX12 m_1448 dX12_isAsSeen_46 ?_
        refine zr_iload_n (pc := 49) (i := 2) 2 hC dX12_isAsSeen_49 rfl rfl ?_
        refine zr_iald (pc := 50) hC mem_102 lay_102 dX12_isAsSeen_50 ?_
        refine zr_iadd (pc := 51) hC dX12_isAsSeen_51 ?_
        refine zr_iald (pc := 52) hC mem_72 lay_72 dX12_isAsSeen_52 ?_
        refine zr_goto (pc := 53) (tgt := 57) hC dX12_isAsSeen_53 (by decide) ?_
        refine zr_iadd (pc := 57) hC dX12_isAsSeen_57 ?_
        refine zr_istore_n (pc := 58) (i := 3) (ls' := [(3, _), (0, _), (1, _), (2, _), (4, _)]) hC dX12_isAsSeen_58 rfl (nlt hN (Nat.le_of_ble_eq_true rfl)) rfl ?_
        refine zr_iinc (pc := 59) (q := 4) (ls' := [(4, _), (3, _), (0, _), (1, _), (2, _)]) hC dX12_isAsSeen_59 rfl (inc_1 _) (nlt hN (Nat.le_of_ble_eq_true rfl)) rfl ?_
        refine zr_goto (pc := 62) (tgt := 15) hC dX12_isAsSeen_62 (by decide) ?_
        refine zr_sub (ls' := [(0, _), (1, _), (2, _), (3, _), (4, _)]) [2, 3, 4, 1, 0] rfl ?_
        exact ih (v3 + (s 72 (((4 : Int32) * v4) + (s 102 c2.toNatClampNeg)).toNatClampNeg)) (v4 + (1 : Int32)) s
      · refine zr_iconst (pc := 56) (v := (0 : Int32)) hC dX12_isAsSeen_56 ic_0 ?_
        refine zr_iadd (pc := 57) hC dX12_isAsSeen_57 ?_
        refine zr_istore_n (pc := 58) (i := 3) (ls' := [(3, _), (0, _), (1, _), (2, _), (4, _)]) hC dX12_isAsSeen_58 rfl (nlt hN (Nat.le_of_ble_eq_true rfl)) rfl ?_
        refine zr_iinc (pc := 59) (q := 4) (ls' := [(4, _), (3, _), (0, _), (1, _), (2, _)]) hC dX12_isAsSeen_59 rfl (inc_1 _) (nlt hN (Nat.le_of_ble_eq_true rfl)) rfl ?_
        refine zr_goto (pc := 62) (tgt := 15) hC dX12_isAsSeen_62 (by decide) ?_
        refine zr_sub (ls' := [(0, _), (1, _), (2, _), (3, _), (4, _)]) [2, 3, 4, 1, 0] rfl ?_
        exact ih (v3 + (0 : Int32)) (v4 + (1 : Int32)) s
def fX12_isAsSeen_L2 (c1 : Int32) : Nat → Int32 → St → Option (Int32 × St)
  | 0, _, _ => none
  | n + 1, v2, s =>
    if (s 69 33) ≤ v2 then
    (some ((1 : Int32), s))
  else
    (fX12_isAsSeen_L15 (fun v3_1 s_1 => if inA v2 4 then
    (if v3_1 = (s_1 103 v2.toNatClampNeg) then
    (fX12_isAsSeen_L2 c1 n (v2 + (1 : Int32)) s_1)
  else
    (some ((0 : Int32), s_1))) else none) c1 v2 FU (0 : Int32) (0 : Int32) s)
set_option maxRecDepth 100000 in
set_option maxHeartbeats 4000000 in
theorem tX12_isAsSeen_L2 (c1 : Int32) (X : KX) (hC : Ctx X RX12 cX12_isAsSeen FULL 1 0) (hR : RC X (some .boolean)) (hN : X_nL X = 5) : ∀ (n : Nat) (v2 : Int32) (s : St), Zr X (QFN X (some .boolean)) 0 s 2 [(0, .ref (X_ad X 69)), (1, .int c1), (2, .int v2)] [] (fX12_isAsSeen_L2 c1 n v2 s) := by
  intro n
  induction n with
  | zero =>
    intro v2 s
    exact zr_none
  | succ n ih =>
    intro v2 s
    rw [fX12_isAsSeen_L2]
    refine zr_iload_n (pc := 2) (i := 2) 2 hC dX12_isAsSeen_2 rfl rfl ?_
    refine zr_aload_n (pc := 3) (i := 0) 0 hC dX12_isAsSeen_3 rfl rfl ?_
    refine zr_getI (pc := 4) (j := 33) hC mem_69 lay_69 rfl rfl (Nat.le_of_ble_eq_true rfl) iX12 m_1428 dX12_isAsSeen_4 ?_
    refine zr_icmp_ge (pc := 7) (tgt := 83) hC dX12_isAsSeen_7 (by decide) (fun c_ => ?_) (fun c_ => ?_)
    · refine zr_iconst (pc := 83) (v := (1 : Int32)) hC dX12_isAsSeen_83 ic_1 ?_
      exact zr_zret (pc := 84) (by decide) hC hR dX12_isAsSeen_84
    · refine zr_iconst (pc := 10) (v := (0 : Int32)) hC dX12_isAsSeen_10 ic_0 ?_
      refine zr_istore_n (pc := 11) (i := 3) (ls' := [(3, _), (0, _), (1, _), (2, _)]) hC dX12_isAsSeen_11 rfl (nlt hN (Nat.le_of_ble_eq_true rfl)) rfl ?_
      refine zr_iconst (pc := 12) (v := (0 : Int32)) hC dX12_isAsSeen_12 ic_0 ?_
      refine zr_istore (pc := 13) (ls' := [(4, _), (3, _), (0, _), (1, _), (2, _)]) hC dX12_isAsSeen_13 (nlt hN (Nat.le_of_ble_eq_true rfl)) rfl ?_
      refine zr_sub (ls' := [(0, _), (1, _), (2, _), (3, _), (4, _)]) [2, 3, 4, 1, 0] rfl ?_
      refine tX12_isAsSeen_L15 c1 v2 _ X hC hR hN (fun v3_1 s_1 => ?_) FU (0 : Int32) (0 : Int32) _
      · refine zr_iload_n (pc := 65) (i := 3) 3 hC dX12_isAsSeen_65 rfl rfl ?_
        refine zr_aload_n (pc := 66) (i := 0) 0 hC dX12_isAsSeen_66 rfl rfl ?_
        refine zr_getR (pc := 67) (j := 54) (k1 := 103) hC mem_69 lay_69 rfl rfl (Nat.le_of_ble_eq_true rfl) iX12 m_1449 dX12_isAsSeen_67 ?_
        refine zr_iload_n (pc := 70) (i := 2) 2 hC dX12_isAsSeen_70 rfl rfl ?_
        refine zr_iald (pc := 71) hC mem_103 lay_103 dX12_isAsSeen_71 ?_
        refine zr_icmp_eq (pc := 72) (tgt := 77) hC dX12_isAsSeen_72 (by decide) (fun c_ => ?_) (fun c_ => ?_)
        · refine zr_iinc (pc := 77) (q := 2) (ls' := [(2, _), (0, _), (1, _), (3, _)]) hC dX12_isAsSeen_77 rfl (inc_1 _) (nlt hN (Nat.le_of_ble_eq_true rfl)) rfl ?_
          refine zr_goto (pc := 80) (tgt := 2) hC dX12_isAsSeen_80 (by decide) ?_
          refine zr_sub (ls' := [(0, _), (1, _), (2, _)]) [1, 2, 0] rfl ?_
          exact ih (v2 + (1 : Int32)) s_1
        · refine zr_iconst (pc := 75) (v := (0 : Int32)) hC dX12_isAsSeen_75 ic_0 ?_
          exact zr_zret (pc := 76) (by decide) hC hR dX12_isAsSeen_76
def fX12_isAsSeen (a1 : Int32) (s : St) : Option (Int32 × St) :=
  fX12_isAsSeen_L2 a1 FU (0 : Int32) s
set_option maxRecDepth 100000 in
set_option maxHeartbeats 4000000 in
theorem kX12_isAsSeen (l : Launch)  (a1 : Int32) (s : St) : CN l yX12_isAsSeen cX12_isAsSeen 5 (some .boolean) 1 FULL (fun ad => [.ref (ad 69), .int a1]) s (fX12_isAsSeen a1 s) := by
  refine cn_of (by decide) (fun _ => (Nat.le_of_ble_eq_true rfl)) (fun X hC hR hl hN => ?_)
  subst hl
  show Zr X (QFN X (some .boolean)) 0 s 0 [(0, .ref (X_ad X 69)), (1, .int a1)] [] _
  rw [fX12_isAsSeen]
  refine zr_iconst (pc := 0) (v := (0 : Int32)) hC dX12_isAsSeen_0 ic_0 ?_
  refine zr_istore_n (pc := 1) (i := 2) (ls' := [(2, _), (0, _), (1, _)]) hC dX12_isAsSeen_1 rfl (nlt hN (Nat.le_of_ble_eq_true rfl)) rfl ?_
  refine zr_sub (ls' := [(0, _), (1, _), (2, _)]) [1, 2, 0] rfl ?_
  exact tX12_isAsSeen_L2 a1 X hC hR hN FU (0 : Int32) _
