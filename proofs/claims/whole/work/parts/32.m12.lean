def fX12_fits_L36 (k61 : St → Option (Int32 × St)) (c1 : Int32) (c2 : Int32) (c3 : Int32) (c4 : Int32) : Nat → Int32 → St → Option (Int32 × St)
  | 0, _, _ => none
  | n + 1, v5, s =>
    if inA (0 : Int32) 10 then
    (if (s 71 (0 : Int32).toNatClampNeg) ≤ v5 then
    (k61 s)
  else
    (if inA v5 12 then
    (let s_3 := wr s 104 v5.toNatClampNeg (0 : Int32);
    fX12_fits_L36 k61 c1 c2 c3 c4 n (v5 + (1 : Int32)) s_3) else none)) else none
set_option maxRecDepth 100000 in
set_option maxHeartbeats 4000000 in
theorem tX12_fits_L36 (c1 : Int32) (c2 : Int32) (c3 : Int32) (c4 : Int32) (k61 : St → Option (Int32 × St)) (X : KX) (hC : Ctx X RX12 cX12_fits FULL 7 0) (hR : RC X (some .int)) (hN : X_nL X = 7) (hk61 : ∀ (s : St), Zr X (QFN X (some .int)) 0 s 61 [(0, .ref (X_ad X 69)), (1, .int c1), (2, .int c2), (3, .int c3), (4, .int c4)] [] (k61 s)) : ∀ (n : Nat) (v5 : Int32) (s : St), Zr X (QFN X (some .int)) 0 s 36 [(0, .ref (X_ad X 69)), (1, .int c1), (2, .int c2), (3, .int c3), (4, .int c4), (5, .int v5)] [] (fX12_fits_L36 k61 c1 c2 c3 c4 n v5 s) := by
  intro n
  induction n with
  | zero =>
    intro v5 s
    exact zr_none
  | succ n ih =>
    intro v5 s
    rw [fX12_fits_L36]
    refine zr_iload (pc := 36) 5 hC dX12_fits_36 rfl ?_
    refine zr_aload_n (pc := 38) (i := 0) 0 hC dX12_fits_38 rfl rfl ?_
    refine zr_getR (pc := 39) (j := 2) (k1 := 71) hC mem_69 lay_69 rfl rfl (Nat.le_of_ble_eq_true rfl) iX12 m_1397 dX12_fits_39 ?_
    refine zr_iconst (pc := 42) (v := (0 : Int32)) hC dX12_fits_42 ic_0 ?_
    refine zr_iald (pc := 43) hC mem_71 lay_71 dX12_fits_43 ?_
    refine zr_icmp_ge (pc := 44) (tgt := 61) hC dX12_fits_44 (by decide) (fun c_ => ?_) (fun c_ => ?_)
    · refine zr_sub (ls' := [(0, _), (1, _), (2, _), (3, _), (4, _)]) [0, 1, 2, 3, 4] rfl ?_
      exact hk61 s
    · refine zr_aload_n (pc := 47) (i := 0) 0 hC dX12_fits_47 rfl rfl ?_
      refine zr_getR (pc := 48) (j := 55) (k1 := 104) hC mem_69 lay_69 rfl rfl (Nat.le_of_ble_eq_true rfl) iX12 m_1450 dX12_fits_48 ?_
      refine zr_iload (pc := 51) 5 hC dX12_fits_51 rfl ?_
      refine zr_iconst (pc := 53) (v := (0 : Int32)) hC dX12_fits_53 ic_0 ?_
      refine zr_iast (pc := 54) hC mem_104 lay_104 dX12_fits_54 ?_
      refine zr_iinc (pc := 55) (q := 5) (ls' := [(5, _), (0, _), (1, _), (2, _), (3, _), (4, _)]) hC dX12_fits_55 rfl (inc_1 _) (nlt hN (Nat.le_of_ble_eq_true rfl)) rfl ?_
      refine zr_goto (pc := 58) (tgt := 36) hC dX12_fits_58 (by decide) ?_
      refine zr_sub (ls' := [(0, _), (1, _), (2, _), (3, _), (4, _), (5, _)]) [1, 2, 3, 4, 5, 0] rfl ?_
      exact ih (v5 + (1 : Int32)) (wr s 104 v5.toNatClampNeg (0 : Int32))
def fX12_fits_L126 (k160 : St → Option (Int32 × St)) (c1 : Int32) (c2 : Int32) (c3 : Int32) (c4 : Int32) (c5 : Int32) : Nat → Int32 → St → Option (Int32 × St)
  | 0, _, _ => none
  | n + 1, v6, s =>
    if inA (0 : Int32) 10 then
    (if (s 71 (0 : Int32).toNatClampNeg) ≤ v6 then
    (k160 s)
  else
    (if inA v6 12 then
    (if inA v6 12 then
    (let s_6 := wr s 104 v6.toNatClampNeg ((s 104 v6.toNatClampNeg) + ((jshr c5 v6) &&& (1 : Int32)));
    fX12_fits_L126 k160 c1 c2 c3 c4 c5 n (v6 + (1 : Int32)) s_6) else none) else none)) else none
set_option maxRecDepth 100000 in
set_option maxHeartbeats 4000000 in
theorem tX12_fits_L126 (c1 : Int32) (c2 : Int32) (c3 : Int32) (c4 : Int32) (c5 : Int32) (k160 : St → Option (Int32 × St)) (X : KX) (hC : Ctx X RX12 cX12_fits FULL 7 0) (hR : RC X (some .int)) (hN : X_nL X = 7) (hk160 : ∀ (s : St), Zr X (QFN X (some .int)) 0 s 160 [(0, .ref (X_ad X 69)), (1, .int c1), (2, .int c2), (3, .int c3), (4, .int c4), (5, .int c5)] [] (k160 s)) : ∀ (n : Nat) (v6 : Int32) (s : St), Zr X (QFN X (some .int)) 0 s 126 [(0, .ref (X_ad X 69)), (1, .int c1), (2, .int c2), (3, .int c3), (4, .int c4), (5, .int c5), (6, .int v6)] [] (fX12_fits_L126 k160 c1 c2 c3 c4 c5 n v6 s) := by
  intro n
  induction n with
  | zero =>
    intro v6 s
    exact zr_none
  | succ n ih =>
    intro v6 s
    rw [fX12_fits_L126]
    refine zr_iload (pc := 126) 6 hC dX12_fits_126 rfl ?_
    refine zr_aload_n (pc := 128) (i := 0) 0 hC dX12_fits_128 rfl rfl ?_
    refine zr_getR (pc := 129) (j := 2) (k1 := 71) hC mem_69 lay_69 rfl rfl (Nat.le_of_ble_eq_true rfl) iX12 m_1397 dX12_fits_129 ?_
    refine zr_iconst (pc := 132) (v := (0 : Int32)) hC dX12_fits_132 ic_0 ?_
    refine zr_iald (pc := 133) hC mem_71 lay_71 dX12_fits_133 ?_
    refine zr_icmp_ge (pc := 134) (tgt := 160) hC dX12_fits_134 (by decide) (fun c_ => ?_) (fun c_ => ?_)
    · refine zr_sub (ls' := [(0, _), (1, _), (2, _), (3, _), (4, _), (5, _)]) [0, 1, 2, 3, 4, 5] rfl ?_
      exact hk160 s
    · refine zr_aload_n (pc := 137) (i := 0) 0 hC dX12_fits_137 rfl rfl ?_
      refine zr_getR (pc := 138) (j := 55) (k1 := 104) hC mem_69 lay_69 rfl rfl (Nat.le_of_ble_eq_true rfl) iX12 m_1450 dX12_fits_138 ?_
      refine zr_iload (pc := 141) 6 hC dX12_fits_141 rfl ?_
      refine zr_dup2 (pc := 143) hC dX12_fits_143 rfl rfl ?_
      refine zr_iald (pc := 144) hC mem_104 lay_104 dX12_fits_144 ?_
      refine zr_iload (pc := 145) 5 hC dX12_fits_145 rfl ?_
      refine zr_iload (pc := 147) 6 hC dX12_fits_147 rfl ?_
      refine zr_ishr (pc := 149) hC dX12_fits_149 ?_
      refine zr_iconst (pc := 150) (v := (1 : Int32)) hC dX12_fits_150 ic_1 ?_
      refine zr_iand (pc := 151) hC dX12_fits_151 ?_
      refine zr_iadd (pc := 152) hC dX12_fits_152 ?_
      refine zr_iast (pc := 153) hC mem_104 lay_104 dX12_fits_153 ?_
      refine zr_iinc (pc := 154) (q := 6) (ls' := [(6, _), (0, _), (1, _), (2, _), (3, _), (4, _), (5, _)]) hC dX12_fits_154 rfl (inc_1 _) (nlt hN (Nat.le_of_ble_eq_true rfl)) rfl ?_
      refine zr_goto (pc := 157) (tgt := 126) hC dX12_fits_157 (by decide) ?_
      refine zr_sub (ls' := [(0, _), (1, _), (2, _), (3, _), (4, _), (5, _), (6, _)]) [1, 2, 3, 4, 5, 6, 0] rfl ?_
      exact ih (v6 + (1 : Int32)) (wr s 104 v6.toNatClampNeg ((s 104 v6.toNatClampNeg) + ((jshr c5 v6) &&& (1 : Int32))))
def fX12_fits_J115 (k166 : Int32 → Int32 → Int32 → St → Option (Int32 × St)) (lp : Int32 → Int32 → Int32 → Int32 → St → Option (Int32 × St)) (v1 : Int32) (v2 : Int32) (v4 : Int32) (v5 : Int32) (q0 : Int32) (s : St) : Option (Int32 × St) :=
  fX12_fits_L126 (fun s_7 => lp v2 q0 (v4 &&& v5) (v5 + (1 : Int32)) s_7) v1 v2 q0 (v4 &&& v5) v5 FU (0 : Int32) s
set_option maxRecDepth 100000 in
set_option maxHeartbeats 4000000 in
theorem tX12_fits_J115 (v1 : Int32) (v2 : Int32) (v4 : Int32) (v5 : Int32) (q0 : Int32) (k166 : Int32 → Int32 → Int32 → St → Option (Int32 × St)) (lp : Int32 → Int32 → Int32 → Int32 → St → Option (Int32 × St)) (X : KX) (hC : Ctx X RX12 cX12_fits FULL 7 0) (hR : RC X (some .int)) (hN : X_nL X = 7) (hk166 : ∀ (u2 : Int32) (u3 : Int32) (u4 : Int32) (s : St), Zr X (QFN X (some .int)) 0 s 166 [(0, .ref (X_ad X 69)), (1, .int v1), (2, .int u2), (3, .int u3), (4, .int u4)] [] (k166 u2 u3 u4 s)) (ih : ∀ (u2 : Int32) (u3 : Int32) (u4 : Int32) (u5 : Int32) (s : St), Zr X (QFN X (some .int)) 0 s 64 [(0, .ref (X_ad X 69)), (1, .int v1), (2, .int u2), (3, .int u3), (4, .int u4), (5, .int u5)] [] (lp u2 u3 u4 u5 s)) (s : St) : Zr X (QFN X (some .int)) 0 s 115 [(0, .ref (X_ad X 69)), (1, .int v1), (2, .int v2), (4, .int v4), (5, .int v5)] [.int q0] (fX12_fits_J115 k166 lp v1 v2 v4 v5 q0 s) := by
  rw [fX12_fits_J115]
  refine zr_istore_n (pc := 115) (i := 3) (ls' := [(3, _), (0, _), (1, _), (2, _), (4, _), (5, _)]) hC dX12_fits_115 rfl (nlt hN (Nat.le_of_ble_eq_true rfl)) rfl ?_
  refine zr_iload (pc := 116) 4 hC dX12_fits_116 rfl ?_
  refine zr_iload (pc := 118) 5 hC dX12_fits_118 rfl ?_
  refine zr_iand (pc := 120) hC dX12_fits_120 ?_
  refine zr_istore (pc := 121) (ls' := [(4, _), (3, _), (0, _), (1, _), (2, _), (5, _)]) hC dX12_fits_121 (nlt hN (Nat.le_of_ble_eq_true rfl)) rfl ?_
  refine zr_iconst (pc := 123) (v := (0 : Int32)) hC dX12_fits_123 ic_0 ?_
  refine zr_istore (pc := 124) (ls' := [(6, _), (4, _), (3, _), (0, _), (1, _), (2, _), (5, _)]) hC dX12_fits_124 (nlt hN (Nat.le_of_ble_eq_true rfl)) rfl ?_
  refine zr_sub (ls' := [(0, _), (1, _), (2, _), (3, _), (4, _), (5, _), (6, _)]) [3, 4, 5, 2, 1, 6, 0] rfl ?_
  refine tX12_fits_L126 v1 v2 q0 (v4 &&& v5) v5 _ X hC hR hN (fun s_7 => ?_) FU (0 : Int32) _
  · refine zr_iinc (pc := 160) (q := 5) (ls' := [(5, _), (0, _), (1, _), (2, _), (3, _), (4, _)]) hC dX12_fits_160 rfl (inc_1 _) (nlt hN (Nat.le_of_ble_eq_true rfl)) rfl ?_
    refine zr_goto (pc := 163) (tgt := 64) hC dX12_fits_163 (by decide) ?_
    refine zr_sub (ls' := [(0, _), (1, _), (2, _), (3, _), (4, _), (5, _)]) [1, 2, 3, 4, 5, 0] rfl ?_
    exact ih v2 q0 (v4 &&& v5) (v5 + (1 : Int32)) s_7
def fX12_fits_L64 (k166 : Int32 → Int32 → Int32 → St → Option (Int32 × St)) (c1 : Int32) : Nat → Int32 → Int32 → Int32 → Int32 → St → Option (Int32 × St)
  | 0, _, _, _, _, _ => none
  | n + 1, v2, v3, v4, v5, s =>
    if inA (0 : Int32) 10 then
    (if (jshl (1 : Int32) (s 71 (0 : Int32).toNatClampNeg)) ≤ v5 then
    (k166 v2 v3 v4 s)
  else
    (if (v5 &&& ((s 69 17) ^^^ (-1 : Int32))) = 0 then
    (bd (fX12_isAsSeen v5 s) (fun y_5 s_5 =>
    if y_5 = 0 then
    (fX12_fits_L64 k166 c1 n v2 v3 v4 (v5 + (1 : Int32)) s_5)
  else
    (if v3 = (-1 : Int32) then
    (fX12_fits_J115 k166 (fX12_fits_L64 k166 c1 n) c1 (v2 + (1 : Int32)) v4 v5 v5 s_5)
  else
    (fX12_fits_J115 k166 (fX12_fits_L64 k166 c1 n) c1 (v2 + (1 : Int32)) v4 v5 v3 s_5))))
  else
    (fX12_fits_L64 k166 c1 n v2 v3 v4 (v5 + (1 : Int32)) s))) else none
set_option maxRecDepth 100000 in
set_option maxHeartbeats 4000000 in
theorem tX12_fits_L64 (c1 : Int32) (k166 : Int32 → Int32 → Int32 → St → Option (Int32 × St)) (X : KX) (hC : Ctx X RX12 cX12_fits FULL 7 0) (hR : RC X (some .int)) (hN : X_nL X = 7) (hk166 : ∀ (v2 : Int32) (v3 : Int32) (v4 : Int32) (s : St), Zr X (QFN X (some .int)) 0 s 166 [(0, .ref (X_ad X 69)), (1, .int c1), (2, .int v2), (3, .int v3), (4, .int v4)] [] (k166 v2 v3 v4 s)) : ∀ (n : Nat) (v2 : Int32) (v3 : Int32) (v4 : Int32) (v5 : Int32) (s : St), Zr X (QFN X (some .int)) 0 s 64 [(0, .ref (X_ad X 69)), (1, .int c1), (2, .int v2), (3, .int v3), (4, .int v4), (5, .int v5)] [] (fX12_fits_L64 k166 c1 n v2 v3 v4 v5 s) := by
  intro n
  induction n with
  | zero =>
    intro v2 v3 v4 v5 s
    exact zr_none
  | succ n ih =>
    intro v2 v3 v4 v5 s
    rw [fX12_fits_L64]
    refine zr_iload (pc := 64) 5 hC dX12_fits_64 rfl ?_
    refine zr_iconst (pc := 66) (v := (1 : Int32)) hC dX12_fits_66 ic_1 ?_
    refine zr_aload_n (pc := 67) (i := 0) 0 hC dX12_fits_67 rfl rfl ?_
    refine zr_getR (pc := 68) (j := 2) (k1 := 71) hC mem_69 lay_69 rfl rfl (Nat.le_of_ble_eq_true rfl) iX12 m_1397 dX12_fits_68 ?_
    refine zr_iconst (pc := 71) (v := (0 : Int32)) hC dX12_fits_71 ic_0 ?_
    refine zr_iald (pc := 72) hC mem_71 lay_71 dX12_fits_72 ?_
    refine zr_ishl (pc := 73) hC dX12_fits_73 ?_
    refine zr_icmp_ge (pc := 74) (tgt := 166) hC dX12_fits_74 (by decide) (fun c_ => ?_) (fun c_ => ?_)
    · refine zr_sub (ls' := [(0, _), (1, _), (2, _), (3, _), (4, _)]) [0, 1, 2, 3, 4] rfl ?_
      exact hk166 v2 v3 v4 s
    · refine zr_iload (pc := 77) 5 hC dX12_fits_77 rfl ?_
      refine zr_aload_n (pc := 79) (i := 0) 0 hC dX12_fits_79 rfl rfl ?_
      refine zr_getI (pc := 80) (j := 17) hC mem_69 lay_69 rfl rfl (Nat.le_of_ble_eq_true rfl) iX12 m_1412 dX12_fits_80 ?_
      refine zr_iconst (pc := 83) (v := (-1 : Int32)) hC dX12_fits_83 ic_m1 ?_
      refine zr_ixor (pc := 84) hC dX12_fits_84 ?_
      refine zr_iand (pc := 85) hC dX12_fits_85 ?_
      refine zr_if_ne (pc := 86) (tgt := 160) hC dX12_fits_86 (by decide) (fun c_ => ?_) (fun c_ => ?_)
      · refine zr_aload_n (pc := 89) (i := 0) 0 hC dX12_fits_89 rfl rfl ?_
        refine zr_iload (pc := 90) 5 hC dX12_fits_90 rfl ?_
        refine zr_callV (pc := 92) (As := fun ad => [.int v5]) (st1 := []) hC (Nat.le_of_ble_eq_true rfl) (kX12_isAsSeen _ v5 _) (Nat.le_of_ble_eq_true rfl) mc_yX12_isAsSeen m_1971 m_1973 m_p107 mem_69 lay_69 rfl rfl rfl rfl (Nat.le_of_ble_eq_true rfl) dX12_fits_92 (fun y_5 s_5 => ?_)
        refine zr_if_ne (pc := 95) (tgt := 101) hC dX12_fits_95 (by decide) (fun c_ => ?_) (fun c_ => ?_)
        · refine zr_goto (pc := 98) (tgt := 160) hC dX12_fits_98 (by decide) ?_
          refine zr_iinc (pc := 160) (q := 5) (ls' := [(5, _), (0, _), (1, _), (2, _), (3, _), (4, _)]) hC dX12_fits_160 rfl (inc_1 _) (nlt hN (Nat.le_of_ble_eq_true rfl)) rfl ?_
          refine zr_goto (pc := 163) (tgt := 64) hC dX12_fits_163 (by decide) ?_
          refine zr_sub (ls' := [(0, _), (1, _), (2, _), (3, _), (4, _), (5, _)]) [1, 2, 3, 4, 5, 0] rfl ?_
          exact ih v2 v3 v4 (v5 + (1 : Int32)) s_5
        · refine zr_iinc (pc := 101) (q := 2) (ls' := [(2, _), (0, _), (1, _), (3, _), (4, _), (5, _)]) hC dX12_fits_101 rfl (inc_1 _) (nlt hN (Nat.le_of_ble_eq_true rfl)) rfl ?_
          refine zr_iload_n (pc := 104) (i := 3) 3 hC dX12_fits_104 rfl rfl ?_
          refine zr_iconst (pc := 105) (v := (-1 : Int32)) hC dX12_fits_105 ic_m1 ?_
          refine zr_icmp_ne (pc := 106) (tgt := 114) hC dX12_fits_106 (by decide) (fun c_ => ?_) (fun c_ => ?_)
          · refine zr_iload (pc := 109) 5 hC dX12_fits_109 rfl ?_
            refine zr_goto (pc := 111) (tgt := 115) hC dX12_fits_111 (by decide) ?_
            refine zr_sub (ls' := [(0, _), (1, _), (2, _), (4, _), (5, _)]) [1, 2, 0, 4, 5] rfl ?_
            exact tX12_fits_J115 c1 (v2 + (1 : Int32)) v4 v5 v5 _ _ X hC hR hN hk166 ih _
          · refine zr_iload_n (pc := 114) (i := 3) 3 hC dX12_fits_114 rfl rfl ?_
            refine zr_sub (ls' := [(0, _), (1, _), (2, _), (4, _), (5, _)]) [1, 2, 0, 4, 5] rfl ?_
            exact tX12_fits_J115 c1 (v2 + (1 : Int32)) v4 v5 v3 _ _ X hC hR hN hk166 ih _
      · refine zr_iinc (pc := 160) (q := 5) (ls' := [(5, _), (0, _), (1, _), (2, _), (3, _), (4, _)]) hC dX12_fits_160 rfl (inc_1 _) (nlt hN (Nat.le_of_ble_eq_true rfl)) rfl ?_
        refine zr_goto (pc := 163) (tgt := 64) hC dX12_fits_163 (by decide) ?_
        refine zr_sub (ls' := [(0, _), (1, _), (2, _), (3, _), (4, _), (5, _)]) [1, 2, 3, 4, 5, 0] rfl ?_
        exact ih v2 v3 v4 (v5 + (1 : Int32)) s
def fX12_fits_L205 (c2 : Int32) : Nat → Int32 → Int32 → St → Option (Int32 × St)
  | 0, _, _, _ => none
  | n + 1, v5, v6, s =>
    if inA (0 : Int32) 10 then
    (if (s 71 (0 : Int32).toNatClampNeg) ≤ v6 then
    (some (v5, s))
  else
    (bd (fX12_isAlive v6 s) (fun y_9 s_9 =>
    if y_9 = 0 then
    (fX12_fits_L205 c2 n v5 (v6 + (1 : Int32)) s_9)
  else
    (if v5 = (-1 : Int32) then
    (fX12_fits_L205 c2 n v6 (v6 + (1 : Int32)) s_9)
  else
    (if inA v6 12 then
    (if inA v5 12 then
    (if (jabs (((2 : Int32) * (s_9 104 v5.toNatClampNeg)) - c2)) ≤ (jabs (((2 : Int32) * (s_9 104 v6.toNatClampNeg)) - c2)) then
    (fX12_fits_L205 c2 n v5 (v6 + (1 : Int32)) s_9)
  else
    (fX12_fits_L205 c2 n v6 (v6 + (1 : Int32)) s_9)) else none) else none))))) else none
set_option maxRecDepth 100000 in
set_option maxHeartbeats 4000000 in
theorem tX12_fits_L205 (c2 : Int32) (X : KX) (hC : Ctx X RX12 cX12_fits FULL 7 0) (hR : RC X (some .int)) (hN : X_nL X = 7) : ∀ (n : Nat) (v5 : Int32) (v6 : Int32) (s : St), Zr X (QFN X (some .int)) 0 s 205 [(0, .ref (X_ad X 69)), (2, .int c2), (5, .int v5), (6, .int v6)] [] (fX12_fits_L205 c2 n v5 v6 s) := by
  intro n
  induction n with
  | zero =>
    intro v5 v6 s
    exact zr_none
  | succ n ih =>
    intro v5 v6 s
    rw [fX12_fits_L205]
    refine zr_iload (pc := 205) 3 hC dX12_fits_205 rfl ?_
    refine zr_aload_n (pc := 207) (i := 0) 0 hC dX12_fits_207 rfl rfl ?_
    refine zr_getR (pc := 208) (j := 2) (k1 := 71) hC mem_69 lay_69 rfl rfl (Nat.le_of_ble_eq_true rfl) iX12 m_1397 dX12_fits_208 ?_
    refine zr_iconst (pc := 211) (v := (0 : Int32)) hC dX12_fits_211 ic_0 ?_
    refine zr_iald (pc := 212) hC mem_71 lay_71 dX12_fits_212 ?_
    refine zr_icmp_ge (pc := 213) (tgt := 272) hC dX12_fits_213 (by decide) (fun c_ => ?_) (fun c_ => ?_)
    · refine zr_iload (pc := 272) 2 hC dX12_fits_272 rfl ?_
      exact zr_iret (pc := 274) hC hR dX12_fits_274
    · refine zr_aload_n (pc := 216) (i := 0) 0 hC dX12_fits_216 rfl rfl ?_
      refine zr_iload (pc := 217) 3 hC dX12_fits_217 rfl ?_
      refine zr_callV (pc := 219) (As := fun ad => [.int v6]) (st1 := []) hC (Nat.le_of_ble_eq_true rfl) (kX12_isAlive _ v6 _) (Nat.le_of_ble_eq_true rfl) mc_yX12_isAlive m_1769 m_1771 m_p83 mem_69 lay_69 rfl rfl rfl rfl (Nat.le_of_ble_eq_true rfl) dX12_fits_219 (fun y_9 s_9 => ?_)
      refine zr_if_eq (pc := 222) (tgt := 266) hC dX12_fits_222 (by decide) (fun c_ => ?_) (fun c_ => ?_)
      · refine zr_iinc (pc := 266) (q := 3) (ls' := [(6, _), (0, _), (2, _), (5, _)]) hC dX12_fits_266 rfl (inc_1 _) (nlt hN (Nat.le_of_ble_eq_true rfl)) rfl ?_
        refine zr_goto (pc := 269) (tgt := 205) hC dX12_fits_269 (by decide) ?_
        refine zr_sub (ls' := [(0, _), (2, _), (5, _), (6, _)]) [1, 2, 3, 0] rfl ?_
        exact ih v5 (v6 + (1 : Int32)) s_9
      · refine zr_iload (pc := 225) 2 hC dX12_fits_225 rfl ?_
        refine zr_iconst (pc := 227) (v := (-1 : Int32)) hC dX12_fits_227 ic_m1 ?_
        refine zr_icmp_eq (pc := 228) (tgt := 262) hC dX12_fits_228 (by decide) (fun c_ => ?_) (fun c_ => ?_)
        · refine zr_iload (pc := 262) 3 hC dX12_fits_262 rfl ?_
          refine zr_istore (pc := 264) (ls' := [(5, _), (0, _), (2, _), (6, _)]) hC dX12_fits_264 (nlt hN (Nat.le_of_ble_eq_true rfl)) rfl ?_
          refine zr_iinc (pc := 266) (q := 3) (ls' := [(6, _), (5, _), (0, _), (2, _)]) hC dX12_fits_266 rfl (inc_1 _) (nlt hN (Nat.le_of_ble_eq_true rfl)) rfl ?_
          refine zr_goto (pc := 269) (tgt := 205) hC dX12_fits_269 (by decide) ?_
          refine zr_sub (ls' := [(0, _), (2, _), (5, _), (6, _)]) [2, 3, 1, 0] rfl ?_
          exact ih v6 (v6 + (1 : Int32)) s_9
        · refine zr_iconst (pc := 231) (v := (2 : Int32)) hC dX12_fits_231 ic_2 ?_
          refine zr_aload_n (pc := 232) (i := 0) 0 hC dX12_fits_232 rfl rfl ?_
          refine zr_getR (pc := 233) (j := 55) (k1 := 104) hC mem_69 lay_69 rfl rfl (Nat.le_of_ble_eq_true rfl) iX12 m_1450 dX12_fits_233 ?_
          refine zr_iload (pc := 236) 3 hC dX12_fits_236 rfl ?_
          refine zr_iald (pc := 238) hC mem_104 lay_104 dX12_fits_238 ?_
          refine zr_imul (pc := 239) hC dX12_fits_239 ?_
          refine zr_iload_n (pc := 240) (i := 2) 1 hC dX12_fits_240 rfl rfl ?_
          refine zr_isub (pc := 241) hC dX12_fits_241 ?_
          refine zr_mabs (pc := 242) hC (Nat.le_of_ble_eq_true rfl) (Nat.le_of_ble_eq_true rfl) m_1815 m_599 m_23 m_600 (Nat.le_of_ble_eq_true rfl) dX12_fits_242 ?_
          refine zr_iconst (pc := 245) (v := (2 : Int32)) hC dX12_fits_245 ic_2 ?_
          refine zr_aload_n (pc := 246) (i := 0) 0 hC dX12_fits_246 rfl rfl ?_
          refine zr_getR (pc := 247) (j := 55) (k1 := 104) hC mem_69 lay_69 rfl rfl (Nat.le_of_ble_eq_true rfl) iX12 m_1450 dX12_fits_247 ?_
          refine zr_iload (pc := 250) 2 hC dX12_fits_250 rfl ?_
          refine zr_iald (pc := 252) hC mem_104 lay_104 dX12_fits_252 ?_
          refine zr_imul (pc := 253) hC dX12_fits_253 ?_
          refine zr_iload_n (pc := 254) (i := 2) 1 hC dX12_fits_254 rfl rfl ?_
          refine zr_isub (pc := 255) hC dX12_fits_255 ?_
          refine zr_mabs (pc := 256) hC (Nat.le_of_ble_eq_true rfl) (Nat.le_of_ble_eq_true rfl) m_1815 m_599 m_23 m_600 (Nat.le_of_ble_eq_true rfl) dX12_fits_256 ?_
          refine zr_icmp_ge (pc := 259) (tgt := 266) hC dX12_fits_259 (by decide) (fun c_ => ?_) (fun c_ => ?_)
          · refine zr_iinc (pc := 266) (q := 3) (ls' := [(6, _), (0, _), (2, _), (5, _)]) hC dX12_fits_266 rfl (inc_1 _) (nlt hN (Nat.le_of_ble_eq_true rfl)) rfl ?_
            refine zr_goto (pc := 269) (tgt := 205) hC dX12_fits_269 (by decide) ?_
            refine zr_sub (ls' := [(0, _), (2, _), (5, _), (6, _)]) [1, 2, 3, 0] rfl ?_
            exact ih v5 (v6 + (1 : Int32)) s_9
          · refine zr_iload (pc := 262) 3 hC dX12_fits_262 rfl ?_
            refine zr_istore (pc := 264) (ls' := [(5, _), (0, _), (2, _), (6, _)]) hC dX12_fits_264 (nlt hN (Nat.le_of_ble_eq_true rfl)) rfl ?_
            refine zr_iinc (pc := 266) (q := 3) (ls' := [(6, _), (5, _), (0, _), (2, _)]) hC dX12_fits_266 rfl (inc_1 _) (nlt hN (Nat.le_of_ble_eq_true rfl)) rfl ?_
            refine zr_goto (pc := 269) (tgt := 205) hC dX12_fits_269 (by decide) ?_
            refine zr_sub (ls' := [(0, _), (2, _), (5, _), (6, _)]) [2, 3, 1, 0] rfl ?_
            exact ih v6 (v6 + (1 : Int32)) s_9
def fX12_fits (a1 : Int32) (s : St) : Option (Int32 × St) :=
  let s_1 := wr s 69 1 (0 : Int32);
    bd (fX12_isIn (Int32.toInt64 a1) (0 : Int64) (3 : Int64) s_1) (fun y_2 s_2 =>
    if y_2 = 0 then
    (bd (fX12_fail (1 : Int32) s_2) (fun y_10 s_10 =>
    some (y_10, s_10)))
  else
    (fX12_fits_L36 (fun s_4 => fX12_fits_L64 (fun v2_8 v3_8 v4_8 s_8 => if (3 : Int32) ≤ a1 then
    (fX12_fits_L205 v2_8 FU (-1 : Int32) (0 : Int32) s_8)
  else
    (if a1 = 0 then
    (some (v2_8, s_8))
  else
    (if a1 = (1 : Int32) then
    (some (v3_8, s_8))
  else
    (if v2_8 = 0 then
    (some ((0 : Int32), s_8))
  else
    (some (v4_8, s_8)))))) a1 FU (0 : Int32) (-1 : Int32) (s_2 69 17) (0 : Int32) s_4) a1 (0 : Int32) (-1 : Int32) (s_2 69 17) FU (0 : Int32) s_2))
set_option maxRecDepth 100000 in
set_option maxHeartbeats 4000000 in
theorem kX12_fits (l : Launch)  (a1 : Int32) (s : St) : CN l yX12_fits cX12_fits 7 (some .int) 7 FULL (fun ad => [.ref (ad 69), .int a1]) s (fX12_fits a1 s) := by
  refine cn_of (by decide) (fun _ => (Nat.le_of_ble_eq_true rfl)) (fun X hC hR hl hN => ?_)
  subst hl
  show Zr X (QFN X (some .int)) 0 s 0 [(0, .ref (X_ad X 69)), (1, .int a1)] [] _
  rw [fX12_fits]
  refine zr_aload_n (pc := 0) (i := 0) 0 hC dX12_fits_0 rfl rfl ?_
  refine zr_iconst (pc := 1) (v := (0 : Int32)) hC dX12_fits_1 ic_0 ?_
  refine zr_putInt (pc := 2) (j := 1) hC mem_69 lay_69 rfl rfl (Nat.le_of_ble_eq_true rfl) iX12 tyX12_ok nmX12 m_1396 rfl (by decide +kernel) dX12_fits_2 ?_
  refine zr_iload_n (pc := 5) (i := 1) 1 hC dX12_fits_5 rfl rfl ?_
  refine zr_i2l (pc := 6) hC dX12_fits_6 ?_
  refine zr_lconst (pc := 7) (v := (0 : Int64)) hC dX12_fits_7 rfl ?_
  refine zr_ldc2 (pc := 8) hC dX12_fits_8 m_1780 ?_
  refine zr_callS (pc := 11) (As := fun ad => [.long (Int32.toInt64 a1), .long (0 : Int64), .long (3 : Int64)]) (st1 := []) hC (Nat.le_of_ble_eq_true rfl) (kX12_isIn _ (Int32.toInt64 a1) (0 : Int64) (3 : Int64) _) (Nat.le_of_ble_eq_true rfl) mc_yX12_isIn m_1766 m_1767 rfl rfl rfl (Nat.le_of_ble_eq_true rfl) dX12_fits_11 (fun y_2 s_2 => ?_)
  refine zr_if_ne (pc := 14) (tgt := 23) hC dX12_fits_14 (by decide) (fun c_ => ?_) (fun c_ => ?_)
  · refine zr_aload_n (pc := 17) (i := 0) 0 hC dX12_fits_17 rfl rfl ?_
    refine zr_iconst (pc := 18) (v := (1 : Int32)) hC dX12_fits_18 ic_1 ?_
    refine zr_callV (pc := 19) (As := fun ad => [.int (1 : Int32)]) (st1 := []) hC (Nat.le_of_ble_eq_true rfl) (kX12_fail _ (1 : Int32) _) (Nat.le_of_ble_eq_true rfl) mc_yX12_fail m_1606 m_1608 m_p53 mem_69 lay_69 rfl rfl rfl rfl (Nat.le_of_ble_eq_true rfl) dX12_fits_19 (fun y_10 s_10 => ?_)
    exact zr_iret (pc := 22) hC hR dX12_fits_22
  · refine zr_iconst (pc := 23) (v := (0 : Int32)) hC dX12_fits_23 ic_0 ?_
    refine zr_istore_n (pc := 24) (i := 2) (ls' := [(2, _), (0, _), (1, _)]) hC dX12_fits_24 rfl (nlt hN (Nat.le_of_ble_eq_true rfl)) rfl ?_
    refine zr_iconst (pc := 25) (v := (-1 : Int32)) hC dX12_fits_25 ic_m1 ?_
    refine zr_istore_n (pc := 26) (i := 3) (ls' := [(3, _), (2, _), (0, _), (1, _)]) hC dX12_fits_26 rfl (nlt hN (Nat.le_of_ble_eq_true rfl)) rfl ?_
    refine zr_aload_n (pc := 27) (i := 0) 2 hC dX12_fits_27 rfl rfl ?_
    refine zr_getI (pc := 28) (j := 17) hC mem_69 lay_69 rfl rfl (Nat.le_of_ble_eq_true rfl) iX12 m_1412 dX12_fits_28 ?_
    refine zr_istore (pc := 31) (ls' := [(4, _), (3, _), (2, _), (0, _), (1, _)]) hC dX12_fits_31 (nlt hN (Nat.le_of_ble_eq_true rfl)) rfl ?_
    refine zr_iconst (pc := 33) (v := (0 : Int32)) hC dX12_fits_33 ic_0 ?_
    refine zr_istore (pc := 34) (ls' := [(5, _), (4, _), (3, _), (2, _), (0, _), (1, _)]) hC dX12_fits_34 (nlt hN (Nat.le_of_ble_eq_true rfl)) rfl ?_
    refine zr_sub (ls' := [(0, _), (1, _), (2, _), (3, _), (4, _), (5, _)]) [4, 5, 3, 2, 1, 0] rfl ?_
    refine tX12_fits_L36 a1 (0 : Int32) (-1 : Int32) (s_2 69 17) _ X hC hR hN (fun s_4 => ?_) FU (0 : Int32) _
    · refine zr_iconst (pc := 61) (v := (0 : Int32)) hC dX12_fits_61 ic_0 ?_
      refine zr_istore (pc := 62) (ls' := [(5, _), (0, _), (1, _), (2, _), (3, _), (4, _)]) hC dX12_fits_62 (nlt hN (Nat.le_of_ble_eq_true rfl)) rfl ?_
      refine zr_sub (ls' := [(0, _), (1, _), (2, _), (3, _), (4, _), (5, _)]) [1, 2, 3, 4, 5, 0] rfl ?_
      refine tX12_fits_L64 a1 _ X hC hR hN (fun v2_8 v3_8 v4_8 s_8 => ?_) FU (0 : Int32) (-1 : Int32) (s_2 69 17) (0 : Int32) _
      · refine zr_iload_n (pc := 166) (i := 1) 1 hC dX12_fits_166 rfl rfl ?_
        refine zr_iconst (pc := 167) (v := (3 : Int32)) hC dX12_fits_167 ic_3 ?_
        refine zr_icmp_ge (pc := 168) (tgt := 199) hC dX12_fits_168 (by decide) (fun c_ => ?_) (fun c_ => ?_)
        · refine zr_iconst (pc := 199) (v := (-1 : Int32)) hC dX12_fits_199 ic_m1 ?_
          refine zr_istore (pc := 200) (ls' := [(5, _), (0, _), (1, _), (2, _), (3, _), (4, _)]) hC dX12_fits_200 (nlt hN (Nat.le_of_ble_eq_true rfl)) rfl ?_
          refine zr_iconst (pc := 202) (v := (0 : Int32)) hC dX12_fits_202 ic_0 ?_
          refine zr_istore (pc := 203) (ls' := [(6, _), (5, _), (0, _), (1, _), (2, _), (3, _), (4, _)]) hC dX12_fits_203 (nlt hN (Nat.le_of_ble_eq_true rfl)) rfl ?_
          refine zr_sub (ls' := [(0, _), (2, _), (5, _), (6, _)]) [2, 4, 1, 0] rfl ?_
          exact tX12_fits_L205 v2_8 X hC hR hN FU (-1 : Int32) (0 : Int32) _
        · refine zr_iload_n (pc := 171) (i := 1) 1 hC dX12_fits_171 rfl rfl ?_
          refine zr_if_ne (pc := 172) (tgt := 179) hC dX12_fits_172 (by decide) (fun c_ => ?_) (fun c_ => ?_)
          · refine zr_iload_n (pc := 175) (i := 2) 2 hC dX12_fits_175 rfl rfl ?_
            refine zr_goto (pc := 176) (tgt := 198) hC dX12_fits_176 (by decide) ?_
            exact zr_iret (pc := 198) hC hR dX12_fits_198
          · refine zr_iload_n (pc := 179) (i := 1) 1 hC dX12_fits_179 rfl rfl ?_
            refine zr_iconst (pc := 180) (v := (1 : Int32)) hC dX12_fits_180 ic_1 ?_
            refine zr_icmp_ne (pc := 181) (tgt := 188) hC dX12_fits_181 (by decide) (fun c_ => ?_) (fun c_ => ?_)
            · refine zr_iload_n (pc := 184) (i := 3) 3 hC dX12_fits_184 rfl rfl ?_
              refine zr_goto (pc := 185) (tgt := 198) hC dX12_fits_185 (by decide) ?_
              exact zr_iret (pc := 198) hC hR dX12_fits_198
            · refine zr_iload_n (pc := 188) (i := 2) 2 hC dX12_fits_188 rfl rfl ?_
              refine zr_if_ne (pc := 189) (tgt := 196) hC dX12_fits_189 (by decide) (fun c_ => ?_) (fun c_ => ?_)
              · refine zr_iconst (pc := 192) (v := (0 : Int32)) hC dX12_fits_192 ic_0 ?_
                refine zr_goto (pc := 193) (tgt := 198) hC dX12_fits_193 (by decide) ?_
                exact zr_iret (pc := 198) hC hR dX12_fits_198
              · refine zr_iload (pc := 196) 4 hC dX12_fits_196 rfl ?_
                exact zr_iret (pc := 198) hC hR dX12_fits_198
def fX12_gain_J93 (v3 : Int32) (v5 : Int32) (s : St) : Option (Int32 × St) :=
  bd (fX12_isRipe v3 s) (fun y_2 s_2 =>
    if y_2 = 0 then
    (some ((v5 + (5 : Int32)), s_2))
  else
    (some ((v5 + (0 : Int32)), s_2)))
set_option maxRecDepth 100000 in
set_option maxHeartbeats 4000000 in
theorem tX12_gain_J93 (v3 : Int32) (v5 : Int32) (X : KX) (hC : Ctx X RX12 cX12_gain FULL 2 0) (hR : RC X (some .int)) (hN : X_nL X = 6) (s : St) : Zr X (QFN X (some .int)) 0 s 93 [(0, .ref (X_ad X 69)), (3, .int v3), (5, .int v5)] [] (fX12_gain_J93 v3 v5 s) := by
  rw [fX12_gain_J93]
  refine zr_iload (pc := 93) 2 hC dX12_gain_93 rfl ?_
  refine zr_aload_n (pc := 95) (i := 0) 0 hC dX12_gain_95 rfl rfl ?_
  refine zr_iload_n (pc := 96) (i := 3) 1 hC dX12_gain_96 rfl rfl ?_
  refine zr_callV (pc := 97) (As := fun ad => [.int v3]) (st1 := [.int v5]) hC (Nat.le_of_ble_eq_true rfl) (kX12_isRipe _ v3 _) (Nat.le_of_ble_eq_true rfl) mc_yX12_isRipe m_1750 m_1752 m_p80 mem_69 lay_69 rfl rfl rfl rfl (Nat.le_of_ble_eq_true rfl) dX12_gain_97 (fun y_2 s_2 => ?_)
  refine zr_if_eq (pc := 100) (tgt := 107) hC dX12_gain_100 (by decide) (fun c_ => ?_) (fun c_ => ?_)
  · refine zr_iconst (pc := 107) (v := (5 : Int32)) hC dX12_gain_107 ic_5 ?_
    refine zr_iadd (pc := 108) hC dX12_gain_108 ?_
    exact zr_iret (pc := 109) hC hR dX12_gain_109
  · refine zr_iconst (pc := 103) (v := (0 : Int32)) hC dX12_gain_103 ic_0 ?_
    refine zr_goto (pc := 104) (tgt := 108) hC dX12_gain_104 (by decide) ?_
    refine zr_iadd (pc := 108) hC dX12_gain_108 ?_
    exact zr_iret (pc := 109) hC hR dX12_gain_109
def fX12_gain_J78 (v3 : Int32) (v4 : Int32) (q0 : Int32) (q1 : Int32) (s : St) : Option (Int32 × St) :=
  if v3 = v4 then
    (fX12_gain_J93 v3 ((q1 - q0) / (2 : Int32)) s)
  else
    (fX12_gain_J93 v3 (q1 - q0) s)
set_option maxRecDepth 100000 in
set_option maxHeartbeats 4000000 in
theorem tX12_gain_J78 (v3 : Int32) (v4 : Int32) (q0 : Int32) (q1 : Int32) (X : KX) (hC : Ctx X RX12 cX12_gain FULL 2 0) (hR : RC X (some .int)) (hN : X_nL X = 6) (s : St) : Zr X (QFN X (some .int)) 0 s 78 [(0, .ref (X_ad X 69)), (3, .int v3), (4, .int v4)] [.int q0, .int q1] (fX12_gain_J78 v3 v4 q0 q1 s) := by
  rw [fX12_gain_J78]
  refine zr_isub (pc := 78) hC dX12_gain_78 ?_
  refine zr_istore (pc := 79) (ls' := [(5, _), (0, _), (3, _), (4, _)]) hC dX12_gain_79 (nlt hN (Nat.le_of_ble_eq_true rfl)) rfl ?_
  refine zr_iload_n (pc := 81) (i := 3) 2 hC dX12_gain_81 rfl rfl ?_
  refine zr_iload (pc := 82) 3 hC dX12_gain_82 rfl ?_
  refine zr_icmp_ne (pc := 84) (tgt := 93) hC dX12_gain_84 (by decide) (fun c_ => ?_) (fun c_ => ?_)
  · refine zr_iload (pc := 87) 0 hC dX12_gain_87 rfl ?_
    refine zr_iconst (pc := 89) (v := (2 : Int32)) hC dX12_gain_89 ic_2 ?_
    refine zr_idivL (by decide) (pc := 90) hC dX12_gain_90 ?_
    refine zr_istore (pc := 91) (ls' := [(5, _), (0, _), (3, _), (4, _)]) hC dX12_gain_91 (nlt hN (Nat.le_of_ble_eq_true rfl)) rfl ?_
    refine zr_sub (ls' := [(0, _), (3, _), (5, _)]) [1, 2, 0] rfl ?_
    exact tX12_gain_J93 v3 ((q1 - q0) / (2 : Int32)) X hC hR hN  _
  · refine zr_sub (ls' := [(0, _), (3, _), (5, _)]) [1, 2, 0] rfl ?_
    exact tX12_gain_J93 v3 (q1 - q0) X hC hR hN  _
def fX12_gain_J44 (v2 : Int32) (v3 : Int32) (v4 : Int32) (q0 : Int32) (q1 : Int32) (s : St) : Option (Int32 × St) :=
  if inA v2 24 then
    (if inA v3 12 then
    (if (s 73 v2.toNatClampNeg) = (s 81 v3.toNatClampNeg) then
    (if inA (((4 : Int32) * v2) + (0 : Int32)) 96 then
    (fX12_gain_J78 v3 v4 (s 72 (((4 : Int32) * v2) + (0 : Int32)).toNatClampNeg) (q1 - q0) s) else none)
  else
    (fX12_gain_J78 v3 v4 (0 : Int32) (q1 - q0) s)) else none) else none
set_option maxRecDepth 100000 in
set_option maxHeartbeats 4000000 in
theorem tX12_gain_J44 (v2 : Int32) (v3 : Int32) (v4 : Int32) (q0 : Int32) (q1 : Int32) (X : KX) (hC : Ctx X RX12 cX12_gain FULL 2 0) (hR : RC X (some .int)) (hN : X_nL X = 6) (s : St) : Zr X (QFN X (some .int)) 0 s 44 [(0, .ref (X_ad X 69)), (2, .int v2), (3, .int v3), (4, .int v4)] [.int q0, .int q1] (fX12_gain_J44 v2 v3 v4 q0 q1 s) := by
  rw [fX12_gain_J44]
  refine zr_isub (pc := 44) hC dX12_gain_44 ?_
  refine zr_istore (pc := 45) (ls' := [(5, _), (0, _), (2, _), (3, _), (4, _)]) hC dX12_gain_45 (nlt hN (Nat.le_of_ble_eq_true rfl)) rfl ?_
  refine zr_iload (pc := 47) 0 hC dX12_gain_47 rfl ?_
  refine zr_aload_n (pc := 49) (i := 0) 1 hC dX12_gain_49 rfl rfl ?_
  refine zr_getR (pc := 50) (j := 4) (k1 := 73) hC mem_69 lay_69 rfl rfl (Nat.le_of_ble_eq_true rfl) iX12 m_1399 dX12_gain_50 ?_
  refine zr_iload_n (pc := 53) (i := 2) 2 hC dX12_gain_53 rfl rfl ?_
  refine zr_iald (pc := 54) hC mem_73 lay_73 dX12_gain_54 ?_
  refine zr_aload_n (pc := 55) (i := 0) 1 hC dX12_gain_55 rfl rfl ?_
  refine zr_getR (pc := 56) (j := 12) (k1 := 81) hC mem_69 lay_69 rfl rfl (Nat.le_of_ble_eq_true rfl) iX12 m_1407 dX12_gain_56 ?_
  refine zr_iload_n (pc := 59) (i := 3) 3 hC dX12_gain_59 rfl rfl ?_
  refine zr_iald (pc := 60) hC mem_81 lay_81 dX12_gain_60 ?_
  refine zr_icmp_ne (pc := 61) (tgt := 77) hC dX12_gain_61 (by decide) (fun c_ => ?_) (fun c_ => ?_)
  · refine zr_aload_n (pc := 64) (i := 0) 1 hC dX12_gain_64 rfl rfl ?_
    refine zr_getR (pc := 65) (j := 3) (k1 := 72) hC mem_69 lay_69 rfl rfl (Nat.le_of_ble_eq_true rfl) iX12 m_1398 dX12_gain_65 ?_
    refine zr_iconst (pc := 68) (v := (4 : Int32)) hC dX12_gain_68 ic_4 ?_
    refine zr_iload_n (pc := 69) (i := 2) 2 hC dX12_gain_69 rfl rfl ?_
    refine zr_imul (pc := 70) hC dX12_gain_70 ?_
    refine zr_iconst (pc := 71) (v := (0 : Int32)) hC dX12_gain_71 ic_0 ?_
    refine zr_iadd (pc := 72) hC dX12_gain_72 ?_
    refine zr_iald (pc := 73) hC mem_72 lay_72 dX12_gain_73 ?_
    refine zr_goto (pc := 74) (tgt := 78) hC dX12_gain_74 (by decide) ?_
    refine zr_sub (ls' := [(0, _), (3, _), (4, _)]) [1, 3, 4] rfl ?_
    exact tX12_gain_J78 v3 v4 (s 72 (((4 : Int32) * v2) + (0 : Int32)).toNatClampNeg) (q1 - q0) X hC hR hN  _
  · refine zr_iconst (pc := 77) (v := (0 : Int32)) hC dX12_gain_77 ic_0 ?_
    refine zr_sub (ls' := [(0, _), (3, _), (4, _)]) [1, 3, 4] rfl ?_
    exact tX12_gain_J78 v3 v4 (0 : Int32) (q1 - q0) X hC hR hN  _
def fX12_gain (a1 : Int32) (a2 : Int32) (a3 : Int32) (a4 : Int32) (s : St) : Option (Int32 × St) :=
  if inA a3 12 then
    (bd (fX12_partAt (s 81 a3.toNatClampNeg) (0 : Int32) s) (fun y_1 s_1 =>
    if inA a1 24 then
    (if inA a3 12 then
    (if (s_1 73 a1.toNatClampNeg) = (s_1 81 a3.toNatClampNeg) then
    (if inA (((4 : Int32) * a1) + (0 : Int32)) 96 then
    (fX12_gain_J44 a2 a3 a4 (s_1 72 (((4 : Int32) * a1) + (0 : Int32)).toNatClampNeg) y_1 s_1) else none)
  else
    (fX12_gain_J44 a2 a3 a4 (0 : Int32) y_1 s_1)) else none) else none)) else none
set_option maxRecDepth 100000 in
set_option maxHeartbeats 4000000 in
theorem kX12_gain (l : Launch)  (a1 : Int32) (a2 : Int32) (a3 : Int32) (a4 : Int32) (s : St) : CN l yX12_gain cX12_gain 6 (some .int) 2 FULL (fun ad => [.ref (ad 69), .int a1, .int a2, .int a3, .int a4]) s (fX12_gain a1 a2 a3 a4 s) := by
  refine cn_of (by decide) (fun _ => (Nat.le_of_ble_eq_true rfl)) (fun X hC hR hl hN => ?_)
  subst hl
  show Zr X (QFN X (some .int)) 0 s 0 [(0, .ref (X_ad X 69)), (1, .int a1), (2, .int a2), (3, .int a3), (4, .int a4)] [] _
  rw [fX12_gain]
  refine zr_aload_n (pc := 0) (i := 0) 0 hC dX12_gain_0 rfl rfl ?_
  refine zr_aload_n (pc := 1) (i := 0) 0 hC dX12_gain_1 rfl rfl ?_
  refine zr_getR (pc := 2) (j := 12) (k1 := 81) hC mem_69 lay_69 rfl rfl (Nat.le_of_ble_eq_true rfl) iX12 m_1407 dX12_gain_2 ?_
  refine zr_iload_n (pc := 5) (i := 3) 3 hC dX12_gain_5 rfl rfl ?_
  refine zr_iald (pc := 6) hC mem_81 lay_81 dX12_gain_6 ?_
  refine zr_iconst (pc := 7) (v := (0 : Int32)) hC dX12_gain_7 ic_0 ?_
  refine zr_callV (pc := 8) (As := fun ad => [.int (s 81 a3.toNatClampNeg), .int (0 : Int32)]) (st1 := []) hC (Nat.le_of_ble_eq_true rfl) (kX12_partAt _ (s 81 a3.toNatClampNeg) (0 : Int32) _) (Nat.le_of_ble_eq_true rfl) mc_yX12_partAt m_1787 m_1789 m_p84 mem_69 lay_69 rfl rfl rfl rfl (Nat.le_of_ble_eq_true rfl) dX12_gain_8 (fun y_1 s_1 => ?_)
  refine zr_istore (pc := 11) (ls' := [(5, _), (0, _), (1, _), (2, _), (3, _), (4, _)]) hC dX12_gain_11 (nlt hN (Nat.le_of_ble_eq_true rfl)) rfl ?_
  refine zr_iload (pc := 13) 0 hC dX12_gain_13 rfl ?_
  refine zr_aload_n (pc := 15) (i := 0) 1 hC dX12_gain_15 rfl rfl ?_
  refine zr_getR (pc := 16) (j := 4) (k1 := 73) hC mem_69 lay_69 rfl rfl (Nat.le_of_ble_eq_true rfl) iX12 m_1399 dX12_gain_16 ?_
  refine zr_iload_n (pc := 19) (i := 1) 2 hC dX12_gain_19 rfl rfl ?_
  refine zr_iald (pc := 20) hC mem_73 lay_73 dX12_gain_20 ?_
  refine zr_aload_n (pc := 21) (i := 0) 1 hC dX12_gain_21 rfl rfl ?_
  refine zr_getR (pc := 22) (j := 12) (k1 := 81) hC mem_69 lay_69 rfl rfl (Nat.le_of_ble_eq_true rfl) iX12 m_1407 dX12_gain_22 ?_
  refine zr_iload_n (pc := 25) (i := 3) 4 hC dX12_gain_25 rfl rfl ?_
  refine zr_iald (pc := 26) hC mem_81 lay_81 dX12_gain_26 ?_
  refine zr_icmp_ne (pc := 27) (tgt := 43) hC dX12_gain_27 (by decide) (fun c_ => ?_) (fun c_ => ?_)
  · refine zr_aload_n (pc := 30) (i := 0) 1 hC dX12_gain_30 rfl rfl ?_
    refine zr_getR (pc := 31) (j := 3) (k1 := 72) hC mem_69 lay_69 rfl rfl (Nat.le_of_ble_eq_true rfl) iX12 m_1398 dX12_gain_31 ?_
    refine zr_iconst (pc := 34) (v := (4 : Int32)) hC dX12_gain_34 ic_4 ?_
    refine zr_iload_n (pc := 35) (i := 1) 2 hC dX12_gain_35 rfl rfl ?_
    refine zr_imul (pc := 36) hC dX12_gain_36 ?_
    refine zr_iconst (pc := 37) (v := (0 : Int32)) hC dX12_gain_37 ic_0 ?_
    refine zr_iadd (pc := 38) hC dX12_gain_38 ?_
    refine zr_iald (pc := 39) hC mem_72 lay_72 dX12_gain_39 ?_
    refine zr_goto (pc := 40) (tgt := 44) hC dX12_gain_40 (by decide) ?_
    refine zr_sub (ls' := [(0, _), (2, _), (3, _), (4, _)]) [1, 3, 4, 5] rfl ?_
    exact tX12_gain_J44 a2 a3 a4 (s_1 72 (((4 : Int32) * a1) + (0 : Int32)).toNatClampNeg) y_1 X hC hR hN  _
  · refine zr_iconst (pc := 43) (v := (0 : Int32)) hC dX12_gain_43 ic_0 ?_
    refine zr_sub (ls' := [(0, _), (2, _), (3, _), (4, _)]) [1, 3, 4, 5] rfl ?_
    exact tX12_gain_J44 a2 a3 a4 (0 : Int32) y_1 X hC hR hN  _
def fX12_suitors_L103 (k178 : Int32 → St → Option (Int32 × St)) (c1 : Int32) (c2 : Int32) (c3 : Int32) (c4 : Int32) (c5 : Int32) (c6 : Int32) (c7 : Int32) : Nat → Int32 → Int32 → St → Option (Int32 × St)
  | 0, _, _, _ => none
  | n + 1, v8, v9, s =>
    if inA (2 : Int32) 10 then
    (if (s 71 (2 : Int32).toNatClampNeg) ≤ v9 then
    (k178 v8 s)
  else
    (if v8 = 0 then
    (fX12_suitors_L103 k178 c1 c2 c3 c4 c5 c6 c7 n (0 : Int32) (v9 + (1 : Int32)) s)
  else
    (bd (fX12_gain c1 c2 v9 c7 s) (fun y_11 s_11 =>
    bd (fX12_gain c1 c2 c6 c7 s_11) (fun y_12 s_12 =>
    if y_12 < y_11 then
    (fX12_suitors_L103 k178 c1 c2 c3 c4 c5 c6 c7 n (0 : Int32) (v9 + (1 : Int32)) s_12)
  else
    (bd (fX12_gain c1 c2 v9 c6 s_12) (fun y_13 s_13 =>
    bd (fX12_gain c1 c2 c7 c6 s_13) (fun y_14 s_14 =>
    if y_14 < y_13 then
    (fX12_suitors_L103 k178 c1 c2 c3 c4 c5 c6 c7 n (0 : Int32) (v9 + (1 : Int32)) s_14)
  else
    (fX12_suitors_L103 k178 c1 c2 c3 c4 c5 c6 c7 n (1 : Int32) (v9 + (1 : Int32)) s_14))))))))) else none
set_option maxRecDepth 100000 in
set_option maxHeartbeats 4000000 in
theorem tX12_suitors_L103 (c1 : Int32) (c2 : Int32) (c3 : Int32) (c4 : Int32) (c5 : Int32) (c6 : Int32) (c7 : Int32) (k178 : Int32 → St → Option (Int32 × St)) (X : KX) (hC : Ctx X RX12 cX12_suitors FULL 3 0) (hR : RC X (some .int)) (hN : X_nL X = 10) (hk178 : ∀ (v8 : Int32) (s : St), Zr X (QFN X (some .int)) 0 s 178 [(0, .ref (X_ad X 69)), (1, .int c1), (2, .int c2), (3, .int c3), (4, .int c4), (5, .int c5), (6, .int c6), (7, .int c7), (8, .int v8)] [] (k178 v8 s)) : ∀ (n : Nat) (v8 : Int32) (v9 : Int32) (s : St), Zr X (QFN X (some .int)) 0 s 103 [(0, .ref (X_ad X 69)), (1, .int c1), (2, .int c2), (3, .int c3), (4, .int c4), (5, .int c5), (6, .int c6), (7, .int c7), (8, .int v8), (9, .int v9)] [] (fX12_suitors_L103 k178 c1 c2 c3 c4 c5 c6 c7 n v8 v9 s) := by
  intro n
  induction n with
  | zero =>
    intro v8 v9 s
    exact zr_none
  | succ n ih =>
    intro v8 v9 s
    rw [fX12_suitors_L103]
    refine zr_iload (pc := 103) 9 hC dX12_suitors_103 rfl ?_
    refine zr_aload_n (pc := 105) (i := 0) 0 hC dX12_suitors_105 rfl rfl ?_
    refine zr_getR (pc := 106) (j := 2) (k1 := 71) hC mem_69 lay_69 rfl rfl (Nat.le_of_ble_eq_true rfl) iX12 m_1397 dX12_suitors_106 ?_
    refine zr_iconst (pc := 109) (v := (2 : Int32)) hC dX12_suitors_109 ic_2 ?_
    refine zr_iald (pc := 110) hC mem_71 lay_71 dX12_suitors_110 ?_
    refine zr_icmp_ge (pc := 111) (tgt := 178) hC dX12_suitors_111 (by decide) (fun c_ => ?_) (fun c_ => ?_)
    · refine zr_sub (ls' := [(0, _), (1, _), (2, _), (3, _), (4, _), (5, _), (6, _), (7, _), (8, _)]) [0, 1, 2, 3, 4, 5, 6, 7, 8] rfl ?_
      exact hk178 v8 s
    · refine zr_iload (pc := 114) 8 hC dX12_suitors_114 rfl ?_
      refine zr_if_eq (pc := 116) (tgt := 169) hC dX12_suitors_116 (by decide) (fun c_ => ?_) (fun c_ => ?_)
      · refine zr_iconst (pc := 169) (v := (0 : Int32)) hC dX12_suitors_169 ic_0 ?_
        refine zr_istore (pc := 170) (ls' := [(8, _), (0, _), (1, _), (2, _), (3, _), (4, _), (5, _), (6, _), (7, _), (9, _)]) hC dX12_suitors_170 (nlt hN (Nat.le_of_ble_eq_true rfl)) rfl ?_
        refine zr_iinc (pc := 172) (q := 9) (ls' := [(9, _), (8, _), (0, _), (1, _), (2, _), (3, _), (4, _), (5, _), (6, _), (7, _)]) hC dX12_suitors_172 rfl (inc_1 _) (nlt hN (Nat.le_of_ble_eq_true rfl)) rfl ?_
        refine zr_goto (pc := 175) (tgt := 103) hC dX12_suitors_175 (by decide) ?_
        refine zr_sub (ls' := [(0, _), (1, _), (2, _), (3, _), (4, _), (5, _), (6, _), (7, _), (8, _), (9, _)]) [2, 3, 4, 5, 6, 7, 8, 9, 1, 0] rfl ?_
        exact ih (0 : Int32) (v9 + (1 : Int32)) s
      · refine zr_aload_n (pc := 119) (i := 0) 0 hC dX12_suitors_119 rfl rfl ?_
        refine zr_iload_n (pc := 120) (i := 1) 1 hC dX12_suitors_120 rfl rfl ?_
        refine zr_iload_n (pc := 121) (i := 2) 2 hC dX12_suitors_121 rfl rfl ?_
        refine zr_iload (pc := 122) 9 hC dX12_suitors_122 rfl ?_
        refine zr_iload (pc := 124) 7 hC dX12_suitors_124 rfl ?_
        refine zr_callV (pc := 126) (As := fun ad => [.int c1, .int c2, .int v9, .int c7]) (st1 := []) hC (Nat.le_of_ble_eq_true rfl) (kX12_gain _ c1 c2 v9 c7 _) (Nat.le_of_ble_eq_true rfl) mc_yX12_gain m_1979 m_1981 m_p108 mem_69 lay_69 rfl rfl rfl rfl (Nat.le_of_ble_eq_true rfl) dX12_suitors_126 (fun y_11 s_11 => ?_)
        refine zr_aload_n (pc := 129) (i := 0) 0 hC dX12_suitors_129 rfl rfl ?_
        refine zr_iload_n (pc := 130) (i := 1) 1 hC dX12_suitors_130 rfl rfl ?_
        refine zr_iload_n (pc := 131) (i := 2) 2 hC dX12_suitors_131 rfl rfl ?_
        refine zr_iload (pc := 132) 6 hC dX12_suitors_132 rfl ?_
        refine zr_iload (pc := 134) 7 hC dX12_suitors_134 rfl ?_
        refine zr_callV (pc := 136) (As := fun ad => [.int c1, .int c2, .int c6, .int c7]) (st1 := [.int y_11]) hC (Nat.le_of_ble_eq_true rfl) (kX12_gain _ c1 c2 c6 c7 _) (Nat.le_of_ble_eq_true rfl) mc_yX12_gain m_1979 m_1981 m_p108 mem_69 lay_69 rfl rfl rfl rfl (Nat.le_of_ble_eq_true rfl) dX12_suitors_136 (fun y_12 s_12 => ?_)
        refine zr_icmp_gt (pc := 139) (tgt := 169) hC dX12_suitors_139 (by decide) (fun c_ => ?_) (fun c_ => ?_)
        · refine zr_iconst (pc := 169) (v := (0 : Int32)) hC dX12_suitors_169 ic_0 ?_
          refine zr_istore (pc := 170) (ls' := [(8, _), (0, _), (1, _), (2, _), (3, _), (4, _), (5, _), (6, _), (7, _), (9, _)]) hC dX12_suitors_170 (nlt hN (Nat.le_of_ble_eq_true rfl)) rfl ?_
          refine zr_iinc (pc := 172) (q := 9) (ls' := [(9, _), (8, _), (0, _), (1, _), (2, _), (3, _), (4, _), (5, _), (6, _), (7, _)]) hC dX12_suitors_172 rfl (inc_1 _) (nlt hN (Nat.le_of_ble_eq_true rfl)) rfl ?_
          refine zr_goto (pc := 175) (tgt := 103) hC dX12_suitors_175 (by decide) ?_
          refine zr_sub (ls' := [(0, _), (1, _), (2, _), (3, _), (4, _), (5, _), (6, _), (7, _), (8, _), (9, _)]) [2, 3, 4, 5, 6, 7, 8, 9, 1, 0] rfl ?_
          exact ih (0 : Int32) (v9 + (1 : Int32)) s_12
        · refine zr_aload_n (pc := 142) (i := 0) 0 hC dX12_suitors_142 rfl rfl ?_
          refine zr_iload_n (pc := 143) (i := 1) 1 hC dX12_suitors_143 rfl rfl ?_
          refine zr_iload_n (pc := 144) (i := 2) 2 hC dX12_suitors_144 rfl rfl ?_
          refine zr_iload (pc := 145) 9 hC dX12_suitors_145 rfl ?_
          refine zr_iload (pc := 147) 6 hC dX12_suitors_147 rfl ?_
          refine zr_callV (pc := 149) (As := fun ad => [.int c1, .int c2, .int v9, .int c6]) (st1 := []) hC (Nat.le_of_ble_eq_true rfl) (kX12_gain _ c1 c2 v9 c6 _) (Nat.le_of_ble_eq_true rfl) mc_yX12_gain m_1979 m_1981 m_p108 mem_69 lay_69 rfl rfl rfl rfl (Nat.le_of_ble_eq_true rfl) dX12_suitors_149 (fun y_13 s_13 => ?_)
          refine zr_aload_n (pc := 152) (i := 0) 0 hC dX12_suitors_152 rfl rfl ?_
          refine zr_iload_n (pc := 153) (i := 1) 1 hC dX12_suitors_153 rfl rfl ?_
          refine zr_iload_n (pc := 154) (i := 2) 2 hC dX12_suitors_154 rfl rfl ?_
          refine zr_iload (pc := 155) 7 hC dX12_suitors_155 rfl ?_
          refine zr_iload (pc := 157) 6 hC dX12_suitors_157 rfl ?_
          refine zr_callV (pc := 159) (As := fun ad => [.int c1, .int c2, .int c7, .int c6]) (st1 := [.int y_13]) hC (Nat.le_of_ble_eq_true rfl) (kX12_gain _ c1 c2 c7 c6 _) (Nat.le_of_ble_eq_true rfl) mc_yX12_gain m_1979 m_1981 m_p108 mem_69 lay_69 rfl rfl rfl rfl (Nat.le_of_ble_eq_true rfl) dX12_suitors_159 (fun y_14 s_14 => ?_)
          refine zr_icmp_gt (pc := 162) (tgt := 169) hC dX12_suitors_162 (by decide) (fun c_ => ?_) (fun c_ => ?_)
          · refine zr_iconst (pc := 169) (v := (0 : Int32)) hC dX12_suitors_169 ic_0 ?_
            refine zr_istore (pc := 170) (ls' := [(8, _), (0, _), (1, _), (2, _), (3, _), (4, _), (5, _), (6, _), (7, _), (9, _)]) hC dX12_suitors_170 (nlt hN (Nat.le_of_ble_eq_true rfl)) rfl ?_
            refine zr_iinc (pc := 172) (q := 9) (ls' := [(9, _), (8, _), (0, _), (1, _), (2, _), (3, _), (4, _), (5, _), (6, _), (7, _)]) hC dX12_suitors_172 rfl (inc_1 _) (nlt hN (Nat.le_of_ble_eq_true rfl)) rfl ?_
            refine zr_goto (pc := 175) (tgt := 103) hC dX12_suitors_175 (by decide) ?_
            refine zr_sub (ls' := [(0, _), (1, _), (2, _), (3, _), (4, _), (5, _), (6, _), (7, _), (8, _), (9, _)]) [2, 3, 4, 5, 6, 7, 8, 9, 1, 0] rfl ?_
            exact ih (0 : Int32) (v9 + (1 : Int32)) s_14
          · refine zr_iconst (pc := 165) (v := (1 : Int32)) hC dX12_suitors_165 ic_1 ?_
            refine zr_goto (pc := 166) (tgt := 170) hC dX12_suitors_166 (by decide) ?_
            refine zr_istore (pc := 170) (ls' := [(8, _), (0, _), (1, _), (2, _), (3, _), (4, _), (5, _), (6, _), (7, _), (9, _)]) hC dX12_suitors_170 (nlt hN (Nat.le_of_ble_eq_true rfl)) rfl ?_
            refine zr_iinc (pc := 172) (q := 9) (ls' := [(9, _), (8, _), (0, _), (1, _), (2, _), (3, _), (4, _), (5, _), (6, _), (7, _)]) hC dX12_suitors_172 rfl (inc_1 _) (nlt hN (Nat.le_of_ble_eq_true rfl)) rfl ?_
            refine zr_goto (pc := 175) (tgt := 103) hC dX12_suitors_175 (by decide) ?_
            refine zr_sub (ls' := [(0, _), (1, _), (2, _), (3, _), (4, _), (5, _), (6, _), (7, _), (8, _), (9, _)]) [2, 3, 4, 5, 6, 7, 8, 9, 1, 0] rfl ?_
            exact ih (1 : Int32) (v9 + (1 : Int32)) s_14
def fX12_suitors_L86 (k216 : Int32 → Int32 → St → Option (Int32 × St)) (c1 : Int32) (c2 : Int32) (c3 : Int32) (c6 : Int32) : Nat → Int32 → Int32 → Int32 → St → Option (Int32 × St)
  | 0, _, _, _, _ => none
  | n + 1, v4, v5, v7, s =>
    if inA (2 : Int32) 10 then
    (if (s 71 (2 : Int32).toNatClampNeg) ≤ v7 then
    (k216 v4 v5 s)
  else
    (fX12_suitors_L103 (fun v8_15 s_15 => if v8_15 = 0 then
    (fX12_suitors_L86 k216 c1 c2 c3 c6 n v4 v5 (v7 + (1 : Int32)) s_15)
  else
    (if v5 = (-1 : Int32) then
    (fX12_suitors_L86 k216 c1 c2 c3 c6 n (v4 + (1 : Int32)) (((10 : Int32) * c6) + v7) (v7 + (1 : Int32)) s_15)
  else
    (fX12_suitors_L86 k216 c1 c2 c3 c6 n (v4 + (1 : Int32)) v5 (v7 + (1 : Int32)) s_15))) c1 c2 c3 v4 v5 c6 v7 FU (1 : Int32) (0 : Int32) s)) else none
set_option maxRecDepth 100000 in
set_option maxHeartbeats 4000000 in
theorem tX12_suitors_L86 (c1 : Int32) (c2 : Int32) (c3 : Int32) (c6 : Int32) (k216 : Int32 → Int32 → St → Option (Int32 × St)) (X : KX) (hC : Ctx X RX12 cX12_suitors FULL 3 0) (hR : RC X (some .int)) (hN : X_nL X = 10) (hk216 : ∀ (v4 : Int32) (v5 : Int32) (s : St), Zr X (QFN X (some .int)) 0 s 216 [(0, .ref (X_ad X 69)), (1, .int c1), (2, .int c2), (3, .int c3), (4, .int v4), (5, .int v5), (6, .int c6)] [] (k216 v4 v5 s)) : ∀ (n : Nat) (v4 : Int32) (v5 : Int32) (v7 : Int32) (s : St), Zr X (QFN X (some .int)) 0 s 86 [(0, .ref (X_ad X 69)), (1, .int c1), (2, .int c2), (3, .int c3), (4, .int v4), (5, .int v5), (6, .int c6), (7, .int v7)] [] (fX12_suitors_L86 k216 c1 c2 c3 c6 n v4 v5 v7 s) := by
  intro n
  induction n with
  | zero =>
    intro v4 v5 v7 s
    exact zr_none
  | succ n ih =>
    intro v4 v5 v7 s
    rw [fX12_suitors_L86]
    refine zr_iload (pc := 86) 7 hC dX12_suitors_86 rfl ?_
    refine zr_aload_n (pc := 88) (i := 0) 0 hC dX12_suitors_88 rfl rfl ?_
    refine zr_getR (pc := 89) (j := 2) (k1 := 71) hC mem_69 lay_69 rfl rfl (Nat.le_of_ble_eq_true rfl) iX12 m_1397 dX12_suitors_89 ?_
    refine zr_iconst (pc := 92) (v := (2 : Int32)) hC dX12_suitors_92 ic_2 ?_
    refine zr_iald (pc := 93) hC mem_71 lay_71 dX12_suitors_93 ?_
    refine zr_icmp_ge (pc := 94) (tgt := 216) hC dX12_suitors_94 (by decide) (fun c_ => ?_) (fun c_ => ?_)
    · refine zr_sub (ls' := [(0, _), (1, _), (2, _), (3, _), (4, _), (5, _), (6, _)]) [0, 1, 2, 3, 4, 5, 6] rfl ?_
      exact hk216 v4 v5 s
    · refine zr_iconst (pc := 97) (v := (1 : Int32)) hC dX12_suitors_97 ic_1 ?_
      refine zr_istore (pc := 98) (ls' := [(8, _), (0, _), (1, _), (2, _), (3, _), (4, _), (5, _), (6, _), (7, _)]) hC dX12_suitors_98 (nlt hN (Nat.le_of_ble_eq_true rfl)) rfl ?_
      refine zr_iconst (pc := 100) (v := (0 : Int32)) hC dX12_suitors_100 ic_0 ?_
      refine zr_istore (pc := 101) (ls' := [(9, _), (8, _), (0, _), (1, _), (2, _), (3, _), (4, _), (5, _), (6, _), (7, _)]) hC dX12_suitors_101 (nlt hN (Nat.le_of_ble_eq_true rfl)) rfl ?_
      refine zr_sub (ls' := [(0, _), (1, _), (2, _), (3, _), (4, _), (5, _), (6, _), (7, _), (8, _), (9, _)]) [2, 3, 4, 5, 6, 7, 8, 9, 1, 0] rfl ?_
      refine tX12_suitors_L103 c1 c2 c3 v4 v5 c6 v7 _ X hC hR hN (fun v8_15 s_15 => ?_) FU (1 : Int32) (0 : Int32) _
      · refine zr_iload (pc := 178) 8 hC dX12_suitors_178 rfl ?_
        refine zr_if_ne (pc := 180) (tgt := 186) hC dX12_suitors_180 (by decide) (fun c_ => ?_) (fun c_ => ?_)
        · refine zr_goto (pc := 183) (tgt := 210) hC dX12_suitors_183 (by decide) ?_
          refine zr_iinc (pc := 210) (q := 7) (ls' := [(7, _), (0, _), (1, _), (2, _), (3, _), (4, _), (5, _), (6, _), (8, _)]) hC dX12_suitors_210 rfl (inc_1 _) (nlt hN (Nat.le_of_ble_eq_true rfl)) rfl ?_
          refine zr_goto (pc := 213) (tgt := 86) hC dX12_suitors_213 (by decide) ?_
          refine zr_sub (ls' := [(0, _), (1, _), (2, _), (3, _), (4, _), (5, _), (6, _), (7, _)]) [1, 2, 3, 4, 5, 6, 7, 0] rfl ?_
          exact ih v4 v5 (v7 + (1 : Int32)) s_15
        · refine zr_iinc (pc := 186) (q := 4) (ls' := [(4, _), (0, _), (1, _), (2, _), (3, _), (5, _), (6, _), (7, _), (8, _)]) hC dX12_suitors_186 rfl (inc_1 _) (nlt hN (Nat.le_of_ble_eq_true rfl)) rfl ?_
          refine zr_iload (pc := 189) 5 hC dX12_suitors_189 rfl ?_
          refine zr_iconst (pc := 191) (v := (-1 : Int32)) hC dX12_suitors_191 ic_m1 ?_
          refine zr_icmp_ne (pc := 192) (tgt := 206) hC dX12_suitors_192 (by decide) (fun c_ => ?_) (fun c_ => ?_)
          · refine zr_bipush (pc := 195) (v := (10 : Int32)) hC dX12_suitors_195 bi_10 ?_
            refine zr_iload (pc := 197) 6 hC dX12_suitors_197 rfl ?_
            refine zr_imul (pc := 199) hC dX12_suitors_199 ?_
            refine zr_iload (pc := 200) 7 hC dX12_suitors_200 rfl ?_
            refine zr_iadd (pc := 202) hC dX12_suitors_202 ?_
            refine zr_goto (pc := 203) (tgt := 208) hC dX12_suitors_203 (by decide) ?_
            refine zr_istore (pc := 208) (ls' := [(5, _), (4, _), (0, _), (1, _), (2, _), (3, _), (6, _), (7, _), (8, _)]) hC dX12_suitors_208 (nlt hN (Nat.le_of_ble_eq_true rfl)) rfl ?_
            refine zr_iinc (pc := 210) (q := 7) (ls' := [(7, _), (5, _), (4, _), (0, _), (1, _), (2, _), (3, _), (6, _), (8, _)]) hC dX12_suitors_210 rfl (inc_1 _) (nlt hN (Nat.le_of_ble_eq_true rfl)) rfl ?_
            refine zr_goto (pc := 213) (tgt := 86) hC dX12_suitors_213 (by decide) ?_
            refine zr_sub (ls' := [(0, _), (1, _), (2, _), (3, _), (4, _), (5, _), (6, _), (7, _)]) [3, 4, 5, 6, 2, 1, 7, 0] rfl ?_
            exact ih (v4 + (1 : Int32)) (((10 : Int32) * c6) + v7) (v7 + (1 : Int32)) s_15
          · refine zr_iload (pc := 206) 5 hC dX12_suitors_206 rfl ?_
            refine zr_istore (pc := 208) (ls' := [(5, _), (4, _), (0, _), (1, _), (2, _), (3, _), (6, _), (7, _), (8, _)]) hC dX12_suitors_208 (nlt hN (Nat.le_of_ble_eq_true rfl)) rfl ?_
            refine zr_iinc (pc := 210) (q := 7) (ls' := [(7, _), (5, _), (4, _), (0, _), (1, _), (2, _), (3, _), (6, _), (8, _)]) hC dX12_suitors_210 rfl (inc_1 _) (nlt hN (Nat.le_of_ble_eq_true rfl)) rfl ?_
            refine zr_goto (pc := 213) (tgt := 86) hC dX12_suitors_213 (by decide) ?_
            refine zr_sub (ls' := [(0, _), (1, _), (2, _), (3, _), (4, _), (5, _), (6, _), (7, _)]) [3, 4, 5, 6, 2, 1, 7, 0] rfl ?_
            exact ih (v4 + (1 : Int32)) v5 (v7 + (1 : Int32)) s_15
def fX12_suitors_L72 (k222 : Int32 → Int32 → St → Option (Int32 × St)) (c1 : Int32) (c2 : Int32) (c3 : Int32) : Nat → Int32 → Int32 → Int32 → St → Option (Int32 × St)
  | 0, _, _, _, _ => none
  | n + 1, v4, v5, v6, s =>
    if inA (2 : Int32) 10 then
    (if (s 71 (2 : Int32).toNatClampNeg) ≤ v6 then
    (k222 v4 v5 s)
  else
    (fX12_suitors_L86 (fun v4_16 v5_16 s_16 => fX12_suitors_L72 k222 c1 c2 c3 n v4_16 v5_16 (v6 + (1 : Int32)) s_16) c1 c2 c3 v6 FU v4 v5 (0 : Int32) s)) else none
set_option maxRecDepth 100000 in
set_option maxHeartbeats 4000000 in
theorem tX12_suitors_L72 (c1 : Int32) (c2 : Int32) (c3 : Int32) (k222 : Int32 → Int32 → St → Option (Int32 × St)) (X : KX) (hC : Ctx X RX12 cX12_suitors FULL 3 0) (hR : RC X (some .int)) (hN : X_nL X = 10) (hk222 : ∀ (v4 : Int32) (v5 : Int32) (s : St), Zr X (QFN X (some .int)) 0 s 222 [(3, .int c3), (4, .int v4), (5, .int v5)] [] (k222 v4 v5 s)) : ∀ (n : Nat) (v4 : Int32) (v5 : Int32) (v6 : Int32) (s : St), Zr X (QFN X (some .int)) 0 s 72 [(0, .ref (X_ad X 69)), (1, .int c1), (2, .int c2), (3, .int c3), (4, .int v4), (5, .int v5), (6, .int v6)] [] (fX12_suitors_L72 k222 c1 c2 c3 n v4 v5 v6 s) := by
  intro n
  induction n with
  | zero =>
    intro v4 v5 v6 s
    exact zr_none
  | succ n ih =>
    intro v4 v5 v6 s
    rw [fX12_suitors_L72]
    refine zr_iload (pc := 72) 6 hC dX12_suitors_72 rfl ?_
    refine zr_aload_n (pc := 74) (i := 0) 0 hC dX12_suitors_74 rfl rfl ?_
    refine zr_getR (pc := 75) (j := 2) (k1 := 71) hC mem_69 lay_69 rfl rfl (Nat.le_of_ble_eq_true rfl) iX12 m_1397 dX12_suitors_75 ?_
    refine zr_iconst (pc := 78) (v := (2 : Int32)) hC dX12_suitors_78 ic_2 ?_
    refine zr_iald (pc := 79) hC mem_71 lay_71 dX12_suitors_79 ?_
    refine zr_icmp_ge (pc := 80) (tgt := 222) hC dX12_suitors_80 (by decide) (fun c_ => ?_) (fun c_ => ?_)
    · refine zr_sub (ls' := [(3, _), (4, _), (5, _)]) [3, 4, 5] rfl ?_
      exact hk222 v4 v5 s
    · refine zr_iconst (pc := 83) (v := (0 : Int32)) hC dX12_suitors_83 ic_0 ?_
      refine zr_istore (pc := 84) (ls' := [(7, _), (0, _), (1, _), (2, _), (3, _), (4, _), (5, _), (6, _)]) hC dX12_suitors_84 (nlt hN (Nat.le_of_ble_eq_true rfl)) rfl ?_
      refine zr_sub (ls' := [(0, _), (1, _), (2, _), (3, _), (4, _), (5, _), (6, _), (7, _)]) [1, 2, 3, 4, 5, 6, 7, 0] rfl ?_
      refine tX12_suitors_L86 c1 c2 c3 v6 _ X hC hR hN (fun v4_16 v5_16 s_16 => ?_) FU v4 v5 (0 : Int32) _
      · refine zr_iinc (pc := 216) (q := 6) (ls' := [(6, _), (0, _), (1, _), (2, _), (3, _), (4, _), (5, _)]) hC dX12_suitors_216 rfl (inc_1 _) (nlt hN (Nat.le_of_ble_eq_true rfl)) rfl ?_
        refine zr_goto (pc := 219) (tgt := 72) hC dX12_suitors_219 (by decide) ?_
        refine zr_sub (ls' := [(0, _), (1, _), (2, _), (3, _), (4, _), (5, _), (6, _)]) [1, 2, 3, 4, 5, 6, 0] rfl ?_
        exact ih v4_16 v5_16 (v6 + (1 : Int32)) s_16
def fX12_suitors (a1 : Int32) (a2 : Int32) (a3 : Int32) (s : St) : Option (Int32 × St) :=
  let s_1 := wr s 69 1 (0 : Int32);
    bd (fX12_isPerson a1 s_1) (fun y_2 s_2 =>
    if y_2 = 0 then
    (bd (fX12_fail (1 : Int32) s_2) (fun y_3 s_3 =>
    some (y_3, s_3)))
  else
    (bd (fX12_isPerson a2 s_2) (fun y_4 s_4 =>
    if y_4 = 0 then
    (bd (fX12_fail (1 : Int32) s_4) (fun y_5 s_5 =>
    some (y_5, s_5)))
  else
    (if a3 < 0 then
    (bd (fX12_fail (1 : Int32) s_4) (fun y_6 s_6 =>
    some (y_6, s_6)))
  else
    (if a3 ≤ (1 : Int32) then
    (if a1 = a2 then
    (bd (fX12_fail (2 : Int32) s_4) (fun y_7 s_7 =>
    some (y_7, s_7)))
  else
    (bd (fX12_isAlive a1 s_4) (fun y_8 s_8 =>
    if y_8 = 0 then
    (bd (fX12_fail (2 : Int32) s_8) (fun y_9 s_9 =>
    some (y_9, s_9)))
  else
    (bd (fX12_isAlive a2 s_8) (fun y_10 s_10 =>
    if y_10 = 0 then
    (bd (fX12_fail (2 : Int32) s_10) (fun y_18 s_18 =>
    some (y_18, s_18)))
  else
    (fX12_suitors_L72 (fun v4_17 v5_17 s_17 => if a3 = 0 then
    (some (v4_17, s_17))
  else
    (some (v5_17, s_17))) a1 a2 a3 FU (0 : Int32) (-1 : Int32) (0 : Int32) s_10))))))
  else
    (bd (fX12_fail (1 : Int32) s_4) (fun y_19 s_19 =>
    some (y_19, s_19))))))))
set_option maxRecDepth 100000 in
set_option maxHeartbeats 4000000 in
theorem kX12_suitors (l : Launch)  (a1 : Int32) (a2 : Int32) (a3 : Int32) (s : St) : CN l yX12_suitors cX12_suitors 10 (some .int) 3 FULL (fun ad => [.ref (ad 69), .int a1, .int a2, .int a3]) s (fX12_suitors a1 a2 a3 s) := by
  refine cn_of (by decide) (fun _ => (Nat.le_of_ble_eq_true rfl)) (fun X hC hR hl hN => ?_)
  subst hl
  show Zr X (QFN X (some .int)) 0 s 0 [(0, .ref (X_ad X 69)), (1, .int a1), (2, .int a2), (3, .int a3)] [] _
  rw [fX12_suitors]
  refine zr_aload_n (pc := 0) (i := 0) 0 hC dX12_suitors_0 rfl rfl ?_
  refine zr_iconst (pc := 1) (v := (0 : Int32)) hC dX12_suitors_1 ic_0 ?_
  refine zr_putInt (pc := 2) (j := 1) hC mem_69 lay_69 rfl rfl (Nat.le_of_ble_eq_true rfl) iX12 tyX12_ok nmX12 m_1396 rfl (by decide +kernel) dX12_suitors_2 ?_
  refine zr_aload_n (pc := 5) (i := 0) 0 hC dX12_suitors_5 rfl rfl ?_
  refine zr_iload_n (pc := 6) (i := 1) 1 hC dX12_suitors_6 rfl rfl ?_
  refine zr_callV (pc := 7) (As := fun ad => [.int a1]) (st1 := []) hC (Nat.le_of_ble_eq_true rfl) (kX12_isPerson _ a1 _) (Nat.le_of_ble_eq_true rfl) mc_yX12_isPerson m_1762 m_1764 m_p82 mem_69 lay_69 rfl rfl rfl rfl (Nat.le_of_ble_eq_true rfl) dX12_suitors_7 (fun y_2 s_2 => ?_)
  refine zr_if_eq (pc := 10) (tgt := 30) hC dX12_suitors_10 (by decide) (fun c_ => ?_) (fun c_ => ?_)
  · refine zr_aload_n (pc := 30) (i := 0) 0 hC dX12_suitors_30 rfl rfl ?_
    refine zr_iconst (pc := 31) (v := (1 : Int32)) hC dX12_suitors_31 ic_1 ?_
    refine zr_callV (pc := 32) (As := fun ad => [.int (1 : Int32)]) (st1 := []) hC (Nat.le_of_ble_eq_true rfl) (kX12_fail _ (1 : Int32) _) (Nat.le_of_ble_eq_true rfl) mc_yX12_fail m_1606 m_1608 m_p53 mem_69 lay_69 rfl rfl rfl rfl (Nat.le_of_ble_eq_true rfl) dX12_suitors_32 (fun y_3 s_3 => ?_)
    exact zr_iret (pc := 35) hC hR dX12_suitors_35
  · refine zr_aload_n (pc := 13) (i := 0) 0 hC dX12_suitors_13 rfl rfl ?_
    refine zr_iload_n (pc := 14) (i := 2) 2 hC dX12_suitors_14 rfl rfl ?_
    refine zr_callV (pc := 15) (As := fun ad => [.int a2]) (st1 := []) hC (Nat.le_of_ble_eq_true rfl) (kX12_isPerson _ a2 _) (Nat.le_of_ble_eq_true rfl) mc_yX12_isPerson m_1762 m_1764 m_p82 mem_69 lay_69 rfl rfl rfl rfl (Nat.le_of_ble_eq_true rfl) dX12_suitors_15 (fun y_4 s_4 => ?_)
    refine zr_if_eq (pc := 18) (tgt := 30) hC dX12_suitors_18 (by decide) (fun c_ => ?_) (fun c_ => ?_)
    · refine zr_aload_n (pc := 30) (i := 0) 0 hC dX12_suitors_30 rfl rfl ?_
      refine zr_iconst (pc := 31) (v := (1 : Int32)) hC dX12_suitors_31 ic_1 ?_
      refine zr_callV (pc := 32) (As := fun ad => [.int (1 : Int32)]) (st1 := []) hC (Nat.le_of_ble_eq_true rfl) (kX12_fail _ (1 : Int32) _) (Nat.le_of_ble_eq_true rfl) mc_yX12_fail m_1606 m_1608 m_p53 mem_69 lay_69 rfl rfl rfl rfl (Nat.le_of_ble_eq_true rfl) dX12_suitors_32 (fun y_5 s_5 => ?_)
      exact zr_iret (pc := 35) hC hR dX12_suitors_35
    · refine zr_iload_n (pc := 21) (i := 3) 3 hC dX12_suitors_21 rfl rfl ?_
      refine zr_if_lt (pc := 22) (tgt := 30) hC dX12_suitors_22 (by decide) (fun c_ => ?_) (fun c_ => ?_)
      · refine zr_aload_n (pc := 30) (i := 0) 0 hC dX12_suitors_30 rfl rfl ?_
        refine zr_iconst (pc := 31) (v := (1 : Int32)) hC dX12_suitors_31 ic_1 ?_
        refine zr_callV (pc := 32) (As := fun ad => [.int (1 : Int32)]) (st1 := []) hC (Nat.le_of_ble_eq_true rfl) (kX12_fail _ (1 : Int32) _) (Nat.le_of_ble_eq_true rfl) mc_yX12_fail m_1606 m_1608 m_p53 mem_69 lay_69 rfl rfl rfl rfl (Nat.le_of_ble_eq_true rfl) dX12_suitors_32 (fun y_6 s_6 => ?_)
        exact zr_iret (pc := 35) hC hR dX12_suitors_35
      · refine zr_iload_n (pc := 25) (i := 3) 3 hC dX12_suitors_25 rfl rfl ?_
        refine zr_iconst (pc := 26) (v := (1 : Int32)) hC dX12_suitors_26 ic_1 ?_
        refine zr_icmp_le (pc := 27) (tgt := 36) hC dX12_suitors_27 (by decide) (fun c_ => ?_) (fun c_ => ?_)
        · refine zr_iload_n (pc := 36) (i := 1) 1 hC dX12_suitors_36 rfl rfl ?_
          refine zr_iload_n (pc := 37) (i := 2) 2 hC dX12_suitors_37 rfl rfl ?_
          refine zr_icmp_eq (pc := 38) (tgt := 57) hC dX12_suitors_38 (by decide) (fun c_ => ?_) (fun c_ => ?_)
          · refine zr_aload_n (pc := 57) (i := 0) 0 hC dX12_suitors_57 rfl rfl ?_
            refine zr_iconst (pc := 58) (v := (2 : Int32)) hC dX12_suitors_58 ic_2 ?_
            refine zr_callV (pc := 59) (As := fun ad => [.int (2 : Int32)]) (st1 := []) hC (Nat.le_of_ble_eq_true rfl) (kX12_fail _ (2 : Int32) _) (Nat.le_of_ble_eq_true rfl) mc_yX12_fail m_1606 m_1608 m_p53 mem_69 lay_69 rfl rfl rfl rfl (Nat.le_of_ble_eq_true rfl) dX12_suitors_59 (fun y_7 s_7 => ?_)
            exact zr_iret (pc := 62) hC hR dX12_suitors_62
          · refine zr_aload_n (pc := 41) (i := 0) 0 hC dX12_suitors_41 rfl rfl ?_
            refine zr_iload_n (pc := 42) (i := 1) 1 hC dX12_suitors_42 rfl rfl ?_
            refine zr_callV (pc := 43) (As := fun ad => [.int a1]) (st1 := []) hC (Nat.le_of_ble_eq_true rfl) (kX12_isAlive _ a1 _) (Nat.le_of_ble_eq_true rfl) mc_yX12_isAlive m_1769 m_1771 m_p83 mem_69 lay_69 rfl rfl rfl rfl (Nat.le_of_ble_eq_true rfl) dX12_suitors_43 (fun y_8 s_8 => ?_)
            refine zr_if_eq (pc := 46) (tgt := 57) hC dX12_suitors_46 (by decide) (fun c_ => ?_) (fun c_ => ?_)
            · refine zr_aload_n (pc := 57) (i := 0) 0 hC dX12_suitors_57 rfl rfl ?_
              refine zr_iconst (pc := 58) (v := (2 : Int32)) hC dX12_suitors_58 ic_2 ?_
              refine zr_callV (pc := 59) (As := fun ad => [.int (2 : Int32)]) (st1 := []) hC (Nat.le_of_ble_eq_true rfl) (kX12_fail _ (2 : Int32) _) (Nat.le_of_ble_eq_true rfl) mc_yX12_fail m_1606 m_1608 m_p53 mem_69 lay_69 rfl rfl rfl rfl (Nat.le_of_ble_eq_true rfl) dX12_suitors_59 (fun y_9 s_9 => ?_)
              exact zr_iret (pc := 62) hC hR dX12_suitors_62
            · refine zr_aload_n (pc := 49) (i := 0) 0 hC dX12_suitors_49 rfl rfl ?_
              refine zr_iload_n (pc := 50) (i := 2) 2 hC dX12_suitors_50 rfl rfl ?_
              refine zr_callV (pc := 51) (As := fun ad => [.int a2]) (st1 := []) hC (Nat.le_of_ble_eq_true rfl) (kX12_isAlive _ a2 _) (Nat.le_of_ble_eq_true rfl) mc_yX12_isAlive m_1769 m_1771 m_p83 mem_69 lay_69 rfl rfl rfl rfl (Nat.le_of_ble_eq_true rfl) dX12_suitors_51 (fun y_10 s_10 => ?_)
              refine zr_if_ne (pc := 54) (tgt := 63) hC dX12_suitors_54 (by decide) (fun c_ => ?_) (fun c_ => ?_)
              · refine zr_aload_n (pc := 57) (i := 0) 0 hC dX12_suitors_57 rfl rfl ?_
                refine zr_iconst (pc := 58) (v := (2 : Int32)) hC dX12_suitors_58 ic_2 ?_
                refine zr_callV (pc := 59) (As := fun ad => [.int (2 : Int32)]) (st1 := []) hC (Nat.le_of_ble_eq_true rfl) (kX12_fail _ (2 : Int32) _) (Nat.le_of_ble_eq_true rfl) mc_yX12_fail m_1606 m_1608 m_p53 mem_69 lay_69 rfl rfl rfl rfl (Nat.le_of_ble_eq_true rfl) dX12_suitors_59 (fun y_18 s_18 => ?_)
                exact zr_iret (pc := 62) hC hR dX12_suitors_62
              · refine zr_iconst (pc := 63) (v := (0 : Int32)) hC dX12_suitors_63 ic_0 ?_
                refine zr_istore (pc := 64) (ls' := [(4, _), (0, _), (1, _), (2, _), (3, _)]) hC dX12_suitors_64 (nlt hN (Nat.le_of_ble_eq_true rfl)) rfl ?_
                refine zr_iconst (pc := 66) (v := (-1 : Int32)) hC dX12_suitors_66 ic_m1 ?_
                refine zr_istore (pc := 67) (ls' := [(5, _), (4, _), (0, _), (1, _), (2, _), (3, _)]) hC dX12_suitors_67 (nlt hN (Nat.le_of_ble_eq_true rfl)) rfl ?_
                refine zr_iconst (pc := 69) (v := (0 : Int32)) hC dX12_suitors_69 ic_0 ?_
                refine zr_istore (pc := 70) (ls' := [(6, _), (5, _), (4, _), (0, _), (1, _), (2, _), (3, _)]) hC dX12_suitors_70 (nlt hN (Nat.le_of_ble_eq_true rfl)) rfl ?_
                refine zr_sub (ls' := [(0, _), (1, _), (2, _), (3, _), (4, _), (5, _), (6, _)]) [3, 4, 5, 6, 2, 1, 0] rfl ?_
                refine tX12_suitors_L72 a1 a2 a3 _ X hC hR hN (fun v4_17 v5_17 s_17 => ?_) FU (0 : Int32) (-1 : Int32) (0 : Int32) _
                · refine zr_iload_n (pc := 222) (i := 3) 0 hC dX12_suitors_222 rfl rfl ?_
                  refine zr_if_ne (pc := 223) (tgt := 231) hC dX12_suitors_223 (by decide) (fun c_ => ?_) (fun c_ => ?_)
                  · refine zr_iload (pc := 226) 1 hC dX12_suitors_226 rfl ?_
                    refine zr_goto (pc := 228) (tgt := 233) hC dX12_suitors_228 (by decide) ?_
                    exact zr_iret (pc := 233) hC hR dX12_suitors_233
                  · refine zr_iload (pc := 231) 2 hC dX12_suitors_231 rfl ?_
                    exact zr_iret (pc := 233) hC hR dX12_suitors_233
        · refine zr_aload_n (pc := 30) (i := 0) 0 hC dX12_suitors_30 rfl rfl ?_
          refine zr_iconst (pc := 31) (v := (1 : Int32)) hC dX12_suitors_31 ic_1 ?_
          refine zr_callV (pc := 32) (As := fun ad => [.int (1 : Int32)]) (st1 := []) hC (Nat.le_of_ble_eq_true rfl) (kX12_fail _ (1 : Int32) _) (Nat.le_of_ble_eq_true rfl) mc_yX12_fail m_1606 m_1608 m_p53 mem_69 lay_69 rfl rfl rfl rfl (Nat.le_of_ble_eq_true rfl) dX12_suitors_32 (fun y_19 s_19 => ?_)
          exact zr_iret (pc := 35) hC hR dX12_suitors_35
def fX12_drawOf (a1 : Int32) (s : St) : Option (Int32 × St) :=
  let s_1 := wr s 69 57 (((s 69 57) * (1103515245 : Int32)) + (12345 : Int32));
    if a1 = 0 then none else
    some ((jrem ((jshr (s_1 69 57) (16 : Int32)) &&& (32767 : Int32)) a1), s_1)
set_option maxRecDepth 100000 in
set_option maxHeartbeats 4000000 in
theorem kX12_drawOf (l : Launch)  (a1 : Int32) (s : St) : CN l yX12_drawOf cX12_drawOf 2 (some .int) 1 FULL (fun ad => [.ref (ad 69), .int a1]) s (fX12_drawOf a1 s) := by
  refine cn_of (by decide) (fun _ => (Nat.le_of_ble_eq_true rfl)) (fun X hC hR hl hN => ?_)
  subst hl
  show Zr X (QFN X (some .int)) 0 s 0 [(0, .ref (X_ad X 69)), (1, .int a1)] [] _
  rw [fX12_drawOf]
  refine zr_aload_n (pc := 0) (i := 0) 0 hC dX12_drawOf_0 rfl rfl ?_
  refine zr_aload_n (pc := 1) (i := 0) 0 hC dX12_drawOf_1 rfl rfl ?_
  refine zr_getI (pc := 2) (j := 57) hC mem_69 lay_69 rfl rfl (Nat.le_of_ble_eq_true rfl) iX12 m_1452 dX12_drawOf_2 ?_
  refine zr_ldcw (pc := 5) hC dX12_drawOf_5 m_1997 ?_
  refine zr_imul (pc := 8) hC dX12_drawOf_8 ?_
  refine zr_sipush (pc := 9) (v := (12345 : Int32)) hC dX12_drawOf_9 si_12345 ?_
  refine zr_iadd (pc := 12) hC dX12_drawOf_12 ?_
  refine zr_putInt (pc := 13) (j := 57) hC mem_69 lay_69 rfl rfl (Nat.le_of_ble_eq_true rfl) iX12 tyX12_ok nmX12 m_1452 rfl (by decide +kernel) dX12_drawOf_13 ?_
  refine zr_aload_n (pc := 16) (i := 0) 0 hC dX12_drawOf_16 rfl rfl ?_
  refine zr_getI (pc := 17) (j := 57) hC mem_69 lay_69 rfl rfl (Nat.le_of_ble_eq_true rfl) iX12 m_1452 dX12_drawOf_17 ?_
  refine zr_bipush (pc := 20) (v := (16 : Int32)) hC dX12_drawOf_20 bi_16 ?_
  refine zr_ishr (pc := 22) hC dX12_drawOf_22 ?_
  refine zr_sipush (pc := 23) (v := (32767 : Int32)) hC dX12_drawOf_23 si_32767 ?_
  refine zr_iand (pc := 26) hC dX12_drawOf_26 ?_
  refine zr_iload_n (pc := 27) (i := 1) 1 hC dX12_drawOf_27 rfl rfl ?_
  refine zr_irem (pc := 28) hC dX12_drawOf_28 ?_
  exact zr_iret (pc := 29) hC hR dX12_drawOf_29
def fX12_yearNow (s : St) : Option (Int32 × St) :=
  if inA (0 : Int32) 10 then
    (if (s 71 (0 : Int32).toNatClampNeg) ≤ 0 then
    (bd (fX12_dayNow s) (fun y_1 s_1 =>
    some (0, s_1)))
  else
    (if inA (0 : Int32) 10 then
    (bd (fX12_drawOf (s 71 (0 : Int32).toNatClampNeg) s) (fun y_2 s_2 =>
    bd (fX12_drawOf (10 : Int32) s_2) (fun y_3 s_3 =>
    bd (fX12_isAlive y_2 s_3) (fun y_4 s_4 =>
    if y_4 = 0 then
    (bd (fX12_dayNow s_4) (fun y_5 s_5 =>
    some (0, s_5)))
  else
    (if inA y_2 24 then
    (let s_6 := wr s_4 73 y_2.toNatClampNeg y_3;
    bd (fX12_drawOf (4 : Int32) s_6) (fun y_7 s_7 =>
    if y_7 = 0 then
    (bd (fX12_dieNow y_2 s_7) (fun y_9 s_9 =>
    bd (fX12_dayNow s_9) (fun y_10 s_10 =>
    some (0, s_10))))
  else
    (bd (fX12_dayNow s_7) (fun y_8 s_8 =>
    some (0, s_8))))) else none))))) else none)) else none
set_option maxRecDepth 100000 in
set_option maxHeartbeats 4000000 in
theorem kX12_yearNow (l : Launch)  (s : St) : CN l yX12_yearNow cX12_yearNow 3 none 10 FULL (fun ad => [.ref (ad 69)]) s (fX12_yearNow s) := by
  refine cn_of (by decide) (fun _ => (Nat.le_of_ble_eq_true rfl)) (fun X hC hR hl hN => ?_)
  subst hl
  show Zr X (QFN X none) 0 s 0 [(0, .ref (X_ad X 69))] [] _
  rw [fX12_yearNow]
  refine zr_aload_n (pc := 0) (i := 0) 0 hC dX12_yearNow_0 rfl rfl ?_
  refine zr_getR (pc := 1) (j := 2) (k1 := 71) hC mem_69 lay_69 rfl rfl (Nat.le_of_ble_eq_true rfl) iX12 m_1397 dX12_yearNow_1 ?_
  refine zr_iconst (pc := 4) (v := (0 : Int32)) hC dX12_yearNow_4 ic_0 ?_
  refine zr_iald (pc := 5) hC mem_71 lay_71 dX12_yearNow_5 ?_
  refine zr_if_le (pc := 6) (tgt := 56) hC dX12_yearNow_6 (by decide) (fun c_ => ?_) (fun c_ => ?_)
  · refine zr_aload_n (pc := 56) (i := 0) 0 hC dX12_yearNow_56 rfl rfl ?_
    refine zr_callVv (pc := 57) (As := fun ad => []) (st1 := []) hC (Nat.le_of_ble_eq_true rfl) (kX12_dayNow _  _) (Nat.le_of_ble_eq_true rfl) mc_yX12_dayNow m_1897 m_1899 m_p102 mem_69 lay_69 rfl rfl rfl rfl (Nat.le_of_ble_eq_true rfl) dX12_yearNow_57 (fun y_1 s_1 => ?_)
    exact zr_vret (pc := 60) hC hR dX12_yearNow_60
  · refine zr_aload_n (pc := 9) (i := 0) 0 hC dX12_yearNow_9 rfl rfl ?_
    refine zr_aload_n (pc := 10) (i := 0) 0 hC dX12_yearNow_10 rfl rfl ?_
    refine zr_getR (pc := 11) (j := 2) (k1 := 71) hC mem_69 lay_69 rfl rfl (Nat.le_of_ble_eq_true rfl) iX12 m_1397 dX12_yearNow_11 ?_
    refine zr_iconst (pc := 14) (v := (0 : Int32)) hC dX12_yearNow_14 ic_0 ?_
    refine zr_iald (pc := 15) hC mem_71 lay_71 dX12_yearNow_15 ?_
    refine zr_callV (pc := 16) (As := fun ad => [.int (s 71 (0 : Int32).toNatClampNeg)]) (st1 := []) hC (Nat.le_of_ble_eq_true rfl) (kX12_drawOf _ (s 71 (0 : Int32).toNatClampNeg) _) (Nat.le_of_ble_eq_true rfl) mc_yX12_drawOf m_1993 m_1995 m_p110 mem_69 lay_69 rfl rfl rfl rfl (Nat.le_of_ble_eq_true rfl) dX12_yearNow_16 (fun y_2 s_2 => ?_)
    refine zr_istore_n (pc := 19) (i := 1) (ls' := [(1, _), (0, _)]) hC dX12_yearNow_19 rfl (nlt hN (Nat.le_of_ble_eq_true rfl)) rfl ?_
    refine zr_aload_n (pc := 20) (i := 0) 1 hC dX12_yearNow_20 rfl rfl ?_
    refine zr_bipush (pc := 21) (v := (10 : Int32)) hC dX12_yearNow_21 bi_10 ?_
    refine zr_callV (pc := 23) (As := fun ad => [.int (10 : Int32)]) (st1 := []) hC (Nat.le_of_ble_eq_true rfl) (kX12_drawOf _ (10 : Int32) _) (Nat.le_of_ble_eq_true rfl) mc_yX12_drawOf m_1993 m_1995 m_p110 mem_69 lay_69 rfl rfl rfl rfl (Nat.le_of_ble_eq_true rfl) dX12_yearNow_23 (fun y_3 s_3 => ?_)
    refine zr_istore_n (pc := 26) (i := 2) (ls' := [(2, _), (1, _), (0, _)]) hC dX12_yearNow_26 rfl (nlt hN (Nat.le_of_ble_eq_true rfl)) rfl ?_
    refine zr_aload_n (pc := 27) (i := 0) 2 hC dX12_yearNow_27 rfl rfl ?_
    refine zr_iload_n (pc := 28) (i := 1) 1 hC dX12_yearNow_28 rfl rfl ?_
    refine zr_callV (pc := 29) (As := fun ad => [.int y_2]) (st1 := []) hC (Nat.le_of_ble_eq_true rfl) (kX12_isAlive _ y_2 _) (Nat.le_of_ble_eq_true rfl) mc_yX12_isAlive m_1769 m_1771 m_p83 mem_69 lay_69 rfl rfl rfl rfl (Nat.le_of_ble_eq_true rfl) dX12_yearNow_29 (fun y_4 s_4 => ?_)
    refine zr_if_eq (pc := 32) (tgt := 56) hC dX12_yearNow_32 (by decide) (fun c_ => ?_) (fun c_ => ?_)
    · refine zr_aload_n (pc := 56) (i := 0) 2 hC dX12_yearNow_56 rfl rfl ?_
      refine zr_callVv (pc := 57) (As := fun ad => []) (st1 := []) hC (Nat.le_of_ble_eq_true rfl) (kX12_dayNow _  _) (Nat.le_of_ble_eq_true rfl) mc_yX12_dayNow m_1897 m_1899 m_p102 mem_69 lay_69 rfl rfl rfl rfl (Nat.le_of_ble_eq_true rfl) dX12_yearNow_57 (fun y_5 s_5 => ?_)
      exact zr_vret (pc := 60) hC hR dX12_yearNow_60
    · refine zr_aload_n (pc := 35) (i := 0) 2 hC dX12_yearNow_35 rfl rfl ?_
      refine zr_getR (pc := 36) (j := 4) (k1 := 73) hC mem_69 lay_69 rfl rfl (Nat.le_of_ble_eq_true rfl) iX12 m_1399 dX12_yearNow_36 ?_
      refine zr_iload_n (pc := 39) (i := 1) 1 hC dX12_yearNow_39 rfl rfl ?_
      refine zr_iload_n (pc := 40) (i := 2) 0 hC dX12_yearNow_40 rfl rfl ?_
      refine zr_iast (pc := 41) hC mem_73 lay_73 dX12_yearNow_41 ?_
      refine zr_aload_n (pc := 42) (i := 0) 2 hC dX12_yearNow_42 rfl rfl ?_
      refine zr_iconst (pc := 43) (v := (4 : Int32)) hC dX12_yearNow_43 ic_4 ?_
      refine zr_callV (pc := 44) (As := fun ad => [.int (4 : Int32)]) (st1 := []) hC (Nat.le_of_ble_eq_true rfl) (kX12_drawOf _ (4 : Int32) _) (Nat.le_of_ble_eq_true rfl) mc_yX12_drawOf m_1993 m_1995 m_p110 mem_69 lay_69 rfl rfl rfl rfl (Nat.le_of_ble_eq_true rfl) dX12_yearNow_44 (fun y_7 s_7 => ?_)
      refine zr_if_ne (pc := 47) (tgt := 56) hC dX12_yearNow_47 (by decide) (fun c_ => ?_) (fun c_ => ?_)
      · refine zr_aload_n (pc := 50) (i := 0) 2 hC dX12_yearNow_50 rfl rfl ?_
        refine zr_iload_n (pc := 51) (i := 1) 1 hC dX12_yearNow_51 rfl rfl ?_
        refine zr_callV (pc := 52) (As := fun ad => [.int y_2]) (st1 := []) hC (Nat.le_of_ble_eq_true rfl) (kX12_dieNow _ y_2 _) (Nat.le_of_ble_eq_true rfl) mc_yX12_dieNow m_1856 m_1858 m_p95 mem_69 lay_69 rfl rfl rfl rfl (Nat.le_of_ble_eq_true rfl) dX12_yearNow_52 (fun y_9 s_9 => ?_)
        refine zr_pop (pc := 55) hC dX12_yearNow_55 rfl ?_
        refine zr_aload_n (pc := 56) (i := 0) 2 hC dX12_yearNow_56 rfl rfl ?_
        refine zr_callVv (pc := 57) (As := fun ad => []) (st1 := []) hC (Nat.le_of_ble_eq_true rfl) (kX12_dayNow _  _) (Nat.le_of_ble_eq_true rfl) mc_yX12_dayNow m_1897 m_1899 m_p102 mem_69 lay_69 rfl rfl rfl rfl (Nat.le_of_ble_eq_true rfl) dX12_yearNow_57 (fun y_10 s_10 => ?_)
        exact zr_vret (pc := 60) hC hR dX12_yearNow_60
      · refine zr_aload_n (pc := 56) (i := 0) 2 hC dX12_yearNow_56 rfl rfl ?_
        refine zr_callVv (pc := 57) (As := fun ad => []) (st1 := []) hC (Nat.le_of_ble_eq_true rfl) (kX12_dayNow _  _) (Nat.le_of_ble_eq_true rfl) mc_yX12_dayNow m_1897 m_1899 m_p102 mem_69 lay_69 rfl rfl rfl rfl (Nat.le_of_ble_eq_true rfl) dX12_yearNow_57 (fun y_8 s_8 => ?_)
        exact zr_vret (pc := 60) hC hR dX12_yearNow_60
def fX12_century_L58 (k74 : St → Option (Int32 × St)) (c2 : Int32) (c3 : Int32) : Nat → Int32 → St → Option (Int32 × St)
  | 0, _, _ => none
  | n + 1, v4, s =>
    if c2 ≤ v4 then
    (k74 s)
  else
    (bd (fX12_yearNow s) (fun y_6 s_6 =>
    fX12_century_L58 k74 c2 c3 n (v4 + (1 : Int32)) s_6))
set_option maxRecDepth 100000 in
set_option maxHeartbeats 4000000 in
theorem tX12_century_L58 (c2 : Int32) (c3 : Int32) (k74 : St → Option (Int32 × St)) (X : KX) (hC : Ctx X RX12 cX12_century FULL 11 0) (hR : RC X (some .int)) (hN : X_nL X = 5) (hk74 : ∀ (s : St), Zr X (QFN X (some .int)) 0 s 74 [(0, .ref (X_ad X 69)), (3, .int c3)] [] (k74 s)) : ∀ (n : Nat) (v4 : Int32) (s : St), Zr X (QFN X (some .int)) 0 s 58 [(0, .ref (X_ad X 69)), (2, .int c2), (3, .int c3), (4, .int v4)] [] (fX12_century_L58 k74 c2 c3 n v4 s) := by
  intro n
  induction n with
  | zero =>
    intro v4 s
    exact zr_none
  | succ n ih =>
    intro v4 s
    rw [fX12_century_L58]
    refine zr_iload (pc := 58) 3 hC dX12_century_58 rfl ?_
    refine zr_iload_n (pc := 60) (i := 2) 1 hC dX12_century_60 rfl rfl ?_
    refine zr_icmp_ge (pc := 61) (tgt := 74) hC dX12_century_61 (by decide) (fun c_ => ?_) (fun c_ => ?_)
    · refine zr_sub (ls' := [(0, _), (3, _)]) [0, 2] rfl ?_
      exact hk74 s
    · refine zr_aload_n (pc := 64) (i := 0) 0 hC dX12_century_64 rfl rfl ?_
      refine zr_callVv (pc := 65) (As := fun ad => []) (st1 := []) hC (Nat.le_of_ble_eq_true rfl) (kX12_yearNow _  _) (Nat.le_of_ble_eq_true rfl) mc_yX12_yearNow m_1989 m_1991 m_p109 mem_69 lay_69 rfl rfl rfl rfl (Nat.le_of_ble_eq_true rfl) dX12_century_65 (fun y_6 s_6 => ?_)
      refine zr_iinc (pc := 68) (q := 3) (ls' := [(4, _), (0, _), (2, _), (3, _)]) hC dX12_century_68 rfl (inc_1 _) (nlt hN (Nat.le_of_ble_eq_true rfl)) rfl ?_
      refine zr_goto (pc := 71) (tgt := 58) hC dX12_century_71 (by decide) ?_
      refine zr_sub (ls' := [(0, _), (2, _), (3, _), (4, _)]) [1, 2, 3, 0] rfl ?_
      exact ih (v4 + (1 : Int32)) s_6
def fX12_century (a1 : Int32) (a2 : Int32) (a3 : Int32) (s : St) : Option (Int32 × St) :=
  let s_1 := wr s 69 1 (0 : Int32);
    bd (fX12_isIn (Int32.toInt64 a3) (0 : Int64) (2 : Int64) s_1) (fun y_2 s_2 =>
    if y_2 = 0 then
    (bd (fX12_fail (1 : Int32) s_2) (fun y_15 s_15 =>
    some (y_15, s_15)))
  else
    (bd (fX12_isIn (Int32.toInt64 a2) (0 : Int64) (60 : Int64) s_2) (fun y_3 s_3 =>
    if y_3 = 0 then
    (bd (fX12_fail (2 : Int32) s_3) (fun y_14 s_14 =>
    some (y_14, s_14)))
  else
    (bd (fX12_pack 105 (0 : Int32) s_3) (fun y_4 s_4 =>
    let s_5 := wr s_4 69 57 a1;
    fX12_century_L58 (fun s_7 => if a3 = 0 then
    (bd (fX12_bitsOf (s_7 69 17) s_7) (fun y_12 s_12 =>
    bd (fX12_unpack 105 (0 : Int32) s_12) (fun y_13 s_13 =>
    some (y_12, s_13))))
  else
    (if a3 = (1 : Int32) then
    (bd (fX12_ripe s_7) (fun y_10 s_10 =>
    bd (fX12_unpack 105 (0 : Int32) s_10) (fun y_11 s_11 =>
    some (y_10, s_11))))
  else
    (bd (fX12_allNoons s_7) (fun y_8 s_8 =>
    bd (fX12_unpack 105 (0 : Int32) s_8) (fun y_9 s_9 =>
    some (y_8, s_9)))))) a2 a3 FU (0 : Int32) s_5)))))
set_option maxRecDepth 100000 in
set_option maxHeartbeats 4000000 in
theorem kX12_century (l : Launch)  (a1 : Int32) (a2 : Int32) (a3 : Int32) (s : St) : CN l yX12_century cX12_century 5 (some .int) 11 FULL (fun ad => [.ref (ad 69), .int a1, .int a2, .int a3]) s (fX12_century a1 a2 a3 s) := by
  refine cn_of (by decide) (fun _ => (Nat.le_of_ble_eq_true rfl)) (fun X hC hR hl hN => ?_)
  subst hl
  show Zr X (QFN X (some .int)) 0 s 0 [(0, .ref (X_ad X 69)), (1, .int a1), (2, .int a2), (3, .int a3)] [] _
  rw [fX12_century]
  refine zr_aload_n (pc := 0) (i := 0) 0 hC dX12_century_0 rfl rfl ?_
  refine zr_iconst (pc := 1) (v := (0 : Int32)) hC dX12_century_1 ic_0 ?_
  refine zr_putInt (pc := 2) (j := 1) hC mem_69 lay_69 rfl rfl (Nat.le_of_ble_eq_true rfl) iX12 tyX12_ok nmX12 m_1396 rfl (by decide +kernel) dX12_century_2 ?_
  refine zr_iload_n (pc := 5) (i := 3) 3 hC dX12_century_5 rfl rfl ?_
  refine zr_i2l (pc := 6) hC dX12_century_6 ?_
  refine zr_lconst (pc := 7) (v := (0 : Int64)) hC dX12_century_7 rfl ?_
  refine zr_ldc2 (pc := 8) hC dX12_century_8 m_1987 ?_
  refine zr_callS (pc := 11) (As := fun ad => [.long (Int32.toInt64 a3), .long (0 : Int64), .long (2 : Int64)]) (st1 := []) hC (Nat.le_of_ble_eq_true rfl) (kX12_isIn _ (Int32.toInt64 a3) (0 : Int64) (2 : Int64) _) (Nat.le_of_ble_eq_true rfl) mc_yX12_isIn m_1766 m_1767 rfl rfl rfl (Nat.le_of_ble_eq_true rfl) dX12_century_11 (fun y_2 s_2 => ?_)
  refine zr_if_ne (pc := 14) (tgt := 23) hC dX12_century_14 (by decide) (fun c_ => ?_) (fun c_ => ?_)
  · refine zr_aload_n (pc := 17) (i := 0) 0 hC dX12_century_17 rfl rfl ?_
    refine zr_iconst (pc := 18) (v := (1 : Int32)) hC dX12_century_18 ic_1 ?_
    refine zr_callV (pc := 19) (As := fun ad => [.int (1 : Int32)]) (st1 := []) hC (Nat.le_of_ble_eq_true rfl) (kX12_fail _ (1 : Int32) _) (Nat.le_of_ble_eq_true rfl) mc_yX12_fail m_1606 m_1608 m_p53 mem_69 lay_69 rfl rfl rfl rfl (Nat.le_of_ble_eq_true rfl) dX12_century_19 (fun y_15 s_15 => ?_)
    exact zr_iret (pc := 22) hC hR dX12_century_22
  · refine zr_iload_n (pc := 23) (i := 2) 2 hC dX12_century_23 rfl rfl ?_
    refine zr_i2l (pc := 24) hC dX12_century_24 ?_
    refine zr_lconst (pc := 25) (v := (0 : Int64)) hC dX12_century_25 rfl ?_
    refine zr_ldc2 (pc := 26) hC dX12_century_26 m_1988 ?_
    refine zr_callS (pc := 29) (As := fun ad => [.long (Int32.toInt64 a2), .long (0 : Int64), .long (60 : Int64)]) (st1 := []) hC (Nat.le_of_ble_eq_true rfl) (kX12_isIn _ (Int32.toInt64 a2) (0 : Int64) (60 : Int64) _) (Nat.le_of_ble_eq_true rfl) mc_yX12_isIn m_1766 m_1767 rfl rfl rfl (Nat.le_of_ble_eq_true rfl) dX12_century_29 (fun y_3 s_3 => ?_)
    refine zr_if_ne (pc := 32) (tgt := 41) hC dX12_century_32 (by decide) (fun c_ => ?_) (fun c_ => ?_)
    · refine zr_aload_n (pc := 35) (i := 0) 0 hC dX12_century_35 rfl rfl ?_
      refine zr_iconst (pc := 36) (v := (2 : Int32)) hC dX12_century_36 ic_2 ?_
      refine zr_callV (pc := 37) (As := fun ad => [.int (2 : Int32)]) (st1 := []) hC (Nat.le_of_ble_eq_true rfl) (kX12_fail _ (2 : Int32) _) (Nat.le_of_ble_eq_true rfl) mc_yX12_fail m_1606 m_1608 m_p53 mem_69 lay_69 rfl rfl rfl rfl (Nat.le_of_ble_eq_true rfl) dX12_century_37 (fun y_14 s_14 => ?_)
      exact zr_iret (pc := 40) hC hR dX12_century_40
    · refine zr_aload_n (pc := 41) (i := 0) 0 hC dX12_century_41 rfl rfl ?_
      refine zr_aload_n (pc := 42) (i := 0) 0 hC dX12_century_42 rfl rfl ?_
      refine zr_getR (pc := 43) (j := 56) (k1 := 105) hC mem_69 lay_69 rfl rfl (Nat.le_of_ble_eq_true rfl) iX12 m_1451 dX12_century_43 ?_
      refine zr_iconst (pc := 46) (v := (0 : Int32)) hC dX12_century_46 ic_0 ?_
      refine zr_callVv (pc := 47) (As := fun ad => [.ref (ad 105), .int (0 : Int32)]) (st1 := []) hC (Nat.le_of_ble_eq_true rfl) (kX12_pack _ ar_105 (0 : Int32) _) (Nat.le_of_ble_eq_true rfl) mc_yX12_pack m_1836 m_1838 m_p92 mem_69 lay_69 rfl rfl rfl rfl (Nat.le_of_ble_eq_true rfl) dX12_century_47 (fun y_4 s_4 => ?_)
      refine zr_aload_n (pc := 50) (i := 0) 0 hC dX12_century_50 rfl rfl ?_
      refine zr_iload_n (pc := 51) (i := 1) 1 hC dX12_century_51 rfl rfl ?_
      refine zr_putInt (pc := 52) (j := 57) hC mem_69 lay_69 rfl rfl (Nat.le_of_ble_eq_true rfl) iX12 tyX12_ok nmX12 m_1452 rfl (by decide +kernel) dX12_century_52 ?_
      refine zr_iconst (pc := 55) (v := (0 : Int32)) hC dX12_century_55 ic_0 ?_
      refine zr_istore (pc := 56) (ls' := [(4, _), (0, _), (1, _), (2, _), (3, _)]) hC dX12_century_56 (nlt hN (Nat.le_of_ble_eq_true rfl)) rfl ?_
      refine zr_sub (ls' := [(0, _), (2, _), (3, _), (4, _)]) [1, 3, 4, 0] rfl ?_
      refine tX12_century_L58 a2 a3 _ X hC hR hN (fun s_7 => ?_) FU (0 : Int32) _
      · refine zr_iload_n (pc := 74) (i := 3) 1 hC dX12_century_74 rfl rfl ?_
        refine zr_if_ne (pc := 75) (tgt := 88) hC dX12_century_75 (by decide) (fun c_ => ?_) (fun c_ => ?_)
        · refine zr_aload_n (pc := 78) (i := 0) 0 hC dX12_century_78 rfl rfl ?_
          refine zr_getI (pc := 79) (j := 17) hC mem_69 lay_69 rfl rfl (Nat.le_of_ble_eq_true rfl) iX12 m_1412 dX12_century_79 ?_
          refine zr_callS (pc := 82) (As := fun ad => [.int (s_7 69 17)]) (st1 := []) hC (Nat.le_of_ble_eq_true rfl) (kX12_bitsOf _ (s_7 69 17) _) (Nat.le_of_ble_eq_true rfl) mc_yX12_bitsOf m_1743 m_1744 rfl rfl rfl (Nat.le_of_ble_eq_true rfl) dX12_century_82 (fun y_12 s_12 => ?_)
          refine zr_goto (pc := 85) (tgt := 104) hC dX12_century_85 (by decide) ?_
          refine zr_istore (pc := 104) (ls' := [(4, _), (0, _), (3, _)]) hC dX12_century_104 (nlt hN (Nat.le_of_ble_eq_true rfl)) rfl ?_
          refine zr_aload_n (pc := 106) (i := 0) 1 hC dX12_century_106 rfl rfl ?_
          refine zr_aload_n (pc := 107) (i := 0) 1 hC dX12_century_107 rfl rfl ?_
          refine zr_getR (pc := 108) (j := 56) (k1 := 105) hC mem_69 lay_69 rfl rfl (Nat.le_of_ble_eq_true rfl) iX12 m_1451 dX12_century_108 ?_
          refine zr_iconst (pc := 111) (v := (0 : Int32)) hC dX12_century_111 ic_0 ?_
          refine zr_callVv (pc := 112) (As := fun ad => [.ref (ad 105), .int (0 : Int32)]) (st1 := []) hC (Nat.le_of_ble_eq_true rfl) (kX12_unpack _ ar_105 (0 : Int32) _) (Nat.le_of_ble_eq_true rfl) mc_yX12_unpack m_1905 m_1907 m_p103 mem_69 lay_69 rfl rfl rfl rfl (Nat.le_of_ble_eq_true rfl) dX12_century_112 (fun y_13 s_13 => ?_)
          refine zr_iload (pc := 115) 0 hC dX12_century_115 rfl ?_
          exact zr_iret (pc := 117) hC hR dX12_century_117
        · refine zr_iload_n (pc := 88) (i := 3) 1 hC dX12_century_88 rfl rfl ?_
          refine zr_iconst (pc := 89) (v := (1 : Int32)) hC dX12_century_89 ic_1 ?_
          refine zr_icmp_ne (pc := 90) (tgt := 100) hC dX12_century_90 (by decide) (fun c_ => ?_) (fun c_ => ?_)
          · refine zr_aload_n (pc := 93) (i := 0) 0 hC dX12_century_93 rfl rfl ?_
            refine zr_callV (pc := 94) (As := fun ad => []) (st1 := []) hC (Nat.le_of_ble_eq_true rfl) (kX12_ripe _  _) (Nat.le_of_ble_eq_true rfl) mc_yX12_ripe m_1746 m_1748 m_p79 mem_69 lay_69 rfl rfl rfl rfl (Nat.le_of_ble_eq_true rfl) dX12_century_94 (fun y_10 s_10 => ?_)
            refine zr_goto (pc := 97) (tgt := 104) hC dX12_century_97 (by decide) ?_
            refine zr_istore (pc := 104) (ls' := [(4, _), (0, _), (3, _)]) hC dX12_century_104 (nlt hN (Nat.le_of_ble_eq_true rfl)) rfl ?_
            refine zr_aload_n (pc := 106) (i := 0) 1 hC dX12_century_106 rfl rfl ?_
            refine zr_aload_n (pc := 107) (i := 0) 1 hC dX12_century_107 rfl rfl ?_
            refine zr_getR (pc := 108) (j := 56) (k1 := 105) hC mem_69 lay_69 rfl rfl (Nat.le_of_ble_eq_true rfl) iX12 m_1451 dX12_century_108 ?_
            refine zr_iconst (pc := 111) (v := (0 : Int32)) hC dX12_century_111 ic_0 ?_
            refine zr_callVv (pc := 112) (As := fun ad => [.ref (ad 105), .int (0 : Int32)]) (st1 := []) hC (Nat.le_of_ble_eq_true rfl) (kX12_unpack _ ar_105 (0 : Int32) _) (Nat.le_of_ble_eq_true rfl) mc_yX12_unpack m_1905 m_1907 m_p103 mem_69 lay_69 rfl rfl rfl rfl (Nat.le_of_ble_eq_true rfl) dX12_century_112 (fun y_11 s_11 => ?_)
            refine zr_iload (pc := 115) 0 hC dX12_century_115 rfl ?_
            exact zr_iret (pc := 117) hC hR dX12_century_117
          · refine zr_aload_n (pc := 100) (i := 0) 0 hC dX12_century_100 rfl rfl ?_
            refine zr_callV (pc := 101) (As := fun ad => []) (st1 := []) hC (Nat.le_of_ble_eq_true rfl) (kX12_allNoons _  _) (Nat.le_of_ble_eq_true rfl) mc_yX12_allNoons m_1754 m_1756 m_p81 mem_69 lay_69 rfl rfl rfl rfl (Nat.le_of_ble_eq_true rfl) dX12_century_101 (fun y_8 s_8 => ?_)
            refine zr_istore (pc := 104) (ls' := [(4, _), (0, _), (3, _)]) hC dX12_century_104 (nlt hN (Nat.le_of_ble_eq_true rfl)) rfl ?_
            refine zr_aload_n (pc := 106) (i := 0) 1 hC dX12_century_106 rfl rfl ?_
            refine zr_aload_n (pc := 107) (i := 0) 1 hC dX12_century_107 rfl rfl ?_
            refine zr_getR (pc := 108) (j := 56) (k1 := 105) hC mem_69 lay_69 rfl rfl (Nat.le_of_ble_eq_true rfl) iX12 m_1451 dX12_century_108 ?_
            refine zr_iconst (pc := 111) (v := (0 : Int32)) hC dX12_century_111 ic_0 ?_
            refine zr_callVv (pc := 112) (As := fun ad => [.ref (ad 105), .int (0 : Int32)]) (st1 := []) hC (Nat.le_of_ble_eq_true rfl) (kX12_unpack _ ar_105 (0 : Int32) _) (Nat.le_of_ble_eq_true rfl) mc_yX12_unpack m_1905 m_1907 m_p103 mem_69 lay_69 rfl rfl rfl rfl (Nat.le_of_ble_eq_true rfl) dX12_century_112 (fun y_9 s_9 => ?_)
            refine zr_iload (pc := 115) 0 hC dX12_century_115 rfl ?_
            exact zr_iret (pc := 117) hC hR dX12_century_117
def fX12_be_L2 (r0 : Nat) (r1 : Nat) : Nat → Int32 → St → Option (Int32 × St)
  | 0, _, _ => none
  | n + 1, v2, s =>
    if (Int32.ofNat (LN r0)) ≤ v2 then
    (some (0, s))
  else
    (if inA v2 (LN r1) then
    (if inA v2 (LN r0) then
    (let s_1 := wr s r0 v2.toNatClampNeg (s r1 v2.toNatClampNeg);
    fX12_be_L2 r0 r1 n (v2 + (1 : Int32)) s_1) else none) else none)
set_option maxRecDepth 100000 in
set_option maxHeartbeats 4000000 in
theorem tX12_be_L2 (r0 : Nat) (r1 : Nat) (X : KX) (hC : Ctx X RX12 cX12_be FULL 1 0) (hR : RC X none) (hN : X_nL X = 3) (hr0 : isArrD FULL r0) (hr1 : isArrD FULL r1) : ∀ (n : Nat) (v2 : Int32) (s : St), Zr X (QFN X none) 0 s 2 [(0, .ref (X_ad X r0)), (1, .ref (X_ad X r1)), (2, .int v2)] [] (fX12_be_L2 r0 r1 n v2 s) := by
  intro n
  induction n with
  | zero =>
    intro v2 s
    exact zr_none
  | succ n ih =>
    intro v2 s
    rw [fX12_be_L2]
    refine zr_iload_n (pc := 2) (i := 2) 2 hC dX12_be_2 rfl rfl ?_
    refine zr_aload_n (pc := 3) (i := 0) 0 hC dX12_be_3 rfl rfl ?_
    refine zr_alen (pc := 4) hC hr0.1 hr0.2 dX12_be_4 ?_
    refine zr_icmp_ge (pc := 5) (tgt := 20) hC dX12_be_5 (by decide) (fun c_ => ?_) (fun c_ => ?_)
    · exact zr_vret (pc := 20) hC hR dX12_be_20
    · refine zr_aload_n (pc := 8) (i := 0) 0 hC dX12_be_8 rfl rfl ?_
      refine zr_iload_n (pc := 9) (i := 2) 2 hC dX12_be_9 rfl rfl ?_
      refine zr_aload_n (pc := 10) (i := 1) 1 hC dX12_be_10 rfl rfl ?_
      refine zr_iload_n (pc := 11) (i := 2) 2 hC dX12_be_11 rfl rfl ?_
      refine zr_iald (pc := 12) hC hr1.1 hr1.2 dX12_be_12 ?_
      refine zr_iast (pc := 13) hC hr0.1 hr0.2 dX12_be_13 ?_
      refine zr_iinc (pc := 14) (q := 2) (ls' := [(2, _), (0, _), (1, _)]) hC dX12_be_14 rfl (inc_1 _) (nlt hN (Nat.le_of_ble_eq_true rfl)) rfl ?_
      refine zr_goto (pc := 17) (tgt := 2) hC dX12_be_17 (by decide) ?_
      refine zr_sub (ls' := [(0, _), (1, _), (2, _)]) [1, 2, 0] rfl ?_
      exact ih (v2 + (1 : Int32)) (wr s r0 v2.toNatClampNeg (s r1 v2.toNatClampNeg))
def fX12_be (r0 : Nat) (r1 : Nat) (s : St) : Option (Int32 × St) :=
  fX12_be_L2 r0 r1 FU (0 : Int32) s
set_option maxRecDepth 100000 in
set_option maxHeartbeats 4000000 in
theorem kX12_be (l : Launch)  {r0 : Nat} {r1 : Nat} (hr0 : isArrD FULL r0) (hr1 : isArrD FULL r1) (s : St) : CN l yX12_be cX12_be 3 none 1 FULL (fun ad => [.ref (ad r0), .ref (ad r1)]) s (fX12_be r0 r1 s) := by
  refine cn_of (by decide) (fun _ => (Nat.le_of_ble_eq_true rfl)) (fun X hC hR hl hN => ?_)
  subst hl
  show Zr X (QFN X none) 0 s 0 [(0, .ref (X_ad X r0)), (1, .ref (X_ad X r1))] [] _
  rw [fX12_be]
  refine zr_iconst (pc := 0) (v := (0 : Int32)) hC dX12_be_0 ic_0 ?_
  refine zr_istore_n (pc := 1) (i := 2) (ls' := [(2, _), (0, _), (1, _)]) hC dX12_be_1 rfl (nlt hN (Nat.le_of_ble_eq_true rfl)) rfl ?_
  refine zr_sub (ls' := [(0, _), (1, _), (2, _)]) [1, 2, 0] rfl ?_
  exact tX12_be_L2 r0 r1 X hC hR hN hr0 hr1 FU (0 : Int32) _
def fX12_image (s : St) : Option (Int32 × St) :=
  let s_1 := wr s 69 1 (0 : Int32);
    let s_2 := wr s_1 69 58 (1 : Int32);
    let s_3 := wr s_2 69 59 (s_2 69 32);
    let s_4 := wr s_3 69 60 (s_3 69 33);
    bd (fX12_pack 106 (0 : Int32) s_4) (fun y_5 s_5 =>
    bd (fX12_be 107 89 s_5) (fun y_6 s_6 =>
    bd (fX12_be 108 102 s_6) (fun y_7 s_7 =>
    bd (fX12_be 109 103 s_7) (fun y_8 s_8 =>
    bd (fX12_be 110 85 s_8) (fun y_9 s_9 =>
    some (0, s_9))))))
set_option maxRecDepth 100000 in
set_option maxHeartbeats 4000000 in
theorem kX12_image (l : Launch)  (s : St) : CN l yX12_image cX12_image 1 none 2 FULL (fun ad => [.ref (ad 69)]) s (fX12_image s) := by
  refine cn_of (by decide) (fun _ => (Nat.le_of_ble_eq_true rfl)) (fun X hC hR hl hN => ?_)
  subst hl
  show Zr X (QFN X none) 0 s 0 [(0, .ref (X_ad X 69))] [] _
  rw [fX12_image]
  refine zr_aload_n (pc := 0) (i := 0) 0 hC dX12_image_0 rfl rfl ?_
  refine zr_iconst (pc := 1) (v := (0 : Int32)) hC dX12_image_1 ic_0 ?_
  refine zr_putInt (pc := 2) (j := 1) hC mem_69 lay_69 rfl rfl (Nat.le_of_ble_eq_true rfl) iX12 tyX12_ok nmX12 m_1396 rfl (by decide +kernel) dX12_image_2 ?_
  refine zr_aload_n (pc := 5) (i := 0) 0 hC dX12_image_5 rfl rfl ?_
  refine zr_iconst (pc := 6) (v := (1 : Int32)) hC dX12_image_6 ic_1 ?_
  refine zr_putB (by decide) (pc := 7) (j := 58) hC mem_69 lay_69 rfl rfl (Nat.le_of_ble_eq_true rfl) iX12 tyX12_ok nmX12 m_1453 rfl (by decide +kernel) dX12_image_7 ?_
  refine zr_aload_n (pc := 10) (i := 0) 0 hC dX12_image_10 rfl rfl ?_
  refine zr_aload_n (pc := 11) (i := 0) 0 hC dX12_image_11 rfl rfl ?_
  refine zr_getI (pc := 12) (j := 32) hC mem_69 lay_69 rfl rfl (Nat.le_of_ble_eq_true rfl) iX12 m_1427 dX12_image_12 ?_
  refine zr_putInt (pc := 15) (j := 59) hC mem_69 lay_69 rfl rfl (Nat.le_of_ble_eq_true rfl) iX12 tyX12_ok nmX12 m_1454 rfl (by decide +kernel) dX12_image_15 ?_
  refine zr_aload_n (pc := 18) (i := 0) 0 hC dX12_image_18 rfl rfl ?_
  refine zr_aload_n (pc := 19) (i := 0) 0 hC dX12_image_19 rfl rfl ?_
  refine zr_getI (pc := 20) (j := 33) hC mem_69 lay_69 rfl rfl (Nat.le_of_ble_eq_true rfl) iX12 m_1428 dX12_image_20 ?_
  refine zr_putInt (pc := 23) (j := 60) hC mem_69 lay_69 rfl rfl (Nat.le_of_ble_eq_true rfl) iX12 tyX12_ok nmX12 m_1455 rfl (by decide +kernel) dX12_image_23 ?_
  refine zr_aload_n (pc := 26) (i := 0) 0 hC dX12_image_26 rfl rfl ?_
  refine zr_aload_n (pc := 27) (i := 0) 0 hC dX12_image_27 rfl rfl ?_
  refine zr_getR (pc := 28) (j := 61) (k1 := 106) hC mem_69 lay_69 rfl rfl (Nat.le_of_ble_eq_true rfl) iX12 m_1456 dX12_image_28 ?_
  refine zr_iconst (pc := 31) (v := (0 : Int32)) hC dX12_image_31 ic_0 ?_
  refine zr_callVv (pc := 32) (As := fun ad => [.ref (ad 106), .int (0 : Int32)]) (st1 := []) hC (Nat.le_of_ble_eq_true rfl) (kX12_pack _ ar_106 (0 : Int32) _) (Nat.le_of_ble_eq_true rfl) mc_yX12_pack m_1836 m_1838 m_p92 mem_69 lay_69 rfl rfl rfl rfl (Nat.le_of_ble_eq_true rfl) dX12_image_32 (fun y_5 s_5 => ?_)
  refine zr_aload_n (pc := 35) (i := 0) 0 hC dX12_image_35 rfl rfl ?_
  refine zr_getR (pc := 36) (j := 62) (k1 := 107) hC mem_69 lay_69 rfl rfl (Nat.le_of_ble_eq_true rfl) iX12 m_1457 dX12_image_36 ?_
  refine zr_aload_n (pc := 39) (i := 0) 0 hC dX12_image_39 rfl rfl ?_
  refine zr_getR (pc := 40) (j := 31) (k1 := 89) hC mem_69 lay_69 rfl rfl (Nat.le_of_ble_eq_true rfl) iX12 m_1426 dX12_image_40 ?_
  refine zr_callSv (pc := 43) (As := fun ad => [.ref (ad 107), .ref (ad 89)]) (st1 := []) hC (Nat.le_of_ble_eq_true rfl) (kX12_be _ ar_107 ar_89 _) (Nat.le_of_ble_eq_true rfl) mc_yX12_be m_2002 m_2003 rfl rfl rfl (Nat.le_of_ble_eq_true rfl) dX12_image_43 (fun y_6 s_6 => ?_)
  refine zr_aload_n (pc := 46) (i := 0) 0 hC dX12_image_46 rfl rfl ?_
  refine zr_getR (pc := 47) (j := 63) (k1 := 108) hC mem_69 lay_69 rfl rfl (Nat.le_of_ble_eq_true rfl) iX12 m_1458 dX12_image_47 ?_
  refine zr_aload_n (pc := 50) (i := 0) 0 hC dX12_image_50 rfl rfl ?_
  refine zr_getR (pc := 51) (j := 53) (k1 := 102) hC mem_69 lay_69 rfl rfl (Nat.le_of_ble_eq_true rfl) iX12 m_1448 dX12_image_51 ?_
  refine zr_callSv (pc := 54) (As := fun ad => [.ref (ad 108), .ref (ad 102)]) (st1 := []) hC (Nat.le_of_ble_eq_true rfl) (kX12_be _ ar_108 ar_102 _) (Nat.le_of_ble_eq_true rfl) mc_yX12_be m_2002 m_2003 rfl rfl rfl (Nat.le_of_ble_eq_true rfl) dX12_image_54 (fun y_7 s_7 => ?_)
  refine zr_aload_n (pc := 57) (i := 0) 0 hC dX12_image_57 rfl rfl ?_
  refine zr_getR (pc := 58) (j := 64) (k1 := 109) hC mem_69 lay_69 rfl rfl (Nat.le_of_ble_eq_true rfl) iX12 m_1459 dX12_image_58 ?_
  refine zr_aload_n (pc := 61) (i := 0) 0 hC dX12_image_61 rfl rfl ?_
  refine zr_getR (pc := 62) (j := 54) (k1 := 103) hC mem_69 lay_69 rfl rfl (Nat.le_of_ble_eq_true rfl) iX12 m_1449 dX12_image_62 ?_
  refine zr_callSv (pc := 65) (As := fun ad => [.ref (ad 109), .ref (ad 103)]) (st1 := []) hC (Nat.le_of_ble_eq_true rfl) (kX12_be _ ar_109 ar_103 _) (Nat.le_of_ble_eq_true rfl) mc_yX12_be m_2002 m_2003 rfl rfl rfl (Nat.le_of_ble_eq_true rfl) dX12_image_65 (fun y_8 s_8 => ?_)
  refine zr_aload_n (pc := 68) (i := 0) 0 hC dX12_image_68 rfl rfl ?_
  refine zr_getR (pc := 69) (j := 65) (k1 := 110) hC mem_69 lay_69 rfl rfl (Nat.le_of_ble_eq_true rfl) iX12 m_1460 dX12_image_69 ?_
  refine zr_aload_n (pc := 72) (i := 0) 0 hC dX12_image_72 rfl rfl ?_
  refine zr_getR (pc := 73) (j := 16) (k1 := 85) hC mem_69 lay_69 rfl rfl (Nat.le_of_ble_eq_true rfl) iX12 m_1411 dX12_image_73 ?_
  refine zr_callSv (pc := 76) (As := fun ad => [.ref (ad 110), .ref (ad 85)]) (st1 := []) hC (Nat.le_of_ble_eq_true rfl) (kX12_be _ ar_110 ar_85 _) (Nat.le_of_ble_eq_true rfl) mc_yX12_be m_2002 m_2003 rfl rfl rfl (Nat.le_of_ble_eq_true rfl) dX12_image_76 (fun y_9 s_9 => ?_)
  exact zr_vret (pc := 79) hC hR dX12_image_79
def fX12_restore (s : St) : Option (Int32 × St) :=
  let s_1 := wr s 69 1 (0 : Int32);
    if (s_1 69 58) = 0 then
    (some ((0 : Int32), s_1))
  else
    (let s_2 := wr s_1 69 32 (s_1 69 59);
    let s_3 := wr s_2 69 33 (s_2 69 60);
    bd (fX12_unpack 106 (0 : Int32) s_3) (fun y_4 s_4 =>
    bd (fX12_be 89 107 s_4) (fun y_5 s_5 =>
    bd (fX12_be 102 108 s_5) (fun y_6 s_6 =>
    bd (fX12_be 103 109 s_6) (fun y_7 s_7 =>
    bd (fX12_be 85 110 s_7) (fun y_8 s_8 =>
    some ((1 : Int32), s_8)))))))
set_option maxRecDepth 100000 in
set_option maxHeartbeats 4000000 in
theorem kX12_restore (l : Launch)  (s : St) : CN l yX12_restore cX12_restore 1 (some .boolean) 2 FULL (fun ad => [.ref (ad 69)]) s (fX12_restore s) := by
  refine cn_of (by decide) (fun _ => (Nat.le_of_ble_eq_true rfl)) (fun X hC hR hl hN => ?_)
  subst hl
  show Zr X (QFN X (some .boolean)) 0 s 0 [(0, .ref (X_ad X 69))] [] _
  rw [fX12_restore]
  refine zr_aload_n (pc := 0) (i := 0) 0 hC dX12_restore_0 rfl rfl ?_
  refine zr_iconst (pc := 1) (v := (0 : Int32)) hC dX12_restore_1 ic_0 ?_
  refine zr_putInt (pc := 2) (j := 1) hC mem_69 lay_69 rfl rfl (Nat.le_of_ble_eq_true rfl) iX12 tyX12_ok nmX12 m_1396 rfl (by decide +kernel) dX12_restore_2 ?_
  refine zr_aload_n (pc := 5) (i := 0) 0 hC dX12_restore_5 rfl rfl ?_
  refine zr_getI (pc := 6) (j := 58) hC mem_69 lay_69 rfl rfl (Nat.le_of_ble_eq_true rfl) iX12 m_1453 dX12_restore_6 ?_
  refine zr_if_ne (pc := 9) (tgt := 14) hC dX12_restore_9 (by decide) (fun c_ => ?_) (fun c_ => ?_)
  · refine zr_iconst (pc := 12) (v := (0 : Int32)) hC dX12_restore_12 ic_0 ?_
    exact zr_zret (pc := 13) (by decide) hC hR dX12_restore_13
  · refine zr_aload_n (pc := 14) (i := 0) 0 hC dX12_restore_14 rfl rfl ?_
    refine zr_aload_n (pc := 15) (i := 0) 0 hC dX12_restore_15 rfl rfl ?_
    refine zr_getI (pc := 16) (j := 59) hC mem_69 lay_69 rfl rfl (Nat.le_of_ble_eq_true rfl) iX12 m_1454 dX12_restore_16 ?_
    refine zr_putInt (pc := 19) (j := 32) hC mem_69 lay_69 rfl rfl (Nat.le_of_ble_eq_true rfl) iX12 tyX12_ok nmX12 m_1427 rfl (by decide +kernel) dX12_restore_19 ?_
    refine zr_aload_n (pc := 22) (i := 0) 0 hC dX12_restore_22 rfl rfl ?_
    refine zr_aload_n (pc := 23) (i := 0) 0 hC dX12_restore_23 rfl rfl ?_
    refine zr_getI (pc := 24) (j := 60) hC mem_69 lay_69 rfl rfl (Nat.le_of_ble_eq_true rfl) iX12 m_1455 dX12_restore_24 ?_
    refine zr_putInt (pc := 27) (j := 33) hC mem_69 lay_69 rfl rfl (Nat.le_of_ble_eq_true rfl) iX12 tyX12_ok nmX12 m_1428 rfl (by decide +kernel) dX12_restore_27 ?_
    refine zr_aload_n (pc := 30) (i := 0) 0 hC dX12_restore_30 rfl rfl ?_
    refine zr_aload_n (pc := 31) (i := 0) 0 hC dX12_restore_31 rfl rfl ?_
    refine zr_getR (pc := 32) (j := 61) (k1 := 106) hC mem_69 lay_69 rfl rfl (Nat.le_of_ble_eq_true rfl) iX12 m_1456 dX12_restore_32 ?_
    refine zr_iconst (pc := 35) (v := (0 : Int32)) hC dX12_restore_35 ic_0 ?_
    refine zr_callVv (pc := 36) (As := fun ad => [.ref (ad 106), .int (0 : Int32)]) (st1 := []) hC (Nat.le_of_ble_eq_true rfl) (kX12_unpack _ ar_106 (0 : Int32) _) (Nat.le_of_ble_eq_true rfl) mc_yX12_unpack m_1905 m_1907 m_p103 mem_69 lay_69 rfl rfl rfl rfl (Nat.le_of_ble_eq_true rfl) dX12_restore_36 (fun y_4 s_4 => ?_)
    refine zr_aload_n (pc := 39) (i := 0) 0 hC dX12_restore_39 rfl rfl ?_
    refine zr_getR (pc := 40) (j := 31) (k1 := 89) hC mem_69 lay_69 rfl rfl (Nat.le_of_ble_eq_true rfl) iX12 m_1426 dX12_restore_40 ?_
    refine zr_aload_n (pc := 43) (i := 0) 0 hC dX12_restore_43 rfl rfl ?_
    refine zr_getR (pc := 44) (j := 62) (k1 := 107) hC mem_69 lay_69 rfl rfl (Nat.le_of_ble_eq_true rfl) iX12 m_1457 dX12_restore_44 ?_
    refine zr_callSv (pc := 47) (As := fun ad => [.ref (ad 89), .ref (ad 107)]) (st1 := []) hC (Nat.le_of_ble_eq_true rfl) (kX12_be _ ar_89 ar_107 _) (Nat.le_of_ble_eq_true rfl) mc_yX12_be m_2002 m_2003 rfl rfl rfl (Nat.le_of_ble_eq_true rfl) dX12_restore_47 (fun y_5 s_5 => ?_)
    refine zr_aload_n (pc := 50) (i := 0) 0 hC dX12_restore_50 rfl rfl ?_
    refine zr_getR (pc := 51) (j := 53) (k1 := 102) hC mem_69 lay_69 rfl rfl (Nat.le_of_ble_eq_true rfl) iX12 m_1448 dX12_restore_51 ?_
    refine zr_aload_n (pc := 54) (i := 0) 0 hC dX12_restore_54 rfl rfl ?_
    refine zr_getR (pc := 55) (j := 63) (k1 := 108) hC mem_69 lay_69 rfl rfl (Nat.le_of_ble_eq_true rfl) iX12 m_1458 dX12_restore_55 ?_
    refine zr_callSv (pc := 58) (As := fun ad => [.ref (ad 102), .ref (ad 108)]) (st1 := []) hC (Nat.le_of_ble_eq_true rfl) (kX12_be _ ar_102 ar_108 _) (Nat.le_of_ble_eq_true rfl) mc_yX12_be m_2002 m_2003 rfl rfl rfl (Nat.le_of_ble_eq_true rfl) dX12_restore_58 (fun y_6 s_6 => ?_)
    refine zr_aload_n (pc := 61) (i := 0) 0 hC dX12_restore_61 rfl rfl ?_
    refine zr_getR (pc := 62) (j := 54) (k1 := 103) hC mem_69 lay_69 rfl rfl (Nat.le_of_ble_eq_true rfl) iX12 m_1449 dX12_restore_62 ?_
    refine zr_aload_n (pc := 65) (i := 0) 0 hC dX12_restore_65 rfl rfl ?_
    refine zr_getR (pc := 66) (j := 64) (k1 := 109) hC mem_69 lay_69 rfl rfl (Nat.le_of_ble_eq_true rfl) iX12 m_1459 dX12_restore_66 ?_
    refine zr_callSv (pc := 69) (As := fun ad => [.ref (ad 103), .ref (ad 109)]) (st1 := []) hC (Nat.le_of_ble_eq_true rfl) (kX12_be _ ar_103 ar_109 _) (Nat.le_of_ble_eq_true rfl) mc_yX12_be m_2002 m_2003 rfl rfl rfl (Nat.le_of_ble_eq_true rfl) dX12_restore_69 (fun y_7 s_7 => ?_)
    refine zr_aload_n (pc := 72) (i := 0) 0 hC dX12_restore_72 rfl rfl ?_
    refine zr_getR (pc := 73) (j := 16) (k1 := 85) hC mem_69 lay_69 rfl rfl (Nat.le_of_ble_eq_true rfl) iX12 m_1411 dX12_restore_73 ?_
    refine zr_aload_n (pc := 76) (i := 0) 0 hC dX12_restore_76 rfl rfl ?_
    refine zr_getR (pc := 77) (j := 65) (k1 := 110) hC mem_69 lay_69 rfl rfl (Nat.le_of_ble_eq_true rfl) iX12 m_1460 dX12_restore_77 ?_
    refine zr_callSv (pc := 80) (As := fun ad => [.ref (ad 85), .ref (ad 110)]) (st1 := []) hC (Nat.le_of_ble_eq_true rfl) (kX12_be _ ar_85 ar_110 _) (Nat.le_of_ble_eq_true rfl) mc_yX12_be m_2002 m_2003 rfl rfl rfl (Nat.le_of_ble_eq_true rfl) dX12_restore_80 (fun y_8 s_8 => ?_)
    refine zr_iconst (pc := 83) (v := (1 : Int32)) hC dX12_restore_83 ic_1 ?_
    exact zr_zret (pc := 84) (by decide) hC hR dX12_restore_84
