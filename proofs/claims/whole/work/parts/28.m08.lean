def fX12_readLine_J191 (v1 : Int32) (v2 : Int32) (s : St) : Option (Int32 × St) :=
  if (s 69 26) = 0 then
    (bd (fX12_readField s) (fun y_10 s_10 =>
    bd (fX12_mark (59 : Int32) s_10) (fun y_11 s_11 =>
    some ((v1 ||| v2), s_11))))
  else
    (bd (fX12_mark (59 : Int32) s) (fun y_9 s_9 =>
    some ((v1 ||| v2), s_9)))
set_option maxRecDepth 100000 in
set_option maxHeartbeats 4000000 in
theorem tX12_readLine_J191 (v1 : Int32) (v2 : Int32) (X : KX) (hC : Ctx X RX12 cX12_readLine FULL 72 0) (hR : RC X (some .int)) (hN : X_nL X = 4) (s : St) : Zr X (QFN X (some .int)) 0 s 191 [(0, .ref (X_ad X 69)), (1, .int v1), (2, .int v2)] [] (fX12_readLine_J191 v1 v2 s) := by
  rw [fX12_readLine_J191]
  refine zr_aload_n (pc := 191) (i := 0) 0 hC dX12_readLine_191 rfl rfl ?_
  refine zr_getI (pc := 192) (j := 26) hC mem_69 lay_69 rfl rfl (Nat.le_of_ble_eq_true rfl) iX12 m_1421 dX12_readLine_192 ?_
  refine zr_if_ne (pc := 195) (tgt := 202) hC dX12_readLine_195 (by decide) (fun c_ => ?_) (fun c_ => ?_)
  · refine zr_aload_n (pc := 198) (i := 0) 0 hC dX12_readLine_198 rfl rfl ?_
    refine zr_callVv (pc := 199) (As := fun ad => []) (st1 := []) hC (Nat.le_of_ble_eq_true rfl) (kX12_readField _  _) (Nat.le_of_ble_eq_true rfl) mc_yX12_readField m_1724 m_1726 m_p77 mem_69 lay_69 rfl rfl rfl rfl (Nat.le_of_ble_eq_true rfl) dX12_readLine_199 (fun y_10 s_10 => ?_)
    refine zr_aload_n (pc := 202) (i := 0) 0 hC dX12_readLine_202 rfl rfl ?_
    refine zr_bipush (pc := 203) (v := (59 : Int32)) hC dX12_readLine_203 bi_59 ?_
    refine zr_callVv (pc := 205) (As := fun ad => [.int (59 : Int32)]) (st1 := []) hC (Nat.le_of_ble_eq_true rfl) (kX12_mark _ (59 : Int32) _) (Nat.le_of_ble_eq_true rfl) mc_yX12_mark m_1691 m_1693 m_p70 mem_69 lay_69 rfl rfl rfl rfl (Nat.le_of_ble_eq_true rfl) dX12_readLine_205 (fun y_11 s_11 => ?_)
    refine zr_iload_n (pc := 208) (i := 1) 1 hC dX12_readLine_208 rfl rfl ?_
    refine zr_iload_n (pc := 209) (i := 2) 2 hC dX12_readLine_209 rfl rfl ?_
    refine zr_ior (pc := 210) hC dX12_readLine_210 ?_
    exact zr_iret (pc := 211) hC hR dX12_readLine_211
  · refine zr_aload_n (pc := 202) (i := 0) 0 hC dX12_readLine_202 rfl rfl ?_
    refine zr_bipush (pc := 203) (v := (59 : Int32)) hC dX12_readLine_203 bi_59 ?_
    refine zr_callVv (pc := 205) (As := fun ad => [.int (59 : Int32)]) (st1 := []) hC (Nat.le_of_ble_eq_true rfl) (kX12_mark _ (59 : Int32) _) (Nat.le_of_ble_eq_true rfl) mc_yX12_mark m_1691 m_1693 m_p70 mem_69 lay_69 rfl rfl rfl rfl (Nat.le_of_ble_eq_true rfl) dX12_readLine_205 (fun y_9 s_9 => ?_)
    refine zr_iload_n (pc := 208) (i := 1) 1 hC dX12_readLine_208 rfl rfl ?_
    refine zr_iload_n (pc := 209) (i := 2) 2 hC dX12_readLine_209 rfl rfl ?_
    refine zr_ior (pc := 210) hC dX12_readLine_210 ?_
    exact zr_iret (pc := 211) hC hR dX12_readLine_211
def fX12_readLine_J98 (v1 : Int32) (v2 : Int32) (s : St) : Option (Int32 × St) :=
  if v2 = (1 : Int32) then
    (bd (fX12_readNumber (1 : Int32) (3996 : Int32) s) (fun y_21 s_21 =>
    if inA (8 : Int32) 10 then
    (let s_22 := wr s_21 71 (8 : Int32).toNatClampNeg y_21;
    bd (fX12_mark (59 : Int32) s_22) (fun y_23 s_23 =>
    some ((v1 ||| v2), s_23))) else none))
  else
    (bd (fX12_readExpression 9 (0 : Int32) s) (fun y_19 s_19 =>
    bd (fX12_mark (59 : Int32) s_19) (fun y_20 s_20 =>
    some ((v1 ||| v2), s_20))))
set_option maxRecDepth 100000 in
set_option maxHeartbeats 4000000 in
theorem tX12_readLine_J98 (v1 : Int32) (v2 : Int32) (X : KX) (hC : Ctx X RX12 cX12_readLine FULL 72 0) (hR : RC X (some .int)) (hN : X_nL X = 4) (s : St) : Zr X (QFN X (some .int)) 0 s 98 [(0, .ref (X_ad X 69)), (1, .int v1), (2, .int v2)] [] (fX12_readLine_J98 v1 v2 s) := by
  rw [fX12_readLine_J98]
  refine zr_iload_n (pc := 98) (i := 2) 2 hC dX12_readLine_98 rfl rfl ?_
  refine zr_iconst (pc := 99) (v := (1 : Int32)) hC dX12_readLine_99 ic_1 ?_
  refine zr_icmp_ne (pc := 100) (tgt := 121) hC dX12_readLine_100 (by decide) (fun c_ => ?_) (fun c_ => ?_)
  · refine zr_aload_n (pc := 103) (i := 0) 0 hC dX12_readLine_103 rfl rfl ?_
    refine zr_getR (pc := 104) (j := 2) (k1 := 71) hC mem_69 lay_69 rfl rfl (Nat.le_of_ble_eq_true rfl) iX12 m_1397 dX12_readLine_104 ?_
    refine zr_bipush (pc := 107) (v := (8 : Int32)) hC dX12_readLine_107 bi_8 ?_
    refine zr_aload_n (pc := 109) (i := 0) 0 hC dX12_readLine_109 rfl rfl ?_
    refine zr_iconst (pc := 110) (v := (1 : Int32)) hC dX12_readLine_110 ic_1 ?_
    refine zr_sipush (pc := 111) (v := (3996 : Int32)) hC dX12_readLine_111 si_3996 ?_
    refine zr_callV (pc := 114) (As := fun ad => [.int (1 : Int32), .int (3996 : Int32)]) (st1 := [.int (8 : Int32), .ref (X_ad X 71)]) hC (Nat.le_of_ble_eq_true rfl) (kX12_readNumber _ (1 : Int32) (3996 : Int32) _) (Nat.le_of_ble_eq_true rfl) mc_yX12_readNumber m_1646 m_1648 m_p59 mem_69 lay_69 rfl rfl rfl rfl (Nat.le_of_ble_eq_true rfl) dX12_readLine_114 (fun y_21 s_21 => ?_)
    refine zr_iast (pc := 117) hC mem_71 lay_71 dX12_readLine_117 ?_
    refine zr_goto (pc := 118) (tgt := 202) hC dX12_readLine_118 (by decide) ?_
    refine zr_aload_n (pc := 202) (i := 0) 0 hC dX12_readLine_202 rfl rfl ?_
    refine zr_bipush (pc := 203) (v := (59 : Int32)) hC dX12_readLine_203 bi_59 ?_
    refine zr_callVv (pc := 205) (As := fun ad => [.int (59 : Int32)]) (st1 := []) hC (Nat.le_of_ble_eq_true rfl) (kX12_mark _ (59 : Int32) _) (Nat.le_of_ble_eq_true rfl) mc_yX12_mark m_1691 m_1693 m_p70 mem_69 lay_69 rfl rfl rfl rfl (Nat.le_of_ble_eq_true rfl) dX12_readLine_205 (fun y_23 s_23 => ?_)
    refine zr_iload_n (pc := 208) (i := 1) 1 hC dX12_readLine_208 rfl rfl ?_
    refine zr_iload_n (pc := 209) (i := 2) 2 hC dX12_readLine_209 rfl rfl ?_
    refine zr_ior (pc := 210) hC dX12_readLine_210 ?_
    exact zr_iret (pc := 211) hC hR dX12_readLine_211
  · refine zr_aload_n (pc := 121) (i := 0) 0 hC dX12_readLine_121 rfl rfl ?_
    refine zr_iconst (pc := 122) (v := (0 : Int32)) hC dX12_readLine_122 ic_0 ?_
    refine zr_callVv (pc := 123) (As := fun ad => [.int (0 : Int32)]) (st1 := []) hC (Nat.le_of_ble_eq_true rfl) (kX12_readExpression _ 9 (0 : Int32) _) (Nat.le_of_ble_eq_true rfl) mc_yX12_readExpression m_1654 m_1656 m_p61 mem_69 lay_69 rfl rfl rfl rfl (Nat.le_of_ble_eq_true rfl) dX12_readLine_123 (fun y_19 s_19 => ?_)
    refine zr_goto (pc := 126) (tgt := 202) hC dX12_readLine_126 (by decide) ?_
    refine zr_aload_n (pc := 202) (i := 0) 0 hC dX12_readLine_202 rfl rfl ?_
    refine zr_bipush (pc := 203) (v := (59 : Int32)) hC dX12_readLine_203 bi_59 ?_
    refine zr_callVv (pc := 205) (As := fun ad => [.int (59 : Int32)]) (st1 := []) hC (Nat.le_of_ble_eq_true rfl) (kX12_mark _ (59 : Int32) _) (Nat.le_of_ble_eq_true rfl) mc_yX12_mark m_1691 m_1693 m_p70 mem_69 lay_69 rfl rfl rfl rfl (Nat.le_of_ble_eq_true rfl) dX12_readLine_205 (fun y_20 s_20 => ?_)
    refine zr_iload_n (pc := 208) (i := 1) 1 hC dX12_readLine_208 rfl rfl ?_
    refine zr_iload_n (pc := 209) (i := 2) 2 hC dX12_readLine_209 rfl rfl ?_
    refine zr_ior (pc := 210) hC dX12_readLine_210 ?_
    exact zr_iret (pc := 211) hC hR dX12_readLine_211
def fX12_readLine_J83 (v1 : Int32) (v2 : Int32) (v3 : Int32) (s : St) : Option (Int32 × St) :=
  if v2 ≤ 0 then
    (if v3 = (-1 : Int32) then
    (bd (fX12_is 1008 s) (fun y_6 s_6 =>
    if y_6 = 0 then
    (bd (fX12_is 1009 s_6) (fun y_7 s_7 =>
    if y_7 = 0 then
    (bd (fX12_is 1010 s_7) (fun y_8 s_8 =>
    if y_8 = 0 then
    (bd (fX12_wrong (1 : Int32) s_8) (fun y_12 s_12 =>
    fX12_readLine_J191 v1 v2 s_12))
  else
    (fX12_readLine_J191 v1 v2 s_8)))
  else
    (bd (fX12_readWill s_7) (fun y_13 s_13 =>
    bd (fX12_mark (59 : Int32) s_13) (fun y_14 s_14 =>
    some ((v1 ||| v2), s_14))))))
  else
    (bd (fX12_readWed s_6) (fun y_15 s_15 =>
    bd (fX12_mark (59 : Int32) s_15) (fun y_16 s_16 =>
    some ((v1 ||| v2), s_16))))))
  else
    (bd (fX12_readSomebody v3 s) (fun y_17 s_17 =>
    bd (fX12_mark (59 : Int32) s_17) (fun y_18 s_18 =>
    some ((v1 ||| v2), s_18)))))
  else
    (if (s 69 26) = 0 then
    (bd (fX12_stepOn s) (fun y_24 s_24 =>
    fX12_readLine_J98 v1 v2 s_24))
  else
    (fX12_readLine_J98 v1 v2 s))
set_option maxRecDepth 100000 in
set_option maxHeartbeats 4000000 in
theorem tX12_readLine_J83 (v1 : Int32) (v2 : Int32) (v3 : Int32) (X : KX) (hC : Ctx X RX12 cX12_readLine FULL 72 0) (hR : RC X (some .int)) (hN : X_nL X = 4) (s : St) : Zr X (QFN X (some .int)) 0 s 83 [(0, .ref (X_ad X 69)), (1, .int v1), (2, .int v2), (3, .int v3)] [] (fX12_readLine_J83 v1 v2 v3 s) := by
  rw [fX12_readLine_J83]
  refine zr_iload_n (pc := 83) (i := 2) 2 hC dX12_readLine_83 rfl rfl ?_
  refine zr_if_le (pc := 84) (tgt := 129) hC dX12_readLine_84 (by decide) (fun c_ => ?_) (fun c_ => ?_)
  · refine zr_iload_n (pc := 129) (i := 3) 3 hC dX12_readLine_129 rfl rfl ?_
    refine zr_iconst (pc := 130) (v := (-1 : Int32)) hC dX12_readLine_130 ic_m1 ?_
    refine zr_icmp_eq (pc := 131) (tgt := 142) hC dX12_readLine_131 (by decide) (fun c_ => ?_) (fun c_ => ?_)
    · refine zr_aload_n (pc := 142) (i := 0) 0 hC dX12_readLine_142 rfl rfl ?_
      refine zr_ldcSw (pc := 143) (own := RX12) (t := 8) hC dX12_readLine_143 (by decide +kernel) ?_
      refine zr_callV (pc := 146) (As := fun ad => [.ref (ad 1008)]) (st1 := []) hC (Nat.le_of_ble_eq_true rfl) (kX12_is _ (str_is 1008 (by decide)) _) (Nat.le_of_ble_eq_true rfl) mc_yX12_is m_1634 m_1636 m_p57 mem_69 lay_69 rfl rfl rfl rfl (Nat.le_of_ble_eq_true rfl) dX12_readLine_146 (fun y_6 s_6 => ?_)
      refine zr_if_eq (pc := 149) (tgt := 159) hC dX12_readLine_149 (by decide) (fun c_ => ?_) (fun c_ => ?_)
      · refine zr_aload_n (pc := 159) (i := 0) 0 hC dX12_readLine_159 rfl rfl ?_
        refine zr_ldcSw (pc := 160) (own := RX12) (t := 9) hC dX12_readLine_160 (by decide +kernel) ?_
        refine zr_callV (pc := 163) (As := fun ad => [.ref (ad 1009)]) (st1 := []) hC (Nat.le_of_ble_eq_true rfl) (kX12_is _ (str_is 1009 (by decide)) _) (Nat.le_of_ble_eq_true rfl) mc_yX12_is m_1634 m_1636 m_p57 mem_69 lay_69 rfl rfl rfl rfl (Nat.le_of_ble_eq_true rfl) dX12_readLine_163 (fun y_7 s_7 => ?_)
        refine zr_if_eq (pc := 166) (tgt := 176) hC dX12_readLine_166 (by decide) (fun c_ => ?_) (fun c_ => ?_)
        · refine zr_aload_n (pc := 176) (i := 0) 0 hC dX12_readLine_176 rfl rfl ?_
          refine zr_ldcSw (pc := 177) (own := RX12) (t := 10) hC dX12_readLine_177 (by decide +kernel) ?_
          refine zr_callV (pc := 180) (As := fun ad => [.ref (ad 1010)]) (st1 := []) hC (Nat.le_of_ble_eq_true rfl) (kX12_is _ (str_is 1010 (by decide)) _) (Nat.le_of_ble_eq_true rfl) mc_yX12_is m_1634 m_1636 m_p57 mem_69 lay_69 rfl rfl rfl rfl (Nat.le_of_ble_eq_true rfl) dX12_readLine_180 (fun y_8 s_8 => ?_)
          refine zr_if_ne (pc := 183) (tgt := 191) hC dX12_readLine_183 (by decide) (fun c_ => ?_) (fun c_ => ?_)
          · refine zr_aload_n (pc := 186) (i := 0) 0 hC dX12_readLine_186 rfl rfl ?_
            refine zr_iconst (pc := 187) (v := (1 : Int32)) hC dX12_readLine_187 ic_1 ?_
            refine zr_callVv (pc := 188) (As := fun ad => [.int (1 : Int32)]) (st1 := []) hC (Nat.le_of_ble_eq_true rfl) (kX12_wrong _ (1 : Int32) _) (Nat.le_of_ble_eq_true rfl) mc_yX12_wrong m_1642 m_1644 m_p58 mem_69 lay_69 rfl rfl rfl rfl (Nat.le_of_ble_eq_true rfl) dX12_readLine_188 (fun y_12 s_12 => ?_)
            refine zr_sub (ls' := [(0, _), (1, _), (2, _)]) [0, 1, 2] rfl ?_
            exact tX12_readLine_J191 v1 v2 X hC hR hN  _
          · refine zr_sub (ls' := [(0, _), (1, _), (2, _)]) [0, 1, 2] rfl ?_
            exact tX12_readLine_J191 v1 v2 X hC hR hN  _
        · refine zr_aload_n (pc := 169) (i := 0) 0 hC dX12_readLine_169 rfl rfl ?_
          refine zr_callVv (pc := 170) (As := fun ad => []) (st1 := []) hC (Nat.le_of_ble_eq_true rfl) (kX12_readWill _  _) (Nat.le_of_ble_eq_true rfl) mc_yX12_readWill m_1719 m_1721 m_p76 mem_69 lay_69 rfl rfl rfl rfl (Nat.le_of_ble_eq_true rfl) dX12_readLine_170 (fun y_13 s_13 => ?_)
          refine zr_goto (pc := 173) (tgt := 202) hC dX12_readLine_173 (by decide) ?_
          refine zr_aload_n (pc := 202) (i := 0) 0 hC dX12_readLine_202 rfl rfl ?_
          refine zr_bipush (pc := 203) (v := (59 : Int32)) hC dX12_readLine_203 bi_59 ?_
          refine zr_callVv (pc := 205) (As := fun ad => [.int (59 : Int32)]) (st1 := []) hC (Nat.le_of_ble_eq_true rfl) (kX12_mark _ (59 : Int32) _) (Nat.le_of_ble_eq_true rfl) mc_yX12_mark m_1691 m_1693 m_p70 mem_69 lay_69 rfl rfl rfl rfl (Nat.le_of_ble_eq_true rfl) dX12_readLine_205 (fun y_14 s_14 => ?_)
          refine zr_iload_n (pc := 208) (i := 1) 1 hC dX12_readLine_208 rfl rfl ?_
          refine zr_iload_n (pc := 209) (i := 2) 2 hC dX12_readLine_209 rfl rfl ?_
          refine zr_ior (pc := 210) hC dX12_readLine_210 ?_
          exact zr_iret (pc := 211) hC hR dX12_readLine_211
      · refine zr_aload_n (pc := 152) (i := 0) 0 hC dX12_readLine_152 rfl rfl ?_
        refine zr_callVv (pc := 153) (As := fun ad => []) (st1 := []) hC (Nat.le_of_ble_eq_true rfl) (kX12_readWed _  _) (Nat.le_of_ble_eq_true rfl) mc_yX12_readWed m_1714 m_1716 m_p75 mem_69 lay_69 rfl rfl rfl rfl (Nat.le_of_ble_eq_true rfl) dX12_readLine_153 (fun y_15 s_15 => ?_)
        refine zr_goto (pc := 156) (tgt := 202) hC dX12_readLine_156 (by decide) ?_
        refine zr_aload_n (pc := 202) (i := 0) 0 hC dX12_readLine_202 rfl rfl ?_
        refine zr_bipush (pc := 203) (v := (59 : Int32)) hC dX12_readLine_203 bi_59 ?_
        refine zr_callVv (pc := 205) (As := fun ad => [.int (59 : Int32)]) (st1 := []) hC (Nat.le_of_ble_eq_true rfl) (kX12_mark _ (59 : Int32) _) (Nat.le_of_ble_eq_true rfl) mc_yX12_mark m_1691 m_1693 m_p70 mem_69 lay_69 rfl rfl rfl rfl (Nat.le_of_ble_eq_true rfl) dX12_readLine_205 (fun y_16 s_16 => ?_)
        refine zr_iload_n (pc := 208) (i := 1) 1 hC dX12_readLine_208 rfl rfl ?_
        refine zr_iload_n (pc := 209) (i := 2) 2 hC dX12_readLine_209 rfl rfl ?_
        refine zr_ior (pc := 210) hC dX12_readLine_210 ?_
        exact zr_iret (pc := 211) hC hR dX12_readLine_211
    · refine zr_aload_n (pc := 134) (i := 0) 0 hC dX12_readLine_134 rfl rfl ?_
      refine zr_iload_n (pc := 135) (i := 3) 3 hC dX12_readLine_135 rfl rfl ?_
      refine zr_callVv (pc := 136) (As := fun ad => [.int v3]) (st1 := []) hC (Nat.le_of_ble_eq_true rfl) (kX12_readSomebody _ v3 _) (Nat.le_of_ble_eq_true rfl) mc_yX12_readSomebody m_1697 m_1699 m_p71 mem_69 lay_69 rfl rfl rfl rfl (Nat.le_of_ble_eq_true rfl) dX12_readLine_136 (fun y_17 s_17 => ?_)
      refine zr_goto (pc := 139) (tgt := 202) hC dX12_readLine_139 (by decide) ?_
      refine zr_aload_n (pc := 202) (i := 0) 0 hC dX12_readLine_202 rfl rfl ?_
      refine zr_bipush (pc := 203) (v := (59 : Int32)) hC dX12_readLine_203 bi_59 ?_
      refine zr_callVv (pc := 205) (As := fun ad => [.int (59 : Int32)]) (st1 := []) hC (Nat.le_of_ble_eq_true rfl) (kX12_mark _ (59 : Int32) _) (Nat.le_of_ble_eq_true rfl) mc_yX12_mark m_1691 m_1693 m_p70 mem_69 lay_69 rfl rfl rfl rfl (Nat.le_of_ble_eq_true rfl) dX12_readLine_205 (fun y_18 s_18 => ?_)
      refine zr_iload_n (pc := 208) (i := 1) 1 hC dX12_readLine_208 rfl rfl ?_
      refine zr_iload_n (pc := 209) (i := 2) 2 hC dX12_readLine_209 rfl rfl ?_
      refine zr_ior (pc := 210) hC dX12_readLine_210 ?_
      exact zr_iret (pc := 211) hC hR dX12_readLine_211
  · refine zr_aload_n (pc := 87) (i := 0) 0 hC dX12_readLine_87 rfl rfl ?_
    refine zr_getI (pc := 88) (j := 26) hC mem_69 lay_69 rfl rfl (Nat.le_of_ble_eq_true rfl) iX12 m_1421 dX12_readLine_88 ?_
    refine zr_if_ne (pc := 91) (tgt := 98) hC dX12_readLine_91 (by decide) (fun c_ => ?_) (fun c_ => ?_)
    · refine zr_aload_n (pc := 94) (i := 0) 0 hC dX12_readLine_94 rfl rfl ?_
      refine zr_callVv (pc := 95) (As := fun ad => []) (st1 := []) hC (Nat.le_of_ble_eq_true rfl) (kX12_stepOn _  _) (Nat.le_of_ble_eq_true rfl) mc_yX12_stepOn m_1610 m_1612 m_p54 mem_69 lay_69 rfl rfl rfl rfl (Nat.le_of_ble_eq_true rfl) dX12_readLine_95 (fun y_24 s_24 => ?_)
      refine zr_sub (ls' := [(0, _), (1, _), (2, _)]) [0, 1, 2] rfl ?_
      exact tX12_readLine_J98 v1 v2 X hC hR hN  _
    · refine zr_sub (ls' := [(0, _), (1, _), (2, _)]) [0, 1, 2] rfl ?_
      exact tX12_readLine_J98 v1 v2 X hC hR hN  _
def fX12_readLine_J71 (v1 : Int32) (v2 : Int32) (q0 : Int32) (s : St) : Option (Int32 × St) :=
  if (v2 &&& v1) = 0 then
    (fX12_readLine_J83 v1 v2 q0 s)
  else
    (bd (fX12_wrong (5 : Int32) s) (fun y_25 s_25 =>
    fX12_readLine_J83 v1 v2 q0 s_25))
set_option maxRecDepth 100000 in
set_option maxHeartbeats 4000000 in
theorem tX12_readLine_J71 (v1 : Int32) (v2 : Int32) (q0 : Int32) (X : KX) (hC : Ctx X RX12 cX12_readLine FULL 72 0) (hR : RC X (some .int)) (hN : X_nL X = 4) (s : St) : Zr X (QFN X (some .int)) 0 s 71 [(0, .ref (X_ad X 69)), (1, .int v1), (2, .int v2)] [.int q0] (fX12_readLine_J71 v1 v2 q0 s) := by
  rw [fX12_readLine_J71]
  refine zr_istore_n (pc := 71) (i := 3) (ls' := [(3, _), (0, _), (1, _), (2, _)]) hC dX12_readLine_71 rfl (nlt hN (Nat.le_of_ble_eq_true rfl)) rfl ?_
  refine zr_iload_n (pc := 72) (i := 2) 3 hC dX12_readLine_72 rfl rfl ?_
  refine zr_iload_n (pc := 73) (i := 1) 2 hC dX12_readLine_73 rfl rfl ?_
  refine zr_iand (pc := 74) hC dX12_readLine_74 ?_
  refine zr_if_eq (pc := 75) (tgt := 83) hC dX12_readLine_75 (by decide) (fun c_ => ?_) (fun c_ => ?_)
  · refine zr_sub (ls' := [(0, _), (1, _), (2, _), (3, _)]) [1, 2, 3, 0] rfl ?_
    exact tX12_readLine_J83 v1 v2 q0 X hC hR hN  _
  · refine zr_aload_n (pc := 78) (i := 0) 1 hC dX12_readLine_78 rfl rfl ?_
    refine zr_iconst (pc := 79) (v := (5 : Int32)) hC dX12_readLine_79 ic_5 ?_
    refine zr_callVv (pc := 80) (As := fun ad => [.int (5 : Int32)]) (st1 := []) hC (Nat.le_of_ble_eq_true rfl) (kX12_wrong _ (5 : Int32) _) (Nat.le_of_ble_eq_true rfl) mc_yX12_wrong m_1642 m_1644 m_p58 mem_69 lay_69 rfl rfl rfl rfl (Nat.le_of_ble_eq_true rfl) dX12_readLine_80 (fun y_25 s_25 => ?_)
    refine zr_sub (ls' := [(0, _), (1, _), (2, _), (3, _)]) [1, 2, 3, 0] rfl ?_
    exact tX12_readLine_J83 v1 v2 q0 X hC hR hN  _
def fX12_readLine_J29 (v1 : Int32) (q0 : Int32) (s : St) : Option (Int32 × St) :=
  bd (fX12_is 1007 s) (fun y_3 s_3 =>
    if y_3 = 0 then
    (bd (fX12_is 1000 s_3) (fun y_4 s_4 =>
    if y_4 = 0 then
    (bd (fX12_is 1001 s_4) (fun y_5 s_5 =>
    if y_5 = 0 then
    (fX12_readLine_J71 v1 q0 (-1 : Int32) s_5)
  else
    (fX12_readLine_J71 v1 q0 (2 : Int32) s_5)))
  else
    (fX12_readLine_J71 v1 q0 (1 : Int32) s_4)))
  else
    (fX12_readLine_J71 v1 q0 (0 : Int32) s_3))
set_option maxRecDepth 100000 in
set_option maxHeartbeats 4000000 in
theorem tX12_readLine_J29 (v1 : Int32) (q0 : Int32) (X : KX) (hC : Ctx X RX12 cX12_readLine FULL 72 0) (hR : RC X (some .int)) (hN : X_nL X = 4) (s : St) : Zr X (QFN X (some .int)) 0 s 29 [(0, .ref (X_ad X 69)), (1, .int v1)] [.int q0] (fX12_readLine_J29 v1 q0 s) := by
  rw [fX12_readLine_J29]
  refine zr_istore_n (pc := 29) (i := 2) (ls' := [(2, _), (0, _), (1, _)]) hC dX12_readLine_29 rfl (nlt hN (Nat.le_of_ble_eq_true rfl)) rfl ?_
  refine zr_aload_n (pc := 30) (i := 0) 1 hC dX12_readLine_30 rfl rfl ?_
  refine zr_ldcSw (pc := 31) (own := RX12) (t := 7) hC dX12_readLine_31 (by decide +kernel) ?_
  refine zr_callV (pc := 34) (As := fun ad => [.ref (ad 1007)]) (st1 := []) hC (Nat.le_of_ble_eq_true rfl) (kX12_is _ (str_is 1007 (by decide)) _) (Nat.le_of_ble_eq_true rfl) mc_yX12_is m_1634 m_1636 m_p57 mem_69 lay_69 rfl rfl rfl rfl (Nat.le_of_ble_eq_true rfl) dX12_readLine_34 (fun y_3 s_3 => ?_)
  refine zr_if_eq (pc := 37) (tgt := 44) hC dX12_readLine_37 (by decide) (fun c_ => ?_) (fun c_ => ?_)
  · refine zr_aload_n (pc := 44) (i := 0) 1 hC dX12_readLine_44 rfl rfl ?_
    refine zr_ldcS (pc := 45) (own := RX12) (t := 0) hC dX12_readLine_45 (by decide +kernel) ?_
    refine zr_callV (pc := 47) (As := fun ad => [.ref (ad 1000)]) (st1 := []) hC (Nat.le_of_ble_eq_true rfl) (kX12_is _ (str_is 1000 (by decide)) _) (Nat.le_of_ble_eq_true rfl) mc_yX12_is m_1634 m_1636 m_p57 mem_69 lay_69 rfl rfl rfl rfl (Nat.le_of_ble_eq_true rfl) dX12_readLine_47 (fun y_4 s_4 => ?_)
    refine zr_if_eq (pc := 50) (tgt := 57) hC dX12_readLine_50 (by decide) (fun c_ => ?_) (fun c_ => ?_)
    · refine zr_aload_n (pc := 57) (i := 0) 1 hC dX12_readLine_57 rfl rfl ?_
      refine zr_ldcS (pc := 58) (own := RX12) (t := 1) hC dX12_readLine_58 (by decide +kernel) ?_
      refine zr_callV (pc := 60) (As := fun ad => [.ref (ad 1001)]) (st1 := []) hC (Nat.le_of_ble_eq_true rfl) (kX12_is _ (str_is 1001 (by decide)) _) (Nat.le_of_ble_eq_true rfl) mc_yX12_is m_1634 m_1636 m_p57 mem_69 lay_69 rfl rfl rfl rfl (Nat.le_of_ble_eq_true rfl) dX12_readLine_60 (fun y_5 s_5 => ?_)
      refine zr_if_eq (pc := 63) (tgt := 70) hC dX12_readLine_63 (by decide) (fun c_ => ?_) (fun c_ => ?_)
      · refine zr_iconst (pc := 70) (v := (-1 : Int32)) hC dX12_readLine_70 ic_m1 ?_
        refine zr_sub (ls' := [(0, _), (1, _), (2, _)]) [1, 2, 0] rfl ?_
        exact tX12_readLine_J71 v1 q0 (-1 : Int32) X hC hR hN  _
      · refine zr_iconst (pc := 66) (v := (2 : Int32)) hC dX12_readLine_66 ic_2 ?_
        refine zr_goto (pc := 67) (tgt := 71) hC dX12_readLine_67 (by decide) ?_
        refine zr_sub (ls' := [(0, _), (1, _), (2, _)]) [1, 2, 0] rfl ?_
        exact tX12_readLine_J71 v1 q0 (2 : Int32) X hC hR hN  _
    · refine zr_iconst (pc := 53) (v := (1 : Int32)) hC dX12_readLine_53 ic_1 ?_
      refine zr_goto (pc := 54) (tgt := 71) hC dX12_readLine_54 (by decide) ?_
      refine zr_sub (ls' := [(0, _), (1, _), (2, _)]) [1, 2, 0] rfl ?_
      exact tX12_readLine_J71 v1 q0 (1 : Int32) X hC hR hN  _
  · refine zr_iconst (pc := 40) (v := (0 : Int32)) hC dX12_readLine_40 ic_0 ?_
    refine zr_goto (pc := 41) (tgt := 71) hC dX12_readLine_41 (by decide) ?_
    refine zr_sub (ls' := [(0, _), (1, _), (2, _)]) [1, 2, 0] rfl ?_
    exact tX12_readLine_J71 v1 q0 (0 : Int32) X hC hR hN  _
def fX12_readLine (a1 : Int32) (s : St) : Option (Int32 × St) :=
  bd (fX12_is 1011 s) (fun y_1 s_1 =>
    if y_1 = 0 then
    (bd (fX12_is 1012 s_1) (fun y_2 s_2 =>
    if y_2 = 0 then
    (fX12_readLine_J29 a1 (0 : Int32) s_2)
  else
    (fX12_readLine_J29 a1 (2 : Int32) s_2)))
  else
    (fX12_readLine_J29 a1 (1 : Int32) s_1))
set_option maxRecDepth 100000 in
set_option maxHeartbeats 4000000 in
theorem kX12_readLine (l : Launch)  (a1 : Int32) (s : St) : CN l yX12_readLine cX12_readLine 4 (some .int) 72 FULL (fun ad => [.ref (ad 69), .int a1]) s (fX12_readLine a1 s) := by
  refine cn_of (by decide) (fun _ => (Nat.le_of_ble_eq_true rfl)) (fun X hC hR hl hN => ?_)
  subst hl
  show Zr X (QFN X (some .int)) 0 s 0 [(0, .ref (X_ad X 69)), (1, .int a1)] [] _
  rw [fX12_readLine]
  refine zr_aload_n (pc := 0) (i := 0) 0 hC dX12_readLine_0 rfl rfl ?_
  refine zr_ldcSw (pc := 1) (own := RX12) (t := 11) hC dX12_readLine_1 (by decide +kernel) ?_
  refine zr_callV (pc := 4) (As := fun ad => [.ref (ad 1011)]) (st1 := []) hC (Nat.le_of_ble_eq_true rfl) (kX12_is _ (str_is 1011 (by decide)) _) (Nat.le_of_ble_eq_true rfl) mc_yX12_is m_1634 m_1636 m_p57 mem_69 lay_69 rfl rfl rfl rfl (Nat.le_of_ble_eq_true rfl) dX12_readLine_4 (fun y_1 s_1 => ?_)
  refine zr_if_eq (pc := 7) (tgt := 14) hC dX12_readLine_7 (by decide) (fun c_ => ?_) (fun c_ => ?_)
  · refine zr_aload_n (pc := 14) (i := 0) 0 hC dX12_readLine_14 rfl rfl ?_
    refine zr_ldcSw (pc := 15) (own := RX12) (t := 12) hC dX12_readLine_15 (by decide +kernel) ?_
    refine zr_callV (pc := 18) (As := fun ad => [.ref (ad 1012)]) (st1 := []) hC (Nat.le_of_ble_eq_true rfl) (kX12_is _ (str_is 1012 (by decide)) _) (Nat.le_of_ble_eq_true rfl) mc_yX12_is m_1634 m_1636 m_p57 mem_69 lay_69 rfl rfl rfl rfl (Nat.le_of_ble_eq_true rfl) dX12_readLine_18 (fun y_2 s_2 => ?_)
    refine zr_if_eq (pc := 21) (tgt := 28) hC dX12_readLine_21 (by decide) (fun c_ => ?_) (fun c_ => ?_)
    · refine zr_iconst (pc := 28) (v := (0 : Int32)) hC dX12_readLine_28 ic_0 ?_
      exact tX12_readLine_J29 a1 (0 : Int32) X hC hR hN  _
    · refine zr_iconst (pc := 24) (v := (2 : Int32)) hC dX12_readLine_24 ic_2 ?_
      refine zr_goto (pc := 25) (tgt := 29) hC dX12_readLine_25 (by decide) ?_
      exact tX12_readLine_J29 a1 (2 : Int32) X hC hR hN  _
  · refine zr_iconst (pc := 10) (v := (1 : Int32)) hC dX12_readLine_10 ic_1 ?_
    refine zr_goto (pc := 11) (tgt := 29) hC dX12_readLine_11 (by decide) ?_
    exact tX12_readLine_J29 a1 (1 : Int32) X hC hR hN  _
def fX12_takeHalf_L2 (r0 : Nat) : Nat → Int32 → St → Option (Int32 × St)
  | 0, _, _ => none
  | n + 1, v1, s =>
    if ((Int32.ofNat (LN r0)) / (2 : Int32)) ≤ v1 then
    (some (0, s))
  else
    (if inA (((Int32.ofNat (LN r0)) / (2 : Int32)) + v1) (LN r0) then
    (if inA v1 (LN r0) then
    (let s_1 := wr s r0 v1.toNatClampNeg (s r0 (((Int32.ofNat (LN r0)) / (2 : Int32)) + v1).toNatClampNeg);
    fX12_takeHalf_L2 r0 n (v1 + (1 : Int32)) s_1) else none) else none)
set_option maxRecDepth 100000 in
set_option maxHeartbeats 4000000 in
theorem tX12_takeHalf_L2 (r0 : Nat) (X : KX) (hC : Ctx X RX12 cX12_takeHalf FULL 1 0) (hR : RC X none) (hN : X_nL X = 2) (hr0 : isArrD FULL r0) : ∀ (n : Nat) (v1 : Int32) (s : St), Zr X (QFN X none) 0 s 2 [(0, .ref (X_ad X r0)), (1, .int v1)] [] (fX12_takeHalf_L2 r0 n v1 s) := by
  intro n
  induction n with
  | zero =>
    intro v1 s
    exact zr_none
  | succ n ih =>
    intro v1 s
    rw [fX12_takeHalf_L2]
    refine zr_iload_n (pc := 2) (i := 1) 1 hC dX12_takeHalf_2 rfl rfl ?_
    refine zr_aload_n (pc := 3) (i := 0) 0 hC dX12_takeHalf_3 rfl rfl ?_
    refine zr_alen (pc := 4) hC hr0.1 hr0.2 dX12_takeHalf_4 ?_
    refine zr_iconst (pc := 5) (v := (2 : Int32)) hC dX12_takeHalf_5 ic_2 ?_
    refine zr_idivL (by decide) (pc := 6) hC dX12_takeHalf_6 ?_
    refine zr_icmp_ge (pc := 7) (tgt := 27) hC dX12_takeHalf_7 (by decide) (fun c_ => ?_) (fun c_ => ?_)
    · exact zr_vret (pc := 27) hC hR dX12_takeHalf_27
    · refine zr_aload_n (pc := 10) (i := 0) 0 hC dX12_takeHalf_10 rfl rfl ?_
      refine zr_iload_n (pc := 11) (i := 1) 1 hC dX12_takeHalf_11 rfl rfl ?_
      refine zr_aload_n (pc := 12) (i := 0) 0 hC dX12_takeHalf_12 rfl rfl ?_
      refine zr_aload_n (pc := 13) (i := 0) 0 hC dX12_takeHalf_13 rfl rfl ?_
      refine zr_alen (pc := 14) hC hr0.1 hr0.2 dX12_takeHalf_14 ?_
      refine zr_iconst (pc := 15) (v := (2 : Int32)) hC dX12_takeHalf_15 ic_2 ?_
      refine zr_idivL (by decide) (pc := 16) hC dX12_takeHalf_16 ?_
      refine zr_iload_n (pc := 17) (i := 1) 1 hC dX12_takeHalf_17 rfl rfl ?_
      refine zr_iadd (pc := 18) hC dX12_takeHalf_18 ?_
      refine zr_iald (pc := 19) hC hr0.1 hr0.2 dX12_takeHalf_19 ?_
      refine zr_iast (pc := 20) hC hr0.1 hr0.2 dX12_takeHalf_20 ?_
      refine zr_iinc (pc := 21) (q := 1) (ls' := [(1, _), (0, _)]) hC dX12_takeHalf_21 rfl (inc_1 _) (nlt hN (Nat.le_of_ble_eq_true rfl)) rfl ?_
      refine zr_goto (pc := 24) (tgt := 2) hC dX12_takeHalf_24 (by decide) ?_
      refine zr_sub (ls' := [(0, _), (1, _)]) [1, 0] rfl ?_
      exact ih (v1 + (1 : Int32)) (wr s r0 v1.toNatClampNeg (s r0 (((Int32.ofNat (LN r0)) / (2 : Int32)) + v1).toNatClampNeg))
def fX12_takeHalf (r0 : Nat) (s : St) : Option (Int32 × St) :=
  fX12_takeHalf_L2 r0 FU (0 : Int32) s
set_option maxRecDepth 100000 in
set_option maxHeartbeats 4000000 in
theorem kX12_takeHalf (l : Launch)  {r0 : Nat} (hr0 : isArrD FULL r0) (s : St) : CN l yX12_takeHalf cX12_takeHalf 2 none 1 FULL (fun ad => [.ref (ad r0)]) s (fX12_takeHalf r0 s) := by
  refine cn_of (by decide) (fun _ => (Nat.le_of_ble_eq_true rfl)) (fun X hC hR hl hN => ?_)
  subst hl
  show Zr X (QFN X none) 0 s 0 [(0, .ref (X_ad X r0))] [] _
  rw [fX12_takeHalf]
  refine zr_iconst (pc := 0) (v := (0 : Int32)) hC dX12_takeHalf_0 ic_0 ?_
  refine zr_istore_n (pc := 1) (i := 1) (ls' := [(1, _), (0, _)]) hC dX12_takeHalf_1 rfl (nlt hN (Nat.le_of_ble_eq_true rfl)) rfl ?_
  refine zr_sub (ls' := [(0, _), (1, _)]) [1, 0] rfl ?_
  exact tX12_takeHalf_L2 r0 X hC hR hN hr0 FU (0 : Int32) _
def fX12_takeOver_L100 (k119 : St → Option (Int32 × St)) : Nat → Int32 → St → Option (Int32 × St)
  | 0, _, _ => none
  | n + 1, v1, s =>
    if (12 : Int32) ≤ v1 then
    (k119 s)
  else
    (if inA v1 12 then
    (let s_15 := wr s 87 v1.toNatClampNeg (0 : Int32);
    fX12_takeOver_L100 k119 n (v1 + (1 : Int32)) s_15) else none)
set_option maxRecDepth 100000 in
set_option maxHeartbeats 4000000 in
theorem tX12_takeOver_L100 (k119 : St → Option (Int32 × St)) (X : KX) (hC : Ctx X RX12 cX12_takeOver FULL 2 0) (hR : RC X none) (hN : X_nL X = 2) (hk119 : ∀ (s : St), Zr X (QFN X none) 0 s 119 [(0, .ref (X_ad X 69))] [] (k119 s)) : ∀ (n : Nat) (v1 : Int32) (s : St), Zr X (QFN X none) 0 s 100 [(0, .ref (X_ad X 69)), (1, .int v1)] [] (fX12_takeOver_L100 k119 n v1 s) := by
  intro n
  induction n with
  | zero =>
    intro v1 s
    exact zr_none
  | succ n ih =>
    intro v1 s
    rw [fX12_takeOver_L100]
    refine zr_iload_n (pc := 100) (i := 1) 1 hC dX12_takeOver_100 rfl rfl ?_
    refine zr_bipush (pc := 101) (v := (12 : Int32)) hC dX12_takeOver_101 bi_12 ?_
    refine zr_icmp_ge (pc := 103) (tgt := 119) hC dX12_takeOver_103 (by decide) (fun c_ => ?_) (fun c_ => ?_)
    · refine zr_sub (ls' := [(0, _)]) [0] rfl ?_
      exact hk119 s
    · refine zr_aload_n (pc := 106) (i := 0) 0 hC dX12_takeOver_106 rfl rfl ?_
      refine zr_getR (pc := 107) (j := 29) (k1 := 87) hC mem_69 lay_69 rfl rfl (Nat.le_of_ble_eq_true rfl) iX12 m_1424 dX12_takeOver_107 ?_
      refine zr_iload_n (pc := 110) (i := 1) 1 hC dX12_takeOver_110 rfl rfl ?_
      refine zr_iconst (pc := 111) (v := (0 : Int32)) hC dX12_takeOver_111 ic_0 ?_
      refine zr_iast (pc := 112) hC mem_87 lay_87 dX12_takeOver_112 ?_
      refine zr_iinc (pc := 113) (q := 1) (ls' := [(1, _), (0, _)]) hC dX12_takeOver_113 rfl (inc_1 _) (nlt hN (Nat.le_of_ble_eq_true rfl)) rfl ?_
      refine zr_goto (pc := 116) (tgt := 100) hC dX12_takeOver_116 (by decide) ?_
      refine zr_sub (ls' := [(0, _), (1, _)]) [1, 0] rfl ?_
      exact ih (v1 + (1 : Int32)) (wr s 87 v1.toNatClampNeg (0 : Int32))
def fX12_takeOver_L121 (k140 : St → Option (Int32 × St)) : Nat → Int32 → St → Option (Int32 × St)
  | 0, _, _ => none
  | n + 1, v1, s =>
    if (10 : Int32) ≤ v1 then
    (k140 s)
  else
    (if inA v1 10 then
    (let s_17 := wr s 88 v1.toNatClampNeg (0 : Int32);
    fX12_takeOver_L121 k140 n (v1 + (1 : Int32)) s_17) else none)
set_option maxRecDepth 100000 in
set_option maxHeartbeats 4000000 in
theorem tX12_takeOver_L121 (k140 : St → Option (Int32 × St)) (X : KX) (hC : Ctx X RX12 cX12_takeOver FULL 2 0) (hR : RC X none) (hN : X_nL X = 2) (hk140 : ∀ (s : St), Zr X (QFN X none) 0 s 140 [(0, .ref (X_ad X 69))] [] (k140 s)) : ∀ (n : Nat) (v1 : Int32) (s : St), Zr X (QFN X none) 0 s 121 [(0, .ref (X_ad X 69)), (1, .int v1)] [] (fX12_takeOver_L121 k140 n v1 s) := by
  intro n
  induction n with
  | zero =>
    intro v1 s
    exact zr_none
  | succ n ih =>
    intro v1 s
    rw [fX12_takeOver_L121]
    refine zr_iload_n (pc := 121) (i := 1) 1 hC dX12_takeOver_121 rfl rfl ?_
    refine zr_bipush (pc := 122) (v := (10 : Int32)) hC dX12_takeOver_122 bi_10 ?_
    refine zr_icmp_ge (pc := 124) (tgt := 140) hC dX12_takeOver_124 (by decide) (fun c_ => ?_) (fun c_ => ?_)
    · refine zr_sub (ls' := [(0, _)]) [0] rfl ?_
      exact hk140 s
    · refine zr_aload_n (pc := 127) (i := 0) 0 hC dX12_takeOver_127 rfl rfl ?_
      refine zr_getR (pc := 128) (j := 30) (k1 := 88) hC mem_69 lay_69 rfl rfl (Nat.le_of_ble_eq_true rfl) iX12 m_1425 dX12_takeOver_128 ?_
      refine zr_iload_n (pc := 131) (i := 1) 1 hC dX12_takeOver_131 rfl rfl ?_
      refine zr_iconst (pc := 132) (v := (0 : Int32)) hC dX12_takeOver_132 ic_0 ?_
      refine zr_iast (pc := 133) hC mem_88 lay_88 dX12_takeOver_133 ?_
      refine zr_iinc (pc := 134) (q := 1) (ls' := [(1, _), (0, _)]) hC dX12_takeOver_134 rfl (inc_1 _) (nlt hN (Nat.le_of_ble_eq_true rfl)) rfl ?_
      refine zr_goto (pc := 137) (tgt := 121) hC dX12_takeOver_137 (by decide) ?_
      refine zr_sub (ls' := [(0, _), (1, _)]) [1, 0] rfl ?_
      exact ih (v1 + (1 : Int32)) (wr s 88 v1.toNatClampNeg (0 : Int32))
def fX12_takeOver (s : St) : Option (Int32 × St) :=
  bd (fX12_takeHalf 71 s) (fun y_1 s_1 =>
    bd (fX12_takeHalf 72 s_1) (fun y_2 s_2 =>
    bd (fX12_takeHalf 73 s_2) (fun y_3 s_3 =>
    bd (fX12_takeHalf 74 s_3) (fun y_4 s_4 =>
    bd (fX12_takeHalf 75 s_4) (fun y_5 s_5 =>
    bd (fX12_takeHalf 76 s_5) (fun y_6 s_6 =>
    bd (fX12_takeHalf 77 s_6) (fun y_7 s_7 =>
    bd (fX12_takeHalf 78 s_7) (fun y_8 s_8 =>
    bd (fX12_takeHalf 79 s_8) (fun y_9 s_9 =>
    bd (fX12_takeHalf 80 s_9) (fun y_10 s_10 =>
    bd (fX12_takeHalf 81 s_10) (fun y_11 s_11 =>
    bd (fX12_takeHalf 82 s_11) (fun y_12 s_12 =>
    bd (fX12_takeHalf 83 s_12) (fun y_13 s_13 =>
    bd (fX12_takeHalf 84 s_13) (fun y_14 s_14 =>
    fX12_takeOver_L100 (fun s_16 => fX12_takeOver_L121 (fun s_18 => if inA (0 : Int32) 10 then
    (let s_19 := wr s_18 69 17 ((jshl (1 : Int32) (s_18 71 (0 : Int32).toNatClampNeg)) - (1 : Int32));
    let s_20 := wr s_19 69 32 (0 : Int32);
    let s_21 := wr s_20 69 33 (0 : Int32);
    let s_22 := wr s_21 69 44 (-1 : Int32);
    let s_23 := wr s_22 69 48 (0 : Int32);
    let s_24 := wr s_23 69 51 (-1 : Int32);
    let s_25 := wr s_24 69 58 (0 : Int32);
    some (0, s_25)) else none) FU (0 : Int32) s_16) FU (0 : Int32) s_14))))))))))))))
set_option maxRecDepth 100000 in
set_option maxHeartbeats 4000000 in
theorem kX12_takeOver (l : Launch)  (s : St) : CN l yX12_takeOver cX12_takeOver 2 none 2 FULL (fun ad => [.ref (ad 69)]) s (fX12_takeOver s) := by
  refine cn_of (by decide) (fun _ => (Nat.le_of_ble_eq_true rfl)) (fun X hC hR hl hN => ?_)
  subst hl
  show Zr X (QFN X none) 0 s 0 [(0, .ref (X_ad X 69))] [] _
  rw [fX12_takeOver]
  refine zr_aload_n (pc := 0) (i := 0) 0 hC dX12_takeOver_0 rfl rfl ?_
  refine zr_getR (pc := 1) (j := 2) (k1 := 71) hC mem_69 lay_69 rfl rfl (Nat.le_of_ble_eq_true rfl) iX12 m_1397 dX12_takeOver_1 ?_
  refine zr_callSv (pc := 4) (As := fun ad => [.ref (ad 71)]) (st1 := []) hC (Nat.le_of_ble_eq_true rfl) (kX12_takeHalf _ ar_71 _) (Nat.le_of_ble_eq_true rfl) mc_yX12_takeHalf m_1732 m_1733 rfl rfl rfl (Nat.le_of_ble_eq_true rfl) dX12_takeOver_4 (fun y_1 s_1 => ?_)
  refine zr_aload_n (pc := 7) (i := 0) 0 hC dX12_takeOver_7 rfl rfl ?_
  refine zr_getR (pc := 8) (j := 3) (k1 := 72) hC mem_69 lay_69 rfl rfl (Nat.le_of_ble_eq_true rfl) iX12 m_1398 dX12_takeOver_8 ?_
  refine zr_callSv (pc := 11) (As := fun ad => [.ref (ad 72)]) (st1 := []) hC (Nat.le_of_ble_eq_true rfl) (kX12_takeHalf _ ar_72 _) (Nat.le_of_ble_eq_true rfl) mc_yX12_takeHalf m_1732 m_1733 rfl rfl rfl (Nat.le_of_ble_eq_true rfl) dX12_takeOver_11 (fun y_2 s_2 => ?_)
  refine zr_aload_n (pc := 14) (i := 0) 0 hC dX12_takeOver_14 rfl rfl ?_
  refine zr_getR (pc := 15) (j := 4) (k1 := 73) hC mem_69 lay_69 rfl rfl (Nat.le_of_ble_eq_true rfl) iX12 m_1399 dX12_takeOver_15 ?_
  refine zr_callSv (pc := 18) (As := fun ad => [.ref (ad 73)]) (st1 := []) hC (Nat.le_of_ble_eq_true rfl) (kX12_takeHalf _ ar_73 _) (Nat.le_of_ble_eq_true rfl) mc_yX12_takeHalf m_1732 m_1733 rfl rfl rfl (Nat.le_of_ble_eq_true rfl) dX12_takeOver_18 (fun y_3 s_3 => ?_)
  refine zr_aload_n (pc := 21) (i := 0) 0 hC dX12_takeOver_21 rfl rfl ?_
  refine zr_getR (pc := 22) (j := 5) (k1 := 74) hC mem_69 lay_69 rfl rfl (Nat.le_of_ble_eq_true rfl) iX12 m_1400 dX12_takeOver_22 ?_
  refine zr_callSv (pc := 25) (As := fun ad => [.ref (ad 74)]) (st1 := []) hC (Nat.le_of_ble_eq_true rfl) (kX12_takeHalf _ ar_74 _) (Nat.le_of_ble_eq_true rfl) mc_yX12_takeHalf m_1732 m_1733 rfl rfl rfl (Nat.le_of_ble_eq_true rfl) dX12_takeOver_25 (fun y_4 s_4 => ?_)
  refine zr_aload_n (pc := 28) (i := 0) 0 hC dX12_takeOver_28 rfl rfl ?_
  refine zr_getR (pc := 29) (j := 6) (k1 := 75) hC mem_69 lay_69 rfl rfl (Nat.le_of_ble_eq_true rfl) iX12 m_1401 dX12_takeOver_29 ?_
  refine zr_callSv (pc := 32) (As := fun ad => [.ref (ad 75)]) (st1 := []) hC (Nat.le_of_ble_eq_true rfl) (kX12_takeHalf _ ar_75 _) (Nat.le_of_ble_eq_true rfl) mc_yX12_takeHalf m_1732 m_1733 rfl rfl rfl (Nat.le_of_ble_eq_true rfl) dX12_takeOver_32 (fun y_5 s_5 => ?_)
  refine zr_aload_n (pc := 35) (i := 0) 0 hC dX12_takeOver_35 rfl rfl ?_
  refine zr_getR (pc := 36) (j := 7) (k1 := 76) hC mem_69 lay_69 rfl rfl (Nat.le_of_ble_eq_true rfl) iX12 m_1402 dX12_takeOver_36 ?_
  refine zr_callSv (pc := 39) (As := fun ad => [.ref (ad 76)]) (st1 := []) hC (Nat.le_of_ble_eq_true rfl) (kX12_takeHalf _ ar_76 _) (Nat.le_of_ble_eq_true rfl) mc_yX12_takeHalf m_1732 m_1733 rfl rfl rfl (Nat.le_of_ble_eq_true rfl) dX12_takeOver_39 (fun y_6 s_6 => ?_)
  refine zr_aload_n (pc := 42) (i := 0) 0 hC dX12_takeOver_42 rfl rfl ?_
  refine zr_getR (pc := 43) (j := 8) (k1 := 77) hC mem_69 lay_69 rfl rfl (Nat.le_of_ble_eq_true rfl) iX12 m_1403 dX12_takeOver_43 ?_
  refine zr_callSv (pc := 46) (As := fun ad => [.ref (ad 77)]) (st1 := []) hC (Nat.le_of_ble_eq_true rfl) (kX12_takeHalf _ ar_77 _) (Nat.le_of_ble_eq_true rfl) mc_yX12_takeHalf m_1732 m_1733 rfl rfl rfl (Nat.le_of_ble_eq_true rfl) dX12_takeOver_46 (fun y_7 s_7 => ?_)
  refine zr_aload_n (pc := 49) (i := 0) 0 hC dX12_takeOver_49 rfl rfl ?_
  refine zr_getR (pc := 50) (j := 9) (k1 := 78) hC mem_69 lay_69 rfl rfl (Nat.le_of_ble_eq_true rfl) iX12 m_1404 dX12_takeOver_50 ?_
  refine zr_callSv (pc := 53) (As := fun ad => [.ref (ad 78)]) (st1 := []) hC (Nat.le_of_ble_eq_true rfl) (kX12_takeHalf _ ar_78 _) (Nat.le_of_ble_eq_true rfl) mc_yX12_takeHalf m_1732 m_1733 rfl rfl rfl (Nat.le_of_ble_eq_true rfl) dX12_takeOver_53 (fun y_8 s_8 => ?_)
  refine zr_aload_n (pc := 56) (i := 0) 0 hC dX12_takeOver_56 rfl rfl ?_
  refine zr_getR (pc := 57) (j := 10) (k1 := 79) hC mem_69 lay_69 rfl rfl (Nat.le_of_ble_eq_true rfl) iX12 m_1405 dX12_takeOver_57 ?_
  refine zr_callSv (pc := 60) (As := fun ad => [.ref (ad 79)]) (st1 := []) hC (Nat.le_of_ble_eq_true rfl) (kX12_takeHalf _ ar_79 _) (Nat.le_of_ble_eq_true rfl) mc_yX12_takeHalf m_1732 m_1733 rfl rfl rfl (Nat.le_of_ble_eq_true rfl) dX12_takeOver_60 (fun y_9 s_9 => ?_)
  refine zr_aload_n (pc := 63) (i := 0) 0 hC dX12_takeOver_63 rfl rfl ?_
  refine zr_getR (pc := 64) (j := 11) (k1 := 80) hC mem_69 lay_69 rfl rfl (Nat.le_of_ble_eq_true rfl) iX12 m_1406 dX12_takeOver_64 ?_
  refine zr_callSv (pc := 67) (As := fun ad => [.ref (ad 80)]) (st1 := []) hC (Nat.le_of_ble_eq_true rfl) (kX12_takeHalf _ ar_80 _) (Nat.le_of_ble_eq_true rfl) mc_yX12_takeHalf m_1732 m_1733 rfl rfl rfl (Nat.le_of_ble_eq_true rfl) dX12_takeOver_67 (fun y_10 s_10 => ?_)
  refine zr_aload_n (pc := 70) (i := 0) 0 hC dX12_takeOver_70 rfl rfl ?_
  refine zr_getR (pc := 71) (j := 12) (k1 := 81) hC mem_69 lay_69 rfl rfl (Nat.le_of_ble_eq_true rfl) iX12 m_1407 dX12_takeOver_71 ?_
  refine zr_callSv (pc := 74) (As := fun ad => [.ref (ad 81)]) (st1 := []) hC (Nat.le_of_ble_eq_true rfl) (kX12_takeHalf _ ar_81 _) (Nat.le_of_ble_eq_true rfl) mc_yX12_takeHalf m_1732 m_1733 rfl rfl rfl (Nat.le_of_ble_eq_true rfl) dX12_takeOver_74 (fun y_11 s_11 => ?_)
  refine zr_aload_n (pc := 77) (i := 0) 0 hC dX12_takeOver_77 rfl rfl ?_
  refine zr_getR (pc := 78) (j := 13) (k1 := 82) hC mem_69 lay_69 rfl rfl (Nat.le_of_ble_eq_true rfl) iX12 m_1408 dX12_takeOver_78 ?_
  refine zr_callSv (pc := 81) (As := fun ad => [.ref (ad 82)]) (st1 := []) hC (Nat.le_of_ble_eq_true rfl) (kX12_takeHalf _ ar_82 _) (Nat.le_of_ble_eq_true rfl) mc_yX12_takeHalf m_1732 m_1733 rfl rfl rfl (Nat.le_of_ble_eq_true rfl) dX12_takeOver_81 (fun y_12 s_12 => ?_)
  refine zr_aload_n (pc := 84) (i := 0) 0 hC dX12_takeOver_84 rfl rfl ?_
  refine zr_getR (pc := 85) (j := 14) (k1 := 83) hC mem_69 lay_69 rfl rfl (Nat.le_of_ble_eq_true rfl) iX12 m_1409 dX12_takeOver_85 ?_
  refine zr_callSv (pc := 88) (As := fun ad => [.ref (ad 83)]) (st1 := []) hC (Nat.le_of_ble_eq_true rfl) (kX12_takeHalf _ ar_83 _) (Nat.le_of_ble_eq_true rfl) mc_yX12_takeHalf m_1732 m_1733 rfl rfl rfl (Nat.le_of_ble_eq_true rfl) dX12_takeOver_88 (fun y_13 s_13 => ?_)
  refine zr_aload_n (pc := 91) (i := 0) 0 hC dX12_takeOver_91 rfl rfl ?_
  refine zr_getR (pc := 92) (j := 15) (k1 := 84) hC mem_69 lay_69 rfl rfl (Nat.le_of_ble_eq_true rfl) iX12 m_1410 dX12_takeOver_92 ?_
  refine zr_callSv (pc := 95) (As := fun ad => [.ref (ad 84)]) (st1 := []) hC (Nat.le_of_ble_eq_true rfl) (kX12_takeHalf _ ar_84 _) (Nat.le_of_ble_eq_true rfl) mc_yX12_takeHalf m_1732 m_1733 rfl rfl rfl (Nat.le_of_ble_eq_true rfl) dX12_takeOver_95 (fun y_14 s_14 => ?_)
  refine zr_iconst (pc := 98) (v := (0 : Int32)) hC dX12_takeOver_98 ic_0 ?_
  refine zr_istore_n (pc := 99) (i := 1) (ls' := [(1, _), (0, _)]) hC dX12_takeOver_99 rfl (nlt hN (Nat.le_of_ble_eq_true rfl)) rfl ?_
  refine zr_sub (ls' := [(0, _), (1, _)]) [1, 0] rfl ?_
  refine tX12_takeOver_L100 _ X hC hR hN (fun s_16 => ?_) FU (0 : Int32) _
  · refine zr_iconst (pc := 119) (v := (0 : Int32)) hC dX12_takeOver_119 ic_0 ?_
    refine zr_istore_n (pc := 120) (i := 1) (ls' := [(1, _), (0, _)]) hC dX12_takeOver_120 rfl (nlt hN (Nat.le_of_ble_eq_true rfl)) rfl ?_
    refine zr_sub (ls' := [(0, _), (1, _)]) [1, 0] rfl ?_
    refine tX12_takeOver_L121 _ X hC hR hN (fun s_18 => ?_) FU (0 : Int32) _
    · refine zr_aload_n (pc := 140) (i := 0) 0 hC dX12_takeOver_140 rfl rfl ?_
      refine zr_iconst (pc := 141) (v := (1 : Int32)) hC dX12_takeOver_141 ic_1 ?_
      refine zr_aload_n (pc := 142) (i := 0) 0 hC dX12_takeOver_142 rfl rfl ?_
      refine zr_getR (pc := 143) (j := 2) (k1 := 71) hC mem_69 lay_69 rfl rfl (Nat.le_of_ble_eq_true rfl) iX12 m_1397 dX12_takeOver_143 ?_
      refine zr_iconst (pc := 146) (v := (0 : Int32)) hC dX12_takeOver_146 ic_0 ?_
      refine zr_iald (pc := 147) hC mem_71 lay_71 dX12_takeOver_147 ?_
      refine zr_ishl (pc := 148) hC dX12_takeOver_148 ?_
      refine zr_iconst (pc := 149) (v := (1 : Int32)) hC dX12_takeOver_149 ic_1 ?_
      refine zr_isub (pc := 150) hC dX12_takeOver_150 ?_
      refine zr_putInt (pc := 151) (j := 17) hC mem_69 lay_69 rfl rfl (Nat.le_of_ble_eq_true rfl) iX12 tyX12_ok nmX12 m_1412 rfl (by decide +kernel) dX12_takeOver_151 ?_
      refine zr_aload_n (pc := 154) (i := 0) 0 hC dX12_takeOver_154 rfl rfl ?_
      refine zr_iconst (pc := 155) (v := (0 : Int32)) hC dX12_takeOver_155 ic_0 ?_
      refine zr_putInt (pc := 156) (j := 32) hC mem_69 lay_69 rfl rfl (Nat.le_of_ble_eq_true rfl) iX12 tyX12_ok nmX12 m_1427 rfl (by decide +kernel) dX12_takeOver_156 ?_
      refine zr_aload_n (pc := 159) (i := 0) 0 hC dX12_takeOver_159 rfl rfl ?_
      refine zr_iconst (pc := 160) (v := (0 : Int32)) hC dX12_takeOver_160 ic_0 ?_
      refine zr_putInt (pc := 161) (j := 33) hC mem_69 lay_69 rfl rfl (Nat.le_of_ble_eq_true rfl) iX12 tyX12_ok nmX12 m_1428 rfl (by decide +kernel) dX12_takeOver_161 ?_
      refine zr_aload_n (pc := 164) (i := 0) 0 hC dX12_takeOver_164 rfl rfl ?_
      refine zr_iconst (pc := 165) (v := (-1 : Int32)) hC dX12_takeOver_165 ic_m1 ?_
      refine zr_putInt (pc := 166) (j := 44) hC mem_69 lay_69 rfl rfl (Nat.le_of_ble_eq_true rfl) iX12 tyX12_ok nmX12 m_1439 rfl (by decide +kernel) dX12_takeOver_166 ?_
      refine zr_aload_n (pc := 169) (i := 0) 0 hC dX12_takeOver_169 rfl rfl ?_
      refine zr_iconst (pc := 170) (v := (0 : Int32)) hC dX12_takeOver_170 ic_0 ?_
      refine zr_putB (by decide) (pc := 171) (j := 48) hC mem_69 lay_69 rfl rfl (Nat.le_of_ble_eq_true rfl) iX12 tyX12_ok nmX12 m_1443 rfl (by decide +kernel) dX12_takeOver_171 ?_
      refine zr_aload_n (pc := 174) (i := 0) 0 hC dX12_takeOver_174 rfl rfl ?_
      refine zr_iconst (pc := 175) (v := (-1 : Int32)) hC dX12_takeOver_175 ic_m1 ?_
      refine zr_putInt (pc := 176) (j := 51) hC mem_69 lay_69 rfl rfl (Nat.le_of_ble_eq_true rfl) iX12 tyX12_ok nmX12 m_1446 rfl (by decide +kernel) dX12_takeOver_176 ?_
      refine zr_aload_n (pc := 179) (i := 0) 0 hC dX12_takeOver_179 rfl rfl ?_
      refine zr_iconst (pc := 180) (v := (0 : Int32)) hC dX12_takeOver_180 ic_0 ?_
      refine zr_putB (by decide) (pc := 181) (j := 58) hC mem_69 lay_69 rfl rfl (Nat.le_of_ble_eq_true rfl) iX12 tyX12_ok nmX12 m_1453 rfl (by decide +kernel) dX12_takeOver_181 ?_
      exact zr_vret (pc := 184) hC hR dX12_takeOver_184
def fX12_land_L50 (k81 : St → Option (Int32 × St)) : Nat → Int32 → St → Option (Int32 × St)
  | 0, _, _ => none
  | n + 1, v2, s =>
    if (5 : Int32) ≤ v2 then
    (k81 s)
  else
    (if v2 = (3 : Int32) then
    (if inA ((5 : Int32) + v2) 10 then
    (let s_9 := wr s 71 ((5 : Int32) + v2).toNatClampNeg (300 : Int32);
    fX12_land_L50 k81 n (v2 + (1 : Int32)) s_9) else none)
  else
    (if inA ((5 : Int32) + v2) 10 then
    (let s_8 := wr s 71 ((5 : Int32) + v2).toNatClampNeg (0 : Int32);
    fX12_land_L50 k81 n (v2 + (1 : Int32)) s_8) else none))
set_option maxRecDepth 100000 in
set_option maxHeartbeats 4000000 in
theorem tX12_land_L50 (k81 : St → Option (Int32 × St)) (X : KX) (hC : Ctx X RX12 cX12_land FULL 73 0) (hR : RC X (some .int)) (hN : X_nL X = 3) (hk81 : ∀ (s : St), Zr X (QFN X (some .int)) 0 s 81 [(0, .ref (X_ad X 69))] [] (k81 s)) : ∀ (n : Nat) (v2 : Int32) (s : St), Zr X (QFN X (some .int)) 0 s 50 [(0, .ref (X_ad X 69)), (2, .int v2)] [] (fX12_land_L50 k81 n v2 s) := by
  intro n
  induction n with
  | zero =>
    intro v2 s
    exact zr_none
  | succ n ih =>
    intro v2 s
    rw [fX12_land_L50]
    refine zr_iload_n (pc := 50) (i := 2) 1 hC dX12_land_50 rfl rfl ?_
    refine zr_iconst (pc := 51) (v := (5 : Int32)) hC dX12_land_51 ic_5 ?_
    refine zr_icmp_ge (pc := 52) (tgt := 81) hC dX12_land_52 (by decide) (fun c_ => ?_) (fun c_ => ?_)
    · refine zr_sub (ls' := [(0, _)]) [0] rfl ?_
      exact hk81 s
    · refine zr_aload_n (pc := 55) (i := 0) 0 hC dX12_land_55 rfl rfl ?_
      refine zr_getR (pc := 56) (j := 2) (k1 := 71) hC mem_69 lay_69 rfl rfl (Nat.le_of_ble_eq_true rfl) iX12 m_1397 dX12_land_56 ?_
      refine zr_iconst (pc := 59) (v := (5 : Int32)) hC dX12_land_59 ic_5 ?_
      refine zr_iload_n (pc := 60) (i := 2) 1 hC dX12_land_60 rfl rfl ?_
      refine zr_iadd (pc := 61) hC dX12_land_61 ?_
      refine zr_iload_n (pc := 62) (i := 2) 1 hC dX12_land_62 rfl rfl ?_
      refine zr_iconst (pc := 63) (v := (3 : Int32)) hC dX12_land_63 ic_3 ?_
      refine zr_icmp_ne (pc := 64) (tgt := 73) hC dX12_land_64 (by decide) (fun c_ => ?_) (fun c_ => ?_)
      · refine zr_sipush (pc := 67) (v := (300 : Int32)) hC dX12_land_67 si_300 ?_
        refine zr_goto (pc := 70) (tgt := 74) hC dX12_land_70 (by decide) ?_
        refine zr_iast (pc := 74) hC mem_71 lay_71 dX12_land_74 ?_
        refine zr_iinc (pc := 75) (q := 1) (ls' := [(2, _), (0, _)]) hC dX12_land_75 rfl (inc_1 _) (nlt hN (Nat.le_of_ble_eq_true rfl)) rfl ?_
        refine zr_goto (pc := 78) (tgt := 50) hC dX12_land_78 (by decide) ?_
        refine zr_sub (ls' := [(0, _), (2, _)]) [1, 0] rfl ?_
        exact ih (v2 + (1 : Int32)) (wr s 71 ((5 : Int32) + v2).toNatClampNeg (300 : Int32))
      · refine zr_iconst (pc := 73) (v := (0 : Int32)) hC dX12_land_73 ic_0 ?_
        refine zr_iast (pc := 74) hC mem_71 lay_71 dX12_land_74 ?_
        refine zr_iinc (pc := 75) (q := 1) (ls' := [(2, _), (0, _)]) hC dX12_land_75 rfl (inc_1 _) (nlt hN (Nat.le_of_ble_eq_true rfl)) rfl ?_
        refine zr_goto (pc := 78) (tgt := 50) hC dX12_land_78 (by decide) ?_
        refine zr_sub (ls' := [(0, _), (2, _)]) [1, 0] rfl ?_
        exact ih (v2 + (1 : Int32)) (wr s 71 ((5 : Int32) + v2).toNatClampNeg (0 : Int32))
def fX12_land_L87 (k110 : St → Option (Int32 × St)) : Nat → Int32 → St → Option (Int32 × St)
  | 0, _, _ => none
  | n + 1, v2, s =>
    if (s 69 26) = 0 then
    (if (s 69 22) = 0 then
    (k110 s)
  else
    (bd (fX12_readLine v2 s) (fun y_12 s_12 =>
    fX12_land_L87 k110 n y_12 s_12)))
  else
    (k110 s)
set_option maxRecDepth 100000 in
set_option maxHeartbeats 4000000 in
theorem tX12_land_L87 (k110 : St → Option (Int32 × St)) (X : KX) (hC : Ctx X RX12 cX12_land FULL 73 0) (hR : RC X (some .int)) (hN : X_nL X = 3) (hk110 : ∀ (s : St), Zr X (QFN X (some .int)) 0 s 110 [(0, .ref (X_ad X 69))] [] (k110 s)) : ∀ (n : Nat) (v2 : Int32) (s : St), Zr X (QFN X (some .int)) 0 s 87 [(0, .ref (X_ad X 69)), (2, .int v2)] [] (fX12_land_L87 k110 n v2 s) := by
  intro n
  induction n with
  | zero =>
    intro v2 s
    exact zr_none
  | succ n ih =>
    intro v2 s
    rw [fX12_land_L87]
    refine zr_aload_n (pc := 87) (i := 0) 0 hC dX12_land_87 rfl rfl ?_
    refine zr_getI (pc := 88) (j := 26) hC mem_69 lay_69 rfl rfl (Nat.le_of_ble_eq_true rfl) iX12 m_1421 dX12_land_88 ?_
    refine zr_if_ne (pc := 91) (tgt := 110) hC dX12_land_91 (by decide) (fun c_ => ?_) (fun c_ => ?_)
    · refine zr_aload_n (pc := 94) (i := 0) 0 hC dX12_land_94 rfl rfl ?_
      refine zr_getI (pc := 95) (j := 22) hC mem_69 lay_69 rfl rfl (Nat.le_of_ble_eq_true rfl) iX12 m_1417 dX12_land_95 ?_
      refine zr_if_eq (pc := 98) (tgt := 110) hC dX12_land_98 (by decide) (fun c_ => ?_) (fun c_ => ?_)
      · refine zr_sub (ls' := [(0, _)]) [0] rfl ?_
        exact hk110 s
      · refine zr_aload_n (pc := 101) (i := 0) 0 hC dX12_land_101 rfl rfl ?_
        refine zr_iload_n (pc := 102) (i := 2) 1 hC dX12_land_102 rfl rfl ?_
        refine zr_callV (pc := 103) (As := fun ad => [.int v2]) (st1 := []) hC (Nat.le_of_ble_eq_true rfl) (kX12_readLine _ v2 _) (Nat.le_of_ble_eq_true rfl) mc_yX12_readLine m_1629 m_1631 m_p56 mem_69 lay_69 rfl rfl rfl rfl (Nat.le_of_ble_eq_true rfl) dX12_land_103 (fun y_12 s_12 => ?_)
        refine zr_istore_n (pc := 106) (i := 2) (ls' := [(2, _), (0, _)]) hC dX12_land_106 rfl (nlt hN (Nat.le_of_ble_eq_true rfl)) rfl ?_
        refine zr_goto (pc := 107) (tgt := 87) hC dX12_land_107 (by decide) ?_
        refine zr_sub (ls' := [(0, _), (2, _)]) [1, 0] rfl ?_
        exact ih y_12 s_12
    · refine zr_sub (ls' := [(0, _)]) [0] rfl ?_
      exact hk110 s
def fX12_land_J110 (s : St) : Option (Int32 × St) :=
  if (s 69 26) = 0 then
    (bd (fX12_takeOver s) (fun y_14 s_14 =>
    some ((0 : Int32), s_14)))
  else
    (let s_15 := wr s 69 28 (s 69 27);
    if inA (0 : Int32) 3 then
    (if inA (0 : Int32) 3 then
    (let s_16 := wr s_15 85 (0 : Int32).toNatClampNeg ((s_15 85 (0 : Int32).toNatClampNeg) + (1 : Int32));
    some ((s_16 69 26), s_16)) else none) else none)
set_option maxRecDepth 100000 in
set_option maxHeartbeats 4000000 in
theorem tX12_land_J110 (X : KX) (hC : Ctx X RX12 cX12_land FULL 73 0) (hR : RC X (some .int)) (hN : X_nL X = 3) (s : St) : Zr X (QFN X (some .int)) 0 s 110 [(0, .ref (X_ad X 69))] [] (fX12_land_J110 s) := by
  rw [fX12_land_J110]
  refine zr_aload_n (pc := 110) (i := 0) 0 hC dX12_land_110 rfl rfl ?_
  refine zr_getI (pc := 111) (j := 26) hC mem_69 lay_69 rfl rfl (Nat.le_of_ble_eq_true rfl) iX12 m_1421 dX12_land_111 ?_
  refine zr_if_eq (pc := 114) (tgt := 140) hC dX12_land_114 (by decide) (fun c_ => ?_) (fun c_ => ?_)
  · refine zr_aload_n (pc := 140) (i := 0) 0 hC dX12_land_140 rfl rfl ?_
    refine zr_callVv (pc := 141) (As := fun ad => []) (st1 := []) hC (Nat.le_of_ble_eq_true rfl) (kX12_takeOver _  _) (Nat.le_of_ble_eq_true rfl) mc_yX12_takeOver m_1728 m_1730 m_p78 mem_69 lay_69 rfl rfl rfl rfl (Nat.le_of_ble_eq_true rfl) dX12_land_141 (fun y_14 s_14 => ?_)
    refine zr_iconst (pc := 144) (v := (0 : Int32)) hC dX12_land_144 ic_0 ?_
    exact zr_iret (pc := 145) hC hR dX12_land_145
  · refine zr_aload_n (pc := 117) (i := 0) 0 hC dX12_land_117 rfl rfl ?_
    refine zr_aload_n (pc := 118) (i := 0) 0 hC dX12_land_118 rfl rfl ?_
    refine zr_getI (pc := 119) (j := 27) hC mem_69 lay_69 rfl rfl (Nat.le_of_ble_eq_true rfl) iX12 m_1422 dX12_land_119 ?_
    refine zr_putInt (pc := 122) (j := 28) hC mem_69 lay_69 rfl rfl (Nat.le_of_ble_eq_true rfl) iX12 tyX12_ok nmX12 m_1423 rfl (by decide +kernel) dX12_land_122 ?_
    refine zr_aload_n (pc := 125) (i := 0) 0 hC dX12_land_125 rfl rfl ?_
    refine zr_getR (pc := 126) (j := 16) (k1 := 85) hC mem_69 lay_69 rfl rfl (Nat.le_of_ble_eq_true rfl) iX12 m_1411 dX12_land_126 ?_
    refine zr_iconst (pc := 129) (v := (0 : Int32)) hC dX12_land_129 ic_0 ?_
    refine zr_dup2 (pc := 130) hC dX12_land_130 rfl rfl ?_
    refine zr_iald (pc := 131) hC mem_85 lay_85 dX12_land_131 ?_
    refine zr_iconst (pc := 132) (v := (1 : Int32)) hC dX12_land_132 ic_1 ?_
    refine zr_iadd (pc := 133) hC dX12_land_133 ?_
    refine zr_iast (pc := 134) hC mem_85 lay_85 dX12_land_134 ?_
    refine zr_aload_n (pc := 135) (i := 0) 0 hC dX12_land_135 rfl rfl ?_
    refine zr_getI (pc := 136) (j := 26) hC mem_69 lay_69 rfl rfl (Nat.le_of_ble_eq_true rfl) iX12 m_1421 dX12_land_136 ?_
    exact zr_iret (pc := 139) hC hR dX12_land_139
def fX12_land (a1 : Int32) (s : St) : Option (Int32 × St) :=
  let s_1 := wr s 69 1 (0 : Int32);
    if a1 < 0 then
    (bd (fX12_fail (1 : Int32) s_1) (fun y_2 s_2 =>
    some (y_2, s_2)))
  else
    (if a1 ≤ (s_1 69 19) then
    (let s_3 := wr s_1 69 19 (0 : Int32);
    let s_4 := wr s_3 69 21 a1;
    let s_5 := wr s_4 69 20 (0 : Int32);
    let s_6 := wr s_5 69 26 (0 : Int32);
    let s_7 := wr s_6 69 28 (-1 : Int32);
    fX12_land_L50 (fun s_10 => bd (fX12_stepOn s_10) (fun y_11 s_11 =>
    fX12_land_L87 (fun s_13 => fX12_land_J110 s_13) FU (0 : Int32) s_11)) FU (0 : Int32) s_7)
  else
    (bd (fX12_fail (1 : Int32) s_1) (fun y_17 s_17 =>
    some (y_17, s_17))))
set_option maxRecDepth 100000 in
set_option maxHeartbeats 4000000 in
theorem kX12_land (l : Launch)  (a1 : Int32) (s : St) : CN l yX12_land cX12_land 3 (some .int) 73 FULL (fun ad => [.ref (ad 69), .int a1]) s (fX12_land a1 s) := by
  refine cn_of (by decide) (fun _ => (Nat.le_of_ble_eq_true rfl)) (fun X hC hR hl hN => ?_)
  subst hl
  show Zr X (QFN X (some .int)) 0 s 0 [(0, .ref (X_ad X 69)), (1, .int a1)] [] _
  rw [fX12_land]
  refine zr_aload_n (pc := 0) (i := 0) 0 hC dX12_land_0 rfl rfl ?_
  refine zr_iconst (pc := 1) (v := (0 : Int32)) hC dX12_land_1 ic_0 ?_
  refine zr_putInt (pc := 2) (j := 1) hC mem_69 lay_69 rfl rfl (Nat.le_of_ble_eq_true rfl) iX12 tyX12_ok nmX12 m_1396 rfl (by decide +kernel) dX12_land_2 ?_
  refine zr_iload_n (pc := 5) (i := 1) 1 hC dX12_land_5 rfl rfl ?_
  refine zr_if_lt (pc := 6) (tgt := 17) hC dX12_land_6 (by decide) (fun c_ => ?_) (fun c_ => ?_)
  · refine zr_aload_n (pc := 17) (i := 0) 0 hC dX12_land_17 rfl rfl ?_
    refine zr_iconst (pc := 18) (v := (1 : Int32)) hC dX12_land_18 ic_1 ?_
    refine zr_callV (pc := 19) (As := fun ad => [.int (1 : Int32)]) (st1 := []) hC (Nat.le_of_ble_eq_true rfl) (kX12_fail _ (1 : Int32) _) (Nat.le_of_ble_eq_true rfl) mc_yX12_fail m_1606 m_1608 m_p53 mem_69 lay_69 rfl rfl rfl rfl (Nat.le_of_ble_eq_true rfl) dX12_land_19 (fun y_2 s_2 => ?_)
    exact zr_iret (pc := 22) hC hR dX12_land_22
  · refine zr_iload_n (pc := 9) (i := 1) 1 hC dX12_land_9 rfl rfl ?_
    refine zr_aload_n (pc := 10) (i := 0) 0 hC dX12_land_10 rfl rfl ?_
    refine zr_getI (pc := 11) (j := 19) hC mem_69 lay_69 rfl rfl (Nat.le_of_ble_eq_true rfl) iX12 m_1414 dX12_land_11 ?_
    refine zr_icmp_le (pc := 14) (tgt := 23) hC dX12_land_14 (by decide) (fun c_ => ?_) (fun c_ => ?_)
    · refine zr_aload_n (pc := 23) (i := 0) 0 hC dX12_land_23 rfl rfl ?_
      refine zr_iconst (pc := 24) (v := (0 : Int32)) hC dX12_land_24 ic_0 ?_
      refine zr_putInt (pc := 25) (j := 19) hC mem_69 lay_69 rfl rfl (Nat.le_of_ble_eq_true rfl) iX12 tyX12_ok nmX12 m_1414 rfl (by decide +kernel) dX12_land_25 ?_
      refine zr_aload_n (pc := 28) (i := 0) 0 hC dX12_land_28 rfl rfl ?_
      refine zr_iload_n (pc := 29) (i := 1) 1 hC dX12_land_29 rfl rfl ?_
      refine zr_putInt (pc := 30) (j := 21) hC mem_69 lay_69 rfl rfl (Nat.le_of_ble_eq_true rfl) iX12 tyX12_ok nmX12 m_1416 rfl (by decide +kernel) dX12_land_30 ?_
      refine zr_aload_n (pc := 33) (i := 0) 0 hC dX12_land_33 rfl rfl ?_
      refine zr_iconst (pc := 34) (v := (0 : Int32)) hC dX12_land_34 ic_0 ?_
      refine zr_putInt (pc := 35) (j := 20) hC mem_69 lay_69 rfl rfl (Nat.le_of_ble_eq_true rfl) iX12 tyX12_ok nmX12 m_1415 rfl (by decide +kernel) dX12_land_35 ?_
      refine zr_aload_n (pc := 38) (i := 0) 0 hC dX12_land_38 rfl rfl ?_
      refine zr_iconst (pc := 39) (v := (0 : Int32)) hC dX12_land_39 ic_0 ?_
      refine zr_putInt (pc := 40) (j := 26) hC mem_69 lay_69 rfl rfl (Nat.le_of_ble_eq_true rfl) iX12 tyX12_ok nmX12 m_1421 rfl (by decide +kernel) dX12_land_40 ?_
      refine zr_aload_n (pc := 43) (i := 0) 0 hC dX12_land_43 rfl rfl ?_
      refine zr_iconst (pc := 44) (v := (-1 : Int32)) hC dX12_land_44 ic_m1 ?_
      refine zr_putInt (pc := 45) (j := 28) hC mem_69 lay_69 rfl rfl (Nat.le_of_ble_eq_true rfl) iX12 tyX12_ok nmX12 m_1423 rfl (by decide +kernel) dX12_land_45 ?_
      refine zr_iconst (pc := 48) (v := (0 : Int32)) hC dX12_land_48 ic_0 ?_
      refine zr_istore_n (pc := 49) (i := 2) (ls' := [(2, _), (0, _), (1, _)]) hC dX12_land_49 rfl (nlt hN (Nat.le_of_ble_eq_true rfl)) rfl ?_
      refine zr_sub (ls' := [(0, _), (2, _)]) [1, 0] rfl ?_
      refine tX12_land_L50 _ X hC hR hN (fun s_10 => ?_) FU (0 : Int32) _
      · refine zr_aload_n (pc := 81) (i := 0) 0 hC dX12_land_81 rfl rfl ?_
        refine zr_callVv (pc := 82) (As := fun ad => []) (st1 := []) hC (Nat.le_of_ble_eq_true rfl) (kX12_stepOn _  _) (Nat.le_of_ble_eq_true rfl) mc_yX12_stepOn m_1610 m_1612 m_p54 mem_69 lay_69 rfl rfl rfl rfl (Nat.le_of_ble_eq_true rfl) dX12_land_82 (fun y_11 s_11 => ?_)
        refine zr_iconst (pc := 85) (v := (0 : Int32)) hC dX12_land_85 ic_0 ?_
        refine zr_istore_n (pc := 86) (i := 2) (ls' := [(2, _), (0, _)]) hC dX12_land_86 rfl (nlt hN (Nat.le_of_ble_eq_true rfl)) rfl ?_
        refine zr_sub (ls' := [(0, _), (2, _)]) [1, 0] rfl ?_
        refine tX12_land_L87 _ X hC hR hN (fun s_13 => ?_) FU (0 : Int32) _
        · exact tX12_land_J110  X hC hR hN  _
    · refine zr_aload_n (pc := 17) (i := 0) 0 hC dX12_land_17 rfl rfl ?_
      refine zr_iconst (pc := 18) (v := (1 : Int32)) hC dX12_land_18 ic_1 ?_
      refine zr_callV (pc := 19) (As := fun ad => [.int (1 : Int32)]) (st1 := []) hC (Nat.le_of_ble_eq_true rfl) (kX12_fail _ (1 : Int32) _) (Nat.le_of_ble_eq_true rfl) mc_yX12_fail m_1606 m_1608 m_p53 mem_69 lay_69 rfl rfl rfl rfl (Nat.le_of_ble_eq_true rfl) dX12_land_19 (fun y_17 s_17 => ?_)
      exact zr_iret (pc := 22) hC hR dX12_land_22
def fX12_fault (s : St) : Option (Int32 × St) :=
  let s_1 := wr s 69 1 (0 : Int32);
    some ((s_1 69 28), s_1)
set_option maxRecDepth 100000 in
set_option maxHeartbeats 4000000 in
theorem kX12_fault (l : Launch)  (s : St) : CN l yX12_fault cX12_fault 1 (some .int) 1 FULL (fun ad => [.ref (ad 69)]) s (fX12_fault s) := by
  refine cn_of (by decide) (fun _ => (Nat.le_of_ble_eq_true rfl)) (fun X hC hR hl hN => ?_)
  subst hl
  show Zr X (QFN X (some .int)) 0 s 0 [(0, .ref (X_ad X 69))] [] _
  rw [fX12_fault]
  refine zr_aload_n (pc := 0) (i := 0) 0 hC dX12_fault_0 rfl rfl ?_
  refine zr_iconst (pc := 1) (v := (0 : Int32)) hC dX12_fault_1 ic_0 ?_
  refine zr_putInt (pc := 2) (j := 1) hC mem_69 lay_69 rfl rfl (Nat.le_of_ble_eq_true rfl) iX12 tyX12_ok nmX12 m_1396 rfl (by decide +kernel) dX12_fault_2 ?_
  refine zr_aload_n (pc := 5) (i := 0) 0 hC dX12_fault_5 rfl rfl ?_
  refine zr_getI (pc := 6) (j := 28) hC mem_69 lay_69 rfl rfl (Nat.le_of_ble_eq_true rfl) iX12 m_1423 dX12_fault_6 ?_
  exact zr_iret (pc := 9) hC hR dX12_fault_9
def fX12_bitsOf_L4 : Nat → Int32 → Int32 → St → Option (Int32 × St)
  | 0, _, _, _ => none
  | n + 1, v1, v2, s =>
    if v2 = 0 then
    (some (v1, s))
  else
    (fX12_bitsOf_L4 n (v1 + (1 : Int32)) (v2 &&& (v2 - (1 : Int32))) s)
set_option maxRecDepth 100000 in
set_option maxHeartbeats 4000000 in
theorem tX12_bitsOf_L4 (X : KX) (hC : Ctx X RX12 cX12_bitsOf FULL 1 0) (hR : RC X (some .int)) (hN : X_nL X = 3) : ∀ (n : Nat) (v1 : Int32) (v2 : Int32) (s : St), Zr X (QFN X (some .int)) 0 s 4 [(1, .int v1), (2, .int v2)] [] (fX12_bitsOf_L4 n v1 v2 s) := by
  intro n
  induction n with
  | zero =>
    intro v1 v2 s
    exact zr_none
  | succ n ih =>
    intro v1 v2 s
    rw [fX12_bitsOf_L4]
    refine zr_iload_n (pc := 4) (i := 2) 1 hC dX12_bitsOf_4 rfl rfl ?_
    refine zr_if_eq (pc := 5) (tgt := 20) hC dX12_bitsOf_5 (by decide) (fun c_ => ?_) (fun c_ => ?_)
    · refine zr_iload_n (pc := 20) (i := 1) 0 hC dX12_bitsOf_20 rfl rfl ?_
      exact zr_iret (pc := 21) hC hR dX12_bitsOf_21
    · refine zr_iinc (pc := 8) (q := 0) (ls' := [(1, _), (2, _)]) hC dX12_bitsOf_8 rfl (inc_1 _) (nlt hN (Nat.le_of_ble_eq_true rfl)) rfl ?_
      refine zr_iload_n (pc := 11) (i := 2) 1 hC dX12_bitsOf_11 rfl rfl ?_
      refine zr_iload_n (pc := 12) (i := 2) 1 hC dX12_bitsOf_12 rfl rfl ?_
      refine zr_iconst (pc := 13) (v := (1 : Int32)) hC dX12_bitsOf_13 ic_1 ?_
      refine zr_isub (pc := 14) hC dX12_bitsOf_14 ?_
      refine zr_iand (pc := 15) hC dX12_bitsOf_15 ?_
      refine zr_istore_n (pc := 16) (i := 2) (ls' := [(2, _), (1, _)]) hC dX12_bitsOf_16 rfl (nlt hN (Nat.le_of_ble_eq_true rfl)) rfl ?_
      refine zr_goto (pc := 17) (tgt := 4) hC dX12_bitsOf_17 (by decide) ?_
      refine zr_sub (ls' := [(1, _), (2, _)]) [1, 0] rfl ?_
      exact ih (v1 + (1 : Int32)) (v2 &&& (v2 - (1 : Int32))) s
def fX12_bitsOf (a0 : Int32) (s : St) : Option (Int32 × St) :=
  fX12_bitsOf_L4 FU (0 : Int32) a0 s
set_option maxRecDepth 100000 in
set_option maxHeartbeats 4000000 in
theorem kX12_bitsOf (l : Launch)  (a0 : Int32) (s : St) : CN l yX12_bitsOf cX12_bitsOf 3 (some .int) 1 FULL (fun ad => [.int a0]) s (fX12_bitsOf a0 s) := by
  refine cn_of (by decide) (fun _ => (Nat.le_of_ble_eq_true rfl)) (fun X hC hR hl hN => ?_)
  subst hl
  show Zr X (QFN X (some .int)) 0 s 0 [(0, .int a0)] [] _
  rw [fX12_bitsOf]
  refine zr_iconst (pc := 0) (v := (0 : Int32)) hC dX12_bitsOf_0 ic_0 ?_
  refine zr_istore_n (pc := 1) (i := 1) (ls' := [(1, _), (0, _)]) hC dX12_bitsOf_1 rfl (nlt hN (Nat.le_of_ble_eq_true rfl)) rfl ?_
  refine zr_iload_n (pc := 2) (i := 0) 1 hC dX12_bitsOf_2 rfl rfl ?_
  refine zr_istore_n (pc := 3) (i := 2) (ls' := [(2, _), (1, _), (0, _)]) hC dX12_bitsOf_3 rfl (nlt hN (Nat.le_of_ble_eq_true rfl)) rfl ?_
  refine zr_sub (ls' := [(1, _), (2, _)]) [1, 0] rfl ?_
  exact tX12_bitsOf_L4  X hC hR hN FU (0 : Int32) a0 _
def fX12_isRipe (a1 : Int32) (s : St) : Option (Int32 × St) :=
  if inA ((2 : Int32) * a1) 12 then
    (if inA a1 12 then
    (if (s 87 ((2 : Int32) * a1).toNatClampNeg) < (s 82 a1.toNatClampNeg) then
    (some ((0 : Int32), s))
  else
    (if inA (((2 : Int32) * a1) + (1 : Int32)) 12 then
    (if inA a1 12 then
    (if (s 87 (((2 : Int32) * a1) + (1 : Int32)).toNatClampNeg) < (s 83 a1.toNatClampNeg) then
    (some ((0 : Int32), s))
  else
    (some ((1 : Int32), s))) else none) else none)) else none) else none
set_option maxRecDepth 100000 in
set_option maxHeartbeats 4000000 in
theorem kX12_isRipe (l : Launch)  (a1 : Int32) (s : St) : CN l yX12_isRipe cX12_isRipe 2 (some .boolean) 1 FULL (fun ad => [.ref (ad 69), .int a1]) s (fX12_isRipe a1 s) := by
  refine cn_of (by decide) (fun _ => (Nat.le_of_ble_eq_true rfl)) (fun X hC hR hl hN => ?_)
  subst hl
  show Zr X (QFN X (some .boolean)) 0 s 0 [(0, .ref (X_ad X 69)), (1, .int a1)] [] _
  rw [fX12_isRipe]
  refine zr_aload_n (pc := 0) (i := 0) 0 hC dX12_isRipe_0 rfl rfl ?_
  refine zr_getR (pc := 1) (j := 29) (k1 := 87) hC mem_69 lay_69 rfl rfl (Nat.le_of_ble_eq_true rfl) iX12 m_1424 dX12_isRipe_1 ?_
  refine zr_iconst (pc := 4) (v := (2 : Int32)) hC dX12_isRipe_4 ic_2 ?_
  refine zr_iload_n (pc := 5) (i := 1) 1 hC dX12_isRipe_5 rfl rfl ?_
  refine zr_imul (pc := 6) hC dX12_isRipe_6 ?_
  refine zr_iald (pc := 7) hC mem_87 lay_87 dX12_isRipe_7 ?_
  refine zr_aload_n (pc := 8) (i := 0) 0 hC dX12_isRipe_8 rfl rfl ?_
  refine zr_getR (pc := 9) (j := 13) (k1 := 82) hC mem_69 lay_69 rfl rfl (Nat.le_of_ble_eq_true rfl) iX12 m_1408 dX12_isRipe_9 ?_
  refine zr_iload_n (pc := 12) (i := 1) 1 hC dX12_isRipe_12 rfl rfl ?_
  refine zr_iald (pc := 13) hC mem_82 lay_82 dX12_isRipe_13 ?_
  refine zr_icmp_lt (pc := 14) (tgt := 40) hC dX12_isRipe_14 (by decide) (fun c_ => ?_) (fun c_ => ?_)
  · refine zr_iconst (pc := 40) (v := (0 : Int32)) hC dX12_isRipe_40 ic_0 ?_
    exact zr_zret (pc := 41) (by decide) hC hR dX12_isRipe_41
  · refine zr_aload_n (pc := 17) (i := 0) 0 hC dX12_isRipe_17 rfl rfl ?_
    refine zr_getR (pc := 18) (j := 29) (k1 := 87) hC mem_69 lay_69 rfl rfl (Nat.le_of_ble_eq_true rfl) iX12 m_1424 dX12_isRipe_18 ?_
    refine zr_iconst (pc := 21) (v := (2 : Int32)) hC dX12_isRipe_21 ic_2 ?_
    refine zr_iload_n (pc := 22) (i := 1) 1 hC dX12_isRipe_22 rfl rfl ?_
    refine zr_imul (pc := 23) hC dX12_isRipe_23 ?_
    refine zr_iconst (pc := 24) (v := (1 : Int32)) hC dX12_isRipe_24 ic_1 ?_
    refine zr_iadd (pc := 25) hC dX12_isRipe_25 ?_
    refine zr_iald (pc := 26) hC mem_87 lay_87 dX12_isRipe_26 ?_
    refine zr_aload_n (pc := 27) (i := 0) 0 hC dX12_isRipe_27 rfl rfl ?_
    refine zr_getR (pc := 28) (j := 14) (k1 := 83) hC mem_69 lay_69 rfl rfl (Nat.le_of_ble_eq_true rfl) iX12 m_1409 dX12_isRipe_28 ?_
    refine zr_iload_n (pc := 31) (i := 1) 1 hC dX12_isRipe_31 rfl rfl ?_
    refine zr_iald (pc := 32) hC mem_83 lay_83 dX12_isRipe_32 ?_
    refine zr_icmp_lt (pc := 33) (tgt := 40) hC dX12_isRipe_33 (by decide) (fun c_ => ?_) (fun c_ => ?_)
    · refine zr_iconst (pc := 40) (v := (0 : Int32)) hC dX12_isRipe_40 ic_0 ?_
      exact zr_zret (pc := 41) (by decide) hC hR dX12_isRipe_41
    · refine zr_iconst (pc := 36) (v := (1 : Int32)) hC dX12_isRipe_36 ic_1 ?_
      refine zr_goto (pc := 37) (tgt := 41) hC dX12_isRipe_37 (by decide) ?_
      exact zr_zret (pc := 41) (by decide) hC hR dX12_isRipe_41
def fX12_ripe_L4 : Nat → Int32 → Int32 → St → Option (Int32 × St)
  | 0, _, _, _ => none
  | n + 1, v1, v2, s =>
    if inA (2 : Int32) 10 then
    (if (s 71 (2 : Int32).toNatClampNeg) ≤ v2 then
    (some (v1, s))
  else
    (bd (fX12_isRipe v2 s) (fun y_1 s_1 =>
    if y_1 = 0 then
    (fX12_ripe_L4 n (v1 + (0 : Int32)) (v2 + (1 : Int32)) s_1)
  else
    (fX12_ripe_L4 n (v1 + (1 : Int32)) (v2 + (1 : Int32)) s_1)))) else none
set_option maxRecDepth 100000 in
set_option maxHeartbeats 4000000 in
theorem tX12_ripe_L4 (X : KX) (hC : Ctx X RX12 cX12_ripe FULL 2 0) (hR : RC X (some .int)) (hN : X_nL X = 3) : ∀ (n : Nat) (v1 : Int32) (v2 : Int32) (s : St), Zr X (QFN X (some .int)) 0 s 4 [(0, .ref (X_ad X 69)), (1, .int v1), (2, .int v2)] [] (fX12_ripe_L4 n v1 v2 s) := by
  intro n
  induction n with
  | zero =>
    intro v1 v2 s
    exact zr_none
  | succ n ih =>
    intro v1 v2 s
    rw [fX12_ripe_L4]
    refine zr_iload_n (pc := 4) (i := 2) 2 hC dX12_ripe_4 rfl rfl ?_
    refine zr_aload_n (pc := 5) (i := 0) 0 hC dX12_ripe_5 rfl rfl ?_
    refine zr_getR (pc := 6) (j := 2) (k1 := 71) hC mem_69 lay_69 rfl rfl (Nat.le_of_ble_eq_true rfl) iX12 m_1397 dX12_ripe_6 ?_
    refine zr_iconst (pc := 9) (v := (2 : Int32)) hC dX12_ripe_9 ic_2 ?_
    refine zr_iald (pc := 10) hC mem_71 lay_71 dX12_ripe_10 ?_
    refine zr_icmp_ge (pc := 11) (tgt := 36) hC dX12_ripe_11 (by decide) (fun c_ => ?_) (fun c_ => ?_)
    · refine zr_iload_n (pc := 36) (i := 1) 1 hC dX12_ripe_36 rfl rfl ?_
      exact zr_iret (pc := 37) hC hR dX12_ripe_37
    · refine zr_iload_n (pc := 14) (i := 1) 1 hC dX12_ripe_14 rfl rfl ?_
      refine zr_aload_n (pc := 15) (i := 0) 0 hC dX12_ripe_15 rfl rfl ?_
      refine zr_iload_n (pc := 16) (i := 2) 2 hC dX12_ripe_16 rfl rfl ?_
      refine zr_callV (pc := 17) (As := fun ad => [.int v2]) (st1 := [.int v1]) hC (Nat.le_of_ble_eq_true rfl) (kX12_isRipe _ v2 _) (Nat.le_of_ble_eq_true rfl) mc_yX12_isRipe m_1750 m_1752 m_p80 mem_69 lay_69 rfl rfl rfl rfl (Nat.le_of_ble_eq_true rfl) dX12_ripe_17 (fun y_1 s_1 => ?_)
      refine zr_if_eq (pc := 20) (tgt := 27) hC dX12_ripe_20 (by decide) (fun c_ => ?_) (fun c_ => ?_)
      · refine zr_iconst (pc := 27) (v := (0 : Int32)) hC dX12_ripe_27 ic_0 ?_
        refine zr_iadd (pc := 28) hC dX12_ripe_28 ?_
        refine zr_istore_n (pc := 29) (i := 1) (ls' := [(1, _), (0, _), (2, _)]) hC dX12_ripe_29 rfl (nlt hN (Nat.le_of_ble_eq_true rfl)) rfl ?_
        refine zr_iinc (pc := 30) (q := 2) (ls' := [(2, _), (1, _), (0, _)]) hC dX12_ripe_30 rfl (inc_1 _) (nlt hN (Nat.le_of_ble_eq_true rfl)) rfl ?_
        refine zr_goto (pc := 33) (tgt := 4) hC dX12_ripe_33 (by decide) ?_
        refine zr_sub (ls' := [(0, _), (1, _), (2, _)]) [2, 1, 0] rfl ?_
        exact ih (v1 + (0 : Int32)) (v2 + (1 : Int32)) s_1
      · refine zr_iconst (pc := 23) (v := (1 : Int32)) hC dX12_ripe_23 ic_1 ?_
        refine zr_goto (pc := 24) (tgt := 28) hC dX12_ripe_24 (by decide) ?_
        refine zr_iadd (pc := 28) hC dX12_ripe_28 ?_
        refine zr_istore_n (pc := 29) (i := 1) (ls' := [(1, _), (0, _), (2, _)]) hC dX12_ripe_29 rfl (nlt hN (Nat.le_of_ble_eq_true rfl)) rfl ?_
        refine zr_iinc (pc := 30) (q := 2) (ls' := [(2, _), (1, _), (0, _)]) hC dX12_ripe_30 rfl (inc_1 _) (nlt hN (Nat.le_of_ble_eq_true rfl)) rfl ?_
        refine zr_goto (pc := 33) (tgt := 4) hC dX12_ripe_33 (by decide) ?_
        refine zr_sub (ls' := [(0, _), (1, _), (2, _)]) [2, 1, 0] rfl ?_
        exact ih (v1 + (1 : Int32)) (v2 + (1 : Int32)) s_1
def fX12_ripe (s : St) : Option (Int32 × St) :=
  fX12_ripe_L4 FU (0 : Int32) (0 : Int32) s
set_option maxRecDepth 100000 in
set_option maxHeartbeats 4000000 in
theorem kX12_ripe (l : Launch)  (s : St) : CN l yX12_ripe cX12_ripe 3 (some .int) 2 FULL (fun ad => [.ref (ad 69)]) s (fX12_ripe s) := by
  refine cn_of (by decide) (fun _ => (Nat.le_of_ble_eq_true rfl)) (fun X hC hR hl hN => ?_)
  subst hl
  show Zr X (QFN X (some .int)) 0 s 0 [(0, .ref (X_ad X 69))] [] _
  rw [fX12_ripe]
  refine zr_iconst (pc := 0) (v := (0 : Int32)) hC dX12_ripe_0 ic_0 ?_
  refine zr_istore_n (pc := 1) (i := 1) (ls' := [(1, _), (0, _)]) hC dX12_ripe_1 rfl (nlt hN (Nat.le_of_ble_eq_true rfl)) rfl ?_
  refine zr_iconst (pc := 2) (v := (0 : Int32)) hC dX12_ripe_2 ic_0 ?_
  refine zr_istore_n (pc := 3) (i := 2) (ls' := [(2, _), (1, _), (0, _)]) hC dX12_ripe_3 rfl (nlt hN (Nat.le_of_ble_eq_true rfl)) rfl ?_
  refine zr_sub (ls' := [(0, _), (1, _), (2, _)]) [2, 1, 0] rfl ?_
  exact tX12_ripe_L4  X hC hR hN FU (0 : Int32) (0 : Int32) _
def fX12_allNoons_L4 : Nat → Int32 → Int32 → St → Option (Int32 × St)
  | 0, _, _, _ => none
  | n + 1, v1, v2, s =>
    if (10 : Int32) ≤ v2 then
    (some (v1, s))
  else
    (if inA v2 10 then
    (fX12_allNoons_L4 n (v1 + (s 88 v2.toNatClampNeg)) (v2 + (1 : Int32)) s) else none)
set_option maxRecDepth 100000 in
set_option maxHeartbeats 4000000 in
theorem tX12_allNoons_L4 (X : KX) (hC : Ctx X RX12 cX12_allNoons FULL 1 0) (hR : RC X (some .int)) (hN : X_nL X = 3) : ∀ (n : Nat) (v1 : Int32) (v2 : Int32) (s : St), Zr X (QFN X (some .int)) 0 s 4 [(0, .ref (X_ad X 69)), (1, .int v1), (2, .int v2)] [] (fX12_allNoons_L4 n v1 v2 s) := by
  intro n
  induction n with
  | zero =>
    intro v1 v2 s
    exact zr_none
  | succ n ih =>
    intro v1 v2 s
    rw [fX12_allNoons_L4]
    refine zr_iload_n (pc := 4) (i := 2) 2 hC dX12_allNoons_4 rfl rfl ?_
    refine zr_bipush (pc := 5) (v := (10 : Int32)) hC dX12_allNoons_5 bi_10 ?_
    refine zr_icmp_ge (pc := 7) (tgt := 25) hC dX12_allNoons_7 (by decide) (fun c_ => ?_) (fun c_ => ?_)
    · refine zr_iload_n (pc := 25) (i := 1) 1 hC dX12_allNoons_25 rfl rfl ?_
      exact zr_iret (pc := 26) hC hR dX12_allNoons_26
    · refine zr_iload_n (pc := 10) (i := 1) 1 hC dX12_allNoons_10 rfl rfl ?_
      refine zr_aload_n (pc := 11) (i := 0) 0 hC dX12_allNoons_11 rfl rfl ?_
      refine zr_getR (pc := 12) (j := 30) (k1 := 88) hC mem_69 lay_69 rfl rfl (Nat.le_of_ble_eq_true rfl) iX12 m_1425 dX12_allNoons_12 ?_
      refine zr_iload_n (pc := 15) (i := 2) 2 hC dX12_allNoons_15 rfl rfl ?_
      refine zr_iald (pc := 16) hC mem_88 lay_88 dX12_allNoons_16 ?_
      refine zr_iadd (pc := 17) hC dX12_allNoons_17 ?_
      refine zr_istore_n (pc := 18) (i := 1) (ls' := [(1, _), (0, _), (2, _)]) hC dX12_allNoons_18 rfl (nlt hN (Nat.le_of_ble_eq_true rfl)) rfl ?_
      refine zr_iinc (pc := 19) (q := 2) (ls' := [(2, _), (1, _), (0, _)]) hC dX12_allNoons_19 rfl (inc_1 _) (nlt hN (Nat.le_of_ble_eq_true rfl)) rfl ?_
      refine zr_goto (pc := 22) (tgt := 4) hC dX12_allNoons_22 (by decide) ?_
      refine zr_sub (ls' := [(0, _), (1, _), (2, _)]) [2, 1, 0] rfl ?_
      exact ih (v1 + (s 88 v2.toNatClampNeg)) (v2 + (1 : Int32)) s
def fX12_allNoons (s : St) : Option (Int32 × St) :=
  fX12_allNoons_L4 FU (0 : Int32) (0 : Int32) s
set_option maxRecDepth 100000 in
set_option maxHeartbeats 4000000 in
theorem kX12_allNoons (l : Launch)  (s : St) : CN l yX12_allNoons cX12_allNoons 3 (some .int) 1 FULL (fun ad => [.ref (ad 69)]) s (fX12_allNoons s) := by
  refine cn_of (by decide) (fun _ => (Nat.le_of_ble_eq_true rfl)) (fun X hC hR hl hN => ?_)
  subst hl
  show Zr X (QFN X (some .int)) 0 s 0 [(0, .ref (X_ad X 69))] [] _
  rw [fX12_allNoons]
  refine zr_iconst (pc := 0) (v := (0 : Int32)) hC dX12_allNoons_0 ic_0 ?_
  refine zr_istore_n (pc := 1) (i := 1) (ls' := [(1, _), (0, _)]) hC dX12_allNoons_1 rfl (nlt hN (Nat.le_of_ble_eq_true rfl)) rfl ?_
  refine zr_iconst (pc := 2) (v := (0 : Int32)) hC dX12_allNoons_2 ic_0 ?_
  refine zr_istore_n (pc := 3) (i := 2) (ls' := [(2, _), (1, _), (0, _)]) hC dX12_allNoons_3 rfl (nlt hN (Nat.le_of_ble_eq_true rfl)) rfl ?_
  refine zr_sub (ls' := [(0, _), (1, _), (2, _)]) [2, 1, 0] rfl ?_
  exact tX12_allNoons_L4  X hC hR hN FU (0 : Int32) (0 : Int32) _
def fX12_count (a1 : Int32) (s : St) : Option (Int32 × St) :=
  let s_1 := wr s 69 1 (0 : Int32);
    if a1 = (0 : Int32) then
    (if inA (0 : Int32) 10 then
    (some ((s_1 71 (0 : Int32).toNatClampNeg), s_1)) else none)
  else
    (if a1 = (1 : Int32) then
    (bd (fX12_bitsOf (s_1 69 17) s_1) (fun y_2 s_2 =>
    some (y_2, s_2)))
  else
    (if a1 = (2 : Int32) then
    (if inA (1 : Int32) 10 then
    (some ((s_1 71 (1 : Int32).toNatClampNeg), s_1)) else none)
  else
    (if a1 = (3 : Int32) then
    (if inA (2 : Int32) 10 then
    (some ((s_1 71 (2 : Int32).toNatClampNeg), s_1)) else none)
  else
    (if a1 = (4 : Int32) then
    (bd (fX12_ripe s_1) (fun y_3 s_3 =>
    some (y_3, s_3)))
  else
    (if a1 = (5 : Int32) then
    (if inA (3 : Int32) 10 then
    (some ((s_1 71 (3 : Int32).toNatClampNeg), s_1)) else none)
  else
    (if a1 = (6 : Int32) then
    (bd (fX12_allNoons s_1) (fun y_4 s_4 =>
    some (y_4, s_4)))
  else
    (if a1 = (7 : Int32) then
    (some ((s_1 69 32), s_1))
  else
    (if a1 = (8 : Int32) then
    (some ((s_1 69 33), s_1))
  else
    (if a1 = (9 : Int32) then
    (some ((s_1 69 19), s_1))
  else
    (if a1 = (10 : Int32) then
    (if inA (a1 - (10 : Int32)) 3 then
    (some ((s_1 85 (a1 - (10 : Int32)).toNatClampNeg), s_1)) else none)
  else
    (if a1 = (11 : Int32) then
    (if inA (a1 - (10 : Int32)) 3 then
    (some ((s_1 85 (a1 - (10 : Int32)).toNatClampNeg), s_1)) else none)
  else
    (if a1 = (12 : Int32) then
    (if inA (a1 - (10 : Int32)) 3 then
    (some ((s_1 85 (a1 - (10 : Int32)).toNatClampNeg), s_1)) else none)
  else
    (bd (fX12_fail (1 : Int32) s_1) (fun y_5 s_5 =>
    some (y_5, s_5)))))))))))))))
set_option maxRecDepth 100000 in
set_option maxHeartbeats 4000000 in
theorem kX12_count (l : Launch)  (a1 : Int32) (s : St) : CN l yX12_count cX12_count 2 (some .int) 3 FULL (fun ad => [.ref (ad 69), .int a1]) s (fX12_count a1 s) := by
  refine cn_of (by decide) (fun _ => (Nat.le_of_ble_eq_true rfl)) (fun X hC hR hl hN => ?_)
  subst hl
  show Zr X (QFN X (some .int)) 0 s 0 [(0, .ref (X_ad X 69)), (1, .int a1)] [] _
  rw [fX12_count]
  refine zr_aload_n (pc := 0) (i := 0) 0 hC dX12_count_0 rfl rfl ?_
  refine zr_iconst (pc := 1) (v := (0 : Int32)) hC dX12_count_1 ic_0 ?_
  refine zr_putInt (pc := 2) (j := 1) hC mem_69 lay_69 rfl rfl (Nat.le_of_ble_eq_true rfl) iX12 tyX12_ok nmX12 m_1396 rfl (by decide +kernel) dX12_count_2 ?_
  refine zr_iload_n (pc := 5) (i := 1) 1 hC dX12_count_5 rfl rfl ?_
  refine zr_tcase (pc := 6) (v := (0 : Int32)) (off := 66) (tgt := 72) hC dX12_count_6 (by decide) (by decide) (by decide) (by decide) ?_ (fun e0 => ?_)
  · refine zr_aload_n (pc := 72) (i := 0) 0 hC dX12_count_72 rfl rfl ?_
    refine zr_getR (pc := 73) (j := 2) (k1 := 71) hC mem_69 lay_69 rfl rfl (Nat.le_of_ble_eq_true rfl) iX12 m_1397 dX12_count_73 ?_
    refine zr_iconst (pc := 76) (v := (0 : Int32)) hC dX12_count_76 ic_0 ?_
    refine zr_iald (pc := 77) hC mem_71 lay_71 dX12_count_77 ?_
    exact zr_iret (pc := 78) hC hR dX12_count_78
  refine zr_tcase (pc := 6) (v := (1 : Int32)) (off := 73) (tgt := 79) hC dX12_count_6 (by decide) (by decide) (by decide) (by decide) ?_ (fun e1 => ?_)
  · refine zr_aload_n (pc := 79) (i := 0) 0 hC dX12_count_79 rfl rfl ?_
    refine zr_getI (pc := 80) (j := 17) hC mem_69 lay_69 rfl rfl (Nat.le_of_ble_eq_true rfl) iX12 m_1412 dX12_count_80 ?_
    refine zr_callS (pc := 83) (As := fun ad => [.int ((wr s 69 1 (0 : Int32)) 69 17)]) (st1 := []) hC (Nat.le_of_ble_eq_true rfl) (kX12_bitsOf _ ((wr s 69 1 (0 : Int32)) 69 17) _) (Nat.le_of_ble_eq_true rfl) mc_yX12_bitsOf m_1743 m_1744 rfl rfl rfl (Nat.le_of_ble_eq_true rfl) dX12_count_83 (fun y_2 s_2 => ?_)
    exact zr_iret (pc := 86) hC hR dX12_count_86
  refine zr_tcase (pc := 6) (v := (2 : Int32)) (off := 81) (tgt := 87) hC dX12_count_6 (by decide) (by decide) (by decide) (by decide) ?_ (fun e2 => ?_)
  · refine zr_aload_n (pc := 87) (i := 0) 0 hC dX12_count_87 rfl rfl ?_
    refine zr_getR (pc := 88) (j := 2) (k1 := 71) hC mem_69 lay_69 rfl rfl (Nat.le_of_ble_eq_true rfl) iX12 m_1397 dX12_count_88 ?_
    refine zr_iconst (pc := 91) (v := (1 : Int32)) hC dX12_count_91 ic_1 ?_
    refine zr_iald (pc := 92) hC mem_71 lay_71 dX12_count_92 ?_
    exact zr_iret (pc := 93) hC hR dX12_count_93
  refine zr_tcase (pc := 6) (v := (3 : Int32)) (off := 88) (tgt := 94) hC dX12_count_6 (by decide) (by decide) (by decide) (by decide) ?_ (fun e3 => ?_)
  · refine zr_aload_n (pc := 94) (i := 0) 0 hC dX12_count_94 rfl rfl ?_
    refine zr_getR (pc := 95) (j := 2) (k1 := 71) hC mem_69 lay_69 rfl rfl (Nat.le_of_ble_eq_true rfl) iX12 m_1397 dX12_count_95 ?_
    refine zr_iconst (pc := 98) (v := (2 : Int32)) hC dX12_count_98 ic_2 ?_
    refine zr_iald (pc := 99) hC mem_71 lay_71 dX12_count_99 ?_
    exact zr_iret (pc := 100) hC hR dX12_count_100
  refine zr_tcase (pc := 6) (v := (4 : Int32)) (off := 95) (tgt := 101) hC dX12_count_6 (by decide) (by decide) (by decide) (by decide) ?_ (fun e4 => ?_)
  · refine zr_aload_n (pc := 101) (i := 0) 0 hC dX12_count_101 rfl rfl ?_
    refine zr_callV (pc := 102) (As := fun ad => []) (st1 := []) hC (Nat.le_of_ble_eq_true rfl) (kX12_ripe _  _) (Nat.le_of_ble_eq_true rfl) mc_yX12_ripe m_1746 m_1748 m_p79 mem_69 lay_69 rfl rfl rfl rfl (Nat.le_of_ble_eq_true rfl) dX12_count_102 (fun y_3 s_3 => ?_)
    exact zr_iret (pc := 105) hC hR dX12_count_105
  refine zr_tcase (pc := 6) (v := (5 : Int32)) (off := 100) (tgt := 106) hC dX12_count_6 (by decide) (by decide) (by decide) (by decide) ?_ (fun e5 => ?_)
  · refine zr_aload_n (pc := 106) (i := 0) 0 hC dX12_count_106 rfl rfl ?_
    refine zr_getR (pc := 107) (j := 2) (k1 := 71) hC mem_69 lay_69 rfl rfl (Nat.le_of_ble_eq_true rfl) iX12 m_1397 dX12_count_107 ?_
    refine zr_iconst (pc := 110) (v := (3 : Int32)) hC dX12_count_110 ic_3 ?_
    refine zr_iald (pc := 111) hC mem_71 lay_71 dX12_count_111 ?_
    exact zr_iret (pc := 112) hC hR dX12_count_112
  refine zr_tcase (pc := 6) (v := (6 : Int32)) (off := 107) (tgt := 113) hC dX12_count_6 (by decide) (by decide) (by decide) (by decide) ?_ (fun e6 => ?_)
  · refine zr_aload_n (pc := 113) (i := 0) 0 hC dX12_count_113 rfl rfl ?_
    refine zr_callV (pc := 114) (As := fun ad => []) (st1 := []) hC (Nat.le_of_ble_eq_true rfl) (kX12_allNoons _  _) (Nat.le_of_ble_eq_true rfl) mc_yX12_allNoons m_1754 m_1756 m_p81 mem_69 lay_69 rfl rfl rfl rfl (Nat.le_of_ble_eq_true rfl) dX12_count_114 (fun y_4 s_4 => ?_)
    exact zr_iret (pc := 117) hC hR dX12_count_117
  refine zr_tcase (pc := 6) (v := (7 : Int32)) (off := 112) (tgt := 118) hC dX12_count_6 (by decide) (by decide) (by decide) (by decide) ?_ (fun e7 => ?_)
  · refine zr_aload_n (pc := 118) (i := 0) 0 hC dX12_count_118 rfl rfl ?_
    refine zr_getI (pc := 119) (j := 32) hC mem_69 lay_69 rfl rfl (Nat.le_of_ble_eq_true rfl) iX12 m_1427 dX12_count_119 ?_
    exact zr_iret (pc := 122) hC hR dX12_count_122
  refine zr_tcase (pc := 6) (v := (8 : Int32)) (off := 117) (tgt := 123) hC dX12_count_6 (by decide) (by decide) (by decide) (by decide) ?_ (fun e8 => ?_)
  · refine zr_aload_n (pc := 123) (i := 0) 0 hC dX12_count_123 rfl rfl ?_
    refine zr_getI (pc := 124) (j := 33) hC mem_69 lay_69 rfl rfl (Nat.le_of_ble_eq_true rfl) iX12 m_1428 dX12_count_124 ?_
    exact zr_iret (pc := 127) hC hR dX12_count_127
  refine zr_tcase (pc := 6) (v := (9 : Int32)) (off := 122) (tgt := 128) hC dX12_count_6 (by decide) (by decide) (by decide) (by decide) ?_ (fun e9 => ?_)
  · refine zr_aload_n (pc := 128) (i := 0) 0 hC dX12_count_128 rfl rfl ?_
    refine zr_getI (pc := 129) (j := 19) hC mem_69 lay_69 rfl rfl (Nat.le_of_ble_eq_true rfl) iX12 m_1414 dX12_count_129 ?_
    exact zr_iret (pc := 132) hC hR dX12_count_132
  refine zr_tcase (pc := 6) (v := (10 : Int32)) (off := 127) (tgt := 133) hC dX12_count_6 (by decide) (by decide) (by decide) (by decide) ?_ (fun e10 => ?_)
  · refine zr_aload_n (pc := 133) (i := 0) 0 hC dX12_count_133 rfl rfl ?_
    refine zr_getR (pc := 134) (j := 16) (k1 := 85) hC mem_69 lay_69 rfl rfl (Nat.le_of_ble_eq_true rfl) iX12 m_1411 dX12_count_134 ?_
    refine zr_iload_n (pc := 137) (i := 1) 1 hC dX12_count_137 rfl rfl ?_
    refine zr_bipush (pc := 138) (v := (10 : Int32)) hC dX12_count_138 bi_10 ?_
    refine zr_isub (pc := 140) hC dX12_count_140 ?_
    refine zr_iald (pc := 141) hC mem_85 lay_85 dX12_count_141 ?_
    exact zr_iret (pc := 142) hC hR dX12_count_142
  refine zr_tcase (pc := 6) (v := (11 : Int32)) (off := 127) (tgt := 133) hC dX12_count_6 (by decide) (by decide) (by decide) (by decide) ?_ (fun e11 => ?_)
  · refine zr_aload_n (pc := 133) (i := 0) 0 hC dX12_count_133 rfl rfl ?_
    refine zr_getR (pc := 134) (j := 16) (k1 := 85) hC mem_69 lay_69 rfl rfl (Nat.le_of_ble_eq_true rfl) iX12 m_1411 dX12_count_134 ?_
    refine zr_iload_n (pc := 137) (i := 1) 1 hC dX12_count_137 rfl rfl ?_
    refine zr_bipush (pc := 138) (v := (10 : Int32)) hC dX12_count_138 bi_10 ?_
    refine zr_isub (pc := 140) hC dX12_count_140 ?_
    refine zr_iald (pc := 141) hC mem_85 lay_85 dX12_count_141 ?_
    exact zr_iret (pc := 142) hC hR dX12_count_142
  refine zr_tcase (pc := 6) (v := (12 : Int32)) (off := 127) (tgt := 133) hC dX12_count_6 (by decide) (by decide) (by decide) (by decide) ?_ (fun e12 => ?_)
  · refine zr_aload_n (pc := 133) (i := 0) 0 hC dX12_count_133 rfl rfl ?_
    refine zr_getR (pc := 134) (j := 16) (k1 := 85) hC mem_69 lay_69 rfl rfl (Nat.le_of_ble_eq_true rfl) iX12 m_1411 dX12_count_134 ?_
    refine zr_iload_n (pc := 137) (i := 1) 1 hC dX12_count_137 rfl rfl ?_
    refine zr_bipush (pc := 138) (v := (10 : Int32)) hC dX12_count_138 bi_10 ?_
    refine zr_isub (pc := 140) hC dX12_count_140 ?_
    refine zr_iald (pc := 141) hC mem_85 lay_85 dX12_count_141 ?_
    exact zr_iret (pc := 142) hC hR dX12_count_142
  refine zr_tdef (pc := 6) (tgt := 143) [(0 : Int32), (1 : Int32), (2 : Int32), (3 : Int32), (4 : Int32), (5 : Int32), (6 : Int32), (7 : Int32), (8 : Int32), (9 : Int32), (10 : Int32), (11 : Int32), (12 : Int32)] hC dX12_count_6 (List.forall_mem_cons.mpr ⟨e0, List.forall_mem_cons.mpr ⟨e1, List.forall_mem_cons.mpr ⟨e2, List.forall_mem_cons.mpr ⟨e3, List.forall_mem_cons.mpr ⟨e4, List.forall_mem_cons.mpr ⟨e5, List.forall_mem_cons.mpr ⟨e6, List.forall_mem_cons.mpr ⟨e7, List.forall_mem_cons.mpr ⟨e8, List.forall_mem_cons.mpr ⟨e9, List.forall_mem_cons.mpr ⟨e10, List.forall_mem_cons.mpr ⟨e11, List.forall_mem_cons.mpr ⟨e12, fun _ h => absurd h List.not_mem_nil⟩⟩⟩⟩⟩⟩⟩⟩⟩⟩⟩⟩⟩) (by decide) (by decide) (by decide) ?_
  refine zr_aload_n (pc := 143) (i := 0) 0 hC dX12_count_143 rfl rfl ?_
  refine zr_iconst (pc := 144) (v := (1 : Int32)) hC dX12_count_144 ic_1 ?_
  refine zr_callV (pc := 145) (As := fun ad => [.int (1 : Int32)]) (st1 := []) hC (Nat.le_of_ble_eq_true rfl) (kX12_fail _ (1 : Int32) _) (Nat.le_of_ble_eq_true rfl) mc_yX12_fail m_1606 m_1608 m_p53 mem_69 lay_69 rfl rfl rfl rfl (Nat.le_of_ble_eq_true rfl) dX12_count_145 (fun y_5 s_5 => ?_)
  exact zr_iret (pc := 148) hC hR dX12_count_148
def fX12_isIn (a0 : Int64) (a2 : Int64) (a4 : Int64) (s : St) : Option (Int32 × St) :=
  if (lg_cmp a0 a2) < 0 then
    (some ((0 : Int32), s))
  else
    (if 0 < (lg_cmp a0 a4) then
    (some ((0 : Int32), s))
  else
    (some ((1 : Int32), s)))
set_option maxRecDepth 100000 in
set_option maxHeartbeats 4000000 in
theorem kX12_isIn (l : Launch)  (a0 : Int64) (a2 : Int64) (a4 : Int64) (s : St) : CN l yX12_isIn cX12_isIn 6 (some .boolean) 1 FULL (fun ad => [.long a0, .long a2, .long a4]) s (fX12_isIn a0 a2 a4 s) := by
  refine cn_of (by decide) (fun _ => (Nat.le_of_ble_eq_true rfl)) (fun X hC hR hl hN => ?_)
  subst hl
  show Zr X (QFN X (some .boolean)) 0 s 0 [(0, .long a0), (2, .long a2), (4, .long a4)] [] _
  rw [fX12_isIn]
  refine zr_lload_n (pc := 0) (i := 0) 0 hC dX12_isIn_0 rfl rfl ?_
  refine zr_lload_n (pc := 1) (i := 2) 1 hC dX12_isIn_1 rfl rfl ?_
  refine zr_lcmp (pc := 2) hC dX12_isIn_2 ?_
  refine zr_if_lt (pc := 3) (tgt := 17) hC dX12_isIn_3 (by decide) (fun c_ => ?_) (fun c_ => ?_)
  · refine zr_iconst (pc := 17) (v := (0 : Int32)) hC dX12_isIn_17 ic_0 ?_
    exact zr_zret (pc := 18) (by decide) hC hR dX12_isIn_18
  · refine zr_lload_n (pc := 6) (i := 0) 0 hC dX12_isIn_6 rfl rfl ?_
    refine zr_lload (pc := 7) 2 hC dX12_isIn_7 rfl ?_
    refine zr_lcmp (pc := 9) hC dX12_isIn_9 ?_
    refine zr_if_gt (pc := 10) (tgt := 17) hC dX12_isIn_10 (by decide) (fun c_ => ?_) (fun c_ => ?_)
    · refine zr_iconst (pc := 17) (v := (0 : Int32)) hC dX12_isIn_17 ic_0 ?_
      exact zr_zret (pc := 18) (by decide) hC hR dX12_isIn_18
    · refine zr_iconst (pc := 13) (v := (1 : Int32)) hC dX12_isIn_13 ic_1 ?_
      refine zr_goto (pc := 14) (tgt := 18) hC dX12_isIn_14 (by decide) ?_
      exact zr_zret (pc := 18) (by decide) hC hR dX12_isIn_18
def fX12_isPerson (a1 : Int32) (s : St) : Option (Int32 × St) :=
  if inA (0 : Int32) 10 then
    (bd (fX12_isIn (Int32.toInt64 a1) (0 : Int64) (Int32.toInt64 ((s 71 (0 : Int32).toNatClampNeg) - (1 : Int32))) s) (fun y_1 s_1 =>
    if y_1 = 0 ∨ y_1 = 1 then some (y_1, s_1) else none)) else none
set_option maxRecDepth 100000 in
set_option maxHeartbeats 4000000 in
theorem kX12_isPerson (l : Launch)  (a1 : Int32) (s : St) : CN l yX12_isPerson cX12_isPerson 2 (some .boolean) 2 FULL (fun ad => [.ref (ad 69), .int a1]) s (fX12_isPerson a1 s) := by
  refine cn_of (by decide) (fun _ => (Nat.le_of_ble_eq_true rfl)) (fun X hC hR hl hN => ?_)
  subst hl
  show Zr X (QFN X (some .boolean)) 0 s 0 [(0, .ref (X_ad X 69)), (1, .int a1)] [] _
  rw [fX12_isPerson]
  refine zr_iload_n (pc := 0) (i := 1) 1 hC dX12_isPerson_0 rfl rfl ?_
  refine zr_i2l (pc := 1) hC dX12_isPerson_1 ?_
  refine zr_lconst (pc := 2) (v := (0 : Int64)) hC dX12_isPerson_2 rfl ?_
  refine zr_aload_n (pc := 3) (i := 0) 0 hC dX12_isPerson_3 rfl rfl ?_
  refine zr_getR (pc := 4) (j := 2) (k1 := 71) hC mem_69 lay_69 rfl rfl (Nat.le_of_ble_eq_true rfl) iX12 m_1397 dX12_isPerson_4 ?_
  refine zr_iconst (pc := 7) (v := (0 : Int32)) hC dX12_isPerson_7 ic_0 ?_
  refine zr_iald (pc := 8) hC mem_71 lay_71 dX12_isPerson_8 ?_
  refine zr_iconst (pc := 9) (v := (1 : Int32)) hC dX12_isPerson_9 ic_1 ?_
  refine zr_isub (pc := 10) hC dX12_isPerson_10 ?_
  refine zr_i2l (pc := 11) hC dX12_isPerson_11 ?_
  refine zr_callS (pc := 12) (As := fun ad => [.long (Int32.toInt64 a1), .long (0 : Int64), .long (Int32.toInt64 ((s 71 (0 : Int32).toNatClampNeg) - (1 : Int32)))]) (st1 := []) hC (Nat.le_of_ble_eq_true rfl) (kX12_isIn _ (Int32.toInt64 a1) (0 : Int64) (Int32.toInt64 ((s 71 (0 : Int32).toNatClampNeg) - (1 : Int32))) _) (Nat.le_of_ble_eq_true rfl) mc_yX12_isIn m_1766 m_1767 rfl rfl rfl (Nat.le_of_ble_eq_true rfl) dX12_isPerson_12 (fun y_1 s_1 => ?_)
  exact zr_zretG (pc := 15) hC hR dX12_isPerson_15
def fX12_isAlive (a1 : Int32) (s : St) : Option (Int32 × St) :=
  if ((jshr (s 69 17) a1) &&& (1 : Int32)) = (1 : Int32) then
    (some ((1 : Int32), s))
  else
    (some ((0 : Int32), s))
set_option maxRecDepth 100000 in
set_option maxHeartbeats 4000000 in
theorem kX12_isAlive (l : Launch)  (a1 : Int32) (s : St) : CN l yX12_isAlive cX12_isAlive 2 (some .boolean) 1 FULL (fun ad => [.ref (ad 69), .int a1]) s (fX12_isAlive a1 s) := by
  refine cn_of (by decide) (fun _ => (Nat.le_of_ble_eq_true rfl)) (fun X hC hR hl hN => ?_)
  subst hl
  show Zr X (QFN X (some .boolean)) 0 s 0 [(0, .ref (X_ad X 69)), (1, .int a1)] [] _
  rw [fX12_isAlive]
  refine zr_aload_n (pc := 0) (i := 0) 0 hC dX12_isAlive_0 rfl rfl ?_
  refine zr_getI (pc := 1) (j := 17) hC mem_69 lay_69 rfl rfl (Nat.le_of_ble_eq_true rfl) iX12 m_1412 dX12_isAlive_1 ?_
  refine zr_iload_n (pc := 4) (i := 1) 1 hC dX12_isAlive_4 rfl rfl ?_
  refine zr_ishr (pc := 5) hC dX12_isAlive_5 ?_
  refine zr_iconst (pc := 6) (v := (1 : Int32)) hC dX12_isAlive_6 ic_1 ?_
  refine zr_iand (pc := 7) hC dX12_isAlive_7 ?_
  refine zr_iconst (pc := 8) (v := (1 : Int32)) hC dX12_isAlive_8 ic_1 ?_
  refine zr_icmp_ne (pc := 9) (tgt := 16) hC dX12_isAlive_9 (by decide) (fun c_ => ?_) (fun c_ => ?_)
  · refine zr_iconst (pc := 12) (v := (1 : Int32)) hC dX12_isAlive_12 ic_1 ?_
    refine zr_goto (pc := 13) (tgt := 17) hC dX12_isAlive_13 (by decide) ?_
    exact zr_zret (pc := 17) (by decide) hC hR dX12_isAlive_17
  · refine zr_iconst (pc := 16) (v := (0 : Int32)) hC dX12_isAlive_16 ic_0 ?_
    exact zr_zret (pc := 17) (by decide) hC hR dX12_isAlive_17
def fX12_person (a1 : Int32) (a2 : Int32) (s : St) : Option (Int32 × St) :=
  let s_1 := wr s 69 1 (0 : Int32);
    bd (fX12_isPerson a1 s_1) (fun y_2 s_2 =>
    if y_2 = 0 then
    (bd (fX12_fail (1 : Int32) s_2) (fun y_5 s_5 =>
    some (y_5, s_5)))
  else
    (if a2 = (0 : Int32) then
    (bd (fX12_isAlive a1 s_2) (fun y_3 s_3 =>
    if y_3 = 0 then
    (some ((0 : Int32), s_3))
  else
    (some ((1 : Int32), s_3))))
  else
    (if a2 = (1 : Int32) then
    (if inA a1 24 then
    (some ((s_2 73 a1.toNatClampNeg), s_2)) else none)
  else
    (if a2 = (2 : Int32) then
    (if inA a1 24 then
    (if (s_2 74 a1.toNatClampNeg) = (-1 : Int32) then
    (if inA a1 24 then
    (if (s_2 75 a1.toNatClampNeg) = (-1 : Int32) then
    (some (((0 : Int32) + (0 : Int32)), s_2))
  else
    (some (((0 : Int32) + (1 : Int32)), s_2))) else none)
  else
    (if inA a1 24 then
    (if (s_2 75 a1.toNatClampNeg) = (-1 : Int32) then
    (some (((1 : Int32) + (0 : Int32)), s_2))
  else
    (some (((1 : Int32) + (1 : Int32)), s_2))) else none)) else none)
  else
    (if a2 = (3 : Int32) then
    (if inA a1 24 then
    (some ((s_2 74 a1.toNatClampNeg), s_2)) else none)
  else
    (if a2 = (4 : Int32) then
    (if inA a1 24 then
    (some ((s_2 75 a1.toNatClampNeg), s_2)) else none)
  else
    (if a2 = (5 : Int32) then
    (if inA a1 24 then
    (some ((s_2 76 a1.toNatClampNeg), s_2)) else none)
  else
    (if a2 = (6 : Int32) then
    (if inA a1 24 then
    (some ((s_2 77 a1.toNatClampNeg), s_2)) else none)
  else
    (bd (fX12_fail (1 : Int32) s_2) (fun y_4 s_4 =>
    some (y_4, s_4)))))))))))
set_option maxRecDepth 100000 in
set_option maxHeartbeats 4000000 in
theorem kX12_person (l : Launch)  (a1 : Int32) (a2 : Int32) (s : St) : CN l yX12_person cX12_person 3 (some .int) 3 FULL (fun ad => [.ref (ad 69), .int a1, .int a2]) s (fX12_person a1 a2 s) := by
  refine cn_of (by decide) (fun _ => (Nat.le_of_ble_eq_true rfl)) (fun X hC hR hl hN => ?_)
  subst hl
  show Zr X (QFN X (some .int)) 0 s 0 [(0, .ref (X_ad X 69)), (1, .int a1), (2, .int a2)] [] _
  rw [fX12_person]
  refine zr_aload_n (pc := 0) (i := 0) 0 hC dX12_person_0 rfl rfl ?_
  refine zr_iconst (pc := 1) (v := (0 : Int32)) hC dX12_person_1 ic_0 ?_
  refine zr_putInt (pc := 2) (j := 1) hC mem_69 lay_69 rfl rfl (Nat.le_of_ble_eq_true rfl) iX12 tyX12_ok nmX12 m_1396 rfl (by decide +kernel) dX12_person_2 ?_
  refine zr_aload_n (pc := 5) (i := 0) 0 hC dX12_person_5 rfl rfl ?_
  refine zr_iload_n (pc := 6) (i := 1) 1 hC dX12_person_6 rfl rfl ?_
  refine zr_callV (pc := 7) (As := fun ad => [.int a1]) (st1 := []) hC (Nat.le_of_ble_eq_true rfl) (kX12_isPerson _ a1 _) (Nat.le_of_ble_eq_true rfl) mc_yX12_isPerson m_1762 m_1764 m_p82 mem_69 lay_69 rfl rfl rfl rfl (Nat.le_of_ble_eq_true rfl) dX12_person_7 (fun y_2 s_2 => ?_)
  refine zr_if_ne (pc := 10) (tgt := 19) hC dX12_person_10 (by decide) (fun c_ => ?_) (fun c_ => ?_)
  · refine zr_aload_n (pc := 13) (i := 0) 0 hC dX12_person_13 rfl rfl ?_
    refine zr_iconst (pc := 14) (v := (1 : Int32)) hC dX12_person_14 ic_1 ?_
    refine zr_callV (pc := 15) (As := fun ad => [.int (1 : Int32)]) (st1 := []) hC (Nat.le_of_ble_eq_true rfl) (kX12_fail _ (1 : Int32) _) (Nat.le_of_ble_eq_true rfl) mc_yX12_fail m_1606 m_1608 m_p53 mem_69 lay_69 rfl rfl rfl rfl (Nat.le_of_ble_eq_true rfl) dX12_person_15 (fun y_5 s_5 => ?_)
    exact zr_iret (pc := 18) hC hR dX12_person_18
  · refine zr_iload_n (pc := 19) (i := 2) 2 hC dX12_person_19 rfl rfl ?_
    refine zr_tcase (pc := 20) (v := (0 : Int32)) (off := 44) (tgt := 64) hC dX12_person_20 (by decide) (by decide) (by decide) (by decide) ?_ (fun e0 => ?_)
    · refine zr_aload_n (pc := 64) (i := 0) 0 hC dX12_person_64 rfl rfl ?_
      refine zr_iload_n (pc := 65) (i := 1) 1 hC dX12_person_65 rfl rfl ?_
      refine zr_callV (pc := 66) (As := fun ad => [.int a1]) (st1 := []) hC (Nat.le_of_ble_eq_true rfl) (kX12_isAlive _ a1 _) (Nat.le_of_ble_eq_true rfl) mc_yX12_isAlive m_1769 m_1771 m_p83 mem_69 lay_69 rfl rfl rfl rfl (Nat.le_of_ble_eq_true rfl) dX12_person_66 (fun y_3 s_3 => ?_)
      refine zr_if_eq (pc := 69) (tgt := 76) hC dX12_person_69 (by decide) (fun c_ => ?_) (fun c_ => ?_)
      · refine zr_iconst (pc := 76) (v := (0 : Int32)) hC dX12_person_76 ic_0 ?_
        exact zr_iret (pc := 77) hC hR dX12_person_77
      · refine zr_iconst (pc := 72) (v := (1 : Int32)) hC dX12_person_72 ic_1 ?_
        refine zr_goto (pc := 73) (tgt := 77) hC dX12_person_73 (by decide) ?_
        exact zr_iret (pc := 77) hC hR dX12_person_77
    refine zr_tcase (pc := 20) (v := (1 : Int32)) (off := 58) (tgt := 78) hC dX12_person_20 (by decide) (by decide) (by decide) (by decide) ?_ (fun e1 => ?_)
    · refine zr_aload_n (pc := 78) (i := 0) 0 hC dX12_person_78 rfl rfl ?_
      refine zr_getR (pc := 79) (j := 4) (k1 := 73) hC mem_69 lay_69 rfl rfl (Nat.le_of_ble_eq_true rfl) iX12 m_1399 dX12_person_79 ?_
      refine zr_iload_n (pc := 82) (i := 1) 1 hC dX12_person_82 rfl rfl ?_
      refine zr_iald (pc := 83) hC mem_73 lay_73 dX12_person_83 ?_
      exact zr_iret (pc := 84) hC hR dX12_person_84
    refine zr_tcase (pc := 20) (v := (2 : Int32)) (off := 65) (tgt := 85) hC dX12_person_20 (by decide) (by decide) (by decide) (by decide) ?_ (fun e2 => ?_)
    · refine zr_aload_n (pc := 85) (i := 0) 0 hC dX12_person_85 rfl rfl ?_
      refine zr_getR (pc := 86) (j := 5) (k1 := 74) hC mem_69 lay_69 rfl rfl (Nat.le_of_ble_eq_true rfl) iX12 m_1400 dX12_person_86 ?_
      refine zr_iload_n (pc := 89) (i := 1) 1 hC dX12_person_89 rfl rfl ?_
      refine zr_iald (pc := 90) hC mem_74 lay_74 dX12_person_90 ?_
      refine zr_iconst (pc := 91) (v := (-1 : Int32)) hC dX12_person_91 ic_m1 ?_
      refine zr_icmp_ne (pc := 92) (tgt := 99) hC dX12_person_92 (by decide) (fun c_ => ?_) (fun c_ => ?_)
      · refine zr_iconst (pc := 95) (v := (0 : Int32)) hC dX12_person_95 ic_0 ?_
        refine zr_goto (pc := 96) (tgt := 100) hC dX12_person_96 (by decide) ?_
        refine zr_aload_n (pc := 100) (i := 0) 0 hC dX12_person_100 rfl rfl ?_
        refine zr_getR (pc := 101) (j := 6) (k1 := 75) hC mem_69 lay_69 rfl rfl (Nat.le_of_ble_eq_true rfl) iX12 m_1401 dX12_person_101 ?_
        refine zr_iload_n (pc := 104) (i := 1) 1 hC dX12_person_104 rfl rfl ?_
        refine zr_iald (pc := 105) hC mem_75 lay_75 dX12_person_105 ?_
        refine zr_iconst (pc := 106) (v := (-1 : Int32)) hC dX12_person_106 ic_m1 ?_
        refine zr_icmp_ne (pc := 107) (tgt := 114) hC dX12_person_107 (by decide) (fun c_ => ?_) (fun c_ => ?_)
        · refine zr_iconst (pc := 110) (v := (0 : Int32)) hC dX12_person_110 ic_0 ?_
          refine zr_goto (pc := 111) (tgt := 115) hC dX12_person_111 (by decide) ?_
          refine zr_iadd (pc := 115) hC dX12_person_115 ?_
          exact zr_iret (pc := 116) hC hR dX12_person_116
        · refine zr_iconst (pc := 114) (v := (1 : Int32)) hC dX12_person_114 ic_1 ?_
          refine zr_iadd (pc := 115) hC dX12_person_115 ?_
          exact zr_iret (pc := 116) hC hR dX12_person_116
      · refine zr_iconst (pc := 99) (v := (1 : Int32)) hC dX12_person_99 ic_1 ?_
        refine zr_aload_n (pc := 100) (i := 0) 0 hC dX12_person_100 rfl rfl ?_
        refine zr_getR (pc := 101) (j := 6) (k1 := 75) hC mem_69 lay_69 rfl rfl (Nat.le_of_ble_eq_true rfl) iX12 m_1401 dX12_person_101 ?_
        refine zr_iload_n (pc := 104) (i := 1) 1 hC dX12_person_104 rfl rfl ?_
        refine zr_iald (pc := 105) hC mem_75 lay_75 dX12_person_105 ?_
        refine zr_iconst (pc := 106) (v := (-1 : Int32)) hC dX12_person_106 ic_m1 ?_
        refine zr_icmp_ne (pc := 107) (tgt := 114) hC dX12_person_107 (by decide) (fun c_ => ?_) (fun c_ => ?_)
        · refine zr_iconst (pc := 110) (v := (0 : Int32)) hC dX12_person_110 ic_0 ?_
          refine zr_goto (pc := 111) (tgt := 115) hC dX12_person_111 (by decide) ?_
          refine zr_iadd (pc := 115) hC dX12_person_115 ?_
          exact zr_iret (pc := 116) hC hR dX12_person_116
        · refine zr_iconst (pc := 114) (v := (1 : Int32)) hC dX12_person_114 ic_1 ?_
          refine zr_iadd (pc := 115) hC dX12_person_115 ?_
          exact zr_iret (pc := 116) hC hR dX12_person_116
    refine zr_tcase (pc := 20) (v := (3 : Int32)) (off := 97) (tgt := 117) hC dX12_person_20 (by decide) (by decide) (by decide) (by decide) ?_ (fun e3 => ?_)
    · refine zr_aload_n (pc := 117) (i := 0) 0 hC dX12_person_117 rfl rfl ?_
      refine zr_getR (pc := 118) (j := 5) (k1 := 74) hC mem_69 lay_69 rfl rfl (Nat.le_of_ble_eq_true rfl) iX12 m_1400 dX12_person_118 ?_
      refine zr_iload_n (pc := 121) (i := 1) 1 hC dX12_person_121 rfl rfl ?_
      refine zr_iald (pc := 122) hC mem_74 lay_74 dX12_person_122 ?_
      exact zr_iret (pc := 123) hC hR dX12_person_123
    refine zr_tcase (pc := 20) (v := (4 : Int32)) (off := 104) (tgt := 124) hC dX12_person_20 (by decide) (by decide) (by decide) (by decide) ?_ (fun e4 => ?_)
    · refine zr_aload_n (pc := 124) (i := 0) 0 hC dX12_person_124 rfl rfl ?_
      refine zr_getR (pc := 125) (j := 6) (k1 := 75) hC mem_69 lay_69 rfl rfl (Nat.le_of_ble_eq_true rfl) iX12 m_1401 dX12_person_125 ?_
      refine zr_iload_n (pc := 128) (i := 1) 1 hC dX12_person_128 rfl rfl ?_
      refine zr_iald (pc := 129) hC mem_75 lay_75 dX12_person_129 ?_
      exact zr_iret (pc := 130) hC hR dX12_person_130
    refine zr_tcase (pc := 20) (v := (5 : Int32)) (off := 111) (tgt := 131) hC dX12_person_20 (by decide) (by decide) (by decide) (by decide) ?_ (fun e5 => ?_)
    · refine zr_aload_n (pc := 131) (i := 0) 0 hC dX12_person_131 rfl rfl ?_
      refine zr_getR (pc := 132) (j := 7) (k1 := 76) hC mem_69 lay_69 rfl rfl (Nat.le_of_ble_eq_true rfl) iX12 m_1402 dX12_person_132 ?_
      refine zr_iload_n (pc := 135) (i := 1) 1 hC dX12_person_135 rfl rfl ?_
      refine zr_iald (pc := 136) hC mem_76 lay_76 dX12_person_136 ?_
      exact zr_iret (pc := 137) hC hR dX12_person_137
    refine zr_tcase (pc := 20) (v := (6 : Int32)) (off := 118) (tgt := 138) hC dX12_person_20 (by decide) (by decide) (by decide) (by decide) ?_ (fun e6 => ?_)
    · refine zr_aload_n (pc := 138) (i := 0) 0 hC dX12_person_138 rfl rfl ?_
      refine zr_getR (pc := 139) (j := 8) (k1 := 77) hC mem_69 lay_69 rfl rfl (Nat.le_of_ble_eq_true rfl) iX12 m_1403 dX12_person_139 ?_
      refine zr_iload_n (pc := 142) (i := 1) 1 hC dX12_person_142 rfl rfl ?_
      refine zr_iald (pc := 143) hC mem_77 lay_77 dX12_person_143 ?_
      exact zr_iret (pc := 144) hC hR dX12_person_144
    refine zr_tdef (pc := 20) (tgt := 145) [(0 : Int32), (1 : Int32), (2 : Int32), (3 : Int32), (4 : Int32), (5 : Int32), (6 : Int32)] hC dX12_person_20 (List.forall_mem_cons.mpr ⟨e0, List.forall_mem_cons.mpr ⟨e1, List.forall_mem_cons.mpr ⟨e2, List.forall_mem_cons.mpr ⟨e3, List.forall_mem_cons.mpr ⟨e4, List.forall_mem_cons.mpr ⟨e5, List.forall_mem_cons.mpr ⟨e6, fun _ h => absurd h List.not_mem_nil⟩⟩⟩⟩⟩⟩⟩) (by decide) (by decide) (by decide) ?_
    refine zr_aload_n (pc := 145) (i := 0) 0 hC dX12_person_145 rfl rfl ?_
    refine zr_iconst (pc := 146) (v := (1 : Int32)) hC dX12_person_146 ic_1 ?_
    refine zr_callV (pc := 147) (As := fun ad => [.int (1 : Int32)]) (st1 := []) hC (Nat.le_of_ble_eq_true rfl) (kX12_fail _ (1 : Int32) _) (Nat.le_of_ble_eq_true rfl) mc_yX12_fail m_1606 m_1608 m_p53 mem_69 lay_69 rfl rfl rfl rfl (Nat.le_of_ble_eq_true rfl) dX12_person_147 (fun y_4 s_4 => ?_)
    exact zr_iret (pc := 150) hC hR dX12_person_150
def fX12_isPart (a0 : Int32) (s : St) : Option (Int32 × St) :=
  bd (fX12_isIn (Int32.toInt64 a0) (0 : Int64) (3 : Int64) s) (fun y_1 s_1 =>
    if y_1 = 0 ∨ y_1 = 1 then some (y_1, s_1) else none)
set_option maxRecDepth 100000 in
set_option maxHeartbeats 4000000 in
theorem kX12_isPart (l : Launch)  (a0 : Int32) (s : St) : CN l yX12_isPart cX12_isPart 1 (some .boolean) 2 FULL (fun ad => [.int a0]) s (fX12_isPart a0 s) := by
  refine cn_of (by decide) (fun _ => (Nat.le_of_ble_eq_true rfl)) (fun X hC hR hl hN => ?_)
  subst hl
  show Zr X (QFN X (some .boolean)) 0 s 0 [(0, .int a0)] [] _
  rw [fX12_isPart]
  refine zr_iload_n (pc := 0) (i := 0) 0 hC dX12_isPart_0 rfl rfl ?_
  refine zr_i2l (pc := 1) hC dX12_isPart_1 ?_
  refine zr_lconst (pc := 2) (v := (0 : Int64)) hC dX12_isPart_2 rfl ?_
  refine zr_ldc2 (pc := 3) hC dX12_isPart_3 m_1780 ?_
  refine zr_callS (pc := 6) (As := fun ad => [.long (Int32.toInt64 a0), .long (0 : Int64), .long (3 : Int64)]) (st1 := []) hC (Nat.le_of_ble_eq_true rfl) (kX12_isIn _ (Int32.toInt64 a0) (0 : Int64) (3 : Int64) _) (Nat.le_of_ble_eq_true rfl) mc_yX12_isIn m_1766 m_1767 rfl rfl rfl (Nat.le_of_ble_eq_true rfl) dX12_isPart_6 (fun y_1 s_1 => ?_)
  exact zr_zretG (pc := 9) hC hR dX12_isPart_9
def fX12_sky (a1 : Int32) (a2 : Int32) (s : St) : Option (Int32 × St) :=
  let s_1 := wr s 69 1 (0 : Int32);
    bd (fX12_isPerson a1 s_1) (fun y_2 s_2 =>
    if y_2 = 0 then
    (bd (fX12_fail (1 : Int32) s_2) (fun y_3 s_3 =>
    some (y_3, s_3)))
  else
    (bd (fX12_isPart a2 s_2) (fun y_4 s_4 =>
    if y_4 = 0 then
    (bd (fX12_fail (1 : Int32) s_4) (fun y_5 s_5 =>
    some (y_5, s_5)))
  else
    (if inA (((4 : Int32) * a1) + a2) 96 then
    (some ((s_4 72 (((4 : Int32) * a1) + a2).toNatClampNeg), s_4)) else none))))
set_option maxRecDepth 100000 in
set_option maxHeartbeats 4000000 in
theorem kX12_sky (l : Launch)  (a1 : Int32) (a2 : Int32) (s : St) : CN l yX12_sky cX12_sky 3 (some .int) 3 FULL (fun ad => [.ref (ad 69), .int a1, .int a2]) s (fX12_sky a1 a2 s) := by
  refine cn_of (by decide) (fun _ => (Nat.le_of_ble_eq_true rfl)) (fun X hC hR hl hN => ?_)
  subst hl
  show Zr X (QFN X (some .int)) 0 s 0 [(0, .ref (X_ad X 69)), (1, .int a1), (2, .int a2)] [] _
  rw [fX12_sky]
  refine zr_aload_n (pc := 0) (i := 0) 0 hC dX12_sky_0 rfl rfl ?_
  refine zr_iconst (pc := 1) (v := (0 : Int32)) hC dX12_sky_1 ic_0 ?_
  refine zr_putInt (pc := 2) (j := 1) hC mem_69 lay_69 rfl rfl (Nat.le_of_ble_eq_true rfl) iX12 tyX12_ok nmX12 m_1396 rfl (by decide +kernel) dX12_sky_2 ?_
  refine zr_aload_n (pc := 5) (i := 0) 0 hC dX12_sky_5 rfl rfl ?_
  refine zr_iload_n (pc := 6) (i := 1) 1 hC dX12_sky_6 rfl rfl ?_
  refine zr_callV (pc := 7) (As := fun ad => [.int a1]) (st1 := []) hC (Nat.le_of_ble_eq_true rfl) (kX12_isPerson _ a1 _) (Nat.le_of_ble_eq_true rfl) mc_yX12_isPerson m_1762 m_1764 m_p82 mem_69 lay_69 rfl rfl rfl rfl (Nat.le_of_ble_eq_true rfl) dX12_sky_7 (fun y_2 s_2 => ?_)
  refine zr_if_eq (pc := 10) (tgt := 33) hC dX12_sky_10 (by decide) (fun c_ => ?_) (fun c_ => ?_)
  · refine zr_aload_n (pc := 33) (i := 0) 0 hC dX12_sky_33 rfl rfl ?_
    refine zr_iconst (pc := 34) (v := (1 : Int32)) hC dX12_sky_34 ic_1 ?_
    refine zr_callV (pc := 35) (As := fun ad => [.int (1 : Int32)]) (st1 := []) hC (Nat.le_of_ble_eq_true rfl) (kX12_fail _ (1 : Int32) _) (Nat.le_of_ble_eq_true rfl) mc_yX12_fail m_1606 m_1608 m_p53 mem_69 lay_69 rfl rfl rfl rfl (Nat.le_of_ble_eq_true rfl) dX12_sky_35 (fun y_3 s_3 => ?_)
    exact zr_iret (pc := 38) hC hR dX12_sky_38
  · refine zr_iload_n (pc := 13) (i := 2) 2 hC dX12_sky_13 rfl rfl ?_
    refine zr_callS (pc := 14) (As := fun ad => [.int a2]) (st1 := []) hC (Nat.le_of_ble_eq_true rfl) (kX12_isPart _ a2 _) (Nat.le_of_ble_eq_true rfl) mc_yX12_isPart m_1777 m_1778 rfl rfl rfl (Nat.le_of_ble_eq_true rfl) dX12_sky_14 (fun y_4 s_4 => ?_)
    refine zr_if_eq (pc := 17) (tgt := 33) hC dX12_sky_17 (by decide) (fun c_ => ?_) (fun c_ => ?_)
    · refine zr_aload_n (pc := 33) (i := 0) 0 hC dX12_sky_33 rfl rfl ?_
      refine zr_iconst (pc := 34) (v := (1 : Int32)) hC dX12_sky_34 ic_1 ?_
      refine zr_callV (pc := 35) (As := fun ad => [.int (1 : Int32)]) (st1 := []) hC (Nat.le_of_ble_eq_true rfl) (kX12_fail _ (1 : Int32) _) (Nat.le_of_ble_eq_true rfl) mc_yX12_fail m_1606 m_1608 m_p53 mem_69 lay_69 rfl rfl rfl rfl (Nat.le_of_ble_eq_true rfl) dX12_sky_35 (fun y_5 s_5 => ?_)
      exact zr_iret (pc := 38) hC hR dX12_sky_38
    · refine zr_aload_n (pc := 20) (i := 0) 0 hC dX12_sky_20 rfl rfl ?_
      refine zr_getR (pc := 21) (j := 3) (k1 := 72) hC mem_69 lay_69 rfl rfl (Nat.le_of_ble_eq_true rfl) iX12 m_1398 dX12_sky_21 ?_
      refine zr_iconst (pc := 24) (v := (4 : Int32)) hC dX12_sky_24 ic_4 ?_
      refine zr_iload_n (pc := 25) (i := 1) 1 hC dX12_sky_25 rfl rfl ?_
      refine zr_imul (pc := 26) hC dX12_sky_26 ?_
      refine zr_iload_n (pc := 27) (i := 2) 2 hC dX12_sky_27 rfl rfl ?_
      refine zr_iadd (pc := 28) hC dX12_sky_28 ?_
      refine zr_iald (pc := 29) hC mem_72 lay_72 dX12_sky_29 ?_
      refine zr_goto (pc := 30) (tgt := 38) hC dX12_sky_30 (by decide) ?_
      exact zr_iret (pc := 38) hC hR dX12_sky_38
def fX12_partAt_L21 (c1 : Int32) (c2 : Int32) : Nat → Int32 → Int32 → St → Option (Int32 × St)
  | 0, _, _, _ => none
  | n + 1, v3, v4, s =>
    if inA (0 : Int32) 10 then
    (if (s 71 (0 : Int32).toNatClampNeg) ≤ v4 then
    (some (v3, s))
  else
    (if inA v4 24 then
    (if (s 73 v4.toNatClampNeg) = c1 then
    (if inA (((4 : Int32) * v4) + c2) 96 then
    (fX12_partAt_L21 c1 c2 n (v3 + (s 72 (((4 : Int32) * v4) + c2).toNatClampNeg)) (v4 + (1 : Int32)) s) else none)
  else
    (fX12_partAt_L21 c1 c2 n (v3 + (0 : Int32)) (v4 + (1 : Int32)) s)) else none)) else none
set_option maxRecDepth 100000 in
set_option maxHeartbeats 4000000 in
theorem tX12_partAt_L21 (c1 : Int32) (c2 : Int32) (X : KX) (hC : Ctx X RX12 cX12_partAt FULL 1 0) (hR : RC X (some .int)) (hN : X_nL X = 5) : ∀ (n : Nat) (v3 : Int32) (v4 : Int32) (s : St), Zr X (QFN X (some .int)) 0 s 21 [(0, .ref (X_ad X 69)), (1, .int c1), (2, .int c2), (3, .int v3), (4, .int v4)] [] (fX12_partAt_L21 c1 c2 n v3 v4 s) := by
  intro n
  induction n with
  | zero =>
    intro v3 v4 s
    exact zr_none
  | succ n ih =>
    intro v3 v4 s
    rw [fX12_partAt_L21]
    refine zr_iload (pc := 21) 4 hC dX12_partAt_21 rfl ?_
    refine zr_aload_n (pc := 23) (i := 0) 0 hC dX12_partAt_23 rfl rfl ?_
    refine zr_getR (pc := 24) (j := 2) (k1 := 71) hC mem_69 lay_69 rfl rfl (Nat.le_of_ble_eq_true rfl) iX12 m_1397 dX12_partAt_24 ?_
    refine zr_iconst (pc := 27) (v := (0 : Int32)) hC dX12_partAt_27 ic_0 ?_
    refine zr_iald (pc := 28) hC mem_71 lay_71 dX12_partAt_28 ?_
    refine zr_icmp_ge (pc := 29) (tgt := 67) hC dX12_partAt_29 (by decide) (fun c_ => ?_) (fun c_ => ?_)
    · refine zr_iload_n (pc := 67) (i := 3) 3 hC dX12_partAt_67 rfl rfl ?_
      exact zr_iret (pc := 68) hC hR dX12_partAt_68
    · refine zr_iload_n (pc := 32) (i := 3) 3 hC dX12_partAt_32 rfl rfl ?_
      refine zr_aload_n (pc := 33) (i := 0) 0 hC dX12_partAt_33 rfl rfl ?_
      refine zr_getR (pc := 34) (j := 4) (k1 := 73) hC mem_69 lay_69 rfl rfl (Nat.le_of_ble_eq_true rfl) iX12 m_1399 dX12_partAt_34 ?_
      refine zr_iload (pc := 37) 4 hC dX12_partAt_37 rfl ?_
      refine zr_iald (pc := 39) hC mem_73 lay_73 dX12_partAt_39 ?_
      refine zr_iload_n (pc := 40) (i := 1) 1 hC dX12_partAt_40 rfl rfl ?_
      refine zr_icmp_ne (pc := 41) (tgt := 58) hC dX12_partAt_41 (by decide) (fun c_ => ?_) (fun c_ => ?_)
      · refine zr_aload_n (pc := 44) (i := 0) 0 hC dX12_partAt_44 rfl rfl ?_
        refine zr_getR (pc := 45) (j := 3) (k1 := 72) hC mem_69 lay_69 rfl rfl (Nat.le_of_ble_eq_true rfl) iX12 m_1398 dX12_partAt_45 ?_
        refine zr_iconst (pc := 48) (v := (4 : Int32)) hC dX12_partAt_48 ic_4 ?_
        refine zr_iload (pc := 49) 4 hC dX12_partAt_49 rfl ?_
        refine zr_imul (pc := 51) hC dX12_partAt_51 ?_
        refine zr_iload_n (pc := 52) (i := 2) 2 hC dX12_partAt_52 rfl rfl ?_
        refine zr_iadd (pc := 53) hC dX12_partAt_53 ?_
        refine zr_iald (pc := 54) hC mem_72 lay_72 dX12_partAt_54 ?_
        refine zr_goto (pc := 55) (tgt := 59) hC dX12_partAt_55 (by decide) ?_
        refine zr_iadd (pc := 59) hC dX12_partAt_59 ?_
        refine zr_istore_n (pc := 60) (i := 3) (ls' := [(3, _), (0, _), (1, _), (2, _), (4, _)]) hC dX12_partAt_60 rfl (nlt hN (Nat.le_of_ble_eq_true rfl)) rfl ?_
        refine zr_iinc (pc := 61) (q := 4) (ls' := [(4, _), (3, _), (0, _), (1, _), (2, _)]) hC dX12_partAt_61 rfl (inc_1 _) (nlt hN (Nat.le_of_ble_eq_true rfl)) rfl ?_
        refine zr_goto (pc := 64) (tgt := 21) hC dX12_partAt_64 (by decide) ?_
        refine zr_sub (ls' := [(0, _), (1, _), (2, _), (3, _), (4, _)]) [2, 3, 4, 1, 0] rfl ?_
        exact ih (v3 + (s 72 (((4 : Int32) * v4) + c2).toNatClampNeg)) (v4 + (1 : Int32)) s
      · refine zr_iconst (pc := 58) (v := (0 : Int32)) hC dX12_partAt_58 ic_0 ?_
        refine zr_iadd (pc := 59) hC dX12_partAt_59 ?_
        refine zr_istore_n (pc := 60) (i := 3) (ls' := [(3, _), (0, _), (1, _), (2, _), (4, _)]) hC dX12_partAt_60 rfl (nlt hN (Nat.le_of_ble_eq_true rfl)) rfl ?_
        refine zr_iinc (pc := 61) (q := 4) (ls' := [(4, _), (3, _), (0, _), (1, _), (2, _)]) hC dX12_partAt_61 rfl (inc_1 _) (nlt hN (Nat.le_of_ble_eq_true rfl)) rfl ?_
        refine zr_goto (pc := 64) (tgt := 21) hC dX12_partAt_64 (by decide) ?_
        refine zr_sub (ls' := [(0, _), (1, _), (2, _), (3, _), (4, _)]) [2, 3, 4, 1, 0] rfl ?_
        exact ih (v3 + (0 : Int32)) (v4 + (1 : Int32)) s
def fX12_partAt_J17 (v1 : Int32) (v2 : Int32) (q0 : Int32) (s : St) : Option (Int32 × St) :=
  fX12_partAt_L21 v1 v2 FU q0 (0 : Int32) s
set_option maxRecDepth 100000 in
set_option maxHeartbeats 4000000 in
theorem tX12_partAt_J17 (v1 : Int32) (v2 : Int32) (q0 : Int32) (X : KX) (hC : Ctx X RX12 cX12_partAt FULL 1 0) (hR : RC X (some .int)) (hN : X_nL X = 5) (s : St) : Zr X (QFN X (some .int)) 0 s 17 [(0, .ref (X_ad X 69)), (1, .int v1), (2, .int v2)] [.int q0] (fX12_partAt_J17 v1 v2 q0 s) := by
  rw [fX12_partAt_J17]
  refine zr_istore_n (pc := 17) (i := 3) (ls' := [(3, _), (0, _), (1, _), (2, _)]) hC dX12_partAt_17 rfl (nlt hN (Nat.le_of_ble_eq_true rfl)) rfl ?_
  refine zr_iconst (pc := 18) (v := (0 : Int32)) hC dX12_partAt_18 ic_0 ?_
  refine zr_istore (pc := 19) (ls' := [(4, _), (3, _), (0, _), (1, _), (2, _)]) hC dX12_partAt_19 (nlt hN (Nat.le_of_ble_eq_true rfl)) rfl ?_
  refine zr_sub (ls' := [(0, _), (1, _), (2, _), (3, _), (4, _)]) [2, 3, 4, 1, 0] rfl ?_
  exact tX12_partAt_L21 v1 v2 X hC hR hN FU q0 (0 : Int32) _
def fX12_partAt (a1 : Int32) (a2 : Int32) (s : St) : Option (Int32 × St) :=
  if a2 = 0 then
    (if inA a1 10 then
    (fX12_partAt_J17 a1 a2 ((10 : Int32) * (s 88 a1.toNatClampNeg)) s) else none)
  else
    (fX12_partAt_J17 a1 a2 (0 : Int32) s)
set_option maxRecDepth 100000 in
set_option maxHeartbeats 4000000 in
theorem kX12_partAt (l : Launch)  (a1 : Int32) (a2 : Int32) (s : St) : CN l yX12_partAt cX12_partAt 5 (some .int) 1 FULL (fun ad => [.ref (ad 69), .int a1, .int a2]) s (fX12_partAt a1 a2 s) := by
  refine cn_of (by decide) (fun _ => (Nat.le_of_ble_eq_true rfl)) (fun X hC hR hl hN => ?_)
  subst hl
  show Zr X (QFN X (some .int)) 0 s 0 [(0, .ref (X_ad X 69)), (1, .int a1), (2, .int a2)] [] _
  rw [fX12_partAt]
  refine zr_iload_n (pc := 0) (i := 2) 2 hC dX12_partAt_0 rfl rfl ?_
  refine zr_if_ne (pc := 1) (tgt := 16) hC dX12_partAt_1 (by decide) (fun c_ => ?_) (fun c_ => ?_)
  · refine zr_bipush (pc := 4) (v := (10 : Int32)) hC dX12_partAt_4 bi_10 ?_
    refine zr_aload_n (pc := 6) (i := 0) 0 hC dX12_partAt_6 rfl rfl ?_
    refine zr_getR (pc := 7) (j := 30) (k1 := 88) hC mem_69 lay_69 rfl rfl (Nat.le_of_ble_eq_true rfl) iX12 m_1425 dX12_partAt_7 ?_
    refine zr_iload_n (pc := 10) (i := 1) 1 hC dX12_partAt_10 rfl rfl ?_
    refine zr_iald (pc := 11) hC mem_88 lay_88 dX12_partAt_11 ?_
    refine zr_imul (pc := 12) hC dX12_partAt_12 ?_
    refine zr_goto (pc := 13) (tgt := 17) hC dX12_partAt_13 (by decide) ?_
    exact tX12_partAt_J17 a1 a2 ((10 : Int32) * (s 88 a1.toNatClampNeg)) X hC hR hN  _
  · refine zr_iconst (pc := 16) (v := (0 : Int32)) hC dX12_partAt_16 ic_0 ?_
    exact tX12_partAt_J17 a1 a2 (0 : Int32) X hC hR hN  _
def fX12_greatest_L4 (c1 : Int32) : Nat → Int32 → Int32 → St → Option (Int32 × St)
  | 0, _, _, _ => none
  | n + 1, v2, v3, s =>
    if (4 : Int32) ≤ v3 then
    (some (v2, s))
  else
    (if inA (((4 : Int32) * c1) + v3) 96 then
    (if (s 72 (((4 : Int32) * c1) + v3).toNatClampNeg) ≤ 0 then
    (fX12_greatest_L4 c1 n v2 (v3 + (1 : Int32)) s)
  else
    (if v2 = (-1 : Int32) then
    (fX12_greatest_L4 c1 n v3 (v3 + (1 : Int32)) s)
  else
    (if inA (((4 : Int32) * c1) + v3) 96 then
    (if inA (((4 : Int32) * c1) + v2) 96 then
    (if (s 72 (((4 : Int32) * c1) + v3).toNatClampNeg) ≤ (s 72 (((4 : Int32) * c1) + v2).toNatClampNeg) then
    (fX12_greatest_L4 c1 n v2 (v3 + (1 : Int32)) s)
  else
    (fX12_greatest_L4 c1 n v3 (v3 + (1 : Int32)) s)) else none) else none))) else none)
set_option maxRecDepth 100000 in
set_option maxHeartbeats 4000000 in
theorem tX12_greatest_L4 (c1 : Int32) (X : KX) (hC : Ctx X RX12 cX12_greatest FULL 1 0) (hR : RC X (some .int)) (hN : X_nL X = 4) : ∀ (n : Nat) (v2 : Int32) (v3 : Int32) (s : St), Zr X (QFN X (some .int)) 0 s 4 [(0, .ref (X_ad X 69)), (1, .int c1), (2, .int v2), (3, .int v3)] [] (fX12_greatest_L4 c1 n v2 v3 s) := by
  intro n
  induction n with
  | zero =>
    intro v2 v3 s
    exact zr_none
  | succ n ih =>
    intro v2 v3 s
    rw [fX12_greatest_L4]
    refine zr_iload_n (pc := 4) (i := 3) 3 hC dX12_greatest_4 rfl rfl ?_
    refine zr_iconst (pc := 5) (v := (4 : Int32)) hC dX12_greatest_5 ic_4 ?_
    refine zr_icmp_ge (pc := 6) (tgt := 58) hC dX12_greatest_6 (by decide) (fun c_ => ?_) (fun c_ => ?_)
    · refine zr_iload_n (pc := 58) (i := 2) 2 hC dX12_greatest_58 rfl rfl ?_
      exact zr_iret (pc := 59) hC hR dX12_greatest_59
    · refine zr_aload_n (pc := 9) (i := 0) 0 hC dX12_greatest_9 rfl rfl ?_
      refine zr_getR (pc := 10) (j := 3) (k1 := 72) hC mem_69 lay_69 rfl rfl (Nat.le_of_ble_eq_true rfl) iX12 m_1398 dX12_greatest_10 ?_
      refine zr_iconst (pc := 13) (v := (4 : Int32)) hC dX12_greatest_13 ic_4 ?_
      refine zr_iload_n (pc := 14) (i := 1) 1 hC dX12_greatest_14 rfl rfl ?_
      refine zr_imul (pc := 15) hC dX12_greatest_15 ?_
      refine zr_iload_n (pc := 16) (i := 3) 3 hC dX12_greatest_16 rfl rfl ?_
      refine zr_iadd (pc := 17) hC dX12_greatest_17 ?_
      refine zr_iald (pc := 18) hC mem_72 lay_72 dX12_greatest_18 ?_
      refine zr_if_le (pc := 19) (tgt := 52) hC dX12_greatest_19 (by decide) (fun c_ => ?_) (fun c_ => ?_)
      · refine zr_iinc (pc := 52) (q := 3) (ls' := [(3, _), (0, _), (1, _), (2, _)]) hC dX12_greatest_52 rfl (inc_1 _) (nlt hN (Nat.le_of_ble_eq_true rfl)) rfl ?_
        refine zr_goto (pc := 55) (tgt := 4) hC dX12_greatest_55 (by decide) ?_
        refine zr_sub (ls' := [(0, _), (1, _), (2, _), (3, _)]) [1, 2, 3, 0] rfl ?_
        exact ih v2 (v3 + (1 : Int32)) s
      · refine zr_iload_n (pc := 22) (i := 2) 2 hC dX12_greatest_22 rfl rfl ?_
        refine zr_iconst (pc := 23) (v := (-1 : Int32)) hC dX12_greatest_23 ic_m1 ?_
        refine zr_icmp_eq (pc := 24) (tgt := 50) hC dX12_greatest_24 (by decide) (fun c_ => ?_) (fun c_ => ?_)
        · refine zr_iload_n (pc := 50) (i := 3) 3 hC dX12_greatest_50 rfl rfl ?_
          refine zr_istore_n (pc := 51) (i := 2) (ls' := [(2, _), (0, _), (1, _), (3, _)]) hC dX12_greatest_51 rfl (nlt hN (Nat.le_of_ble_eq_true rfl)) rfl ?_
          refine zr_iinc (pc := 52) (q := 3) (ls' := [(3, _), (2, _), (0, _), (1, _)]) hC dX12_greatest_52 rfl (inc_1 _) (nlt hN (Nat.le_of_ble_eq_true rfl)) rfl ?_
          refine zr_goto (pc := 55) (tgt := 4) hC dX12_greatest_55 (by decide) ?_
          refine zr_sub (ls' := [(0, _), (1, _), (2, _), (3, _)]) [2, 3, 1, 0] rfl ?_
          exact ih v3 (v3 + (1 : Int32)) s
        · refine zr_aload_n (pc := 27) (i := 0) 0 hC dX12_greatest_27 rfl rfl ?_
          refine zr_getR (pc := 28) (j := 3) (k1 := 72) hC mem_69 lay_69 rfl rfl (Nat.le_of_ble_eq_true rfl) iX12 m_1398 dX12_greatest_28 ?_
          refine zr_iconst (pc := 31) (v := (4 : Int32)) hC dX12_greatest_31 ic_4 ?_
          refine zr_iload_n (pc := 32) (i := 1) 1 hC dX12_greatest_32 rfl rfl ?_
          refine zr_imul (pc := 33) hC dX12_greatest_33 ?_
          refine zr_iload_n (pc := 34) (i := 3) 3 hC dX12_greatest_34 rfl rfl ?_
          refine zr_iadd (pc := 35) hC dX12_greatest_35 ?_
          refine zr_iald (pc := 36) hC mem_72 lay_72 dX12_greatest_36 ?_
          refine zr_aload_n (pc := 37) (i := 0) 0 hC dX12_greatest_37 rfl rfl ?_
          refine zr_getR (pc := 38) (j := 3) (k1 := 72) hC mem_69 lay_69 rfl rfl (Nat.le_of_ble_eq_true rfl) iX12 m_1398 dX12_greatest_38 ?_
          refine zr_iconst (pc := 41) (v := (4 : Int32)) hC dX12_greatest_41 ic_4 ?_
          refine zr_iload_n (pc := 42) (i := 1) 1 hC dX12_greatest_42 rfl rfl ?_
          refine zr_imul (pc := 43) hC dX12_greatest_43 ?_
          refine zr_iload_n (pc := 44) (i := 2) 2 hC dX12_greatest_44 rfl rfl ?_
          refine zr_iadd (pc := 45) hC dX12_greatest_45 ?_
          refine zr_iald (pc := 46) hC mem_72 lay_72 dX12_greatest_46 ?_
          refine zr_icmp_le (pc := 47) (tgt := 52) hC dX12_greatest_47 (by decide) (fun c_ => ?_) (fun c_ => ?_)
          · refine zr_iinc (pc := 52) (q := 3) (ls' := [(3, _), (0, _), (1, _), (2, _)]) hC dX12_greatest_52 rfl (inc_1 _) (nlt hN (Nat.le_of_ble_eq_true rfl)) rfl ?_
            refine zr_goto (pc := 55) (tgt := 4) hC dX12_greatest_55 (by decide) ?_
            refine zr_sub (ls' := [(0, _), (1, _), (2, _), (3, _)]) [1, 2, 3, 0] rfl ?_
            exact ih v2 (v3 + (1 : Int32)) s
          · refine zr_iload_n (pc := 50) (i := 3) 3 hC dX12_greatest_50 rfl rfl ?_
            refine zr_istore_n (pc := 51) (i := 2) (ls' := [(2, _), (0, _), (1, _), (3, _)]) hC dX12_greatest_51 rfl (nlt hN (Nat.le_of_ble_eq_true rfl)) rfl ?_
            refine zr_iinc (pc := 52) (q := 3) (ls' := [(3, _), (2, _), (0, _), (1, _)]) hC dX12_greatest_52 rfl (inc_1 _) (nlt hN (Nat.le_of_ble_eq_true rfl)) rfl ?_
            refine zr_goto (pc := 55) (tgt := 4) hC dX12_greatest_55 (by decide) ?_
            refine zr_sub (ls' := [(0, _), (1, _), (2, _), (3, _)]) [2, 3, 1, 0] rfl ?_
            exact ih v3 (v3 + (1 : Int32)) s
def fX12_greatest (a1 : Int32) (s : St) : Option (Int32 × St) :=
  fX12_greatest_L4 a1 FU (-1 : Int32) (0 : Int32) s
set_option maxRecDepth 100000 in
set_option maxHeartbeats 4000000 in
theorem kX12_greatest (l : Launch)  (a1 : Int32) (s : St) : CN l yX12_greatest cX12_greatest 4 (some .int) 1 FULL (fun ad => [.ref (ad 69), .int a1]) s (fX12_greatest a1 s) := by
  refine cn_of (by decide) (fun _ => (Nat.le_of_ble_eq_true rfl)) (fun X hC hR hl hN => ?_)
  subst hl
  show Zr X (QFN X (some .int)) 0 s 0 [(0, .ref (X_ad X 69)), (1, .int a1)] [] _
  rw [fX12_greatest]
  refine zr_iconst (pc := 0) (v := (-1 : Int32)) hC dX12_greatest_0 ic_m1 ?_
  refine zr_istore_n (pc := 1) (i := 2) (ls' := [(2, _), (0, _), (1, _)]) hC dX12_greatest_1 rfl (nlt hN (Nat.le_of_ble_eq_true rfl)) rfl ?_
  refine zr_iconst (pc := 2) (v := (0 : Int32)) hC dX12_greatest_2 ic_0 ?_
  refine zr_istore_n (pc := 3) (i := 3) (ls' := [(3, _), (2, _), (0, _), (1, _)]) hC dX12_greatest_3 rfl (nlt hN (Nat.le_of_ble_eq_true rfl)) rfl ?_
  refine zr_sub (ls' := [(0, _), (1, _), (2, _), (3, _)]) [2, 3, 1, 0] rfl ?_
  exact tX12_greatest_L4 a1 X hC hR hN FU (-1 : Int32) (0 : Int32) _
def fX12_kindOf_J51 (k78 : Int32 → Int32 → St → Option (Int32 × St)) (lp : Int32 → Int32 → Int32 → St → Option (Int32 × St)) (v1 : Int32) (v3 : Int32) (v4 : Int32) (q0 : Int32) (s : St) : Option (Int32 × St) :=
  if v3 = 0 then
    (bd (fX12_greatest v4 s) (fun y_1 s_1 =>
    if y_1 = (3 : Int32) then
    (lp q0 (1 : Int32) (v4 + (1 : Int32)) s_1)
  else
    (lp q0 (0 : Int32) (v4 + (1 : Int32)) s_1)))
  else
    (lp q0 (1 : Int32) (v4 + (1 : Int32)) s)
set_option maxRecDepth 100000 in
set_option maxHeartbeats 4000000 in
theorem tX12_kindOf_J51 (v1 : Int32) (v3 : Int32) (v4 : Int32) (q0 : Int32) (k78 : Int32 → Int32 → St → Option (Int32 × St)) (lp : Int32 → Int32 → Int32 → St → Option (Int32 × St)) (X : KX) (hC : Ctx X RX12 cX12_kindOf FULL 2 0) (hR : RC X (some .int)) (hN : X_nL X = 7) (hk78 : ∀ (u2 : Int32) (u3 : Int32) (s : St), Zr X (QFN X (some .int)) 0 s 78 [(0, .ref (X_ad X 69)), (1, .int v1), (2, .int u2), (3, .int u3)] [] (k78 u2 u3 s)) (ih : ∀ (u2 : Int32) (u3 : Int32) (u4 : Int32) (s : St), Zr X (QFN X (some .int)) 0 s 7 [(0, .ref (X_ad X 69)), (1, .int v1), (2, .int u2), (3, .int u3), (4, .int u4)] [] (lp u2 u3 u4 s)) (s : St) : Zr X (QFN X (some .int)) 0 s 51 [(0, .ref (X_ad X 69)), (1, .int v1), (3, .int v3), (4, .int v4)] [.int q0] (fX12_kindOf_J51 k78 lp v1 v3 v4 q0 s) := by
  rw [fX12_kindOf_J51]
  refine zr_istore_n (pc := 51) (i := 2) (ls' := [(2, _), (0, _), (1, _), (3, _), (4, _)]) hC dX12_kindOf_51 rfl (nlt hN (Nat.le_of_ble_eq_true rfl)) rfl ?_
  refine zr_iload_n (pc := 52) (i := 3) 3 hC dX12_kindOf_52 rfl rfl ?_
  refine zr_if_ne (pc := 53) (tgt := 66) hC dX12_kindOf_53 (by decide) (fun c_ => ?_) (fun c_ => ?_)
  · refine zr_aload_n (pc := 56) (i := 0) 1 hC dX12_kindOf_56 rfl rfl ?_
    refine zr_iload (pc := 57) 4 hC dX12_kindOf_57 rfl ?_
    refine zr_callV (pc := 59) (As := fun ad => [.int v4]) (st1 := []) hC (Nat.le_of_ble_eq_true rfl) (kX12_greatest _ v4 _) (Nat.le_of_ble_eq_true rfl) mc_yX12_greatest m_1795 m_1797 m_p86 mem_69 lay_69 rfl rfl rfl rfl (Nat.le_of_ble_eq_true rfl) dX12_kindOf_59 (fun y_1 s_1 => ?_)
    refine zr_iconst (pc := 62) (v := (3 : Int32)) hC dX12_kindOf_62 ic_3 ?_
    refine zr_icmp_ne (pc := 63) (tgt := 70) hC dX12_kindOf_63 (by decide) (fun c_ => ?_) (fun c_ => ?_)
    · refine zr_iconst (pc := 66) (v := (1 : Int32)) hC dX12_kindOf_66 ic_1 ?_
      refine zr_goto (pc := 67) (tgt := 71) hC dX12_kindOf_67 (by decide) ?_
      refine zr_istore_n (pc := 71) (i := 3) (ls' := [(3, _), (2, _), (0, _), (1, _), (4, _)]) hC dX12_kindOf_71 rfl (nlt hN (Nat.le_of_ble_eq_true rfl)) rfl ?_
      refine zr_iinc (pc := 72) (q := 4) (ls' := [(4, _), (3, _), (2, _), (0, _), (1, _)]) hC dX12_kindOf_72 rfl (inc_1 _) (nlt hN (Nat.le_of_ble_eq_true rfl)) rfl ?_
      refine zr_goto (pc := 75) (tgt := 7) hC dX12_kindOf_75 (by decide) ?_
      refine zr_sub (ls' := [(0, _), (1, _), (2, _), (3, _), (4, _)]) [3, 4, 2, 1, 0] rfl ?_
      exact ih q0 (1 : Int32) (v4 + (1 : Int32)) s_1
    · refine zr_iconst (pc := 70) (v := (0 : Int32)) hC dX12_kindOf_70 ic_0 ?_
      refine zr_istore_n (pc := 71) (i := 3) (ls' := [(3, _), (2, _), (0, _), (1, _), (4, _)]) hC dX12_kindOf_71 rfl (nlt hN (Nat.le_of_ble_eq_true rfl)) rfl ?_
      refine zr_iinc (pc := 72) (q := 4) (ls' := [(4, _), (3, _), (2, _), (0, _), (1, _)]) hC dX12_kindOf_72 rfl (inc_1 _) (nlt hN (Nat.le_of_ble_eq_true rfl)) rfl ?_
      refine zr_goto (pc := 75) (tgt := 7) hC dX12_kindOf_75 (by decide) ?_
      refine zr_sub (ls' := [(0, _), (1, _), (2, _), (3, _), (4, _)]) [3, 4, 2, 1, 0] rfl ?_
      exact ih q0 (0 : Int32) (v4 + (1 : Int32)) s_1
  · refine zr_iconst (pc := 66) (v := (1 : Int32)) hC dX12_kindOf_66 ic_1 ?_
    refine zr_goto (pc := 67) (tgt := 71) hC dX12_kindOf_67 (by decide) ?_
    refine zr_istore_n (pc := 71) (i := 3) (ls' := [(3, _), (2, _), (0, _), (1, _), (4, _)]) hC dX12_kindOf_71 rfl (nlt hN (Nat.le_of_ble_eq_true rfl)) rfl ?_
    refine zr_iinc (pc := 72) (q := 4) (ls' := [(4, _), (3, _), (2, _), (0, _), (1, _)]) hC dX12_kindOf_72 rfl (inc_1 _) (nlt hN (Nat.le_of_ble_eq_true rfl)) rfl ?_
    refine zr_goto (pc := 75) (tgt := 7) hC dX12_kindOf_75 (by decide) ?_
    refine zr_sub (ls' := [(0, _), (1, _), (2, _), (3, _), (4, _)]) [3, 4, 2, 1, 0] rfl ?_
    exact ih q0 (1 : Int32) (v4 + (1 : Int32)) s
def fX12_kindOf_J46 (k78 : Int32 → Int32 → St → Option (Int32 × St)) (lp : Int32 → Int32 → Int32 → St → Option (Int32 × St)) (v1 : Int32) (v3 : Int32) (v4 : Int32) (s : St) : Option (Int32 × St) :=
  fX12_kindOf_J51 k78 (lp) v1 v3 v4 (1 : Int32) s
set_option maxRecDepth 100000 in
set_option maxHeartbeats 4000000 in
theorem tX12_kindOf_J46 (v1 : Int32) (v3 : Int32) (v4 : Int32) (k78 : Int32 → Int32 → St → Option (Int32 × St)) (lp : Int32 → Int32 → Int32 → St → Option (Int32 × St)) (X : KX) (hC : Ctx X RX12 cX12_kindOf FULL 2 0) (hR : RC X (some .int)) (hN : X_nL X = 7) (hk78 : ∀ (u2 : Int32) (u3 : Int32) (s : St), Zr X (QFN X (some .int)) 0 s 78 [(0, .ref (X_ad X 69)), (1, .int v1), (2, .int u2), (3, .int u3)] [] (k78 u2 u3 s)) (ih : ∀ (u2 : Int32) (u3 : Int32) (u4 : Int32) (s : St), Zr X (QFN X (some .int)) 0 s 7 [(0, .ref (X_ad X 69)), (1, .int v1), (2, .int u2), (3, .int u3), (4, .int u4)] [] (lp u2 u3 u4 s)) (s : St) : Zr X (QFN X (some .int)) 0 s 46 [(0, .ref (X_ad X 69)), (1, .int v1), (3, .int v3), (4, .int v4)] [] (fX12_kindOf_J46 k78 lp v1 v3 v4 s) := by
  rw [fX12_kindOf_J46]
  refine zr_iconst (pc := 46) (v := (1 : Int32)) hC dX12_kindOf_46 ic_1 ?_
  refine zr_goto (pc := 47) (tgt := 51) hC dX12_kindOf_47 (by decide) ?_
  exact tX12_kindOf_J51 v1 v3 v4 (1 : Int32) _ _ X hC hR hN hk78 ih _
def fX12_kindOf_L7 (k78 : Int32 → Int32 → St → Option (Int32 × St)) (c1 : Int32) : Nat → Int32 → Int32 → Int32 → St → Option (Int32 × St)
  | 0, _, _, _, _ => none
  | n + 1, v2, v3, v4, s =>
    if inA (0 : Int32) 10 then
    (if (s 71 (0 : Int32).toNatClampNeg) ≤ v4 then
    (k78 v2 v3 s)
  else
    (if inA v4 24 then
    (if (s 73 v4.toNatClampNeg) = c1 then
    (if v2 = 0 then
    (bd (fX12_greatest v4 s) (fun y_2 s_2 =>
    if y_2 = (1 : Int32) then
    (fX12_kindOf_J46 k78 (fX12_kindOf_L7 k78 c1 n) c1 v3 v4 s_2)
  else
    (fX12_kindOf_J51 k78 (fX12_kindOf_L7 k78 c1 n) c1 v3 v4 (0 : Int32) s_2)))
  else
    (fX12_kindOf_J46 k78 (fX12_kindOf_L7 k78 c1 n) c1 v3 v4 s))
  else
    (fX12_kindOf_L7 k78 c1 n v2 v3 (v4 + (1 : Int32)) s)) else none)) else none
set_option maxRecDepth 100000 in
set_option maxHeartbeats 4000000 in
theorem tX12_kindOf_L7 (c1 : Int32) (k78 : Int32 → Int32 → St → Option (Int32 × St)) (X : KX) (hC : Ctx X RX12 cX12_kindOf FULL 2 0) (hR : RC X (some .int)) (hN : X_nL X = 7) (hk78 : ∀ (v2 : Int32) (v3 : Int32) (s : St), Zr X (QFN X (some .int)) 0 s 78 [(0, .ref (X_ad X 69)), (1, .int c1), (2, .int v2), (3, .int v3)] [] (k78 v2 v3 s)) : ∀ (n : Nat) (v2 : Int32) (v3 : Int32) (v4 : Int32) (s : St), Zr X (QFN X (some .int)) 0 s 7 [(0, .ref (X_ad X 69)), (1, .int c1), (2, .int v2), (3, .int v3), (4, .int v4)] [] (fX12_kindOf_L7 k78 c1 n v2 v3 v4 s) := by
  intro n
  induction n with
  | zero =>
    intro v2 v3 v4 s
    exact zr_none
  | succ n ih =>
    intro v2 v3 v4 s
    rw [fX12_kindOf_L7]
    refine zr_iload (pc := 7) 4 hC dX12_kindOf_7 rfl ?_
    refine zr_aload_n (pc := 9) (i := 0) 0 hC dX12_kindOf_9 rfl rfl ?_
    refine zr_getR (pc := 10) (j := 2) (k1 := 71) hC mem_69 lay_69 rfl rfl (Nat.le_of_ble_eq_true rfl) iX12 m_1397 dX12_kindOf_10 ?_
    refine zr_iconst (pc := 13) (v := (0 : Int32)) hC dX12_kindOf_13 ic_0 ?_
    refine zr_iald (pc := 14) hC mem_71 lay_71 dX12_kindOf_14 ?_
    refine zr_icmp_ge (pc := 15) (tgt := 78) hC dX12_kindOf_15 (by decide) (fun c_ => ?_) (fun c_ => ?_)
    · refine zr_sub (ls' := [(0, _), (1, _), (2, _), (3, _)]) [0, 1, 2, 3] rfl ?_
      exact hk78 v2 v3 s
    · refine zr_aload_n (pc := 18) (i := 0) 0 hC dX12_kindOf_18 rfl rfl ?_
      refine zr_getR (pc := 19) (j := 4) (k1 := 73) hC mem_69 lay_69 rfl rfl (Nat.le_of_ble_eq_true rfl) iX12 m_1399 dX12_kindOf_19 ?_
      refine zr_iload (pc := 22) 4 hC dX12_kindOf_22 rfl ?_
      refine zr_iald (pc := 24) hC mem_73 lay_73 dX12_kindOf_24 ?_
      refine zr_iload_n (pc := 25) (i := 1) 1 hC dX12_kindOf_25 rfl rfl ?_
      refine zr_icmp_eq (pc := 26) (tgt := 32) hC dX12_kindOf_26 (by decide) (fun c_ => ?_) (fun c_ => ?_)
      · refine zr_iload_n (pc := 32) (i := 2) 2 hC dX12_kindOf_32 rfl rfl ?_
        refine zr_if_ne (pc := 33) (tgt := 46) hC dX12_kindOf_33 (by decide) (fun c_ => ?_) (fun c_ => ?_)
        · refine zr_aload_n (pc := 36) (i := 0) 0 hC dX12_kindOf_36 rfl rfl ?_
          refine zr_iload (pc := 37) 4 hC dX12_kindOf_37 rfl ?_
          refine zr_callV (pc := 39) (As := fun ad => [.int v4]) (st1 := []) hC (Nat.le_of_ble_eq_true rfl) (kX12_greatest _ v4 _) (Nat.le_of_ble_eq_true rfl) mc_yX12_greatest m_1795 m_1797 m_p86 mem_69 lay_69 rfl rfl rfl rfl (Nat.le_of_ble_eq_true rfl) dX12_kindOf_39 (fun y_2 s_2 => ?_)
          refine zr_iconst (pc := 42) (v := (1 : Int32)) hC dX12_kindOf_42 ic_1 ?_
          refine zr_icmp_ne (pc := 43) (tgt := 50) hC dX12_kindOf_43 (by decide) (fun c_ => ?_) (fun c_ => ?_)
          · refine zr_sub (ls' := [(0, _), (1, _), (3, _), (4, _)]) [0, 1, 3, 4] rfl ?_
            exact tX12_kindOf_J46 c1 v3 v4 _ _ X hC hR hN hk78 ih _
          · refine zr_iconst (pc := 50) (v := (0 : Int32)) hC dX12_kindOf_50 ic_0 ?_
            refine zr_sub (ls' := [(0, _), (1, _), (3, _), (4, _)]) [0, 1, 3, 4] rfl ?_
            exact tX12_kindOf_J51 c1 v3 v4 (0 : Int32) _ _ X hC hR hN hk78 ih _
        · refine zr_sub (ls' := [(0, _), (1, _), (3, _), (4, _)]) [0, 1, 3, 4] rfl ?_
          exact tX12_kindOf_J46 c1 v3 v4 _ _ X hC hR hN hk78 ih _
      · refine zr_goto (pc := 29) (tgt := 72) hC dX12_kindOf_29 (by decide) ?_
        refine zr_iinc (pc := 72) (q := 4) (ls' := [(4, _), (0, _), (1, _), (2, _), (3, _)]) hC dX12_kindOf_72 rfl (inc_1 _) (nlt hN (Nat.le_of_ble_eq_true rfl)) rfl ?_
        refine zr_goto (pc := 75) (tgt := 7) hC dX12_kindOf_75 (by decide) ?_
        refine zr_sub (ls' := [(0, _), (1, _), (2, _), (3, _), (4, _)]) [1, 2, 3, 4, 0] rfl ?_
        exact ih v2 v3 (v4 + (1 : Int32)) s
def fX12_kindOf_L97 (c1 : Int32) : Nat → Int32 → Int32 → Int32 → St → Option (Int32 × St)
  | 0, _, _, _, _ => none
  | n + 1, v4, v5, v6, s =>
    if (4 : Int32) ≤ v6 then
    (some (v4, s))
  else
    (bd (fX12_partAt c1 v6 s) (fun y_4 s_4 =>
    if v5 < y_4 then
    (bd (fX12_partAt c1 v6 s_4) (fun y_5 s_5 =>
    fX12_kindOf_L97 c1 n v6 y_5 (v6 + (1 : Int32)) s_5))
  else
    (fX12_kindOf_L97 c1 n v4 v5 (v6 + (1 : Int32)) s_4)))
set_option maxRecDepth 100000 in
set_option maxHeartbeats 4000000 in
theorem tX12_kindOf_L97 (c1 : Int32) (X : KX) (hC : Ctx X RX12 cX12_kindOf FULL 2 0) (hR : RC X (some .int)) (hN : X_nL X = 7) : ∀ (n : Nat) (v4 : Int32) (v5 : Int32) (v6 : Int32) (s : St), Zr X (QFN X (some .int)) 0 s 97 [(0, .ref (X_ad X 69)), (1, .int c1), (4, .int v4), (5, .int v5), (6, .int v6)] [] (fX12_kindOf_L97 c1 n v4 v5 v6 s) := by
  intro n
  induction n with
  | zero =>
    intro v4 v5 v6 s
    exact zr_none
  | succ n ih =>
    intro v4 v5 v6 s
    rw [fX12_kindOf_L97]
    refine zr_iload (pc := 97) 4 hC dX12_kindOf_97 rfl ?_
    refine zr_iconst (pc := 99) (v := (4 : Int32)) hC dX12_kindOf_99 ic_4 ?_
    refine zr_icmp_ge (pc := 100) (tgt := 137) hC dX12_kindOf_100 (by decide) (fun c_ => ?_) (fun c_ => ?_)
    · refine zr_iload (pc := 137) 2 hC dX12_kindOf_137 rfl ?_
      exact zr_iret (pc := 139) hC hR dX12_kindOf_139
    · refine zr_aload_n (pc := 103) (i := 0) 0 hC dX12_kindOf_103 rfl rfl ?_
      refine zr_iload_n (pc := 104) (i := 1) 1 hC dX12_kindOf_104 rfl rfl ?_
      refine zr_iload (pc := 105) 4 hC dX12_kindOf_105 rfl ?_
      refine zr_callV (pc := 107) (As := fun ad => [.int c1, .int v6]) (st1 := []) hC (Nat.le_of_ble_eq_true rfl) (kX12_partAt _ c1 v6 _) (Nat.le_of_ble_eq_true rfl) mc_yX12_partAt m_1787 m_1789 m_p84 mem_69 lay_69 rfl rfl rfl rfl (Nat.le_of_ble_eq_true rfl) dX12_kindOf_107 (fun y_4 s_4 => ?_)
      refine zr_iload (pc := 110) 3 hC dX12_kindOf_110 rfl ?_
      refine zr_icmp_gt (pc := 112) (tgt := 118) hC dX12_kindOf_112 (by decide) (fun c_ => ?_) (fun c_ => ?_)
      · refine zr_iload (pc := 118) 4 hC dX12_kindOf_118 rfl ?_
        refine zr_istore (pc := 120) (ls' := [(4, _), (0, _), (1, _), (5, _), (6, _)]) hC dX12_kindOf_120 (nlt hN (Nat.le_of_ble_eq_true rfl)) rfl ?_
        refine zr_aload_n (pc := 122) (i := 0) 1 hC dX12_kindOf_122 rfl rfl ?_
        refine zr_iload_n (pc := 123) (i := 1) 2 hC dX12_kindOf_123 rfl rfl ?_
        refine zr_iload (pc := 124) 4 hC dX12_kindOf_124 rfl ?_
        refine zr_callV (pc := 126) (As := fun ad => [.int c1, .int v6]) (st1 := []) hC (Nat.le_of_ble_eq_true rfl) (kX12_partAt _ c1 v6 _) (Nat.le_of_ble_eq_true rfl) mc_yX12_partAt m_1787 m_1789 m_p84 mem_69 lay_69 rfl rfl rfl rfl (Nat.le_of_ble_eq_true rfl) dX12_kindOf_126 (fun y_5 s_5 => ?_)
        refine zr_istore (pc := 129) (ls' := [(5, _), (4, _), (0, _), (1, _), (6, _)]) hC dX12_kindOf_129 (nlt hN (Nat.le_of_ble_eq_true rfl)) rfl ?_
        refine zr_iinc (pc := 131) (q := 4) (ls' := [(6, _), (5, _), (4, _), (0, _), (1, _)]) hC dX12_kindOf_131 rfl (inc_1 _) (nlt hN (Nat.le_of_ble_eq_true rfl)) rfl ?_
        refine zr_goto (pc := 134) (tgt := 97) hC dX12_kindOf_134 (by decide) ?_
        refine zr_sub (ls' := [(0, _), (1, _), (4, _), (5, _), (6, _)]) [3, 4, 2, 1, 0] rfl ?_
        exact ih v6 y_5 (v6 + (1 : Int32)) s_5
      · refine zr_goto (pc := 115) (tgt := 131) hC dX12_kindOf_115 (by decide) ?_
        refine zr_iinc (pc := 131) (q := 4) (ls' := [(6, _), (0, _), (1, _), (4, _), (5, _)]) hC dX12_kindOf_131 rfl (inc_1 _) (nlt hN (Nat.le_of_ble_eq_true rfl)) rfl ?_
        refine zr_goto (pc := 134) (tgt := 97) hC dX12_kindOf_134 (by decide) ?_
        refine zr_sub (ls' := [(0, _), (1, _), (4, _), (5, _), (6, _)]) [1, 2, 3, 4, 0] rfl ?_
        exact ih v4 v5 (v6 + (1 : Int32)) s_4
def fX12_kindOf_J88 (v1 : Int32) (s : St) : Option (Int32 × St) :=
  fX12_kindOf_L97 v1 FU (4 : Int32) (0 : Int32) (0 : Int32) s
set_option maxRecDepth 100000 in
set_option maxHeartbeats 4000000 in
theorem tX12_kindOf_J88 (v1 : Int32) (X : KX) (hC : Ctx X RX12 cX12_kindOf FULL 2 0) (hR : RC X (some .int)) (hN : X_nL X = 7) (s : St) : Zr X (QFN X (some .int)) 0 s 88 [(0, .ref (X_ad X 69)), (1, .int v1)] [] (fX12_kindOf_J88 v1 s) := by
  rw [fX12_kindOf_J88]
  refine zr_iconst (pc := 88) (v := (4 : Int32)) hC dX12_kindOf_88 ic_4 ?_
  refine zr_istore (pc := 89) (ls' := [(4, _), (0, _), (1, _)]) hC dX12_kindOf_89 (nlt hN (Nat.le_of_ble_eq_true rfl)) rfl ?_
  refine zr_iconst (pc := 91) (v := (0 : Int32)) hC dX12_kindOf_91 ic_0 ?_
  refine zr_istore (pc := 92) (ls' := [(5, _), (4, _), (0, _), (1, _)]) hC dX12_kindOf_92 (nlt hN (Nat.le_of_ble_eq_true rfl)) rfl ?_
  refine zr_iconst (pc := 94) (v := (0 : Int32)) hC dX12_kindOf_94 ic_0 ?_
  refine zr_istore (pc := 95) (ls' := [(6, _), (5, _), (4, _), (0, _), (1, _)]) hC dX12_kindOf_95 (nlt hN (Nat.le_of_ble_eq_true rfl)) rfl ?_
  refine zr_sub (ls' := [(0, _), (1, _), (4, _), (5, _), (6, _)]) [3, 4, 2, 1, 0] rfl ?_
  exact tX12_kindOf_L97 v1 X hC hR hN FU (4 : Int32) (0 : Int32) (0 : Int32) _
def fX12_kindOf (a1 : Int32) (s : St) : Option (Int32 × St) :=
  fX12_kindOf_L7 (fun v2_3 v3_3 s_3 => if v2_3 = 0 then
    (fX12_kindOf_J88 a1 s_3)
  else
    (if v3_3 = 0 then
    (fX12_kindOf_J88 a1 s_3)
  else
    (some ((5 : Int32), s_3)))) a1 FU (0 : Int32) (0 : Int32) (0 : Int32) s
set_option maxRecDepth 100000 in
set_option maxHeartbeats 4000000 in
theorem kX12_kindOf (l : Launch)  (a1 : Int32) (s : St) : CN l yX12_kindOf cX12_kindOf 7 (some .int) 2 FULL (fun ad => [.ref (ad 69), .int a1]) s (fX12_kindOf a1 s) := by
  refine cn_of (by decide) (fun _ => (Nat.le_of_ble_eq_true rfl)) (fun X hC hR hl hN => ?_)
  subst hl
  show Zr X (QFN X (some .int)) 0 s 0 [(0, .ref (X_ad X 69)), (1, .int a1)] [] _
  rw [fX12_kindOf]
  refine zr_iconst (pc := 0) (v := (0 : Int32)) hC dX12_kindOf_0 ic_0 ?_
  refine zr_istore_n (pc := 1) (i := 2) (ls' := [(2, _), (0, _), (1, _)]) hC dX12_kindOf_1 rfl (nlt hN (Nat.le_of_ble_eq_true rfl)) rfl ?_
  refine zr_iconst (pc := 2) (v := (0 : Int32)) hC dX12_kindOf_2 ic_0 ?_
  refine zr_istore_n (pc := 3) (i := 3) (ls' := [(3, _), (2, _), (0, _), (1, _)]) hC dX12_kindOf_3 rfl (nlt hN (Nat.le_of_ble_eq_true rfl)) rfl ?_
  refine zr_iconst (pc := 4) (v := (0 : Int32)) hC dX12_kindOf_4 ic_0 ?_
  refine zr_istore (pc := 5) (ls' := [(4, _), (3, _), (2, _), (0, _), (1, _)]) hC dX12_kindOf_5 (nlt hN (Nat.le_of_ble_eq_true rfl)) rfl ?_
  refine zr_sub (ls' := [(0, _), (1, _), (2, _), (3, _), (4, _)]) [3, 4, 2, 1, 0] rfl ?_
  refine tX12_kindOf_L7 a1 _ X hC hR hN (fun v2_3 v3_3 s_3 => ?_) FU (0 : Int32) (0 : Int32) (0 : Int32) _
  · refine zr_iload_n (pc := 78) (i := 2) 2 hC dX12_kindOf_78 rfl rfl ?_
    refine zr_if_eq (pc := 79) (tgt := 88) hC dX12_kindOf_79 (by decide) (fun c_ => ?_) (fun c_ => ?_)
    · refine zr_sub (ls' := [(0, _), (1, _)]) [0, 1] rfl ?_
      exact tX12_kindOf_J88 a1 X hC hR hN  _
    · refine zr_iload_n (pc := 82) (i := 3) 3 hC dX12_kindOf_82 rfl rfl ?_
      refine zr_if_eq (pc := 83) (tgt := 88) hC dX12_kindOf_83 (by decide) (fun c_ => ?_) (fun c_ => ?_)
      · refine zr_sub (ls' := [(0, _), (1, _)]) [0, 1] rfl ?_
        exact tX12_kindOf_J88 a1 X hC hR hN  _
      · refine zr_iconst (pc := 86) (v := (5 : Int32)) hC dX12_kindOf_86 ic_5 ?_
        exact zr_iret (pc := 87) hC hR dX12_kindOf_87
