def fX12_byLaw_J188 (q0 : Int32) (q1 : Int32) (s : St) : Option (Int32 × St) :=
  if inA q1 7 then
    (let s_10 := wr s 90 q1.toNatClampNeg q0;
    bd (fX12_valueNow s_10) (fun y_11 s_11 =>
    some ((jmax (0 : Int32) (jmin (999 : Int32) y_11)), s_11))) else none
set_option maxRecDepth 100000 in
set_option maxHeartbeats 4000000 in
theorem tX12_byLaw_J188 (q0 : Int32) (q1 : Int32) (X : KX) (hC : Ctx X RX12 cX12_byLaw FULL 7 0) (hR : RC X (some .int)) (hN : X_nL X = 4) (s : St) : Zr X (QFN X (some .int)) 0 s 188 [(0, .ref (X_ad X 69))] [.int q0, .int q1, .ref (X_ad X 90)] (fX12_byLaw_J188 q0 q1 s) := by
  rw [fX12_byLaw_J188]
  refine zr_iast (pc := 188) hC mem_90 lay_90 dX12_byLaw_188 ?_
  refine zr_iconst (pc := 189) (v := (0 : Int32)) hC dX12_byLaw_189 ic_0 ?_
  refine zr_sipush (pc := 190) (v := (999 : Int32)) hC dX12_byLaw_190 si_999 ?_
  refine zr_aload_n (pc := 193) (i := 0) 0 hC dX12_byLaw_193 rfl rfl ?_
  refine zr_callV (pc := 194) (As := fun ad => []) (st1 := [.int (999 : Int32), .int (0 : Int32)]) hC (Nat.le_of_ble_eq_true rfl) (kX12_valueNow _  _) (Nat.le_of_ble_eq_true rfl) mc_yX12_valueNow m_1872 m_1874 m_p99 mem_69 lay_69 rfl rfl rfl rfl (Nat.le_of_ble_eq_true rfl) dX12_byLaw_194 (fun y_11 s_11 => ?_)
  refine zr_mmin (pc := 197) hC (Nat.le_of_ble_eq_true rfl) (Nat.le_of_ble_eq_true rfl) m_1625 m_496 m_23 m_497 (Nat.le_of_ble_eq_true rfl) dX12_byLaw_197 ?_
  refine zr_mmax (pc := 200) hC (Nat.le_of_ble_eq_true rfl) (Nat.le_of_ble_eq_true rfl) m_1879 m_1053 m_23 m_1054 (Nat.le_of_ble_eq_true rfl) dX12_byLaw_200 ?_
  exact zr_iret (pc := 203) hC hR dX12_byLaw_203
def fX12_byLaw_J154 (v1 : Int32) (v2 : Int32) (q0 : Int32) (q1 : Int32) (s : St) : Option (Int32 × St) :=
  if inA q1 7 then
    (let s_8 := wr s 90 q1.toNatClampNeg q0;
    if inA (5 : Int32) 7 then
    (let s_9 := wr s_8 90 (5 : Int32).toNatClampNeg v2;
    if inA v2 24 then
    (if inA v1 24 then
    (if (s_9 73 v2.toNatClampNeg) = (s_9 73 v1.toNatClampNeg) then
    (fX12_byLaw_J188 (1 : Int32) (6 : Int32) s_9)
  else
    (fX12_byLaw_J188 (0 : Int32) (6 : Int32) s_9)) else none) else none) else none) else none
set_option maxRecDepth 100000 in
set_option maxHeartbeats 4000000 in
theorem tX12_byLaw_J154 (v1 : Int32) (v2 : Int32) (q0 : Int32) (q1 : Int32) (X : KX) (hC : Ctx X RX12 cX12_byLaw FULL 7 0) (hR : RC X (some .int)) (hN : X_nL X = 4) (s : St) : Zr X (QFN X (some .int)) 0 s 154 [(0, .ref (X_ad X 69)), (1, .int v1), (2, .int v2)] [.int q0, .int q1, .ref (X_ad X 90)] (fX12_byLaw_J154 v1 v2 q0 q1 s) := by
  rw [fX12_byLaw_J154]
  refine zr_iast (pc := 154) hC mem_90 lay_90 dX12_byLaw_154 ?_
  refine zr_aload_n (pc := 155) (i := 0) 0 hC dX12_byLaw_155 rfl rfl ?_
  refine zr_getR (pc := 156) (j := 34) (k1 := 90) hC mem_69 lay_69 rfl rfl (Nat.le_of_ble_eq_true rfl) iX12 m_1429 dX12_byLaw_156 ?_
  refine zr_iconst (pc := 159) (v := (5 : Int32)) hC dX12_byLaw_159 ic_5 ?_
  refine zr_iload_n (pc := 160) (i := 2) 2 hC dX12_byLaw_160 rfl rfl ?_
  refine zr_iast (pc := 161) hC mem_90 lay_90 dX12_byLaw_161 ?_
  refine zr_aload_n (pc := 162) (i := 0) 0 hC dX12_byLaw_162 rfl rfl ?_
  refine zr_getR (pc := 163) (j := 34) (k1 := 90) hC mem_69 lay_69 rfl rfl (Nat.le_of_ble_eq_true rfl) iX12 m_1429 dX12_byLaw_163 ?_
  refine zr_bipush (pc := 166) (v := (6 : Int32)) hC dX12_byLaw_166 bi_6 ?_
  refine zr_aload_n (pc := 168) (i := 0) 0 hC dX12_byLaw_168 rfl rfl ?_
  refine zr_getR (pc := 169) (j := 4) (k1 := 73) hC mem_69 lay_69 rfl rfl (Nat.le_of_ble_eq_true rfl) iX12 m_1399 dX12_byLaw_169 ?_
  refine zr_iload_n (pc := 172) (i := 2) 2 hC dX12_byLaw_172 rfl rfl ?_
  refine zr_iald (pc := 173) hC mem_73 lay_73 dX12_byLaw_173 ?_
  refine zr_aload_n (pc := 174) (i := 0) 0 hC dX12_byLaw_174 rfl rfl ?_
  refine zr_getR (pc := 175) (j := 4) (k1 := 73) hC mem_69 lay_69 rfl rfl (Nat.le_of_ble_eq_true rfl) iX12 m_1399 dX12_byLaw_175 ?_
  refine zr_iload_n (pc := 178) (i := 1) 1 hC dX12_byLaw_178 rfl rfl ?_
  refine zr_iald (pc := 179) hC mem_73 lay_73 dX12_byLaw_179 ?_
  refine zr_icmp_ne (pc := 180) (tgt := 187) hC dX12_byLaw_180 (by decide) (fun c_ => ?_) (fun c_ => ?_)
  · refine zr_iconst (pc := 183) (v := (1 : Int32)) hC dX12_byLaw_183 ic_1 ?_
    refine zr_goto (pc := 184) (tgt := 188) hC dX12_byLaw_184 (by decide) ?_
    refine zr_sub (ls' := [(0, _)]) [0] rfl ?_
    exact tX12_byLaw_J188 (1 : Int32) (6 : Int32) X hC hR hN  _
  · refine zr_iconst (pc := 187) (v := (0 : Int32)) hC dX12_byLaw_187 ic_0 ?_
    refine zr_sub (ls' := [(0, _)]) [0] rfl ?_
    exact tX12_byLaw_J188 (0 : Int32) (6 : Int32) X hC hR hN  _
def fX12_byLaw_J149 (v1 : Int32) (v2 : Int32) (q0 : Int32) (s : St) : Option (Int32 × St) :=
  fX12_byLaw_J154 v1 v2 (1 : Int32) q0 s
set_option maxRecDepth 100000 in
set_option maxHeartbeats 4000000 in
theorem tX12_byLaw_J149 (v1 : Int32) (v2 : Int32) (q0 : Int32) (X : KX) (hC : Ctx X RX12 cX12_byLaw FULL 7 0) (hR : RC X (some .int)) (hN : X_nL X = 4) (s : St) : Zr X (QFN X (some .int)) 0 s 149 [(0, .ref (X_ad X 69)), (1, .int v1), (2, .int v2)] [.int q0, .ref (X_ad X 90)] (fX12_byLaw_J149 v1 v2 q0 s) := by
  rw [fX12_byLaw_J149]
  refine zr_iconst (pc := 149) (v := (1 : Int32)) hC dX12_byLaw_149 ic_1 ?_
  refine zr_goto (pc := 150) (tgt := 154) hC dX12_byLaw_150 (by decide) ?_
  exact tX12_byLaw_J154 v1 v2 (1 : Int32) q0 X hC hR hN  _
def fX12_byLaw_J115 (v1 : Int32) (v2 : Int32) (q0 : Int32) (q1 : Int32) (s : St) : Option (Int32 × St) :=
  if inA q1 7 then
    (let s_6 := wr s 90 q1.toNatClampNeg q0;
    if inA v1 24 then
    (bd (fX12_hasParent v2 (s_6 74 v1.toNatClampNeg) s_6) (fun y_7 s_7 =>
    if y_7 = 0 then
    (if inA v1 24 then
    (bd (fX12_hasParent v2 (s_7 75 v1.toNatClampNeg) s_7) (fun y_12 s_12 =>
    if y_12 = 0 then
    (fX12_byLaw_J154 v1 v2 (0 : Int32) (4 : Int32) s_12)
  else
    (fX12_byLaw_J149 v1 v2 (4 : Int32) s_12))) else none)
  else
    (fX12_byLaw_J149 v1 v2 (4 : Int32) s_7))) else none) else none
set_option maxRecDepth 100000 in
set_option maxHeartbeats 4000000 in
theorem tX12_byLaw_J115 (v1 : Int32) (v2 : Int32) (q0 : Int32) (q1 : Int32) (X : KX) (hC : Ctx X RX12 cX12_byLaw FULL 7 0) (hR : RC X (some .int)) (hN : X_nL X = 4) (s : St) : Zr X (QFN X (some .int)) 0 s 115 [(0, .ref (X_ad X 69)), (1, .int v1), (2, .int v2)] [.int q0, .int q1, .ref (X_ad X 90)] (fX12_byLaw_J115 v1 v2 q0 q1 s) := by
  rw [fX12_byLaw_J115]
  refine zr_iast (pc := 115) hC mem_90 lay_90 dX12_byLaw_115 ?_
  refine zr_aload_n (pc := 116) (i := 0) 0 hC dX12_byLaw_116 rfl rfl ?_
  refine zr_getR (pc := 117) (j := 34) (k1 := 90) hC mem_69 lay_69 rfl rfl (Nat.le_of_ble_eq_true rfl) iX12 m_1429 dX12_byLaw_117 ?_
  refine zr_iconst (pc := 120) (v := (4 : Int32)) hC dX12_byLaw_120 ic_4 ?_
  refine zr_aload_n (pc := 121) (i := 0) 0 hC dX12_byLaw_121 rfl rfl ?_
  refine zr_iload_n (pc := 122) (i := 2) 2 hC dX12_byLaw_122 rfl rfl ?_
  refine zr_aload_n (pc := 123) (i := 0) 0 hC dX12_byLaw_123 rfl rfl ?_
  refine zr_getR (pc := 124) (j := 5) (k1 := 74) hC mem_69 lay_69 rfl rfl (Nat.le_of_ble_eq_true rfl) iX12 m_1400 dX12_byLaw_124 ?_
  refine zr_iload_n (pc := 127) (i := 1) 1 hC dX12_byLaw_127 rfl rfl ?_
  refine zr_iald (pc := 128) hC mem_74 lay_74 dX12_byLaw_128 ?_
  refine zr_callV (pc := 129) (As := fun ad => [.int v2, .int ((wr s 90 q1.toNatClampNeg q0) 74 v1.toNatClampNeg)]) (st1 := [.int (4 : Int32), .ref (X_ad X 90)]) hC (Nat.le_of_ble_eq_true rfl) (kX12_hasParent _ v2 ((wr s 90 q1.toNatClampNeg q0) 74 v1.toNatClampNeg) _) (Nat.le_of_ble_eq_true rfl) mc_yX12_hasParent m_1868 m_1870 m_p98 mem_69 lay_69 rfl rfl rfl rfl (Nat.le_of_ble_eq_true rfl) dX12_byLaw_129 (fun y_7 s_7 => ?_)
  refine zr_if_ne (pc := 132) (tgt := 149) hC dX12_byLaw_132 (by decide) (fun c_ => ?_) (fun c_ => ?_)
  · refine zr_aload_n (pc := 135) (i := 0) 0 hC dX12_byLaw_135 rfl rfl ?_
    refine zr_iload_n (pc := 136) (i := 2) 2 hC dX12_byLaw_136 rfl rfl ?_
    refine zr_aload_n (pc := 137) (i := 0) 0 hC dX12_byLaw_137 rfl rfl ?_
    refine zr_getR (pc := 138) (j := 6) (k1 := 75) hC mem_69 lay_69 rfl rfl (Nat.le_of_ble_eq_true rfl) iX12 m_1401 dX12_byLaw_138 ?_
    refine zr_iload_n (pc := 141) (i := 1) 1 hC dX12_byLaw_141 rfl rfl ?_
    refine zr_iald (pc := 142) hC mem_75 lay_75 dX12_byLaw_142 ?_
    refine zr_callV (pc := 143) (As := fun ad => [.int v2, .int (s_7 75 v1.toNatClampNeg)]) (st1 := [.int (4 : Int32), .ref (X_ad X 90)]) hC (Nat.le_of_ble_eq_true rfl) (kX12_hasParent _ v2 (s_7 75 v1.toNatClampNeg) _) (Nat.le_of_ble_eq_true rfl) mc_yX12_hasParent m_1868 m_1870 m_p98 mem_69 lay_69 rfl rfl rfl rfl (Nat.le_of_ble_eq_true rfl) dX12_byLaw_143 (fun y_12 s_12 => ?_)
    refine zr_if_eq (pc := 146) (tgt := 153) hC dX12_byLaw_146 (by decide) (fun c_ => ?_) (fun c_ => ?_)
    · refine zr_iconst (pc := 153) (v := (0 : Int32)) hC dX12_byLaw_153 ic_0 ?_
      exact tX12_byLaw_J154 v1 v2 (0 : Int32) (4 : Int32) X hC hR hN  _
    · exact tX12_byLaw_J149 v1 v2 (4 : Int32) X hC hR hN  _
  · exact tX12_byLaw_J149 v1 v2 (4 : Int32) X hC hR hN  _
def fX12_byLaw_J95 (v1 : Int32) (v2 : Int32) (q0 : Int32) (q1 : Int32) (s : St) : Option (Int32 × St) :=
  if inA q1 7 then
    (let s_4 := wr s 90 q1.toNatClampNeg q0;
    bd (fX12_isOf v1 v2 s_4) (fun y_5 s_5 =>
    if y_5 = 0 then
    (fX12_byLaw_J115 v1 v2 (0 : Int32) (3 : Int32) s_5)
  else
    (fX12_byLaw_J115 v1 v2 (1 : Int32) (3 : Int32) s_5))) else none
set_option maxRecDepth 100000 in
set_option maxHeartbeats 4000000 in
theorem tX12_byLaw_J95 (v1 : Int32) (v2 : Int32) (q0 : Int32) (q1 : Int32) (X : KX) (hC : Ctx X RX12 cX12_byLaw FULL 7 0) (hR : RC X (some .int)) (hN : X_nL X = 4) (s : St) : Zr X (QFN X (some .int)) 0 s 95 [(0, .ref (X_ad X 69)), (1, .int v1), (2, .int v2)] [.int q0, .int q1, .ref (X_ad X 90)] (fX12_byLaw_J95 v1 v2 q0 q1 s) := by
  rw [fX12_byLaw_J95]
  refine zr_iast (pc := 95) hC mem_90 lay_90 dX12_byLaw_95 ?_
  refine zr_aload_n (pc := 96) (i := 0) 0 hC dX12_byLaw_96 rfl rfl ?_
  refine zr_getR (pc := 97) (j := 34) (k1 := 90) hC mem_69 lay_69 rfl rfl (Nat.le_of_ble_eq_true rfl) iX12 m_1429 dX12_byLaw_97 ?_
  refine zr_iconst (pc := 100) (v := (3 : Int32)) hC dX12_byLaw_100 ic_3 ?_
  refine zr_aload_n (pc := 101) (i := 0) 0 hC dX12_byLaw_101 rfl rfl ?_
  refine zr_iload_n (pc := 102) (i := 1) 1 hC dX12_byLaw_102 rfl rfl ?_
  refine zr_iload_n (pc := 103) (i := 2) 2 hC dX12_byLaw_103 rfl rfl ?_
  refine zr_callV (pc := 104) (As := fun ad => [.int v1, .int v2]) (st1 := [.int (3 : Int32), .ref (X_ad X 90)]) hC (Nat.le_of_ble_eq_true rfl) (kX12_isOf _ v1 v2 _) (Nat.le_of_ble_eq_true rfl) mc_yX12_isOf m_1820 m_1822 m_p89 mem_69 lay_69 rfl rfl rfl rfl (Nat.le_of_ble_eq_true rfl) dX12_byLaw_104 (fun y_5 s_5 => ?_)
  refine zr_if_eq (pc := 107) (tgt := 114) hC dX12_byLaw_107 (by decide) (fun c_ => ?_) (fun c_ => ?_)
  · refine zr_iconst (pc := 114) (v := (0 : Int32)) hC dX12_byLaw_114 ic_0 ?_
    exact tX12_byLaw_J115 v1 v2 (0 : Int32) (3 : Int32) X hC hR hN  _
  · refine zr_iconst (pc := 110) (v := (1 : Int32)) hC dX12_byLaw_110 ic_1 ?_
    refine zr_goto (pc := 111) (tgt := 115) hC dX12_byLaw_111 (by decide) ?_
    exact tX12_byLaw_J115 v1 v2 (1 : Int32) (3 : Int32) X hC hR hN  _
def fX12_byLaw_J74 (v1 : Int32) (v2 : Int32) (q0 : Int32) (q1 : Int32) (s : St) : Option (Int32 × St) :=
  if inA q1 7 then
    (let s_3 := wr s 90 q1.toNatClampNeg q0;
    if inA v2 24 then
    (if (s_3 77 v2.toNatClampNeg) = v1 then
    (fX12_byLaw_J95 v1 v2 (1 : Int32) (2 : Int32) s_3)
  else
    (fX12_byLaw_J95 v1 v2 (0 : Int32) (2 : Int32) s_3)) else none) else none
set_option maxRecDepth 100000 in
set_option maxHeartbeats 4000000 in
theorem tX12_byLaw_J74 (v1 : Int32) (v2 : Int32) (q0 : Int32) (q1 : Int32) (X : KX) (hC : Ctx X RX12 cX12_byLaw FULL 7 0) (hR : RC X (some .int)) (hN : X_nL X = 4) (s : St) : Zr X (QFN X (some .int)) 0 s 74 [(0, .ref (X_ad X 69)), (1, .int v1), (2, .int v2)] [.int q0, .int q1, .ref (X_ad X 90)] (fX12_byLaw_J74 v1 v2 q0 q1 s) := by
  rw [fX12_byLaw_J74]
  refine zr_iast (pc := 74) hC mem_90 lay_90 dX12_byLaw_74 ?_
  refine zr_aload_n (pc := 75) (i := 0) 0 hC dX12_byLaw_75 rfl rfl ?_
  refine zr_getR (pc := 76) (j := 34) (k1 := 90) hC mem_69 lay_69 rfl rfl (Nat.le_of_ble_eq_true rfl) iX12 m_1429 dX12_byLaw_76 ?_
  refine zr_iconst (pc := 79) (v := (2 : Int32)) hC dX12_byLaw_79 ic_2 ?_
  refine zr_aload_n (pc := 80) (i := 0) 0 hC dX12_byLaw_80 rfl rfl ?_
  refine zr_getR (pc := 81) (j := 8) (k1 := 77) hC mem_69 lay_69 rfl rfl (Nat.le_of_ble_eq_true rfl) iX12 m_1403 dX12_byLaw_81 ?_
  refine zr_iload_n (pc := 84) (i := 2) 2 hC dX12_byLaw_84 rfl rfl ?_
  refine zr_iald (pc := 85) hC mem_77 lay_77 dX12_byLaw_85 ?_
  refine zr_iload_n (pc := 86) (i := 1) 1 hC dX12_byLaw_86 rfl rfl ?_
  refine zr_icmp_ne (pc := 87) (tgt := 94) hC dX12_byLaw_87 (by decide) (fun c_ => ?_) (fun c_ => ?_)
  · refine zr_iconst (pc := 90) (v := (1 : Int32)) hC dX12_byLaw_90 ic_1 ?_
    refine zr_goto (pc := 91) (tgt := 95) hC dX12_byLaw_91 (by decide) ?_
    exact tX12_byLaw_J95 v1 v2 (1 : Int32) (2 : Int32) X hC hR hN  _
  · refine zr_iconst (pc := 94) (v := (0 : Int32)) hC dX12_byLaw_94 ic_0 ?_
    exact tX12_byLaw_J95 v1 v2 (0 : Int32) (2 : Int32) X hC hR hN  _
def fX12_byLaw_J73 (v1 : Int32) (v2 : Int32) (q0 : Int32) (s : St) : Option (Int32 × St) :=
  fX12_byLaw_J74 v1 v2 (0 : Int32) q0 s
set_option maxRecDepth 100000 in
set_option maxHeartbeats 4000000 in
theorem tX12_byLaw_J73 (v1 : Int32) (v2 : Int32) (q0 : Int32) (X : KX) (hC : Ctx X RX12 cX12_byLaw FULL 7 0) (hR : RC X (some .int)) (hN : X_nL X = 4) (s : St) : Zr X (QFN X (some .int)) 0 s 73 [(0, .ref (X_ad X 69)), (1, .int v1), (2, .int v2)] [.int q0, .ref (X_ad X 90)] (fX12_byLaw_J73 v1 v2 q0 s) := by
  rw [fX12_byLaw_J73]
  refine zr_iconst (pc := 73) (v := (0 : Int32)) hC dX12_byLaw_73 ic_0 ?_
  exact tX12_byLaw_J74 v1 v2 (0 : Int32) q0 X hC hR hN  _
def fX12_byLaw_J49 (v1 : Int32) (v2 : Int32) (v3 : Int32) (q0 : Int32) (q1 : Int32) (s : St) : Option (Int32 × St) :=
  if inA q1 7 then
    (let s_2 := wr s 90 q1.toNatClampNeg q0;
    if v3 = 0 then
    (fX12_byLaw_J73 v1 v2 (1 : Int32) s_2)
  else
    (if inA v2 24 then
    (if (s_2 76 v2.toNatClampNeg) = (1 : Int32) then
    (fX12_byLaw_J74 v1 v2 (1 : Int32) (1 : Int32) s_2)
  else
    (fX12_byLaw_J73 v1 v2 (1 : Int32) s_2)) else none)) else none
set_option maxRecDepth 100000 in
set_option maxHeartbeats 4000000 in
theorem tX12_byLaw_J49 (v1 : Int32) (v2 : Int32) (v3 : Int32) (q0 : Int32) (q1 : Int32) (X : KX) (hC : Ctx X RX12 cX12_byLaw FULL 7 0) (hR : RC X (some .int)) (hN : X_nL X = 4) (s : St) : Zr X (QFN X (some .int)) 0 s 49 [(0, .ref (X_ad X 69)), (1, .int v1), (2, .int v2), (3, .int v3)] [.int q0, .int q1, .ref (X_ad X 90)] (fX12_byLaw_J49 v1 v2 v3 q0 q1 s) := by
  rw [fX12_byLaw_J49]
  refine zr_iast (pc := 49) hC mem_90 lay_90 dX12_byLaw_49 ?_
  refine zr_aload_n (pc := 50) (i := 0) 0 hC dX12_byLaw_50 rfl rfl ?_
  refine zr_getR (pc := 51) (j := 34) (k1 := 90) hC mem_69 lay_69 rfl rfl (Nat.le_of_ble_eq_true rfl) iX12 m_1429 dX12_byLaw_51 ?_
  refine zr_iconst (pc := 54) (v := (1 : Int32)) hC dX12_byLaw_54 ic_1 ?_
  refine zr_iload_n (pc := 55) (i := 3) 3 hC dX12_byLaw_55 rfl rfl ?_
  refine zr_if_eq (pc := 56) (tgt := 73) hC dX12_byLaw_56 (by decide) (fun c_ => ?_) (fun c_ => ?_)
  · refine zr_sub (ls' := [(0, _), (1, _), (2, _)]) [0, 1, 2] rfl ?_
    exact tX12_byLaw_J73 v1 v2 (1 : Int32) X hC hR hN  _
  · refine zr_aload_n (pc := 59) (i := 0) 0 hC dX12_byLaw_59 rfl rfl ?_
    refine zr_getR (pc := 60) (j := 7) (k1 := 76) hC mem_69 lay_69 rfl rfl (Nat.le_of_ble_eq_true rfl) iX12 m_1402 dX12_byLaw_60 ?_
    refine zr_iload_n (pc := 63) (i := 2) 2 hC dX12_byLaw_63 rfl rfl ?_
    refine zr_iald (pc := 64) hC mem_76 lay_76 dX12_byLaw_64 ?_
    refine zr_iconst (pc := 65) (v := (1 : Int32)) hC dX12_byLaw_65 ic_1 ?_
    refine zr_icmp_ne (pc := 66) (tgt := 73) hC dX12_byLaw_66 (by decide) (fun c_ => ?_) (fun c_ => ?_)
    · refine zr_iconst (pc := 69) (v := (1 : Int32)) hC dX12_byLaw_69 ic_1 ?_
      refine zr_goto (pc := 70) (tgt := 74) hC dX12_byLaw_70 (by decide) ?_
      refine zr_sub (ls' := [(0, _), (1, _), (2, _)]) [0, 1, 2] rfl ?_
      exact tX12_byLaw_J74 v1 v2 (1 : Int32) (1 : Int32) X hC hR hN  _
    · refine zr_sub (ls' := [(0, _), (1, _), (2, _)]) [0, 1, 2] rfl ?_
      exact tX12_byLaw_J73 v1 v2 (1 : Int32) X hC hR hN  _
def fX12_byLaw_J48 (v1 : Int32) (v2 : Int32) (v3 : Int32) (q0 : Int32) (s : St) : Option (Int32 × St) :=
  fX12_byLaw_J49 v1 v2 v3 (0 : Int32) q0 s
set_option maxRecDepth 100000 in
set_option maxHeartbeats 4000000 in
theorem tX12_byLaw_J48 (v1 : Int32) (v2 : Int32) (v3 : Int32) (q0 : Int32) (X : KX) (hC : Ctx X RX12 cX12_byLaw FULL 7 0) (hR : RC X (some .int)) (hN : X_nL X = 4) (s : St) : Zr X (QFN X (some .int)) 0 s 48 [(0, .ref (X_ad X 69)), (1, .int v1), (2, .int v2), (3, .int v3)] [.int q0, .ref (X_ad X 90)] (fX12_byLaw_J48 v1 v2 v3 q0 s) := by
  rw [fX12_byLaw_J48]
  refine zr_iconst (pc := 48) (v := (0 : Int32)) hC dX12_byLaw_48 ic_0 ?_
  exact tX12_byLaw_J49 v1 v2 v3 (0 : Int32) q0 X hC hR hN  _
def fX12_byLaw (a1 : Int32) (a2 : Int32) (s : St) : Option (Int32 × St) :=
  bd (fX12_isOf a2 a1 s) (fun y_1 s_1 =>
    if inA (4 : Int32) 10 then
    (if (s_1 71 (4 : Int32).toNatClampNeg) = 0 then
    (if y_1 = 0 then
    (some ((0 : Int32), s_1))
  else
    (some ((1 : Int32), s_1)))
  else
    (if y_1 = 0 then
    (fX12_byLaw_J48 a1 a2 y_1 (0 : Int32) s_1)
  else
    (if inA a2 24 then
    (if (s_1 76 a2.toNatClampNeg) = 0 then
    (fX12_byLaw_J49 a1 a2 y_1 (1 : Int32) (0 : Int32) s_1)
  else
    (fX12_byLaw_J48 a1 a2 y_1 (0 : Int32) s_1)) else none))) else none)
set_option maxRecDepth 100000 in
set_option maxHeartbeats 4000000 in
theorem kX12_byLaw (l : Launch)  (a1 : Int32) (a2 : Int32) (s : St) : CN l yX12_byLaw cX12_byLaw 4 (some .int) 7 FULL (fun ad => [.ref (ad 69), .int a1, .int a2]) s (fX12_byLaw a1 a2 s) := by
  refine cn_of (by decide) (fun _ => (Nat.le_of_ble_eq_true rfl)) (fun X hC hR hl hN => ?_)
  subst hl
  show Zr X (QFN X (some .int)) 0 s 0 [(0, .ref (X_ad X 69)), (1, .int a1), (2, .int a2)] [] _
  rw [fX12_byLaw]
  refine zr_aload_n (pc := 0) (i := 0) 0 hC dX12_byLaw_0 rfl rfl ?_
  refine zr_iload_n (pc := 1) (i := 2) 2 hC dX12_byLaw_1 rfl rfl ?_
  refine zr_iload_n (pc := 2) (i := 1) 1 hC dX12_byLaw_2 rfl rfl ?_
  refine zr_callV (pc := 3) (As := fun ad => [.int a2, .int a1]) (st1 := []) hC (Nat.le_of_ble_eq_true rfl) (kX12_isOf _ a2 a1 _) (Nat.le_of_ble_eq_true rfl) mc_yX12_isOf m_1820 m_1822 m_p89 mem_69 lay_69 rfl rfl rfl rfl (Nat.le_of_ble_eq_true rfl) dX12_byLaw_3 (fun y_1 s_1 => ?_)
  refine zr_istore_n (pc := 6) (i := 3) (ls' := [(3, _), (0, _), (1, _), (2, _)]) hC dX12_byLaw_6 rfl (nlt hN (Nat.le_of_ble_eq_true rfl)) rfl ?_
  refine zr_aload_n (pc := 7) (i := 0) 1 hC dX12_byLaw_7 rfl rfl ?_
  refine zr_getR (pc := 8) (j := 2) (k1 := 71) hC mem_69 lay_69 rfl rfl (Nat.le_of_ble_eq_true rfl) iX12 m_1397 dX12_byLaw_8 ?_
  refine zr_iconst (pc := 11) (v := (4 : Int32)) hC dX12_byLaw_11 ic_4 ?_
  refine zr_iald (pc := 12) hC mem_71 lay_71 dX12_byLaw_12 ?_
  refine zr_if_ne (pc := 13) (tgt := 26) hC dX12_byLaw_13 (by decide) (fun c_ => ?_) (fun c_ => ?_)
  · refine zr_iload_n (pc := 16) (i := 3) 0 hC dX12_byLaw_16 rfl rfl ?_
    refine zr_if_eq (pc := 17) (tgt := 24) hC dX12_byLaw_17 (by decide) (fun c_ => ?_) (fun c_ => ?_)
    · refine zr_iconst (pc := 24) (v := (0 : Int32)) hC dX12_byLaw_24 ic_0 ?_
      exact zr_iret (pc := 25) hC hR dX12_byLaw_25
    · refine zr_iconst (pc := 20) (v := (1 : Int32)) hC dX12_byLaw_20 ic_1 ?_
      refine zr_goto (pc := 21) (tgt := 25) hC dX12_byLaw_21 (by decide) ?_
      exact zr_iret (pc := 25) hC hR dX12_byLaw_25
  · refine zr_aload_n (pc := 26) (i := 0) 1 hC dX12_byLaw_26 rfl rfl ?_
    refine zr_getR (pc := 27) (j := 34) (k1 := 90) hC mem_69 lay_69 rfl rfl (Nat.le_of_ble_eq_true rfl) iX12 m_1429 dX12_byLaw_27 ?_
    refine zr_iconst (pc := 30) (v := (0 : Int32)) hC dX12_byLaw_30 ic_0 ?_
    refine zr_iload_n (pc := 31) (i := 3) 0 hC dX12_byLaw_31 rfl rfl ?_
    refine zr_if_eq (pc := 32) (tgt := 48) hC dX12_byLaw_32 (by decide) (fun c_ => ?_) (fun c_ => ?_)
    · refine zr_sub (ls' := [(0, _), (1, _), (2, _), (3, _)]) [1, 2, 3, 0] rfl ?_
      exact tX12_byLaw_J48 a1 a2 y_1 (0 : Int32) X hC hR hN  _
    · refine zr_aload_n (pc := 35) (i := 0) 1 hC dX12_byLaw_35 rfl rfl ?_
      refine zr_getR (pc := 36) (j := 7) (k1 := 76) hC mem_69 lay_69 rfl rfl (Nat.le_of_ble_eq_true rfl) iX12 m_1402 dX12_byLaw_36 ?_
      refine zr_iload_n (pc := 39) (i := 2) 3 hC dX12_byLaw_39 rfl rfl ?_
      refine zr_iald (pc := 40) hC mem_76 lay_76 dX12_byLaw_40 ?_
      refine zr_if_ne (pc := 41) (tgt := 48) hC dX12_byLaw_41 (by decide) (fun c_ => ?_) (fun c_ => ?_)
      · refine zr_iconst (pc := 44) (v := (1 : Int32)) hC dX12_byLaw_44 ic_1 ?_
        refine zr_goto (pc := 45) (tgt := 49) hC dX12_byLaw_45 (by decide) ?_
        refine zr_sub (ls' := [(0, _), (1, _), (2, _), (3, _)]) [1, 2, 3, 0] rfl ?_
        exact tX12_byLaw_J49 a1 a2 y_1 (1 : Int32) (0 : Int32) X hC hR hN  _
      · refine zr_sub (ls' := [(0, _), (1, _), (2, _), (3, _)]) [1, 2, 3, 0] rfl ?_
        exact tX12_byLaw_J48 a1 a2 y_1 (0 : Int32) X hC hR hN  _
def fX12_tellShares_L2 (k25 : St → Option (Int32 × St)) (c1 : Int32) (c2 : Int32) : Nat → Int32 → St → Option (Int32 × St)
  | 0, _, _ => none
  | n + 1, v3, s =>
    if inA (0 : Int32) 10 then
    (if (s 71 (0 : Int32).toNatClampNeg) ≤ v3 then
    (k25 s)
  else
    (if inA v3 12 then
    (let s_1 := wr s 92 v3.toNatClampNeg (0 : Int32);
    fX12_tellShares_L2 k25 c1 c2 n (v3 + (1 : Int32)) s_1) else none)) else none
set_option maxRecDepth 100000 in
set_option maxHeartbeats 4000000 in
theorem tX12_tellShares_L2 (c1 : Int32) (c2 : Int32) (k25 : St → Option (Int32 × St)) (X : KX) (hC : Ctx X RX12 cX12_tellShares FULL 8 0) (hR : RC X none) (hN : X_nL X = 4) (hk25 : ∀ (s : St), Zr X (QFN X none) 0 s 25 [(0, .ref (X_ad X 69)), (1, .int c1), (2, .int c2)] [] (k25 s)) : ∀ (n : Nat) (v3 : Int32) (s : St), Zr X (QFN X none) 0 s 2 [(0, .ref (X_ad X 69)), (1, .int c1), (2, .int c2), (3, .int v3)] [] (fX12_tellShares_L2 k25 c1 c2 n v3 s) := by
  intro n
  induction n with
  | zero =>
    intro v3 s
    exact zr_none
  | succ n ih =>
    intro v3 s
    rw [fX12_tellShares_L2]
    refine zr_iload_n (pc := 2) (i := 3) 3 hC dX12_tellShares_2 rfl rfl ?_
    refine zr_aload_n (pc := 3) (i := 0) 0 hC dX12_tellShares_3 rfl rfl ?_
    refine zr_getR (pc := 4) (j := 2) (k1 := 71) hC mem_69 lay_69 rfl rfl (Nat.le_of_ble_eq_true rfl) iX12 m_1397 dX12_tellShares_4 ?_
    refine zr_iconst (pc := 7) (v := (0 : Int32)) hC dX12_tellShares_7 ic_0 ?_
    refine zr_iald (pc := 8) hC mem_71 lay_71 dX12_tellShares_8 ?_
    refine zr_icmp_ge (pc := 9) (tgt := 25) hC dX12_tellShares_9 (by decide) (fun c_ => ?_) (fun c_ => ?_)
    · refine zr_sub (ls' := [(0, _), (1, _), (2, _)]) [0, 1, 2] rfl ?_
      exact hk25 s
    · refine zr_aload_n (pc := 12) (i := 0) 0 hC dX12_tellShares_12 rfl rfl ?_
      refine zr_getR (pc := 13) (j := 36) (k1 := 92) hC mem_69 lay_69 rfl rfl (Nat.le_of_ble_eq_true rfl) iX12 m_1431 dX12_tellShares_13 ?_
      refine zr_iload_n (pc := 16) (i := 3) 3 hC dX12_tellShares_16 rfl rfl ?_
      refine zr_iconst (pc := 17) (v := (0 : Int32)) hC dX12_tellShares_17 ic_0 ?_
      refine zr_iast (pc := 18) hC mem_92 lay_92 dX12_tellShares_18 ?_
      refine zr_iinc (pc := 19) (q := 3) (ls' := [(3, _), (0, _), (1, _), (2, _)]) hC dX12_tellShares_19 rfl (inc_1 _) (nlt hN (Nat.le_of_ble_eq_true rfl)) rfl ?_
      refine zr_goto (pc := 22) (tgt := 2) hC dX12_tellShares_22 (by decide) ?_
      refine zr_sub (ls' := [(0, _), (1, _), (2, _), (3, _)]) [1, 2, 3, 0] rfl ?_
      exact ih (v3 + (1 : Int32)) (wr s 92 v3.toNatClampNeg (0 : Int32))
def fX12_tellShares_L32 (k110 : St → Option (Int32 × St)) (c1 : Int32) (c2 : Int32) : Nat → Int32 → St → Option (Int32 × St)
  | 0, _, _ => none
  | n + 1, v3, s =>
    if inA (1 : Int32) 10 then
    (if (s 71 (1 : Int32).toNatClampNeg) ≤ v3 then
    (k110 s)
  else
    (if c2 = 0 then
    (k110 s)
  else
    (if inA v3 24 then
    (if (s 78 v3.toNatClampNeg) = c1 then
    (if inA v3 24 then
    (bd (fX12_isAlive (s 79 v3.toNatClampNeg) s) (fun y_4 s_4 =>
    if y_4 = 0 then
    (fX12_tellShares_L32 k110 c1 c2 n (v3 + (1 : Int32)) s_4)
  else
    (if inA v3 24 then
    (if inA v3 24 then
    (if inA (s_4 79 v3.toNatClampNeg) 12 then
    (let s_5 := wr s_4 92 (s_4 79 v3.toNatClampNeg).toNatClampNeg (s_4 80 v3.toNatClampNeg);
    if inA v3 24 then
    (let s_6 := wr s_5 69 37 ((s_5 69 37) + (s_5 80 v3.toNatClampNeg));
    fX12_tellShares_L32 k110 c1 c2 n (v3 + (1 : Int32)) s_6) else none) else none) else none) else none))) else none)
  else
    (fX12_tellShares_L32 k110 c1 c2 n (v3 + (1 : Int32)) s)) else none))) else none
set_option maxRecDepth 100000 in
set_option maxHeartbeats 4000000 in
theorem tX12_tellShares_L32 (c1 : Int32) (c2 : Int32) (k110 : St → Option (Int32 × St)) (X : KX) (hC : Ctx X RX12 cX12_tellShares FULL 8 0) (hR : RC X none) (hN : X_nL X = 4) (hk110 : ∀ (s : St), Zr X (QFN X none) 0 s 110 [(0, .ref (X_ad X 69)), (1, .int c1), (2, .int c2)] [] (k110 s)) : ∀ (n : Nat) (v3 : Int32) (s : St), Zr X (QFN X none) 0 s 32 [(0, .ref (X_ad X 69)), (1, .int c1), (2, .int c2), (3, .int v3)] [] (fX12_tellShares_L32 k110 c1 c2 n v3 s) := by
  intro n
  induction n with
  | zero =>
    intro v3 s
    exact zr_none
  | succ n ih =>
    intro v3 s
    rw [fX12_tellShares_L32]
    refine zr_iload_n (pc := 32) (i := 3) 3 hC dX12_tellShares_32 rfl rfl ?_
    refine zr_aload_n (pc := 33) (i := 0) 0 hC dX12_tellShares_33 rfl rfl ?_
    refine zr_getR (pc := 34) (j := 2) (k1 := 71) hC mem_69 lay_69 rfl rfl (Nat.le_of_ble_eq_true rfl) iX12 m_1397 dX12_tellShares_34 ?_
    refine zr_iconst (pc := 37) (v := (1 : Int32)) hC dX12_tellShares_37 ic_1 ?_
    refine zr_iald (pc := 38) hC mem_71 lay_71 dX12_tellShares_38 ?_
    refine zr_icmp_ge (pc := 39) (tgt := 110) hC dX12_tellShares_39 (by decide) (fun c_ => ?_) (fun c_ => ?_)
    · refine zr_sub (ls' := [(0, _), (1, _), (2, _)]) [0, 1, 2] rfl ?_
      exact hk110 s
    · refine zr_iload_n (pc := 42) (i := 2) 2 hC dX12_tellShares_42 rfl rfl ?_
      refine zr_if_eq (pc := 43) (tgt := 110) hC dX12_tellShares_43 (by decide) (fun c_ => ?_) (fun c_ => ?_)
      · refine zr_sub (ls' := [(0, _), (1, _), (2, _)]) [0, 1, 2] rfl ?_
        exact hk110 s
      · refine zr_aload_n (pc := 46) (i := 0) 0 hC dX12_tellShares_46 rfl rfl ?_
        refine zr_getR (pc := 47) (j := 9) (k1 := 78) hC mem_69 lay_69 rfl rfl (Nat.le_of_ble_eq_true rfl) iX12 m_1404 dX12_tellShares_47 ?_
        refine zr_iload_n (pc := 50) (i := 3) 3 hC dX12_tellShares_50 rfl rfl ?_
        refine zr_iald (pc := 51) hC mem_78 lay_78 dX12_tellShares_51 ?_
        refine zr_iload_n (pc := 52) (i := 1) 1 hC dX12_tellShares_52 rfl rfl ?_
        refine zr_icmp_ne (pc := 53) (tgt := 104) hC dX12_tellShares_53 (by decide) (fun c_ => ?_) (fun c_ => ?_)
        · refine zr_aload_n (pc := 56) (i := 0) 0 hC dX12_tellShares_56 rfl rfl ?_
          refine zr_aload_n (pc := 57) (i := 0) 0 hC dX12_tellShares_57 rfl rfl ?_
          refine zr_getR (pc := 58) (j := 10) (k1 := 79) hC mem_69 lay_69 rfl rfl (Nat.le_of_ble_eq_true rfl) iX12 m_1405 dX12_tellShares_58 ?_
          refine zr_iload_n (pc := 61) (i := 3) 3 hC dX12_tellShares_61 rfl rfl ?_
          refine zr_iald (pc := 62) hC mem_79 lay_79 dX12_tellShares_62 ?_
          refine zr_callV (pc := 63) (As := fun ad => [.int (s 79 v3.toNatClampNeg)]) (st1 := []) hC (Nat.le_of_ble_eq_true rfl) (kX12_isAlive _ (s 79 v3.toNatClampNeg) _) (Nat.le_of_ble_eq_true rfl) mc_yX12_isAlive m_1769 m_1771 m_p83 mem_69 lay_69 rfl rfl rfl rfl (Nat.le_of_ble_eq_true rfl) dX12_tellShares_63 (fun y_4 s_4 => ?_)
          refine zr_if_ne (pc := 66) (tgt := 72) hC dX12_tellShares_66 (by decide) (fun c_ => ?_) (fun c_ => ?_)
          · refine zr_goto (pc := 69) (tgt := 104) hC dX12_tellShares_69 (by decide) ?_
            refine zr_iinc (pc := 104) (q := 3) (ls' := [(3, _), (0, _), (1, _), (2, _)]) hC dX12_tellShares_104 rfl (inc_1 _) (nlt hN (Nat.le_of_ble_eq_true rfl)) rfl ?_
            refine zr_goto (pc := 107) (tgt := 32) hC dX12_tellShares_107 (by decide) ?_
            refine zr_sub (ls' := [(0, _), (1, _), (2, _), (3, _)]) [1, 2, 3, 0] rfl ?_
            exact ih (v3 + (1 : Int32)) s_4
          · refine zr_aload_n (pc := 72) (i := 0) 0 hC dX12_tellShares_72 rfl rfl ?_
            refine zr_getR (pc := 73) (j := 36) (k1 := 92) hC mem_69 lay_69 rfl rfl (Nat.le_of_ble_eq_true rfl) iX12 m_1431 dX12_tellShares_73 ?_
            refine zr_aload_n (pc := 76) (i := 0) 0 hC dX12_tellShares_76 rfl rfl ?_
            refine zr_getR (pc := 77) (j := 10) (k1 := 79) hC mem_69 lay_69 rfl rfl (Nat.le_of_ble_eq_true rfl) iX12 m_1405 dX12_tellShares_77 ?_
            refine zr_iload_n (pc := 80) (i := 3) 3 hC dX12_tellShares_80 rfl rfl ?_
            refine zr_iald (pc := 81) hC mem_79 lay_79 dX12_tellShares_81 ?_
            refine zr_aload_n (pc := 82) (i := 0) 0 hC dX12_tellShares_82 rfl rfl ?_
            refine zr_getR (pc := 83) (j := 11) (k1 := 80) hC mem_69 lay_69 rfl rfl (Nat.le_of_ble_eq_true rfl) iX12 m_1406 dX12_tellShares_83 ?_
            refine zr_iload_n (pc := 86) (i := 3) 3 hC dX12_tellShares_86 rfl rfl ?_
            refine zr_iald (pc := 87) hC mem_80 lay_80 dX12_tellShares_87 ?_
            refine zr_iast (pc := 88) hC mem_92 lay_92 dX12_tellShares_88 ?_
            refine zr_aload_n (pc := 89) (i := 0) 0 hC dX12_tellShares_89 rfl rfl ?_
            refine zr_dup (pc := 90) hC dX12_tellShares_90 rfl ?_
            refine zr_getI (pc := 91) (j := 37) hC mem_69 lay_69 rfl rfl (Nat.le_of_ble_eq_true rfl) iX12 m_1432 dX12_tellShares_91 ?_
            refine zr_aload_n (pc := 94) (i := 0) 0 hC dX12_tellShares_94 rfl rfl ?_
            refine zr_getR (pc := 95) (j := 11) (k1 := 80) hC mem_69 lay_69 rfl rfl (Nat.le_of_ble_eq_true rfl) iX12 m_1406 dX12_tellShares_95 ?_
            refine zr_iload_n (pc := 98) (i := 3) 3 hC dX12_tellShares_98 rfl rfl ?_
            refine zr_iald (pc := 99) hC mem_80 lay_80 dX12_tellShares_99 ?_
            refine zr_iadd (pc := 100) hC dX12_tellShares_100 ?_
            refine zr_putInt (pc := 101) (j := 37) hC mem_69 lay_69 rfl rfl (Nat.le_of_ble_eq_true rfl) iX12 tyX12_ok nmX12 m_1432 rfl (by decide +kernel) dX12_tellShares_101 ?_
            refine zr_iinc (pc := 104) (q := 3) (ls' := [(3, _), (0, _), (1, _), (2, _)]) hC dX12_tellShares_104 rfl (inc_1 _) (nlt hN (Nat.le_of_ble_eq_true rfl)) rfl ?_
            refine zr_goto (pc := 107) (tgt := 32) hC dX12_tellShares_107 (by decide) ?_
            refine zr_sub (ls' := [(0, _), (1, _), (2, _), (3, _)]) [1, 2, 3, 0] rfl ?_
            exact ih (v3 + (1 : Int32)) (wr (wr s_4 92 (s_4 79 v3.toNatClampNeg).toNatClampNeg (s_4 80 v3.toNatClampNeg)) 69 37 (((wr s_4 92 (s_4 79 v3.toNatClampNeg).toNatClampNeg (s_4 80 v3.toNatClampNeg)) 69 37) + ((wr s_4 92 (s_4 79 v3.toNatClampNeg).toNatClampNeg (s_4 80 v3.toNatClampNeg)) 80 v3.toNatClampNeg)))
        · refine zr_iinc (pc := 104) (q := 3) (ls' := [(3, _), (0, _), (1, _), (2, _)]) hC dX12_tellShares_104 rfl (inc_1 _) (nlt hN (Nat.le_of_ble_eq_true rfl)) rfl ?_
          refine zr_goto (pc := 107) (tgt := 32) hC dX12_tellShares_107 (by decide) ?_
          refine zr_sub (ls' := [(0, _), (1, _), (2, _), (3, _)]) [1, 2, 3, 0] rfl ?_
          exact ih (v3 + (1 : Int32)) s
def fX12_tellShares_J133 (k168 : St → Option (Int32 × St)) (lp : Int32 → St → Option (Int32 × St)) (v1 : Int32) (v2 : Int32) (v3 : Int32) (s : St) : Option (Int32 × St) :=
  if v3 = v1 then
    (if inA v3 12 then
    (let s_8 := wr s 92 v3.toNatClampNeg (0 : Int32);
    lp (v3 + (1 : Int32)) s_8) else none)
  else
    (bd (fX12_isAlive v3 s) (fun y_9 s_9 =>
    if y_9 = 0 then
    (if inA v3 12 then
    (let s_10 := wr s_9 92 v3.toNatClampNeg (0 : Int32);
    lp (v3 + (1 : Int32)) s_10) else none)
  else
    (bd (fX12_byLaw v1 v3 s_9) (fun y_11 s_11 =>
    if inA v3 12 then
    (let s_12 := wr s_11 92 v3.toNatClampNeg y_11;
    lp (v3 + (1 : Int32)) s_12) else none))))
set_option maxRecDepth 100000 in
set_option maxHeartbeats 4000000 in
theorem tX12_tellShares_J133 (v1 : Int32) (v2 : Int32) (v3 : Int32) (k168 : St → Option (Int32 × St)) (lp : Int32 → St → Option (Int32 × St)) (X : KX) (hC : Ctx X RX12 cX12_tellShares FULL 8 0) (hR : RC X none) (hN : X_nL X = 4) (hk168 : ∀ (s : St), Zr X (QFN X none) 0 s 168 [(0, .ref (X_ad X 69))] [] (k168 s)) (ih : ∀ (u3 : Int32) (s : St), Zr X (QFN X none) 0 s 112 [(0, .ref (X_ad X 69)), (1, .int v1), (2, .int v2), (3, .int u3)] [] (lp u3 s)) (s : St) : Zr X (QFN X none) 0 s 133 [(0, .ref (X_ad X 69)), (1, .int v1), (2, .int v2), (3, .int v3)] [] (fX12_tellShares_J133 k168 lp v1 v2 v3 s) := by
  rw [fX12_tellShares_J133]
  refine zr_aload_n (pc := 133) (i := 0) 0 hC dX12_tellShares_133 rfl rfl ?_
  refine zr_getR (pc := 134) (j := 36) (k1 := 92) hC mem_69 lay_69 rfl rfl (Nat.le_of_ble_eq_true rfl) iX12 m_1431 dX12_tellShares_134 ?_
  refine zr_iload_n (pc := 137) (i := 3) 3 hC dX12_tellShares_137 rfl rfl ?_
  refine zr_iload_n (pc := 138) (i := 3) 3 hC dX12_tellShares_138 rfl rfl ?_
  refine zr_iload_n (pc := 139) (i := 1) 1 hC dX12_tellShares_139 rfl rfl ?_
  refine zr_icmp_eq (pc := 140) (tgt := 160) hC dX12_tellShares_140 (by decide) (fun c_ => ?_) (fun c_ => ?_)
  · refine zr_iconst (pc := 160) (v := (0 : Int32)) hC dX12_tellShares_160 ic_0 ?_
    refine zr_iast (pc := 161) hC mem_92 lay_92 dX12_tellShares_161 ?_
    refine zr_iinc (pc := 162) (q := 3) (ls' := [(3, _), (0, _), (1, _), (2, _)]) hC dX12_tellShares_162 rfl (inc_1 _) (nlt hN (Nat.le_of_ble_eq_true rfl)) rfl ?_
    refine zr_goto (pc := 165) (tgt := 112) hC dX12_tellShares_165 (by decide) ?_
    refine zr_sub (ls' := [(0, _), (1, _), (2, _), (3, _)]) [1, 2, 3, 0] rfl ?_
    exact ih (v3 + (1 : Int32)) (wr s 92 v3.toNatClampNeg (0 : Int32))
  · refine zr_aload_n (pc := 143) (i := 0) 0 hC dX12_tellShares_143 rfl rfl ?_
    refine zr_iload_n (pc := 144) (i := 3) 3 hC dX12_tellShares_144 rfl rfl ?_
    refine zr_callV (pc := 145) (As := fun ad => [.int v3]) (st1 := [.int v3, .ref (X_ad X 92)]) hC (Nat.le_of_ble_eq_true rfl) (kX12_isAlive _ v3 _) (Nat.le_of_ble_eq_true rfl) mc_yX12_isAlive m_1769 m_1771 m_p83 mem_69 lay_69 rfl rfl rfl rfl (Nat.le_of_ble_eq_true rfl) dX12_tellShares_145 (fun y_9 s_9 => ?_)
    refine zr_if_eq (pc := 148) (tgt := 160) hC dX12_tellShares_148 (by decide) (fun c_ => ?_) (fun c_ => ?_)
    · refine zr_iconst (pc := 160) (v := (0 : Int32)) hC dX12_tellShares_160 ic_0 ?_
      refine zr_iast (pc := 161) hC mem_92 lay_92 dX12_tellShares_161 ?_
      refine zr_iinc (pc := 162) (q := 3) (ls' := [(3, _), (0, _), (1, _), (2, _)]) hC dX12_tellShares_162 rfl (inc_1 _) (nlt hN (Nat.le_of_ble_eq_true rfl)) rfl ?_
      refine zr_goto (pc := 165) (tgt := 112) hC dX12_tellShares_165 (by decide) ?_
      refine zr_sub (ls' := [(0, _), (1, _), (2, _), (3, _)]) [1, 2, 3, 0] rfl ?_
      exact ih (v3 + (1 : Int32)) (wr s_9 92 v3.toNatClampNeg (0 : Int32))
    · refine zr_aload_n (pc := 151) (i := 0) 0 hC dX12_tellShares_151 rfl rfl ?_
      refine zr_iload_n (pc := 152) (i := 1) 1 hC dX12_tellShares_152 rfl rfl ?_
      refine zr_iload_n (pc := 153) (i := 3) 3 hC dX12_tellShares_153 rfl rfl ?_
      refine zr_callV (pc := 154) (As := fun ad => [.int v1, .int v3]) (st1 := [.int v3, .ref (X_ad X 92)]) hC (Nat.le_of_ble_eq_true rfl) (kX12_byLaw _ v1 v3 _) (Nat.le_of_ble_eq_true rfl) mc_yX12_byLaw m_1864 m_1866 m_p97 mem_69 lay_69 rfl rfl rfl rfl (Nat.le_of_ble_eq_true rfl) dX12_tellShares_154 (fun y_11 s_11 => ?_)
      refine zr_goto (pc := 157) (tgt := 161) hC dX12_tellShares_157 (by decide) ?_
      refine zr_iast (pc := 161) hC mem_92 lay_92 dX12_tellShares_161 ?_
      refine zr_iinc (pc := 162) (q := 3) (ls' := [(3, _), (0, _), (1, _), (2, _)]) hC dX12_tellShares_162 rfl (inc_1 _) (nlt hN (Nat.le_of_ble_eq_true rfl)) rfl ?_
      refine zr_goto (pc := 165) (tgt := 112) hC dX12_tellShares_165 (by decide) ?_
      refine zr_sub (ls' := [(0, _), (1, _), (2, _), (3, _)]) [1, 2, 3, 0] rfl ?_
      exact ih (v3 + (1 : Int32)) (wr s_11 92 v3.toNatClampNeg y_11)
def fX12_tellShares_L112 (k168 : St → Option (Int32 × St)) (c1 : Int32) (c2 : Int32) : Nat → Int32 → St → Option (Int32 × St)
  | 0, _, _ => none
  | n + 1, v3, s =>
    if inA (0 : Int32) 10 then
    (if (s 71 (0 : Int32).toNatClampNeg) ≤ v3 then
    (k168 s)
  else
    (if c2 = 0 then
    (fX12_tellShares_J133 k168 (fX12_tellShares_L112 k168 c1 c2 n) c1 c2 v3 s)
  else
    (if (s 69 37) = 0 then
    (fX12_tellShares_J133 k168 (fX12_tellShares_L112 k168 c1 c2 n) c1 c2 v3 s)
  else
    (k168 s)))) else none
set_option maxRecDepth 100000 in
set_option maxHeartbeats 4000000 in
theorem tX12_tellShares_L112 (c1 : Int32) (c2 : Int32) (k168 : St → Option (Int32 × St)) (X : KX) (hC : Ctx X RX12 cX12_tellShares FULL 8 0) (hR : RC X none) (hN : X_nL X = 4) (hk168 : ∀ (s : St), Zr X (QFN X none) 0 s 168 [(0, .ref (X_ad X 69))] [] (k168 s)) : ∀ (n : Nat) (v3 : Int32) (s : St), Zr X (QFN X none) 0 s 112 [(0, .ref (X_ad X 69)), (1, .int c1), (2, .int c2), (3, .int v3)] [] (fX12_tellShares_L112 k168 c1 c2 n v3 s) := by
  intro n
  induction n with
  | zero =>
    intro v3 s
    exact zr_none
  | succ n ih =>
    intro v3 s
    rw [fX12_tellShares_L112]
    refine zr_iload_n (pc := 112) (i := 3) 3 hC dX12_tellShares_112 rfl rfl ?_
    refine zr_aload_n (pc := 113) (i := 0) 0 hC dX12_tellShares_113 rfl rfl ?_
    refine zr_getR (pc := 114) (j := 2) (k1 := 71) hC mem_69 lay_69 rfl rfl (Nat.le_of_ble_eq_true rfl) iX12 m_1397 dX12_tellShares_114 ?_
    refine zr_iconst (pc := 117) (v := (0 : Int32)) hC dX12_tellShares_117 ic_0 ?_
    refine zr_iald (pc := 118) hC mem_71 lay_71 dX12_tellShares_118 ?_
    refine zr_icmp_ge (pc := 119) (tgt := 168) hC dX12_tellShares_119 (by decide) (fun c_ => ?_) (fun c_ => ?_)
    · refine zr_sub (ls' := [(0, _)]) [0] rfl ?_
      exact hk168 s
    · refine zr_iload_n (pc := 122) (i := 2) 2 hC dX12_tellShares_122 rfl rfl ?_
      refine zr_if_eq (pc := 123) (tgt := 133) hC dX12_tellShares_123 (by decide) (fun c_ => ?_) (fun c_ => ?_)
      · exact tX12_tellShares_J133 c1 c2 v3 _ _ X hC hR hN hk168 ih _
      · refine zr_aload_n (pc := 126) (i := 0) 0 hC dX12_tellShares_126 rfl rfl ?_
        refine zr_getI (pc := 127) (j := 37) hC mem_69 lay_69 rfl rfl (Nat.le_of_ble_eq_true rfl) iX12 m_1432 dX12_tellShares_127 ?_
        refine zr_if_ne (pc := 130) (tgt := 168) hC dX12_tellShares_130 (by decide) (fun c_ => ?_) (fun c_ => ?_)
        · exact tX12_tellShares_J133 c1 c2 v3 _ _ X hC hR hN hk168 ih _
        · refine zr_sub (ls' := [(0, _)]) [0] rfl ?_
          exact hk168 s
def fX12_tellShares_L187 : Nat → Int32 → St → Option (Int32 × St)
  | 0, _, _ => none
  | n + 1, v3, s =>
    if v3 < 0 then
    (some (0, s))
  else
    (if inA v3 12 then
    (let s_16 := wr s 69 37 ((s 69 37) + (s 92 v3.toNatClampNeg));
    if inA v3 12 then
    (if (s_16 92 v3.toNatClampNeg) ≤ 0 then
    (fX12_tellShares_L187 n (v3 + (-1 : Int32)) s_16)
  else
    (let s_17 := wr s_16 69 38 v3;
    fX12_tellShares_L187 n (v3 + (-1 : Int32)) s_17)) else none) else none)
set_option maxRecDepth 100000 in
set_option maxHeartbeats 4000000 in
theorem tX12_tellShares_L187 (X : KX) (hC : Ctx X RX12 cX12_tellShares FULL 8 0) (hR : RC X none) (hN : X_nL X = 4) : ∀ (n : Nat) (v3 : Int32) (s : St), Zr X (QFN X none) 0 s 187 [(0, .ref (X_ad X 69)), (3, .int v3)] [] (fX12_tellShares_L187 n v3 s) := by
  intro n
  induction n with
  | zero =>
    intro v3 s
    exact zr_none
  | succ n ih =>
    intro v3 s
    rw [fX12_tellShares_L187]
    refine zr_iload_n (pc := 187) (i := 3) 1 hC dX12_tellShares_187 rfl rfl ?_
    refine zr_if_lt (pc := 188) (tgt := 226) hC dX12_tellShares_188 (by decide) (fun c_ => ?_) (fun c_ => ?_)
    · exact zr_vret (pc := 226) hC hR dX12_tellShares_226
    · refine zr_aload_n (pc := 191) (i := 0) 0 hC dX12_tellShares_191 rfl rfl ?_
      refine zr_dup (pc := 192) hC dX12_tellShares_192 rfl ?_
      refine zr_getI (pc := 193) (j := 37) hC mem_69 lay_69 rfl rfl (Nat.le_of_ble_eq_true rfl) iX12 m_1432 dX12_tellShares_193 ?_
      refine zr_aload_n (pc := 196) (i := 0) 0 hC dX12_tellShares_196 rfl rfl ?_
      refine zr_getR (pc := 197) (j := 36) (k1 := 92) hC mem_69 lay_69 rfl rfl (Nat.le_of_ble_eq_true rfl) iX12 m_1431 dX12_tellShares_197 ?_
      refine zr_iload_n (pc := 200) (i := 3) 1 hC dX12_tellShares_200 rfl rfl ?_
      refine zr_iald (pc := 201) hC mem_92 lay_92 dX12_tellShares_201 ?_
      refine zr_iadd (pc := 202) hC dX12_tellShares_202 ?_
      refine zr_putInt (pc := 203) (j := 37) hC mem_69 lay_69 rfl rfl (Nat.le_of_ble_eq_true rfl) iX12 tyX12_ok nmX12 m_1432 rfl (by decide +kernel) dX12_tellShares_203 ?_
      refine zr_aload_n (pc := 206) (i := 0) 0 hC dX12_tellShares_206 rfl rfl ?_
      refine zr_getR (pc := 207) (j := 36) (k1 := 92) hC mem_69 lay_69 rfl rfl (Nat.le_of_ble_eq_true rfl) iX12 m_1431 dX12_tellShares_207 ?_
      refine zr_iload_n (pc := 210) (i := 3) 1 hC dX12_tellShares_210 rfl rfl ?_
      refine zr_iald (pc := 211) hC mem_92 lay_92 dX12_tellShares_211 ?_
      refine zr_if_le (pc := 212) (tgt := 220) hC dX12_tellShares_212 (by decide) (fun c_ => ?_) (fun c_ => ?_)
      · refine zr_iinc (pc := 220) (q := 1) (ls' := [(3, _), (0, _)]) hC dX12_tellShares_220 rfl (inc_m1 _) (nlt hN (Nat.le_of_ble_eq_true rfl)) rfl ?_
        refine zr_goto (pc := 223) (tgt := 187) hC dX12_tellShares_223 (by decide) ?_
        refine zr_sub (ls' := [(0, _), (3, _)]) [1, 0] rfl ?_
        exact ih (v3 + (-1 : Int32)) (wr s 69 37 ((s 69 37) + (s 92 v3.toNatClampNeg)))
      · refine zr_aload_n (pc := 215) (i := 0) 0 hC dX12_tellShares_215 rfl rfl ?_
        refine zr_iload_n (pc := 216) (i := 3) 1 hC dX12_tellShares_216 rfl rfl ?_
        refine zr_putInt (pc := 217) (j := 38) hC mem_69 lay_69 rfl rfl (Nat.le_of_ble_eq_true rfl) iX12 tyX12_ok nmX12 m_1433 rfl (by decide +kernel) dX12_tellShares_217 ?_
        refine zr_iinc (pc := 220) (q := 1) (ls' := [(3, _), (0, _)]) hC dX12_tellShares_220 rfl (inc_m1 _) (nlt hN (Nat.le_of_ble_eq_true rfl)) rfl ?_
        refine zr_goto (pc := 223) (tgt := 187) hC dX12_tellShares_223 (by decide) ?_
        refine zr_sub (ls' := [(0, _), (3, _)]) [1, 0] rfl ?_
        exact ih (v3 + (-1 : Int32)) (wr (wr s 69 37 ((s 69 37) + (s 92 v3.toNatClampNeg))) 69 38 v3)
def fX12_tellShares_J168 (s : St) : Option (Int32 × St) :=
  let s_14 := wr s 69 37 (0 : Int32);
    let s_15 := wr s_14 69 38 (-1 : Int32);
    if inA (0 : Int32) 10 then
    (fX12_tellShares_L187 FU ((s_15 71 (0 : Int32).toNatClampNeg) - (1 : Int32)) s_15) else none
set_option maxRecDepth 100000 in
set_option maxHeartbeats 4000000 in
theorem tX12_tellShares_J168 (X : KX) (hC : Ctx X RX12 cX12_tellShares FULL 8 0) (hR : RC X none) (hN : X_nL X = 4) (s : St) : Zr X (QFN X none) 0 s 168 [(0, .ref (X_ad X 69))] [] (fX12_tellShares_J168 s) := by
  rw [fX12_tellShares_J168]
  refine zr_aload_n (pc := 168) (i := 0) 0 hC dX12_tellShares_168 rfl rfl ?_
  refine zr_iconst (pc := 169) (v := (0 : Int32)) hC dX12_tellShares_169 ic_0 ?_
  refine zr_putInt (pc := 170) (j := 37) hC mem_69 lay_69 rfl rfl (Nat.le_of_ble_eq_true rfl) iX12 tyX12_ok nmX12 m_1432 rfl (by decide +kernel) dX12_tellShares_170 ?_
  refine zr_aload_n (pc := 173) (i := 0) 0 hC dX12_tellShares_173 rfl rfl ?_
  refine zr_iconst (pc := 174) (v := (-1 : Int32)) hC dX12_tellShares_174 ic_m1 ?_
  refine zr_putInt (pc := 175) (j := 38) hC mem_69 lay_69 rfl rfl (Nat.le_of_ble_eq_true rfl) iX12 tyX12_ok nmX12 m_1433 rfl (by decide +kernel) dX12_tellShares_175 ?_
  refine zr_aload_n (pc := 178) (i := 0) 0 hC dX12_tellShares_178 rfl rfl ?_
  refine zr_getR (pc := 179) (j := 2) (k1 := 71) hC mem_69 lay_69 rfl rfl (Nat.le_of_ble_eq_true rfl) iX12 m_1397 dX12_tellShares_179 ?_
  refine zr_iconst (pc := 182) (v := (0 : Int32)) hC dX12_tellShares_182 ic_0 ?_
  refine zr_iald (pc := 183) hC mem_71 lay_71 dX12_tellShares_183 ?_
  refine zr_iconst (pc := 184) (v := (1 : Int32)) hC dX12_tellShares_184 ic_1 ?_
  refine zr_isub (pc := 185) hC dX12_tellShares_185 ?_
  refine zr_istore_n (pc := 186) (i := 3) (ls' := [(3, _), (0, _)]) hC dX12_tellShares_186 rfl (nlt hN (Nat.le_of_ble_eq_true rfl)) rfl ?_
  refine zr_sub (ls' := [(0, _), (3, _)]) [1, 0] rfl ?_
  exact tX12_tellShares_L187  X hC hR hN FU (((wr (wr s 69 37 (0 : Int32)) 69 38 (-1 : Int32)) 71 (0 : Int32).toNatClampNeg) - (1 : Int32)) _
def fX12_tellShares_J110 (v1 : Int32) (v2 : Int32) (s : St) : Option (Int32 × St) :=
  fX12_tellShares_L112 (fun s_13 => fX12_tellShares_J168 s_13) v1 v2 FU (0 : Int32) s
set_option maxRecDepth 100000 in
set_option maxHeartbeats 4000000 in
theorem tX12_tellShares_J110 (v1 : Int32) (v2 : Int32) (X : KX) (hC : Ctx X RX12 cX12_tellShares FULL 8 0) (hR : RC X none) (hN : X_nL X = 4) (s : St) : Zr X (QFN X none) 0 s 110 [(0, .ref (X_ad X 69)), (1, .int v1), (2, .int v2)] [] (fX12_tellShares_J110 v1 v2 s) := by
  rw [fX12_tellShares_J110]
  refine zr_iconst (pc := 110) (v := (0 : Int32)) hC dX12_tellShares_110 ic_0 ?_
  refine zr_istore_n (pc := 111) (i := 3) (ls' := [(3, _), (0, _), (1, _), (2, _)]) hC dX12_tellShares_111 rfl (nlt hN (Nat.le_of_ble_eq_true rfl)) rfl ?_
  refine zr_sub (ls' := [(0, _), (1, _), (2, _), (3, _)]) [1, 2, 3, 0] rfl ?_
  refine tX12_tellShares_L112 v1 v2 _ X hC hR hN (fun s_13 => ?_) FU (0 : Int32) _
  · exact tX12_tellShares_J168  X hC hR hN  _
def fX12_tellShares (a1 : Int32) (a2 : Int32) (s : St) : Option (Int32 × St) :=
  fX12_tellShares_L2 (fun s_2 => let s_3 := wr s_2 69 37 (0 : Int32);
    fX12_tellShares_L32 (fun s_7 => fX12_tellShares_J110 a1 a2 s_7) a1 a2 FU (0 : Int32) s_3) a1 a2 FU (0 : Int32) s
set_option maxRecDepth 100000 in
set_option maxHeartbeats 4000000 in
theorem kX12_tellShares (l : Launch)  (a1 : Int32) (a2 : Int32) (s : St) : CN l yX12_tellShares cX12_tellShares 4 none 8 FULL (fun ad => [.ref (ad 69), .int a1, .int a2]) s (fX12_tellShares a1 a2 s) := by
  refine cn_of (by decide) (fun _ => (Nat.le_of_ble_eq_true rfl)) (fun X hC hR hl hN => ?_)
  subst hl
  show Zr X (QFN X none) 0 s 0 [(0, .ref (X_ad X 69)), (1, .int a1), (2, .int a2)] [] _
  rw [fX12_tellShares]
  refine zr_iconst (pc := 0) (v := (0 : Int32)) hC dX12_tellShares_0 ic_0 ?_
  refine zr_istore_n (pc := 1) (i := 3) (ls' := [(3, _), (0, _), (1, _), (2, _)]) hC dX12_tellShares_1 rfl (nlt hN (Nat.le_of_ble_eq_true rfl)) rfl ?_
  refine zr_sub (ls' := [(0, _), (1, _), (2, _), (3, _)]) [1, 2, 3, 0] rfl ?_
  refine tX12_tellShares_L2 a1 a2 _ X hC hR hN (fun s_2 => ?_) FU (0 : Int32) _
  · refine zr_aload_n (pc := 25) (i := 0) 0 hC dX12_tellShares_25 rfl rfl ?_
    refine zr_iconst (pc := 26) (v := (0 : Int32)) hC dX12_tellShares_26 ic_0 ?_
    refine zr_putInt (pc := 27) (j := 37) hC mem_69 lay_69 rfl rfl (Nat.le_of_ble_eq_true rfl) iX12 tyX12_ok nmX12 m_1432 rfl (by decide +kernel) dX12_tellShares_27 ?_
    refine zr_iconst (pc := 30) (v := (0 : Int32)) hC dX12_tellShares_30 ic_0 ?_
    refine zr_istore_n (pc := 31) (i := 3) (ls' := [(3, _), (0, _), (1, _), (2, _)]) hC dX12_tellShares_31 rfl (nlt hN (Nat.le_of_ble_eq_true rfl)) rfl ?_
    refine zr_sub (ls' := [(0, _), (1, _), (2, _), (3, _)]) [1, 2, 3, 0] rfl ?_
    refine tX12_tellShares_L32 a1 a2 _ X hC hR hN (fun s_7 => ?_) FU (0 : Int32) _
    · exact tX12_tellShares_J110 a1 a2 X hC hR hN  _
def fX12_heirs_L4 : Nat → Int32 → Int32 → St → Option (Int32 × St)
  | 0, _, _, _ => none
  | n + 1, v1, v2, s =>
    if inA (0 : Int32) 10 then
    (if (s 71 (0 : Int32).toNatClampNeg) ≤ v2 then
    (some (v1, s))
  else
    (if inA v2 12 then
    (if (s 92 v2.toNatClampNeg) ≤ 0 then
    (fX12_heirs_L4 n (v1 + (0 : Int32)) (v2 + (1 : Int32)) s)
  else
    (fX12_heirs_L4 n (v1 + (1 : Int32)) (v2 + (1 : Int32)) s)) else none)) else none
set_option maxRecDepth 100000 in
set_option maxHeartbeats 4000000 in
theorem tX12_heirs_L4 (X : KX) (hC : Ctx X RX12 cX12_heirs FULL 1 0) (hR : RC X (some .int)) (hN : X_nL X = 3) : ∀ (n : Nat) (v1 : Int32) (v2 : Int32) (s : St), Zr X (QFN X (some .int)) 0 s 4 [(0, .ref (X_ad X 69)), (1, .int v1), (2, .int v2)] [] (fX12_heirs_L4 n v1 v2 s) := by
  intro n
  induction n with
  | zero =>
    intro v1 v2 s
    exact zr_none
  | succ n ih =>
    intro v1 v2 s
    rw [fX12_heirs_L4]
    refine zr_iload_n (pc := 4) (i := 2) 2 hC dX12_heirs_4 rfl rfl ?_
    refine zr_aload_n (pc := 5) (i := 0) 0 hC dX12_heirs_5 rfl rfl ?_
    refine zr_getR (pc := 6) (j := 2) (k1 := 71) hC mem_69 lay_69 rfl rfl (Nat.le_of_ble_eq_true rfl) iX12 m_1397 dX12_heirs_6 ?_
    refine zr_iconst (pc := 9) (v := (0 : Int32)) hC dX12_heirs_9 ic_0 ?_
    refine zr_iald (pc := 10) hC mem_71 lay_71 dX12_heirs_10 ?_
    refine zr_icmp_ge (pc := 11) (tgt := 37) hC dX12_heirs_11 (by decide) (fun c_ => ?_) (fun c_ => ?_)
    · refine zr_iload_n (pc := 37) (i := 1) 1 hC dX12_heirs_37 rfl rfl ?_
      exact zr_iret (pc := 38) hC hR dX12_heirs_38
    · refine zr_iload_n (pc := 14) (i := 1) 1 hC dX12_heirs_14 rfl rfl ?_
      refine zr_aload_n (pc := 15) (i := 0) 0 hC dX12_heirs_15 rfl rfl ?_
      refine zr_getR (pc := 16) (j := 36) (k1 := 92) hC mem_69 lay_69 rfl rfl (Nat.le_of_ble_eq_true rfl) iX12 m_1431 dX12_heirs_16 ?_
      refine zr_iload_n (pc := 19) (i := 2) 2 hC dX12_heirs_19 rfl rfl ?_
      refine zr_iald (pc := 20) hC mem_92 lay_92 dX12_heirs_20 ?_
      refine zr_if_le (pc := 21) (tgt := 28) hC dX12_heirs_21 (by decide) (fun c_ => ?_) (fun c_ => ?_)
      · refine zr_iconst (pc := 28) (v := (0 : Int32)) hC dX12_heirs_28 ic_0 ?_
        refine zr_iadd (pc := 29) hC dX12_heirs_29 ?_
        refine zr_istore_n (pc := 30) (i := 1) (ls' := [(1, _), (0, _), (2, _)]) hC dX12_heirs_30 rfl (nlt hN (Nat.le_of_ble_eq_true rfl)) rfl ?_
        refine zr_iinc (pc := 31) (q := 2) (ls' := [(2, _), (1, _), (0, _)]) hC dX12_heirs_31 rfl (inc_1 _) (nlt hN (Nat.le_of_ble_eq_true rfl)) rfl ?_
        refine zr_goto (pc := 34) (tgt := 4) hC dX12_heirs_34 (by decide) ?_
        refine zr_sub (ls' := [(0, _), (1, _), (2, _)]) [2, 1, 0] rfl ?_
        exact ih (v1 + (0 : Int32)) (v2 + (1 : Int32)) s
      · refine zr_iconst (pc := 24) (v := (1 : Int32)) hC dX12_heirs_24 ic_1 ?_
        refine zr_goto (pc := 25) (tgt := 29) hC dX12_heirs_25 (by decide) ?_
        refine zr_iadd (pc := 29) hC dX12_heirs_29 ?_
        refine zr_istore_n (pc := 30) (i := 1) (ls' := [(1, _), (0, _), (2, _)]) hC dX12_heirs_30 rfl (nlt hN (Nat.le_of_ble_eq_true rfl)) rfl ?_
        refine zr_iinc (pc := 31) (q := 2) (ls' := [(2, _), (1, _), (0, _)]) hC dX12_heirs_31 rfl (inc_1 _) (nlt hN (Nat.le_of_ble_eq_true rfl)) rfl ?_
        refine zr_goto (pc := 34) (tgt := 4) hC dX12_heirs_34 (by decide) ?_
        refine zr_sub (ls' := [(0, _), (1, _), (2, _)]) [2, 1, 0] rfl ?_
        exact ih (v1 + (1 : Int32)) (v2 + (1 : Int32)) s
def fX12_heirs (s : St) : Option (Int32 × St) :=
  fX12_heirs_L4 FU (0 : Int32) (0 : Int32) s
set_option maxRecDepth 100000 in
set_option maxHeartbeats 4000000 in
theorem kX12_heirs (l : Launch)  (s : St) : CN l yX12_heirs cX12_heirs 3 (some .int) 1 FULL (fun ad => [.ref (ad 69)]) s (fX12_heirs s) := by
  refine cn_of (by decide) (fun _ => (Nat.le_of_ble_eq_true rfl)) (fun X hC hR hl hN => ?_)
  subst hl
  show Zr X (QFN X (some .int)) 0 s 0 [(0, .ref (X_ad X 69))] [] _
  rw [fX12_heirs]
  refine zr_iconst (pc := 0) (v := (0 : Int32)) hC dX12_heirs_0 ic_0 ?_
  refine zr_istore_n (pc := 1) (i := 1) (ls' := [(1, _), (0, _)]) hC dX12_heirs_1 rfl (nlt hN (Nat.le_of_ble_eq_true rfl)) rfl ?_
  refine zr_iconst (pc := 2) (v := (0 : Int32)) hC dX12_heirs_2 ic_0 ?_
  refine zr_istore_n (pc := 3) (i := 2) (ls' := [(2, _), (1, _), (0, _)]) hC dX12_heirs_3 rfl (nlt hN (Nat.le_of_ble_eq_true rfl)) rfl ?_
  refine zr_sub (ls' := [(0, _), (1, _), (2, _)]) [2, 1, 0] rfl ?_
  exact tX12_heirs_L4  X hC hR hN FU (0 : Int32) (0 : Int32) _
def fX12_partOf_L57 (c4 : Int32) (c5 : Int32) : Nat → Int32 → Int32 → St → Option (Int32 × St)
  | 0, _, _, _ => none
  | n + 1, v6, v7, s =>
    if inA (0 : Int32) 10 then
    (if (s 71 (0 : Int32).toNatClampNeg) ≤ v7 then
    (some ((c5 + v6), s))
  else
    (if inA v7 12 then
    (if (s 69 37) = 0 then none else
    fX12_partOf_L57 c4 c5 n (v6 - ((c4 * (s 92 v7.toNatClampNeg)) / (s 69 37))) (v7 + (1 : Int32)) s) else none)) else none
set_option maxRecDepth 100000 in
set_option maxHeartbeats 4000000 in
theorem tX12_partOf_L57 (c4 : Int32) (c5 : Int32) (X : KX) (hC : Ctx X RX12 cX12_partOf FULL 1 0) (hR : RC X (some .int)) (hN : X_nL X = 8) : ∀ (n : Nat) (v6 : Int32) (v7 : Int32) (s : St), Zr X (QFN X (some .int)) 0 s 57 [(0, .ref (X_ad X 69)), (4, .int c4), (5, .int c5), (6, .int v6), (7, .int v7)] [] (fX12_partOf_L57 c4 c5 n v6 v7 s) := by
  intro n
  induction n with
  | zero =>
    intro v6 v7 s
    exact zr_none
  | succ n ih =>
    intro v6 v7 s
    rw [fX12_partOf_L57]
    refine zr_iload (pc := 57) 4 hC dX12_partOf_57 rfl ?_
    refine zr_aload_n (pc := 59) (i := 0) 0 hC dX12_partOf_59 rfl rfl ?_
    refine zr_getR (pc := 60) (j := 2) (k1 := 71) hC mem_69 lay_69 rfl rfl (Nat.le_of_ble_eq_true rfl) iX12 m_1397 dX12_partOf_60 ?_
    refine zr_iconst (pc := 63) (v := (0 : Int32)) hC dX12_partOf_63 ic_0 ?_
    refine zr_iald (pc := 64) hC mem_71 lay_71 dX12_partOf_64 ?_
    refine zr_icmp_ge (pc := 65) (tgt := 94) hC dX12_partOf_65 (by decide) (fun c_ => ?_) (fun c_ => ?_)
    · refine zr_iload (pc := 94) 2 hC dX12_partOf_94 rfl ?_
      refine zr_iload (pc := 96) 3 hC dX12_partOf_96 rfl ?_
      refine zr_iadd (pc := 98) hC dX12_partOf_98 ?_
      exact zr_iret (pc := 99) hC hR dX12_partOf_99
    · refine zr_iload (pc := 68) 3 hC dX12_partOf_68 rfl ?_
      refine zr_iload (pc := 70) 1 hC dX12_partOf_70 rfl ?_
      refine zr_aload_n (pc := 72) (i := 0) 0 hC dX12_partOf_72 rfl rfl ?_
      refine zr_getR (pc := 73) (j := 36) (k1 := 92) hC mem_69 lay_69 rfl rfl (Nat.le_of_ble_eq_true rfl) iX12 m_1431 dX12_partOf_73 ?_
      refine zr_iload (pc := 76) 4 hC dX12_partOf_76 rfl ?_
      refine zr_iald (pc := 78) hC mem_92 lay_92 dX12_partOf_78 ?_
      refine zr_imul (pc := 79) hC dX12_partOf_79 ?_
      refine zr_aload_n (pc := 80) (i := 0) 0 hC dX12_partOf_80 rfl rfl ?_
      refine zr_getI (pc := 81) (j := 37) hC mem_69 lay_69 rfl rfl (Nat.le_of_ble_eq_true rfl) iX12 m_1432 dX12_partOf_81 ?_
      refine zr_idiv (pc := 84) hC dX12_partOf_84 ?_
      refine zr_isub (pc := 85) hC dX12_partOf_85 ?_
      refine zr_istore (pc := 86) (ls' := [(6, _), (0, _), (4, _), (5, _), (7, _)]) hC dX12_partOf_86 (nlt hN (Nat.le_of_ble_eq_true rfl)) rfl ?_
      refine zr_iinc (pc := 88) (q := 4) (ls' := [(7, _), (6, _), (0, _), (4, _), (5, _)]) hC dX12_partOf_88 rfl (inc_1 _) (nlt hN (Nat.le_of_ble_eq_true rfl)) rfl ?_
      refine zr_goto (pc := 91) (tgt := 57) hC dX12_partOf_91 (by decide) ?_
      refine zr_sub (ls' := [(0, _), (4, _), (5, _), (6, _), (7, _)]) [2, 3, 4, 1, 0] rfl ?_
      exact ih (v6 - ((c4 * (s 92 v7.toNatClampNeg)) / (s 69 37))) (v7 + (1 : Int32)) s
def fX12_partOf (a1 : Int32) (a2 : Int32) (a3 : Int32) (s : St) : Option (Int32 × St) :=
  if inA a2 12 then
    (if (s 92 a2.toNatClampNeg) = 0 then
    (some ((0 : Int32), s))
  else
    (if inA (((4 : Int32) * a1) + a3) 96 then
    (if inA a2 12 then
    (if (s 69 37) = 0 then none else
    if a2 = (s 69 38) then
    (fX12_partOf_L57 (s 72 (((4 : Int32) * a1) + a3).toNatClampNeg) (((s 72 (((4 : Int32) * a1) + a3).toNatClampNeg) * (s 92 a2.toNatClampNeg)) / (s 69 37)) FU (s 72 (((4 : Int32) * a1) + a3).toNatClampNeg) (0 : Int32) s)
  else
    (some ((((s 72 (((4 : Int32) * a1) + a3).toNatClampNeg) * (s 92 a2.toNatClampNeg)) / (s 69 37)), s))) else none) else none)) else none
set_option maxRecDepth 100000 in
set_option maxHeartbeats 4000000 in
theorem kX12_partOf (l : Launch)  (a1 : Int32) (a2 : Int32) (a3 : Int32) (s : St) : CN l yX12_partOf cX12_partOf 8 (some .int) 1 FULL (fun ad => [.ref (ad 69), .int a1, .int a2, .int a3]) s (fX12_partOf a1 a2 a3 s) := by
  refine cn_of (by decide) (fun _ => (Nat.le_of_ble_eq_true rfl)) (fun X hC hR hl hN => ?_)
  subst hl
  show Zr X (QFN X (some .int)) 0 s 0 [(0, .ref (X_ad X 69)), (1, .int a1), (2, .int a2), (3, .int a3)] [] _
  rw [fX12_partOf]
  refine zr_aload_n (pc := 0) (i := 0) 0 hC dX12_partOf_0 rfl rfl ?_
  refine zr_getR (pc := 1) (j := 36) (k1 := 92) hC mem_69 lay_69 rfl rfl (Nat.le_of_ble_eq_true rfl) iX12 m_1431 dX12_partOf_1 ?_
  refine zr_iload_n (pc := 4) (i := 2) 2 hC dX12_partOf_4 rfl rfl ?_
  refine zr_iald (pc := 5) hC mem_92 lay_92 dX12_partOf_5 ?_
  refine zr_if_ne (pc := 6) (tgt := 11) hC dX12_partOf_6 (by decide) (fun c_ => ?_) (fun c_ => ?_)
  · refine zr_iconst (pc := 9) (v := (0 : Int32)) hC dX12_partOf_9 ic_0 ?_
    exact zr_iret (pc := 10) hC hR dX12_partOf_10
  · refine zr_aload_n (pc := 11) (i := 0) 0 hC dX12_partOf_11 rfl rfl ?_
    refine zr_getR (pc := 12) (j := 3) (k1 := 72) hC mem_69 lay_69 rfl rfl (Nat.le_of_ble_eq_true rfl) iX12 m_1398 dX12_partOf_12 ?_
    refine zr_iconst (pc := 15) (v := (4 : Int32)) hC dX12_partOf_15 ic_4 ?_
    refine zr_iload_n (pc := 16) (i := 1) 1 hC dX12_partOf_16 rfl rfl ?_
    refine zr_imul (pc := 17) hC dX12_partOf_17 ?_
    refine zr_iload_n (pc := 18) (i := 3) 3 hC dX12_partOf_18 rfl rfl ?_
    refine zr_iadd (pc := 19) hC dX12_partOf_19 ?_
    refine zr_iald (pc := 20) hC mem_72 lay_72 dX12_partOf_20 ?_
    refine zr_istore (pc := 21) (ls' := [(4, _), (0, _), (1, _), (2, _), (3, _)]) hC dX12_partOf_21 (nlt hN (Nat.le_of_ble_eq_true rfl)) rfl ?_
    refine zr_iload (pc := 23) 0 hC dX12_partOf_23 rfl ?_
    refine zr_aload_n (pc := 25) (i := 0) 1 hC dX12_partOf_25 rfl rfl ?_
    refine zr_getR (pc := 26) (j := 36) (k1 := 92) hC mem_69 lay_69 rfl rfl (Nat.le_of_ble_eq_true rfl) iX12 m_1431 dX12_partOf_26 ?_
    refine zr_iload_n (pc := 29) (i := 2) 3 hC dX12_partOf_29 rfl rfl ?_
    refine zr_iald (pc := 30) hC mem_92 lay_92 dX12_partOf_30 ?_
    refine zr_imul (pc := 31) hC dX12_partOf_31 ?_
    refine zr_aload_n (pc := 32) (i := 0) 1 hC dX12_partOf_32 rfl rfl ?_
    refine zr_getI (pc := 33) (j := 37) hC mem_69 lay_69 rfl rfl (Nat.le_of_ble_eq_true rfl) iX12 m_1432 dX12_partOf_33 ?_
    refine zr_idiv (pc := 36) hC dX12_partOf_36 ?_
    refine zr_istore (pc := 37) (ls' := [(5, _), (4, _), (0, _), (1, _), (2, _), (3, _)]) hC dX12_partOf_37 (nlt hN (Nat.le_of_ble_eq_true rfl)) rfl ?_
    refine zr_iload_n (pc := 39) (i := 2) 4 hC dX12_partOf_39 rfl rfl ?_
    refine zr_aload_n (pc := 40) (i := 0) 2 hC dX12_partOf_40 rfl rfl ?_
    refine zr_getI (pc := 41) (j := 38) hC mem_69 lay_69 rfl rfl (Nat.le_of_ble_eq_true rfl) iX12 m_1433 dX12_partOf_41 ?_
    refine zr_icmp_eq (pc := 44) (tgt := 50) hC dX12_partOf_44 (by decide) (fun c_ => ?_) (fun c_ => ?_)
    · refine zr_iload (pc := 50) 1 hC dX12_partOf_50 rfl ?_
      refine zr_istore (pc := 52) (ls' := [(6, _), (5, _), (4, _), (0, _), (1, _), (2, _), (3, _)]) hC dX12_partOf_52 (nlt hN (Nat.le_of_ble_eq_true rfl)) rfl ?_
      refine zr_iconst (pc := 54) (v := (0 : Int32)) hC dX12_partOf_54 ic_0 ?_
      refine zr_istore (pc := 55) (ls' := [(7, _), (6, _), (5, _), (4, _), (0, _), (1, _), (2, _), (3, _)]) hC dX12_partOf_55 (nlt hN (Nat.le_of_ble_eq_true rfl)) rfl ?_
      refine zr_sub (ls' := [(0, _), (4, _), (5, _), (6, _), (7, _)]) [4, 3, 2, 1, 0] rfl ?_
      exact tX12_partOf_L57 (s 72 (((4 : Int32) * a1) + a3).toNatClampNeg) (((s 72 (((4 : Int32) * a1) + a3).toNatClampNeg) * (s 92 a2.toNatClampNeg)) / (s 69 37)) X hC hR hN FU (s 72 (((4 : Int32) * a1) + a3).toNatClampNeg) (0 : Int32) _
    · refine zr_iload (pc := 47) 0 hC dX12_partOf_47 rfl ?_
      exact zr_iret (pc := 49) hC hR dX12_partOf_49
def fX12_dieNow_L21 (k66 : St → Option (Int32 × St)) (c1 : Int32) (c2 : Int32) (c3 : Int32) : Nat → Int32 → St → Option (Int32 × St)
  | 0, _, _ => none
  | n + 1, v4, s =>
    if inA (0 : Int32) 10 then
    (if (s 71 (0 : Int32).toNatClampNeg) ≤ v4 then
    (k66 s)
  else
    (if v4 = c1 then
    (fX12_dieNow_L21 k66 c1 c2 c3 n (v4 + (1 : Int32)) s)
  else
    (if inA (((4 : Int32) * v4) + c3) 96 then
    (bd (fX12_partOf c1 v4 c3 s) (fun y_3 s_3 =>
    if inA (((4 : Int32) * v4) + c3) 96 then
    (let s_4 := wr s_3 72 (((4 : Int32) * v4) + c3).toNatClampNeg ((s 72 (((4 : Int32) * v4) + c3).toNatClampNeg) + y_3);
    fX12_dieNow_L21 k66 c1 c2 c3 n (v4 + (1 : Int32)) s_4) else none)) else none))) else none
set_option maxRecDepth 100000 in
set_option maxHeartbeats 4000000 in
theorem tX12_dieNow_L21 (c1 : Int32) (c2 : Int32) (c3 : Int32) (k66 : St → Option (Int32 × St)) (X : KX) (hC : Ctx X RX12 cX12_dieNow FULL 9 0) (hR : RC X (some .int)) (hN : X_nL X = 5) (hk66 : ∀ (s : St), Zr X (QFN X (some .int)) 0 s 66 [(0, .ref (X_ad X 69)), (1, .int c1), (2, .int c2), (3, .int c3)] [] (k66 s)) : ∀ (n : Nat) (v4 : Int32) (s : St), Zr X (QFN X (some .int)) 0 s 21 [(0, .ref (X_ad X 69)), (1, .int c1), (2, .int c2), (3, .int c3), (4, .int v4)] [] (fX12_dieNow_L21 k66 c1 c2 c3 n v4 s) := by
  intro n
  induction n with
  | zero =>
    intro v4 s
    exact zr_none
  | succ n ih =>
    intro v4 s
    rw [fX12_dieNow_L21]
    refine zr_iload (pc := 21) 4 hC dX12_dieNow_21 rfl ?_
    refine zr_aload_n (pc := 23) (i := 0) 0 hC dX12_dieNow_23 rfl rfl ?_
    refine zr_getR (pc := 24) (j := 2) (k1 := 71) hC mem_69 lay_69 rfl rfl (Nat.le_of_ble_eq_true rfl) iX12 m_1397 dX12_dieNow_24 ?_
    refine zr_iconst (pc := 27) (v := (0 : Int32)) hC dX12_dieNow_27 ic_0 ?_
    refine zr_iald (pc := 28) hC mem_71 lay_71 dX12_dieNow_28 ?_
    refine zr_icmp_ge (pc := 29) (tgt := 66) hC dX12_dieNow_29 (by decide) (fun c_ => ?_) (fun c_ => ?_)
    · refine zr_sub (ls' := [(0, _), (1, _), (2, _), (3, _)]) [0, 1, 2, 3] rfl ?_
      exact hk66 s
    · refine zr_iload (pc := 32) 4 hC dX12_dieNow_32 rfl ?_
      refine zr_iload_n (pc := 34) (i := 1) 1 hC dX12_dieNow_34 rfl rfl ?_
      refine zr_icmp_eq (pc := 35) (tgt := 60) hC dX12_dieNow_35 (by decide) (fun c_ => ?_) (fun c_ => ?_)
      · refine zr_iinc (pc := 60) (q := 4) (ls' := [(4, _), (0, _), (1, _), (2, _), (3, _)]) hC dX12_dieNow_60 rfl (inc_1 _) (nlt hN (Nat.le_of_ble_eq_true rfl)) rfl ?_
        refine zr_goto (pc := 63) (tgt := 21) hC dX12_dieNow_63 (by decide) ?_
        refine zr_sub (ls' := [(0, _), (1, _), (2, _), (3, _), (4, _)]) [1, 2, 3, 4, 0] rfl ?_
        exact ih (v4 + (1 : Int32)) s
      · refine zr_aload_n (pc := 38) (i := 0) 0 hC dX12_dieNow_38 rfl rfl ?_
        refine zr_getR (pc := 39) (j := 3) (k1 := 72) hC mem_69 lay_69 rfl rfl (Nat.le_of_ble_eq_true rfl) iX12 m_1398 dX12_dieNow_39 ?_
        refine zr_iconst (pc := 42) (v := (4 : Int32)) hC dX12_dieNow_42 ic_4 ?_
        refine zr_iload (pc := 43) 4 hC dX12_dieNow_43 rfl ?_
        refine zr_imul (pc := 45) hC dX12_dieNow_45 ?_
        refine zr_iload_n (pc := 46) (i := 3) 3 hC dX12_dieNow_46 rfl rfl ?_
        refine zr_iadd (pc := 47) hC dX12_dieNow_47 ?_
        refine zr_dup2 (pc := 48) hC dX12_dieNow_48 rfl rfl ?_
        refine zr_iald (pc := 49) hC mem_72 lay_72 dX12_dieNow_49 ?_
        refine zr_aload_n (pc := 50) (i := 0) 0 hC dX12_dieNow_50 rfl rfl ?_
        refine zr_iload_n (pc := 51) (i := 1) 1 hC dX12_dieNow_51 rfl rfl ?_
        refine zr_iload (pc := 52) 4 hC dX12_dieNow_52 rfl ?_
        refine zr_iload_n (pc := 54) (i := 3) 3 hC dX12_dieNow_54 rfl rfl ?_
        refine zr_callV (pc := 55) (As := fun ad => [.int c1, .int v4, .int c3]) (st1 := [.int (s 72 (((4 : Int32) * v4) + c3).toNatClampNeg), .int (((4 : Int32) * v4) + c3), .ref (X_ad X 72)]) hC (Nat.le_of_ble_eq_true rfl) (kX12_partOf _ c1 v4 c3 _) (Nat.le_of_ble_eq_true rfl) mc_yX12_partOf m_1884 m_1886 m_p101 mem_69 lay_69 rfl rfl rfl rfl (Nat.le_of_ble_eq_true rfl) dX12_dieNow_55 (fun y_3 s_3 => ?_)
        refine zr_iadd (pc := 58) hC dX12_dieNow_58 ?_
        refine zr_iast (pc := 59) hC mem_72 lay_72 dX12_dieNow_59 ?_
        refine zr_iinc (pc := 60) (q := 4) (ls' := [(4, _), (0, _), (1, _), (2, _), (3, _)]) hC dX12_dieNow_60 rfl (inc_1 _) (nlt hN (Nat.le_of_ble_eq_true rfl)) rfl ?_
        refine zr_goto (pc := 63) (tgt := 21) hC dX12_dieNow_63 (by decide) ?_
        refine zr_sub (ls' := [(0, _), (1, _), (2, _), (3, _), (4, _)]) [1, 2, 3, 4, 0] rfl ?_
        exact ih (v4 + (1 : Int32)) (wr s_3 72 (((4 : Int32) * v4) + c3).toNatClampNeg ((s 72 (((4 : Int32) * v4) + c3).toNatClampNeg) + y_3))
def fX12_dieNow_L13 (k83 : St → Option (Int32 × St)) (c1 : Int32) (c2 : Int32) : Nat → Int32 → St → Option (Int32 × St)
  | 0, _, _ => none
  | n + 1, v3, s =>
    if (4 : Int32) ≤ v3 then
    (k83 s)
  else
    (fX12_dieNow_L21 (fun s_5 => if inA (((4 : Int32) * c1) + v3) 96 then
    (let s_6 := wr s_5 72 (((4 : Int32) * c1) + v3).toNatClampNeg (0 : Int32);
    fX12_dieNow_L13 k83 c1 c2 n (v3 + (1 : Int32)) s_6) else none) c1 c2 v3 FU (0 : Int32) s)
set_option maxRecDepth 100000 in
set_option maxHeartbeats 4000000 in
theorem tX12_dieNow_L13 (c1 : Int32) (c2 : Int32) (k83 : St → Option (Int32 × St)) (X : KX) (hC : Ctx X RX12 cX12_dieNow FULL 9 0) (hR : RC X (some .int)) (hN : X_nL X = 5) (hk83 : ∀ (s : St), Zr X (QFN X (some .int)) 0 s 83 [(0, .ref (X_ad X 69)), (1, .int c1), (2, .int c2)] [] (k83 s)) : ∀ (n : Nat) (v3 : Int32) (s : St), Zr X (QFN X (some .int)) 0 s 13 [(0, .ref (X_ad X 69)), (1, .int c1), (2, .int c2), (3, .int v3)] [] (fX12_dieNow_L13 k83 c1 c2 n v3 s) := by
  intro n
  induction n with
  | zero =>
    intro v3 s
    exact zr_none
  | succ n ih =>
    intro v3 s
    rw [fX12_dieNow_L13]
    refine zr_iload_n (pc := 13) (i := 3) 3 hC dX12_dieNow_13 rfl rfl ?_
    refine zr_iconst (pc := 14) (v := (4 : Int32)) hC dX12_dieNow_14 ic_4 ?_
    refine zr_icmp_ge (pc := 15) (tgt := 83) hC dX12_dieNow_15 (by decide) (fun c_ => ?_) (fun c_ => ?_)
    · refine zr_sub (ls' := [(0, _), (1, _), (2, _)]) [0, 1, 2] rfl ?_
      exact hk83 s
    · refine zr_iconst (pc := 18) (v := (0 : Int32)) hC dX12_dieNow_18 ic_0 ?_
      refine zr_istore (pc := 19) (ls' := [(4, _), (0, _), (1, _), (2, _), (3, _)]) hC dX12_dieNow_19 (nlt hN (Nat.le_of_ble_eq_true rfl)) rfl ?_
      refine zr_sub (ls' := [(0, _), (1, _), (2, _), (3, _), (4, _)]) [1, 2, 3, 4, 0] rfl ?_
      refine tX12_dieNow_L21 c1 c2 v3 _ X hC hR hN (fun s_5 => ?_) FU (0 : Int32) _
      · refine zr_aload_n (pc := 66) (i := 0) 0 hC dX12_dieNow_66 rfl rfl ?_
        refine zr_getR (pc := 67) (j := 3) (k1 := 72) hC mem_69 lay_69 rfl rfl (Nat.le_of_ble_eq_true rfl) iX12 m_1398 dX12_dieNow_67 ?_
        refine zr_iconst (pc := 70) (v := (4 : Int32)) hC dX12_dieNow_70 ic_4 ?_
        refine zr_iload_n (pc := 71) (i := 1) 1 hC dX12_dieNow_71 rfl rfl ?_
        refine zr_imul (pc := 72) hC dX12_dieNow_72 ?_
        refine zr_iload_n (pc := 73) (i := 3) 3 hC dX12_dieNow_73 rfl rfl ?_
        refine zr_iadd (pc := 74) hC dX12_dieNow_74 ?_
        refine zr_iconst (pc := 75) (v := (0 : Int32)) hC dX12_dieNow_75 ic_0 ?_
        refine zr_iast (pc := 76) hC mem_72 lay_72 dX12_dieNow_76 ?_
        refine zr_iinc (pc := 77) (q := 3) (ls' := [(3, _), (0, _), (1, _), (2, _)]) hC dX12_dieNow_77 rfl (inc_1 _) (nlt hN (Nat.le_of_ble_eq_true rfl)) rfl ?_
        refine zr_goto (pc := 80) (tgt := 13) hC dX12_dieNow_80 (by decide) ?_
        refine zr_sub (ls' := [(0, _), (1, _), (2, _), (3, _)]) [1, 2, 3, 0] rfl ?_
        exact ih (v3 + (1 : Int32)) (wr s_5 72 (((4 : Int32) * c1) + v3).toNatClampNeg (0 : Int32))
def fX12_dieNow_J102 (v1 : Int32) (v2 : Int32) (s : St) : Option (Int32 × St) :=
  let s_8 := wr s 69 17 ((s 69 17) &&& ((jshl (1 : Int32) v1) ^^^ (-1 : Int32)));
    if inA v1 24 then
    (let s_9 := wr s_8 73 v1.toNatClampNeg (-1 : Int32);
    some (v2, s_9)) else none
set_option maxRecDepth 100000 in
set_option maxHeartbeats 4000000 in
theorem tX12_dieNow_J102 (v1 : Int32) (v2 : Int32) (X : KX) (hC : Ctx X RX12 cX12_dieNow FULL 9 0) (hR : RC X (some .int)) (hN : X_nL X = 5) (s : St) : Zr X (QFN X (some .int)) 0 s 102 [(0, .ref (X_ad X 69)), (1, .int v1), (2, .int v2)] [] (fX12_dieNow_J102 v1 v2 s) := by
  rw [fX12_dieNow_J102]
  refine zr_aload_n (pc := 102) (i := 0) 0 hC dX12_dieNow_102 rfl rfl ?_
  refine zr_dup (pc := 103) hC dX12_dieNow_103 rfl ?_
  refine zr_getI (pc := 104) (j := 17) hC mem_69 lay_69 rfl rfl (Nat.le_of_ble_eq_true rfl) iX12 m_1412 dX12_dieNow_104 ?_
  refine zr_iconst (pc := 107) (v := (1 : Int32)) hC dX12_dieNow_107 ic_1 ?_
  refine zr_iload_n (pc := 108) (i := 1) 1 hC dX12_dieNow_108 rfl rfl ?_
  refine zr_ishl (pc := 109) hC dX12_dieNow_109 ?_
  refine zr_iconst (pc := 110) (v := (-1 : Int32)) hC dX12_dieNow_110 ic_m1 ?_
  refine zr_ixor (pc := 111) hC dX12_dieNow_111 ?_
  refine zr_iand (pc := 112) hC dX12_dieNow_112 ?_
  refine zr_putInt (pc := 113) (j := 17) hC mem_69 lay_69 rfl rfl (Nat.le_of_ble_eq_true rfl) iX12 tyX12_ok nmX12 m_1412 rfl (by decide +kernel) dX12_dieNow_113 ?_
  refine zr_aload_n (pc := 116) (i := 0) 0 hC dX12_dieNow_116 rfl rfl ?_
  refine zr_getR (pc := 117) (j := 4) (k1 := 73) hC mem_69 lay_69 rfl rfl (Nat.le_of_ble_eq_true rfl) iX12 m_1399 dX12_dieNow_117 ?_
  refine zr_iload_n (pc := 120) (i := 1) 1 hC dX12_dieNow_120 rfl rfl ?_
  refine zr_iconst (pc := 121) (v := (-1 : Int32)) hC dX12_dieNow_121 ic_m1 ?_
  refine zr_iast (pc := 122) hC mem_73 lay_73 dX12_dieNow_122 ?_
  refine zr_iload_n (pc := 123) (i := 2) 2 hC dX12_dieNow_123 rfl rfl ?_
  exact zr_iret (pc := 124) hC hR dX12_dieNow_124
def fX12_dieNow (a1 : Int32) (s : St) : Option (Int32 × St) :=
  bd (fX12_tellShares a1 (1 : Int32) s) (fun y_1 s_1 =>
    bd (fX12_heirs s_1) (fun y_2 s_2 =>
    fX12_dieNow_L13 (fun s_7 => if y_2 = 0 then
    (if inA a1 24 then
    (if inA (s_7 73 a1.toNatClampNeg) 10 then
    (if inA (s_7 73 a1.toNatClampNeg) 10 then
    (let s_10 := wr s_7 88 (s_7 73 a1.toNatClampNeg).toNatClampNeg ((s_7 88 (s_7 73 a1.toNatClampNeg).toNatClampNeg) + (1 : Int32));
    fX12_dieNow_J102 a1 y_2 s_10) else none) else none) else none)
  else
    (fX12_dieNow_J102 a1 y_2 s_7)) a1 y_2 FU (0 : Int32) s_2))
set_option maxRecDepth 100000 in
set_option maxHeartbeats 4000000 in
theorem kX12_dieNow (l : Launch)  (a1 : Int32) (s : St) : CN l yX12_dieNow cX12_dieNow 5 (some .int) 9 FULL (fun ad => [.ref (ad 69), .int a1]) s (fX12_dieNow a1 s) := by
  refine cn_of (by decide) (fun _ => (Nat.le_of_ble_eq_true rfl)) (fun X hC hR hl hN => ?_)
  subst hl
  show Zr X (QFN X (some .int)) 0 s 0 [(0, .ref (X_ad X 69)), (1, .int a1)] [] _
  rw [fX12_dieNow]
  refine zr_aload_n (pc := 0) (i := 0) 0 hC dX12_dieNow_0 rfl rfl ?_
  refine zr_iload_n (pc := 1) (i := 1) 1 hC dX12_dieNow_1 rfl rfl ?_
  refine zr_iconst (pc := 2) (v := (1 : Int32)) hC dX12_dieNow_2 ic_1 ?_
  refine zr_callVv (pc := 3) (As := fun ad => [.int a1, .int (1 : Int32)]) (st1 := []) hC (Nat.le_of_ble_eq_true rfl) (kX12_tellShares _ a1 (1 : Int32) _) (Nat.le_of_ble_eq_true rfl) mc_yX12_tellShares m_1860 m_1862 m_p96 mem_69 lay_69 rfl rfl rfl rfl (Nat.le_of_ble_eq_true rfl) dX12_dieNow_3 (fun y_1 s_1 => ?_)
  refine zr_aload_n (pc := 6) (i := 0) 0 hC dX12_dieNow_6 rfl rfl ?_
  refine zr_callV (pc := 7) (As := fun ad => []) (st1 := []) hC (Nat.le_of_ble_eq_true rfl) (kX12_heirs _  _) (Nat.le_of_ble_eq_true rfl) mc_yX12_heirs m_1880 m_1882 m_p100 mem_69 lay_69 rfl rfl rfl rfl (Nat.le_of_ble_eq_true rfl) dX12_dieNow_7 (fun y_2 s_2 => ?_)
  refine zr_istore_n (pc := 10) (i := 2) (ls' := [(2, _), (0, _), (1, _)]) hC dX12_dieNow_10 rfl (nlt hN (Nat.le_of_ble_eq_true rfl)) rfl ?_
  refine zr_iconst (pc := 11) (v := (0 : Int32)) hC dX12_dieNow_11 ic_0 ?_
  refine zr_istore_n (pc := 12) (i := 3) (ls' := [(3, _), (2, _), (0, _), (1, _)]) hC dX12_dieNow_12 rfl (nlt hN (Nat.le_of_ble_eq_true rfl)) rfl ?_
  refine zr_sub (ls' := [(0, _), (1, _), (2, _), (3, _)]) [2, 3, 1, 0] rfl ?_
  refine tX12_dieNow_L13 a1 y_2 _ X hC hR hN (fun s_7 => ?_) FU (0 : Int32) _
  · refine zr_iload_n (pc := 83) (i := 2) 2 hC dX12_dieNow_83 rfl rfl ?_
    refine zr_if_ne (pc := 84) (tgt := 102) hC dX12_dieNow_84 (by decide) (fun c_ => ?_) (fun c_ => ?_)
    · refine zr_aload_n (pc := 87) (i := 0) 0 hC dX12_dieNow_87 rfl rfl ?_
      refine zr_getR (pc := 88) (j := 30) (k1 := 88) hC mem_69 lay_69 rfl rfl (Nat.le_of_ble_eq_true rfl) iX12 m_1425 dX12_dieNow_88 ?_
      refine zr_aload_n (pc := 91) (i := 0) 0 hC dX12_dieNow_91 rfl rfl ?_
      refine zr_getR (pc := 92) (j := 4) (k1 := 73) hC mem_69 lay_69 rfl rfl (Nat.le_of_ble_eq_true rfl) iX12 m_1399 dX12_dieNow_92 ?_
      refine zr_iload_n (pc := 95) (i := 1) 1 hC dX12_dieNow_95 rfl rfl ?_
      refine zr_iald (pc := 96) hC mem_73 lay_73 dX12_dieNow_96 ?_
      refine zr_dup2 (pc := 97) hC dX12_dieNow_97 rfl rfl ?_
      refine zr_iald (pc := 98) hC mem_88 lay_88 dX12_dieNow_98 ?_
      refine zr_iconst (pc := 99) (v := (1 : Int32)) hC dX12_dieNow_99 ic_1 ?_
      refine zr_iadd (pc := 100) hC dX12_dieNow_100 ?_
      refine zr_iast (pc := 101) hC mem_88 lay_88 dX12_dieNow_101 ?_
      exact tX12_dieNow_J102 a1 y_2 X hC hR hN  _
    · exact tX12_dieNow_J102 a1 y_2 X hC hR hN  _
def fX12_die (a1 : Int32) (s : St) : Option (Int32 × St) :=
  let s_1 := wr s 69 1 (0 : Int32);
    bd (fX12_isPerson a1 s_1) (fun y_2 s_2 =>
    if y_2 = 0 then
    (bd (fX12_fail (1 : Int32) s_2) (fun y_7 s_7 =>
    some (y_7, s_7)))
  else
    (bd (fX12_isAlive a1 s_2) (fun y_3 s_3 =>
    if y_3 = 0 then
    (bd (fX12_refuse (1 : Int32) s_3) (fun y_6 s_6 =>
    some (y_6, s_6)))
  else
    (bd (fX12_keep s_3) (fun y_4 s_4 =>
    bd (fX12_dieNow a1 s_4) (fun y_5 s_5 =>
    some (y_5, s_5)))))))
set_option maxRecDepth 100000 in
set_option maxHeartbeats 4000000 in
theorem kX12_die (l : Launch)  (a1 : Int32) (s : St) : CN l yX12_die cX12_die 2 (some .int) 10 FULL (fun ad => [.ref (ad 69), .int a1]) s (fX12_die a1 s) := by
  refine cn_of (by decide) (fun _ => (Nat.le_of_ble_eq_true rfl)) (fun X hC hR hl hN => ?_)
  subst hl
  show Zr X (QFN X (some .int)) 0 s 0 [(0, .ref (X_ad X 69)), (1, .int a1)] [] _
  rw [fX12_die]
  refine zr_aload_n (pc := 0) (i := 0) 0 hC dX12_die_0 rfl rfl ?_
  refine zr_iconst (pc := 1) (v := (0 : Int32)) hC dX12_die_1 ic_0 ?_
  refine zr_putInt (pc := 2) (j := 1) hC mem_69 lay_69 rfl rfl (Nat.le_of_ble_eq_true rfl) iX12 tyX12_ok nmX12 m_1396 rfl (by decide +kernel) dX12_die_2 ?_
  refine zr_aload_n (pc := 5) (i := 0) 0 hC dX12_die_5 rfl rfl ?_
  refine zr_iload_n (pc := 6) (i := 1) 1 hC dX12_die_6 rfl rfl ?_
  refine zr_callV (pc := 7) (As := fun ad => [.int a1]) (st1 := []) hC (Nat.le_of_ble_eq_true rfl) (kX12_isPerson _ a1 _) (Nat.le_of_ble_eq_true rfl) mc_yX12_isPerson m_1762 m_1764 m_p82 mem_69 lay_69 rfl rfl rfl rfl (Nat.le_of_ble_eq_true rfl) dX12_die_7 (fun y_2 s_2 => ?_)
  refine zr_if_ne (pc := 10) (tgt := 19) hC dX12_die_10 (by decide) (fun c_ => ?_) (fun c_ => ?_)
  · refine zr_aload_n (pc := 13) (i := 0) 0 hC dX12_die_13 rfl rfl ?_
    refine zr_iconst (pc := 14) (v := (1 : Int32)) hC dX12_die_14 ic_1 ?_
    refine zr_callV (pc := 15) (As := fun ad => [.int (1 : Int32)]) (st1 := []) hC (Nat.le_of_ble_eq_true rfl) (kX12_fail _ (1 : Int32) _) (Nat.le_of_ble_eq_true rfl) mc_yX12_fail m_1606 m_1608 m_p53 mem_69 lay_69 rfl rfl rfl rfl (Nat.le_of_ble_eq_true rfl) dX12_die_15 (fun y_7 s_7 => ?_)
    exact zr_iret (pc := 18) hC hR dX12_die_18
  · refine zr_aload_n (pc := 19) (i := 0) 0 hC dX12_die_19 rfl rfl ?_
    refine zr_iload_n (pc := 20) (i := 1) 1 hC dX12_die_20 rfl rfl ?_
    refine zr_callV (pc := 21) (As := fun ad => [.int a1]) (st1 := []) hC (Nat.le_of_ble_eq_true rfl) (kX12_isAlive _ a1 _) (Nat.le_of_ble_eq_true rfl) mc_yX12_isAlive m_1769 m_1771 m_p83 mem_69 lay_69 rfl rfl rfl rfl (Nat.le_of_ble_eq_true rfl) dX12_die_21 (fun y_3 s_3 => ?_)
    refine zr_if_ne (pc := 24) (tgt := 33) hC dX12_die_24 (by decide) (fun c_ => ?_) (fun c_ => ?_)
    · refine zr_aload_n (pc := 27) (i := 0) 0 hC dX12_die_27 rfl rfl ?_
      refine zr_iconst (pc := 28) (v := (1 : Int32)) hC dX12_die_28 ic_1 ?_
      refine zr_callV (pc := 29) (As := fun ad => [.int (1 : Int32)]) (st1 := []) hC (Nat.le_of_ble_eq_true rfl) (kX12_refuse _ (1 : Int32) _) (Nat.le_of_ble_eq_true rfl) mc_yX12_refuse m_1828 m_1830 m_p90 mem_69 lay_69 rfl rfl rfl rfl (Nat.le_of_ble_eq_true rfl) dX12_die_29 (fun y_6 s_6 => ?_)
      exact zr_iret (pc := 32) hC hR dX12_die_32
    · refine zr_aload_n (pc := 33) (i := 0) 0 hC dX12_die_33 rfl rfl ?_
      refine zr_callVv (pc := 34) (As := fun ad => []) (st1 := []) hC (Nat.le_of_ble_eq_true rfl) (kX12_keep _  _) (Nat.le_of_ble_eq_true rfl) mc_yX12_keep m_1832 m_1834 m_p91 mem_69 lay_69 rfl rfl rfl rfl (Nat.le_of_ble_eq_true rfl) dX12_die_34 (fun y_4 s_4 => ?_)
      refine zr_aload_n (pc := 37) (i := 0) 0 hC dX12_die_37 rfl rfl ?_
      refine zr_iload_n (pc := 38) (i := 1) 1 hC dX12_die_38 rfl rfl ?_
      refine zr_callV (pc := 39) (As := fun ad => [.int a1]) (st1 := []) hC (Nat.le_of_ble_eq_true rfl) (kX12_dieNow _ a1 _) (Nat.le_of_ble_eq_true rfl) mc_yX12_dieNow m_1856 m_1858 m_p95 mem_69 lay_69 rfl rfl rfl rfl (Nat.le_of_ble_eq_true rfl) dX12_die_39 (fun y_5 s_5 => ?_)
      exact zr_iret (pc := 42) hC hR dX12_die_42
def fX12_pawn (a1 : Int32) (a2 : Int32) (a3 : Int32) (a4 : Int32) (s : St) : Option (Int32 × St) :=
  let s_1 := wr s 69 1 (0 : Int32);
    bd (fX12_isPerson a1 s_1) (fun y_2 s_2 =>
    if y_2 = 0 then
    (bd (fX12_fail (1 : Int32) s_2) (fun y_3 s_3 =>
    some (y_3, s_3)))
  else
    (bd (fX12_isPerson a2 s_2) (fun y_4 s_4 =>
    if y_4 = 0 then
    (bd (fX12_fail (1 : Int32) s_4) (fun y_5 s_5 =>
    some (y_5, s_5)))
  else
    (bd (fX12_isPart a3 s_4) (fun y_6 s_6 =>
    if y_6 = 0 then
    (bd (fX12_fail (1 : Int32) s_6) (fun y_17 s_17 =>
    some (y_17, s_17)))
  else
    (if a1 = a2 then
    (bd (fX12_refuse (1 : Int32) s_6) (fun y_7 s_7 =>
    some (y_7, s_7)))
  else
    (bd (fX12_isAlive a1 s_6) (fun y_8 s_8 =>
    if y_8 = 0 then
    (bd (fX12_refuse (1 : Int32) s_8) (fun y_9 s_9 =>
    some (y_9, s_9)))
  else
    (bd (fX12_isAlive a2 s_8) (fun y_10 s_10 =>
    if y_10 = 0 then
    (bd (fX12_refuse (1 : Int32) s_10) (fun y_11 s_11 =>
    some (y_11, s_11)))
  else
    (if a4 < (1 : Int32) then
    (bd (fX12_refuse (1 : Int32) s_10) (fun y_12 s_12 =>
    some (y_12, s_12)))
  else
    (if inA (((4 : Int32) * a1) + a3) 96 then
    (if a4 ≤ (s_10 72 (((4 : Int32) * a1) + a3).toNatClampNeg) then
    (bd (fX12_keep s_10) (fun y_13 s_13 =>
    if inA (((4 : Int32) * a1) + a3) 96 then
    (if inA (((4 : Int32) * a1) + a3) 96 then
    (let s_14 := wr s_13 72 (((4 : Int32) * a1) + a3).toNatClampNeg ((s_13 72 (((4 : Int32) * a1) + a3).toNatClampNeg) - a4);
    if inA (((4 : Int32) * a2) + a3) 96 then
    (if inA (((4 : Int32) * a2) + a3) 96 then
    (let s_15 := wr s_14 72 (((4 : Int32) * a2) + a3).toNatClampNeg ((s_14 72 (((4 : Int32) * a2) + a3).toNatClampNeg) + a4);
    if inA (((4 : Int32) * a2) + a3) 96 then
    (some ((s_15 72 (((4 : Int32) * a2) + a3).toNatClampNeg), s_15)) else none) else none) else none) else none) else none))
  else
    (bd (fX12_refuse (1 : Int32) s_10) (fun y_16 s_16 =>
    some (y_16, s_16)))) else none))))))))))))
set_option maxRecDepth 100000 in
set_option maxHeartbeats 4000000 in
theorem kX12_pawn (l : Launch)  (a1 : Int32) (a2 : Int32) (a3 : Int32) (a4 : Int32) (s : St) : CN l yX12_pawn cX12_pawn 5 (some .int) 3 FULL (fun ad => [.ref (ad 69), .int a1, .int a2, .int a3, .int a4]) s (fX12_pawn a1 a2 a3 a4 s) := by
  refine cn_of (by decide) (fun _ => (Nat.le_of_ble_eq_true rfl)) (fun X hC hR hl hN => ?_)
  subst hl
  show Zr X (QFN X (some .int)) 0 s 0 [(0, .ref (X_ad X 69)), (1, .int a1), (2, .int a2), (3, .int a3), (4, .int a4)] [] _
  rw [fX12_pawn]
  refine zr_aload_n (pc := 0) (i := 0) 0 hC dX12_pawn_0 rfl rfl ?_
  refine zr_iconst (pc := 1) (v := (0 : Int32)) hC dX12_pawn_1 ic_0 ?_
  refine zr_putInt (pc := 2) (j := 1) hC mem_69 lay_69 rfl rfl (Nat.le_of_ble_eq_true rfl) iX12 tyX12_ok nmX12 m_1396 rfl (by decide +kernel) dX12_pawn_2 ?_
  refine zr_aload_n (pc := 5) (i := 0) 0 hC dX12_pawn_5 rfl rfl ?_
  refine zr_iload_n (pc := 6) (i := 1) 1 hC dX12_pawn_6 rfl rfl ?_
  refine zr_callV (pc := 7) (As := fun ad => [.int a1]) (st1 := []) hC (Nat.le_of_ble_eq_true rfl) (kX12_isPerson _ a1 _) (Nat.le_of_ble_eq_true rfl) mc_yX12_isPerson m_1762 m_1764 m_p82 mem_69 lay_69 rfl rfl rfl rfl (Nat.le_of_ble_eq_true rfl) dX12_pawn_7 (fun y_2 s_2 => ?_)
  refine zr_if_eq (pc := 10) (tgt := 28) hC dX12_pawn_10 (by decide) (fun c_ => ?_) (fun c_ => ?_)
  · refine zr_aload_n (pc := 28) (i := 0) 0 hC dX12_pawn_28 rfl rfl ?_
    refine zr_iconst (pc := 29) (v := (1 : Int32)) hC dX12_pawn_29 ic_1 ?_
    refine zr_callV (pc := 30) (As := fun ad => [.int (1 : Int32)]) (st1 := []) hC (Nat.le_of_ble_eq_true rfl) (kX12_fail _ (1 : Int32) _) (Nat.le_of_ble_eq_true rfl) mc_yX12_fail m_1606 m_1608 m_p53 mem_69 lay_69 rfl rfl rfl rfl (Nat.le_of_ble_eq_true rfl) dX12_pawn_30 (fun y_3 s_3 => ?_)
    exact zr_iret (pc := 33) hC hR dX12_pawn_33
  · refine zr_aload_n (pc := 13) (i := 0) 0 hC dX12_pawn_13 rfl rfl ?_
    refine zr_iload_n (pc := 14) (i := 2) 2 hC dX12_pawn_14 rfl rfl ?_
    refine zr_callV (pc := 15) (As := fun ad => [.int a2]) (st1 := []) hC (Nat.le_of_ble_eq_true rfl) (kX12_isPerson _ a2 _) (Nat.le_of_ble_eq_true rfl) mc_yX12_isPerson m_1762 m_1764 m_p82 mem_69 lay_69 rfl rfl rfl rfl (Nat.le_of_ble_eq_true rfl) dX12_pawn_15 (fun y_4 s_4 => ?_)
    refine zr_if_eq (pc := 18) (tgt := 28) hC dX12_pawn_18 (by decide) (fun c_ => ?_) (fun c_ => ?_)
    · refine zr_aload_n (pc := 28) (i := 0) 0 hC dX12_pawn_28 rfl rfl ?_
      refine zr_iconst (pc := 29) (v := (1 : Int32)) hC dX12_pawn_29 ic_1 ?_
      refine zr_callV (pc := 30) (As := fun ad => [.int (1 : Int32)]) (st1 := []) hC (Nat.le_of_ble_eq_true rfl) (kX12_fail _ (1 : Int32) _) (Nat.le_of_ble_eq_true rfl) mc_yX12_fail m_1606 m_1608 m_p53 mem_69 lay_69 rfl rfl rfl rfl (Nat.le_of_ble_eq_true rfl) dX12_pawn_30 (fun y_5 s_5 => ?_)
      exact zr_iret (pc := 33) hC hR dX12_pawn_33
    · refine zr_iload_n (pc := 21) (i := 3) 3 hC dX12_pawn_21 rfl rfl ?_
      refine zr_callS (pc := 22) (As := fun ad => [.int a3]) (st1 := []) hC (Nat.le_of_ble_eq_true rfl) (kX12_isPart _ a3 _) (Nat.le_of_ble_eq_true rfl) mc_yX12_isPart m_1777 m_1778 rfl rfl rfl (Nat.le_of_ble_eq_true rfl) dX12_pawn_22 (fun y_6 s_6 => ?_)
      refine zr_if_ne (pc := 25) (tgt := 34) hC dX12_pawn_25 (by decide) (fun c_ => ?_) (fun c_ => ?_)
      · refine zr_aload_n (pc := 28) (i := 0) 0 hC dX12_pawn_28 rfl rfl ?_
        refine zr_iconst (pc := 29) (v := (1 : Int32)) hC dX12_pawn_29 ic_1 ?_
        refine zr_callV (pc := 30) (As := fun ad => [.int (1 : Int32)]) (st1 := []) hC (Nat.le_of_ble_eq_true rfl) (kX12_fail _ (1 : Int32) _) (Nat.le_of_ble_eq_true rfl) mc_yX12_fail m_1606 m_1608 m_p53 mem_69 lay_69 rfl rfl rfl rfl (Nat.le_of_ble_eq_true rfl) dX12_pawn_30 (fun y_17 s_17 => ?_)
        exact zr_iret (pc := 33) hC hR dX12_pawn_33
      · refine zr_iload_n (pc := 34) (i := 1) 1 hC dX12_pawn_34 rfl rfl ?_
        refine zr_iload_n (pc := 35) (i := 2) 2 hC dX12_pawn_35 rfl rfl ?_
        refine zr_icmp_eq (pc := 36) (tgt := 76) hC dX12_pawn_36 (by decide) (fun c_ => ?_) (fun c_ => ?_)
        · refine zr_aload_n (pc := 76) (i := 0) 0 hC dX12_pawn_76 rfl rfl ?_
          refine zr_iconst (pc := 77) (v := (1 : Int32)) hC dX12_pawn_77 ic_1 ?_
          refine zr_callV (pc := 78) (As := fun ad => [.int (1 : Int32)]) (st1 := []) hC (Nat.le_of_ble_eq_true rfl) (kX12_refuse _ (1 : Int32) _) (Nat.le_of_ble_eq_true rfl) mc_yX12_refuse m_1828 m_1830 m_p90 mem_69 lay_69 rfl rfl rfl rfl (Nat.le_of_ble_eq_true rfl) dX12_pawn_78 (fun y_7 s_7 => ?_)
          exact zr_iret (pc := 81) hC hR dX12_pawn_81
        · refine zr_aload_n (pc := 39) (i := 0) 0 hC dX12_pawn_39 rfl rfl ?_
          refine zr_iload_n (pc := 40) (i := 1) 1 hC dX12_pawn_40 rfl rfl ?_
          refine zr_callV (pc := 41) (As := fun ad => [.int a1]) (st1 := []) hC (Nat.le_of_ble_eq_true rfl) (kX12_isAlive _ a1 _) (Nat.le_of_ble_eq_true rfl) mc_yX12_isAlive m_1769 m_1771 m_p83 mem_69 lay_69 rfl rfl rfl rfl (Nat.le_of_ble_eq_true rfl) dX12_pawn_41 (fun y_8 s_8 => ?_)
          refine zr_if_eq (pc := 44) (tgt := 76) hC dX12_pawn_44 (by decide) (fun c_ => ?_) (fun c_ => ?_)
          · refine zr_aload_n (pc := 76) (i := 0) 0 hC dX12_pawn_76 rfl rfl ?_
            refine zr_iconst (pc := 77) (v := (1 : Int32)) hC dX12_pawn_77 ic_1 ?_
            refine zr_callV (pc := 78) (As := fun ad => [.int (1 : Int32)]) (st1 := []) hC (Nat.le_of_ble_eq_true rfl) (kX12_refuse _ (1 : Int32) _) (Nat.le_of_ble_eq_true rfl) mc_yX12_refuse m_1828 m_1830 m_p90 mem_69 lay_69 rfl rfl rfl rfl (Nat.le_of_ble_eq_true rfl) dX12_pawn_78 (fun y_9 s_9 => ?_)
            exact zr_iret (pc := 81) hC hR dX12_pawn_81
          · refine zr_aload_n (pc := 47) (i := 0) 0 hC dX12_pawn_47 rfl rfl ?_
            refine zr_iload_n (pc := 48) (i := 2) 2 hC dX12_pawn_48 rfl rfl ?_
            refine zr_callV (pc := 49) (As := fun ad => [.int a2]) (st1 := []) hC (Nat.le_of_ble_eq_true rfl) (kX12_isAlive _ a2 _) (Nat.le_of_ble_eq_true rfl) mc_yX12_isAlive m_1769 m_1771 m_p83 mem_69 lay_69 rfl rfl rfl rfl (Nat.le_of_ble_eq_true rfl) dX12_pawn_49 (fun y_10 s_10 => ?_)
            refine zr_if_eq (pc := 52) (tgt := 76) hC dX12_pawn_52 (by decide) (fun c_ => ?_) (fun c_ => ?_)
            · refine zr_aload_n (pc := 76) (i := 0) 0 hC dX12_pawn_76 rfl rfl ?_
              refine zr_iconst (pc := 77) (v := (1 : Int32)) hC dX12_pawn_77 ic_1 ?_
              refine zr_callV (pc := 78) (As := fun ad => [.int (1 : Int32)]) (st1 := []) hC (Nat.le_of_ble_eq_true rfl) (kX12_refuse _ (1 : Int32) _) (Nat.le_of_ble_eq_true rfl) mc_yX12_refuse m_1828 m_1830 m_p90 mem_69 lay_69 rfl rfl rfl rfl (Nat.le_of_ble_eq_true rfl) dX12_pawn_78 (fun y_11 s_11 => ?_)
              exact zr_iret (pc := 81) hC hR dX12_pawn_81
            · refine zr_iload (pc := 55) 4 hC dX12_pawn_55 rfl ?_
              refine zr_iconst (pc := 57) (v := (1 : Int32)) hC dX12_pawn_57 ic_1 ?_
              refine zr_icmp_lt (pc := 58) (tgt := 76) hC dX12_pawn_58 (by decide) (fun c_ => ?_) (fun c_ => ?_)
              · refine zr_aload_n (pc := 76) (i := 0) 0 hC dX12_pawn_76 rfl rfl ?_
                refine zr_iconst (pc := 77) (v := (1 : Int32)) hC dX12_pawn_77 ic_1 ?_
                refine zr_callV (pc := 78) (As := fun ad => [.int (1 : Int32)]) (st1 := []) hC (Nat.le_of_ble_eq_true rfl) (kX12_refuse _ (1 : Int32) _) (Nat.le_of_ble_eq_true rfl) mc_yX12_refuse m_1828 m_1830 m_p90 mem_69 lay_69 rfl rfl rfl rfl (Nat.le_of_ble_eq_true rfl) dX12_pawn_78 (fun y_12 s_12 => ?_)
                exact zr_iret (pc := 81) hC hR dX12_pawn_81
              · refine zr_iload (pc := 61) 4 hC dX12_pawn_61 rfl ?_
                refine zr_aload_n (pc := 63) (i := 0) 0 hC dX12_pawn_63 rfl rfl ?_
                refine zr_getR (pc := 64) (j := 3) (k1 := 72) hC mem_69 lay_69 rfl rfl (Nat.le_of_ble_eq_true rfl) iX12 m_1398 dX12_pawn_64 ?_
                refine zr_iconst (pc := 67) (v := (4 : Int32)) hC dX12_pawn_67 ic_4 ?_
                refine zr_iload_n (pc := 68) (i := 1) 1 hC dX12_pawn_68 rfl rfl ?_
                refine zr_imul (pc := 69) hC dX12_pawn_69 ?_
                refine zr_iload_n (pc := 70) (i := 3) 3 hC dX12_pawn_70 rfl rfl ?_
                refine zr_iadd (pc := 71) hC dX12_pawn_71 ?_
                refine zr_iald (pc := 72) hC mem_72 lay_72 dX12_pawn_72 ?_
                refine zr_icmp_le (pc := 73) (tgt := 82) hC dX12_pawn_73 (by decide) (fun c_ => ?_) (fun c_ => ?_)
                · refine zr_aload_n (pc := 82) (i := 0) 0 hC dX12_pawn_82 rfl rfl ?_
                  refine zr_callVv (pc := 83) (As := fun ad => []) (st1 := []) hC (Nat.le_of_ble_eq_true rfl) (kX12_keep _  _) (Nat.le_of_ble_eq_true rfl) mc_yX12_keep m_1832 m_1834 m_p91 mem_69 lay_69 rfl rfl rfl rfl (Nat.le_of_ble_eq_true rfl) dX12_pawn_83 (fun y_13 s_13 => ?_)
                  refine zr_aload_n (pc := 86) (i := 0) 0 hC dX12_pawn_86 rfl rfl ?_
                  refine zr_getR (pc := 87) (j := 3) (k1 := 72) hC mem_69 lay_69 rfl rfl (Nat.le_of_ble_eq_true rfl) iX12 m_1398 dX12_pawn_87 ?_
                  refine zr_iconst (pc := 90) (v := (4 : Int32)) hC dX12_pawn_90 ic_4 ?_
                  refine zr_iload_n (pc := 91) (i := 1) 1 hC dX12_pawn_91 rfl rfl ?_
                  refine zr_imul (pc := 92) hC dX12_pawn_92 ?_
                  refine zr_iload_n (pc := 93) (i := 3) 3 hC dX12_pawn_93 rfl rfl ?_
                  refine zr_iadd (pc := 94) hC dX12_pawn_94 ?_
                  refine zr_dup2 (pc := 95) hC dX12_pawn_95 rfl rfl ?_
                  refine zr_iald (pc := 96) hC mem_72 lay_72 dX12_pawn_96 ?_
                  refine zr_iload (pc := 97) 4 hC dX12_pawn_97 rfl ?_
                  refine zr_isub (pc := 99) hC dX12_pawn_99 ?_
                  refine zr_iast (pc := 100) hC mem_72 lay_72 dX12_pawn_100 ?_
                  refine zr_aload_n (pc := 101) (i := 0) 0 hC dX12_pawn_101 rfl rfl ?_
                  refine zr_getR (pc := 102) (j := 3) (k1 := 72) hC mem_69 lay_69 rfl rfl (Nat.le_of_ble_eq_true rfl) iX12 m_1398 dX12_pawn_102 ?_
                  refine zr_iconst (pc := 105) (v := (4 : Int32)) hC dX12_pawn_105 ic_4 ?_
                  refine zr_iload_n (pc := 106) (i := 2) 2 hC dX12_pawn_106 rfl rfl ?_
                  refine zr_imul (pc := 107) hC dX12_pawn_107 ?_
                  refine zr_iload_n (pc := 108) (i := 3) 3 hC dX12_pawn_108 rfl rfl ?_
                  refine zr_iadd (pc := 109) hC dX12_pawn_109 ?_
                  refine zr_dup2 (pc := 110) hC dX12_pawn_110 rfl rfl ?_
                  refine zr_iald (pc := 111) hC mem_72 lay_72 dX12_pawn_111 ?_
                  refine zr_iload (pc := 112) 4 hC dX12_pawn_112 rfl ?_
                  refine zr_iadd (pc := 114) hC dX12_pawn_114 ?_
                  refine zr_iast (pc := 115) hC mem_72 lay_72 dX12_pawn_115 ?_
                  refine zr_aload_n (pc := 116) (i := 0) 0 hC dX12_pawn_116 rfl rfl ?_
                  refine zr_getR (pc := 117) (j := 3) (k1 := 72) hC mem_69 lay_69 rfl rfl (Nat.le_of_ble_eq_true rfl) iX12 m_1398 dX12_pawn_117 ?_
                  refine zr_iconst (pc := 120) (v := (4 : Int32)) hC dX12_pawn_120 ic_4 ?_
                  refine zr_iload_n (pc := 121) (i := 2) 2 hC dX12_pawn_121 rfl rfl ?_
                  refine zr_imul (pc := 122) hC dX12_pawn_122 ?_
                  refine zr_iload_n (pc := 123) (i := 3) 3 hC dX12_pawn_123 rfl rfl ?_
                  refine zr_iadd (pc := 124) hC dX12_pawn_124 ?_
                  refine zr_iald (pc := 125) hC mem_72 lay_72 dX12_pawn_125 ?_
                  exact zr_iret (pc := 126) hC hR dX12_pawn_126
                · refine zr_aload_n (pc := 76) (i := 0) 0 hC dX12_pawn_76 rfl rfl ?_
                  refine zr_iconst (pc := 77) (v := (1 : Int32)) hC dX12_pawn_77 ic_1 ?_
                  refine zr_callV (pc := 78) (As := fun ad => [.int (1 : Int32)]) (st1 := []) hC (Nat.le_of_ble_eq_true rfl) (kX12_refuse _ (1 : Int32) _) (Nat.le_of_ble_eq_true rfl) mc_yX12_refuse m_1828 m_1830 m_p90 mem_69 lay_69 rfl rfl rfl rfl (Nat.le_of_ble_eq_true rfl) dX12_pawn_78 (fun y_16 s_16 => ?_)
                  exact zr_iret (pc := 81) hC hR dX12_pawn_81
def fX12_dayNow_L2 : Nat → Int32 → St → Option (Int32 × St)
  | 0, _, _ => none
  | n + 1, v1, s =>
    if inA (2 : Int32) 10 then
    (if (s 71 (2 : Int32).toNatClampNeg) ≤ v1 then
    (some (0, s))
  else
    (if inA ((2 : Int32) * v1) 12 then
    (if inA v1 12 then
    (bd (fX12_partAt (s 81 v1.toNatClampNeg) (0 : Int32) s) (fun y_1 s_1 =>
    if inA ((2 : Int32) * v1) 12 then
    (let s_2 := wr s_1 87 ((2 : Int32) * v1).toNatClampNeg (jmin (9999 : Int32) ((s 87 ((2 : Int32) * v1).toNatClampNeg) + y_1));
    if inA (((2 : Int32) * v1) + (1 : Int32)) 12 then
    (if inA v1 12 then
    (bd (fX12_partAt (s_2 81 v1.toNatClampNeg) (1 : Int32) s_2) (fun y_3 s_3 =>
    if inA (((2 : Int32) * v1) + (1 : Int32)) 12 then
    (let s_4 := wr s_3 87 (((2 : Int32) * v1) + (1 : Int32)).toNatClampNeg (jmin (9999 : Int32) ((s_2 87 (((2 : Int32) * v1) + (1 : Int32)).toNatClampNeg) + y_3));
    fX12_dayNow_L2 n (v1 + (1 : Int32)) s_4) else none)) else none) else none) else none)) else none) else none)) else none
set_option maxRecDepth 100000 in
set_option maxHeartbeats 4000000 in
theorem tX12_dayNow_L2 (X : KX) (hC : Ctx X RX12 cX12_dayNow FULL 7 0) (hR : RC X none) (hN : X_nL X = 2) : ∀ (n : Nat) (v1 : Int32) (s : St), Zr X (QFN X none) 0 s 2 [(0, .ref (X_ad X 69)), (1, .int v1)] [] (fX12_dayNow_L2 n v1 s) := by
  intro n
  induction n with
  | zero =>
    intro v1 s
    exact zr_none
  | succ n ih =>
    intro v1 s
    rw [fX12_dayNow_L2]
    refine zr_iload_n (pc := 2) (i := 1) 1 hC dX12_dayNow_2 rfl rfl ?_
    refine zr_aload_n (pc := 3) (i := 0) 0 hC dX12_dayNow_3 rfl rfl ?_
    refine zr_getR (pc := 4) (j := 2) (k1 := 71) hC mem_69 lay_69 rfl rfl (Nat.le_of_ble_eq_true rfl) iX12 m_1397 dX12_dayNow_4 ?_
    refine zr_iconst (pc := 7) (v := (2 : Int32)) hC dX12_dayNow_7 ic_2 ?_
    refine zr_iald (pc := 8) hC mem_71 lay_71 dX12_dayNow_8 ?_
    refine zr_icmp_ge (pc := 9) (tgt := 90) hC dX12_dayNow_9 (by decide) (fun c_ => ?_) (fun c_ => ?_)
    · exact zr_vret (pc := 90) hC hR dX12_dayNow_90
    · refine zr_aload_n (pc := 12) (i := 0) 0 hC dX12_dayNow_12 rfl rfl ?_
      refine zr_getR (pc := 13) (j := 29) (k1 := 87) hC mem_69 lay_69 rfl rfl (Nat.le_of_ble_eq_true rfl) iX12 m_1424 dX12_dayNow_13 ?_
      refine zr_iconst (pc := 16) (v := (2 : Int32)) hC dX12_dayNow_16 ic_2 ?_
      refine zr_iload_n (pc := 17) (i := 1) 1 hC dX12_dayNow_17 rfl rfl ?_
      refine zr_imul (pc := 18) hC dX12_dayNow_18 ?_
      refine zr_sipush (pc := 19) (v := (9999 : Int32)) hC dX12_dayNow_19 si_9999 ?_
      refine zr_aload_n (pc := 22) (i := 0) 0 hC dX12_dayNow_22 rfl rfl ?_
      refine zr_getR (pc := 23) (j := 29) (k1 := 87) hC mem_69 lay_69 rfl rfl (Nat.le_of_ble_eq_true rfl) iX12 m_1424 dX12_dayNow_23 ?_
      refine zr_iconst (pc := 26) (v := (2 : Int32)) hC dX12_dayNow_26 ic_2 ?_
      refine zr_iload_n (pc := 27) (i := 1) 1 hC dX12_dayNow_27 rfl rfl ?_
      refine zr_imul (pc := 28) hC dX12_dayNow_28 ?_
      refine zr_iald (pc := 29) hC mem_87 lay_87 dX12_dayNow_29 ?_
      refine zr_aload_n (pc := 30) (i := 0) 0 hC dX12_dayNow_30 rfl rfl ?_
      refine zr_aload_n (pc := 31) (i := 0) 0 hC dX12_dayNow_31 rfl rfl ?_
      refine zr_getR (pc := 32) (j := 12) (k1 := 81) hC mem_69 lay_69 rfl rfl (Nat.le_of_ble_eq_true rfl) iX12 m_1407 dX12_dayNow_32 ?_
      refine zr_iload_n (pc := 35) (i := 1) 1 hC dX12_dayNow_35 rfl rfl ?_
      refine zr_iald (pc := 36) hC mem_81 lay_81 dX12_dayNow_36 ?_
      refine zr_iconst (pc := 37) (v := (0 : Int32)) hC dX12_dayNow_37 ic_0 ?_
      refine zr_callV (pc := 38) (As := fun ad => [.int (s 81 v1.toNatClampNeg), .int (0 : Int32)]) (st1 := [.int (s 87 ((2 : Int32) * v1).toNatClampNeg), .int (9999 : Int32), .int ((2 : Int32) * v1), .ref (X_ad X 87)]) hC (Nat.le_of_ble_eq_true rfl) (kX12_partAt _ (s 81 v1.toNatClampNeg) (0 : Int32) _) (Nat.le_of_ble_eq_true rfl) mc_yX12_partAt m_1787 m_1789 m_p84 mem_69 lay_69 rfl rfl rfl rfl (Nat.le_of_ble_eq_true rfl) dX12_dayNow_38 (fun y_1 s_1 => ?_)
      refine zr_iadd (pc := 41) hC dX12_dayNow_41 ?_
      refine zr_mmin (pc := 42) hC (Nat.le_of_ble_eq_true rfl) (Nat.le_of_ble_eq_true rfl) m_1625 m_496 m_23 m_497 (Nat.le_of_ble_eq_true rfl) dX12_dayNow_42 ?_
      refine zr_iast (pc := 45) hC mem_87 lay_87 dX12_dayNow_45 ?_
      refine zr_aload_n (pc := 46) (i := 0) 0 hC dX12_dayNow_46 rfl rfl ?_
      refine zr_getR (pc := 47) (j := 29) (k1 := 87) hC mem_69 lay_69 rfl rfl (Nat.le_of_ble_eq_true rfl) iX12 m_1424 dX12_dayNow_47 ?_
      refine zr_iconst (pc := 50) (v := (2 : Int32)) hC dX12_dayNow_50 ic_2 ?_
      refine zr_iload_n (pc := 51) (i := 1) 1 hC dX12_dayNow_51 rfl rfl ?_
      refine zr_imul (pc := 52) hC dX12_dayNow_52 ?_
      refine zr_iconst (pc := 53) (v := (1 : Int32)) hC dX12_dayNow_53 ic_1 ?_
      refine zr_iadd (pc := 54) hC dX12_dayNow_54 ?_
      refine zr_sipush (pc := 55) (v := (9999 : Int32)) hC dX12_dayNow_55 si_9999 ?_
      refine zr_aload_n (pc := 58) (i := 0) 0 hC dX12_dayNow_58 rfl rfl ?_
      refine zr_getR (pc := 59) (j := 29) (k1 := 87) hC mem_69 lay_69 rfl rfl (Nat.le_of_ble_eq_true rfl) iX12 m_1424 dX12_dayNow_59 ?_
      refine zr_iconst (pc := 62) (v := (2 : Int32)) hC dX12_dayNow_62 ic_2 ?_
      refine zr_iload_n (pc := 63) (i := 1) 1 hC dX12_dayNow_63 rfl rfl ?_
      refine zr_imul (pc := 64) hC dX12_dayNow_64 ?_
      refine zr_iconst (pc := 65) (v := (1 : Int32)) hC dX12_dayNow_65 ic_1 ?_
      refine zr_iadd (pc := 66) hC dX12_dayNow_66 ?_
      refine zr_iald (pc := 67) hC mem_87 lay_87 dX12_dayNow_67 ?_
      refine zr_aload_n (pc := 68) (i := 0) 0 hC dX12_dayNow_68 rfl rfl ?_
      refine zr_aload_n (pc := 69) (i := 0) 0 hC dX12_dayNow_69 rfl rfl ?_
      refine zr_getR (pc := 70) (j := 12) (k1 := 81) hC mem_69 lay_69 rfl rfl (Nat.le_of_ble_eq_true rfl) iX12 m_1407 dX12_dayNow_70 ?_
      refine zr_iload_n (pc := 73) (i := 1) 1 hC dX12_dayNow_73 rfl rfl ?_
      refine zr_iald (pc := 74) hC mem_81 lay_81 dX12_dayNow_74 ?_
      refine zr_iconst (pc := 75) (v := (1 : Int32)) hC dX12_dayNow_75 ic_1 ?_
      refine zr_callV (pc := 76) (As := fun ad => [.int ((wr s_1 87 ((2 : Int32) * v1).toNatClampNeg (jmin (9999 : Int32) ((s 87 ((2 : Int32) * v1).toNatClampNeg) + y_1))) 81 v1.toNatClampNeg), .int (1 : Int32)]) (st1 := [.int ((wr s_1 87 ((2 : Int32) * v1).toNatClampNeg (jmin (9999 : Int32) ((s 87 ((2 : Int32) * v1).toNatClampNeg) + y_1))) 87 (((2 : Int32) * v1) + (1 : Int32)).toNatClampNeg), .int (9999 : Int32), .int (((2 : Int32) * v1) + (1 : Int32)), .ref (X_ad X 87)]) hC (Nat.le_of_ble_eq_true rfl) (kX12_partAt _ ((wr s_1 87 ((2 : Int32) * v1).toNatClampNeg (jmin (9999 : Int32) ((s 87 ((2 : Int32) * v1).toNatClampNeg) + y_1))) 81 v1.toNatClampNeg) (1 : Int32) _) (Nat.le_of_ble_eq_true rfl) mc_yX12_partAt m_1787 m_1789 m_p84 mem_69 lay_69 rfl rfl rfl rfl (Nat.le_of_ble_eq_true rfl) dX12_dayNow_76 (fun y_3 s_3 => ?_)
      refine zr_iadd (pc := 79) hC dX12_dayNow_79 ?_
      refine zr_mmin (pc := 80) hC (Nat.le_of_ble_eq_true rfl) (Nat.le_of_ble_eq_true rfl) m_1625 m_496 m_23 m_497 (Nat.le_of_ble_eq_true rfl) dX12_dayNow_80 ?_
      refine zr_iast (pc := 83) hC mem_87 lay_87 dX12_dayNow_83 ?_
      refine zr_iinc (pc := 84) (q := 1) (ls' := [(1, _), (0, _)]) hC dX12_dayNow_84 rfl (inc_1 _) (nlt hN (Nat.le_of_ble_eq_true rfl)) rfl ?_
      refine zr_goto (pc := 87) (tgt := 2) hC dX12_dayNow_87 (by decide) ?_
      refine zr_sub (ls' := [(0, _), (1, _)]) [1, 0] rfl ?_
      exact ih (v1 + (1 : Int32)) (wr s_3 87 (((2 : Int32) * v1) + (1 : Int32)).toNatClampNeg (jmin (9999 : Int32) (((wr s_1 87 ((2 : Int32) * v1).toNatClampNeg (jmin (9999 : Int32) ((s 87 ((2 : Int32) * v1).toNatClampNeg) + y_1))) 87 (((2 : Int32) * v1) + (1 : Int32)).toNatClampNeg) + y_3)))
def fX12_dayNow (s : St) : Option (Int32 × St) :=
  fX12_dayNow_L2 FU (0 : Int32) s
set_option maxRecDepth 100000 in
set_option maxHeartbeats 4000000 in
theorem kX12_dayNow (l : Launch)  (s : St) : CN l yX12_dayNow cX12_dayNow 2 none 7 FULL (fun ad => [.ref (ad 69)]) s (fX12_dayNow s) := by
  refine cn_of (by decide) (fun _ => (Nat.le_of_ble_eq_true rfl)) (fun X hC hR hl hN => ?_)
  subst hl
  show Zr X (QFN X none) 0 s 0 [(0, .ref (X_ad X 69))] [] _
  rw [fX12_dayNow]
  refine zr_iconst (pc := 0) (v := (0 : Int32)) hC dX12_dayNow_0 ic_0 ?_
  refine zr_istore_n (pc := 1) (i := 1) (ls' := [(1, _), (0, _)]) hC dX12_dayNow_1 rfl (nlt hN (Nat.le_of_ble_eq_true rfl)) rfl ?_
  refine zr_sub (ls' := [(0, _), (1, _)]) [1, 0] rfl ?_
  exact tX12_dayNow_L2  X hC hR hN FU (0 : Int32) _
def fX12_days_L29 (k44 : St → Option (Int32 × St)) (c1 : Int32) : Nat → Int32 → St → Option (Int32 × St)
  | 0, _, _ => none
  | n + 1, v2, s =>
    if c1 ≤ v2 then
    (k44 s)
  else
    (bd (fX12_dayNow s) (fun y_4 s_4 =>
    fX12_days_L29 k44 c1 n (v2 + (1 : Int32)) s_4))
set_option maxRecDepth 100000 in
set_option maxHeartbeats 4000000 in
theorem tX12_days_L29 (c1 : Int32) (k44 : St → Option (Int32 × St)) (X : KX) (hC : Ctx X RX12 cX12_days FULL 8 0) (hR : RC X (some .int)) (hN : X_nL X = 3) (hk44 : ∀ (s : St), Zr X (QFN X (some .int)) 0 s 44 [(0, .ref (X_ad X 69))] [] (k44 s)) : ∀ (n : Nat) (v2 : Int32) (s : St), Zr X (QFN X (some .int)) 0 s 29 [(0, .ref (X_ad X 69)), (1, .int c1), (2, .int v2)] [] (fX12_days_L29 k44 c1 n v2 s) := by
  intro n
  induction n with
  | zero =>
    intro v2 s
    exact zr_none
  | succ n ih =>
    intro v2 s
    rw [fX12_days_L29]
    refine zr_iload_n (pc := 29) (i := 2) 2 hC dX12_days_29 rfl rfl ?_
    refine zr_iload_n (pc := 30) (i := 1) 1 hC dX12_days_30 rfl rfl ?_
    refine zr_icmp_ge (pc := 31) (tgt := 44) hC dX12_days_31 (by decide) (fun c_ => ?_) (fun c_ => ?_)
    · refine zr_sub (ls' := [(0, _)]) [0] rfl ?_
      exact hk44 s
    · refine zr_aload_n (pc := 34) (i := 0) 0 hC dX12_days_34 rfl rfl ?_
      refine zr_callVv (pc := 35) (As := fun ad => []) (st1 := []) hC (Nat.le_of_ble_eq_true rfl) (kX12_dayNow _  _) (Nat.le_of_ble_eq_true rfl) mc_yX12_dayNow m_1897 m_1899 m_p102 mem_69 lay_69 rfl rfl rfl rfl (Nat.le_of_ble_eq_true rfl) dX12_days_35 (fun y_4 s_4 => ?_)
      refine zr_iinc (pc := 38) (q := 2) (ls' := [(2, _), (0, _), (1, _)]) hC dX12_days_38 rfl (inc_1 _) (nlt hN (Nat.le_of_ble_eq_true rfl)) rfl ?_
      refine zr_goto (pc := 41) (tgt := 29) hC dX12_days_41 (by decide) ?_
      refine zr_sub (ls' := [(0, _), (1, _), (2, _)]) [1, 2, 0] rfl ?_
      exact ih (v2 + (1 : Int32)) s_4
def fX12_days (a1 : Int32) (s : St) : Option (Int32 × St) :=
  let s_1 := wr s 69 1 (0 : Int32);
    bd (fX12_isIn (Int32.toInt64 a1) (1 : Int64) (100 : Int64) s_1) (fun y_2 s_2 =>
    if y_2 = 0 then
    (bd (fX12_refuse (1 : Int32) s_2) (fun y_7 s_7 =>
    some (y_7, s_7)))
  else
    (bd (fX12_keep s_2) (fun y_3 s_3 =>
    fX12_days_L29 (fun s_5 => bd (fX12_ripe s_5) (fun y_6 s_6 =>
    some (y_6, s_6))) a1 FU (0 : Int32) s_3)))
set_option maxRecDepth 100000 in
set_option maxHeartbeats 4000000 in
theorem kX12_days (l : Launch)  (a1 : Int32) (s : St) : CN l yX12_days cX12_days 3 (some .int) 8 FULL (fun ad => [.ref (ad 69), .int a1]) s (fX12_days a1 s) := by
  refine cn_of (by decide) (fun _ => (Nat.le_of_ble_eq_true rfl)) (fun X hC hR hl hN => ?_)
  subst hl
  show Zr X (QFN X (some .int)) 0 s 0 [(0, .ref (X_ad X 69)), (1, .int a1)] [] _
  rw [fX12_days]
  refine zr_aload_n (pc := 0) (i := 0) 0 hC dX12_days_0 rfl rfl ?_
  refine zr_iconst (pc := 1) (v := (0 : Int32)) hC dX12_days_1 ic_0 ?_
  refine zr_putInt (pc := 2) (j := 1) hC mem_69 lay_69 rfl rfl (Nat.le_of_ble_eq_true rfl) iX12 tyX12_ok nmX12 m_1396 rfl (by decide +kernel) dX12_days_2 ?_
  refine zr_iload_n (pc := 5) (i := 1) 1 hC dX12_days_5 rfl rfl ?_
  refine zr_i2l (pc := 6) hC dX12_days_6 ?_
  refine zr_lconst (pc := 7) (v := (1 : Int64)) hC dX12_days_7 rfl ?_
  refine zr_ldc2 (pc := 8) hC dX12_days_8 m_1896 ?_
  refine zr_callS (pc := 11) (As := fun ad => [.long (Int32.toInt64 a1), .long (1 : Int64), .long (100 : Int64)]) (st1 := []) hC (Nat.le_of_ble_eq_true rfl) (kX12_isIn _ (Int32.toInt64 a1) (1 : Int64) (100 : Int64) _) (Nat.le_of_ble_eq_true rfl) mc_yX12_isIn m_1766 m_1767 rfl rfl rfl (Nat.le_of_ble_eq_true rfl) dX12_days_11 (fun y_2 s_2 => ?_)
  refine zr_if_ne (pc := 14) (tgt := 23) hC dX12_days_14 (by decide) (fun c_ => ?_) (fun c_ => ?_)
  · refine zr_aload_n (pc := 17) (i := 0) 0 hC dX12_days_17 rfl rfl ?_
    refine zr_iconst (pc := 18) (v := (1 : Int32)) hC dX12_days_18 ic_1 ?_
    refine zr_callV (pc := 19) (As := fun ad => [.int (1 : Int32)]) (st1 := []) hC (Nat.le_of_ble_eq_true rfl) (kX12_refuse _ (1 : Int32) _) (Nat.le_of_ble_eq_true rfl) mc_yX12_refuse m_1828 m_1830 m_p90 mem_69 lay_69 rfl rfl rfl rfl (Nat.le_of_ble_eq_true rfl) dX12_days_19 (fun y_7 s_7 => ?_)
    exact zr_iret (pc := 22) hC hR dX12_days_22
  · refine zr_aload_n (pc := 23) (i := 0) 0 hC dX12_days_23 rfl rfl ?_
    refine zr_callVv (pc := 24) (As := fun ad => []) (st1 := []) hC (Nat.le_of_ble_eq_true rfl) (kX12_keep _  _) (Nat.le_of_ble_eq_true rfl) mc_yX12_keep m_1832 m_1834 m_p91 mem_69 lay_69 rfl rfl rfl rfl (Nat.le_of_ble_eq_true rfl) dX12_days_24 (fun y_3 s_3 => ?_)
    refine zr_iconst (pc := 27) (v := (0 : Int32)) hC dX12_days_27 ic_0 ?_
    refine zr_istore_n (pc := 28) (i := 2) (ls' := [(2, _), (0, _), (1, _)]) hC dX12_days_28 rfl (nlt hN (Nat.le_of_ble_eq_true rfl)) rfl ?_
    refine zr_sub (ls' := [(0, _), (1, _), (2, _)]) [1, 2, 0] rfl ?_
    refine tX12_days_L29 a1 _ X hC hR hN (fun s_5 => ?_) FU (0 : Int32) _
    · refine zr_aload_n (pc := 44) (i := 0) 0 hC dX12_days_44 rfl rfl ?_
      refine zr_callV (pc := 45) (As := fun ad => []) (st1 := []) hC (Nat.le_of_ble_eq_true rfl) (kX12_ripe _  _) (Nat.le_of_ble_eq_true rfl) mc_yX12_ripe m_1746 m_1748 m_p79 mem_69 lay_69 rfl rfl rfl rfl (Nat.le_of_ble_eq_true rfl) dX12_days_45 (fun y_6 s_6 => ?_)
      exact zr_iret (pc := 48) hC hR dX12_days_48
def fX12_unpack_L5 (k31 : St → Option (Int32 × St)) (r1 : Nat) (c3 : Int32) : Nat → Int32 → St → Option (Int32 × St)
  | 0, _, _ => none
  | n + 1, v4, s =>
    if (48 : Int32) ≤ v4 then
    (k31 s)
  else
    (if inA (c3 + v4) (LN r1) then
    (if inA v4 96 then
    (let s_1 := wr s 72 v4.toNatClampNeg (s r1 (c3 + v4).toNatClampNeg);
    fX12_unpack_L5 k31 r1 c3 n (v4 + (1 : Int32)) s_1) else none) else none)
set_option maxRecDepth 100000 in
set_option maxHeartbeats 4000000 in
theorem tX12_unpack_L5 (r1 : Nat) (c3 : Int32) (k31 : St → Option (Int32 × St)) (X : KX) (hC : Ctx X RX12 cX12_unpack FULL 1 0) (hR : RC X none) (hN : X_nL X = 5) (hr1 : isArrD FULL r1) (hk31 : ∀ (s : St), Zr X (QFN X none) 0 s 31 [(0, .ref (X_ad X 69)), (1, .ref (X_ad X r1)), (3, .int c3)] [] (k31 s)) : ∀ (n : Nat) (v4 : Int32) (s : St), Zr X (QFN X none) 0 s 5 [(0, .ref (X_ad X 69)), (1, .ref (X_ad X r1)), (3, .int c3), (4, .int v4)] [] (fX12_unpack_L5 k31 r1 c3 n v4 s) := by
  intro n
  induction n with
  | zero =>
    intro v4 s
    exact zr_none
  | succ n ih =>
    intro v4 s
    rw [fX12_unpack_L5]
    refine zr_iload (pc := 5) 3 hC dX12_unpack_5 rfl ?_
    refine zr_bipush (pc := 7) (v := (48 : Int32)) hC dX12_unpack_7 bi_48 ?_
    refine zr_icmp_ge (pc := 9) (tgt := 31) hC dX12_unpack_9 (by decide) (fun c_ => ?_) (fun c_ => ?_)
    · refine zr_sub (ls' := [(0, _), (1, _), (3, _)]) [0, 1, 2] rfl ?_
      exact hk31 s
    · refine zr_aload_n (pc := 12) (i := 0) 0 hC dX12_unpack_12 rfl rfl ?_
      refine zr_getR (pc := 13) (j := 3) (k1 := 72) hC mem_69 lay_69 rfl rfl (Nat.le_of_ble_eq_true rfl) iX12 m_1398 dX12_unpack_13 ?_
      refine zr_iload (pc := 16) 3 hC dX12_unpack_16 rfl ?_
      refine zr_aload_n (pc := 18) (i := 1) 1 hC dX12_unpack_18 rfl rfl ?_
      refine zr_iload_n (pc := 19) (i := 3) 2 hC dX12_unpack_19 rfl rfl ?_
      refine zr_iload (pc := 20) 3 hC dX12_unpack_20 rfl ?_
      refine zr_iadd (pc := 22) hC dX12_unpack_22 ?_
      refine zr_iald (pc := 23) hC hr1.1 hr1.2 dX12_unpack_23 ?_
      refine zr_iast (pc := 24) hC mem_72 lay_72 dX12_unpack_24 ?_
      refine zr_iinc (pc := 25) (q := 3) (ls' := [(4, _), (0, _), (1, _), (3, _)]) hC dX12_unpack_25 rfl (inc_1 _) (nlt hN (Nat.le_of_ble_eq_true rfl)) rfl ?_
      refine zr_goto (pc := 28) (tgt := 5) hC dX12_unpack_28 (by decide) ?_
      refine zr_sub (ls' := [(0, _), (1, _), (3, _), (4, _)]) [1, 2, 3, 0] rfl ?_
      exact ih (v4 + (1 : Int32)) (wr s 72 v4.toNatClampNeg (s r1 (c3 + v4).toNatClampNeg))
def fX12_unpack_L37 (k79 : St → Option (Int32 × St)) (r1 : Nat) (c3 : Int32) : Nat → Int32 → St → Option (Int32 × St)
  | 0, _, _ => none
  | n + 1, v4, s =>
    if (12 : Int32) ≤ v4 then
    (k79 s)
  else
    (if inA (c3 + v4) (LN r1) then
    (if inA v4 24 then
    (let s_3 := wr s 73 v4.toNatClampNeg (s r1 (c3 + v4).toNatClampNeg);
    if inA ((c3 + (12 : Int32)) + v4) (LN r1) then
    (if inA v4 24 then
    (let s_4 := wr s_3 77 v4.toNatClampNeg (s_3 r1 ((c3 + (12 : Int32)) + v4).toNatClampNeg);
    fX12_unpack_L37 k79 r1 c3 n (v4 + (1 : Int32)) s_4) else none) else none) else none) else none)
set_option maxRecDepth 100000 in
set_option maxHeartbeats 4000000 in
theorem tX12_unpack_L37 (r1 : Nat) (c3 : Int32) (k79 : St → Option (Int32 × St)) (X : KX) (hC : Ctx X RX12 cX12_unpack FULL 1 0) (hR : RC X none) (hN : X_nL X = 5) (hr1 : isArrD FULL r1) (hk79 : ∀ (s : St), Zr X (QFN X none) 0 s 79 [(0, .ref (X_ad X 69)), (1, .ref (X_ad X r1)), (3, .int c3)] [] (k79 s)) : ∀ (n : Nat) (v4 : Int32) (s : St), Zr X (QFN X none) 0 s 37 [(0, .ref (X_ad X 69)), (1, .ref (X_ad X r1)), (3, .int c3), (4, .int v4)] [] (fX12_unpack_L37 k79 r1 c3 n v4 s) := by
  intro n
  induction n with
  | zero =>
    intro v4 s
    exact zr_none
  | succ n ih =>
    intro v4 s
    rw [fX12_unpack_L37]
    refine zr_iload (pc := 37) 3 hC dX12_unpack_37 rfl ?_
    refine zr_bipush (pc := 39) (v := (12 : Int32)) hC dX12_unpack_39 bi_12 ?_
    refine zr_icmp_ge (pc := 41) (tgt := 79) hC dX12_unpack_41 (by decide) (fun c_ => ?_) (fun c_ => ?_)
    · refine zr_sub (ls' := [(0, _), (1, _), (3, _)]) [0, 1, 2] rfl ?_
      exact hk79 s
    · refine zr_aload_n (pc := 44) (i := 0) 0 hC dX12_unpack_44 rfl rfl ?_
      refine zr_getR (pc := 45) (j := 4) (k1 := 73) hC mem_69 lay_69 rfl rfl (Nat.le_of_ble_eq_true rfl) iX12 m_1399 dX12_unpack_45 ?_
      refine zr_iload (pc := 48) 3 hC dX12_unpack_48 rfl ?_
      refine zr_aload_n (pc := 50) (i := 1) 1 hC dX12_unpack_50 rfl rfl ?_
      refine zr_iload_n (pc := 51) (i := 3) 2 hC dX12_unpack_51 rfl rfl ?_
      refine zr_iload (pc := 52) 3 hC dX12_unpack_52 rfl ?_
      refine zr_iadd (pc := 54) hC dX12_unpack_54 ?_
      refine zr_iald (pc := 55) hC hr1.1 hr1.2 dX12_unpack_55 ?_
      refine zr_iast (pc := 56) hC mem_73 lay_73 dX12_unpack_56 ?_
      refine zr_aload_n (pc := 57) (i := 0) 0 hC dX12_unpack_57 rfl rfl ?_
      refine zr_getR (pc := 58) (j := 8) (k1 := 77) hC mem_69 lay_69 rfl rfl (Nat.le_of_ble_eq_true rfl) iX12 m_1403 dX12_unpack_58 ?_
      refine zr_iload (pc := 61) 3 hC dX12_unpack_61 rfl ?_
      refine zr_aload_n (pc := 63) (i := 1) 1 hC dX12_unpack_63 rfl rfl ?_
      refine zr_iload_n (pc := 64) (i := 3) 2 hC dX12_unpack_64 rfl rfl ?_
      refine zr_bipush (pc := 65) (v := (12 : Int32)) hC dX12_unpack_65 bi_12 ?_
      refine zr_iadd (pc := 67) hC dX12_unpack_67 ?_
      refine zr_iload (pc := 68) 3 hC dX12_unpack_68 rfl ?_
      refine zr_iadd (pc := 70) hC dX12_unpack_70 ?_
      refine zr_iald (pc := 71) hC hr1.1 hr1.2 dX12_unpack_71 ?_
      refine zr_iast (pc := 72) hC mem_77 lay_77 dX12_unpack_72 ?_
      refine zr_iinc (pc := 73) (q := 3) (ls' := [(4, _), (0, _), (1, _), (3, _)]) hC dX12_unpack_73 rfl (inc_1 _) (nlt hN (Nat.le_of_ble_eq_true rfl)) rfl ?_
      refine zr_goto (pc := 76) (tgt := 37) hC dX12_unpack_76 (by decide) ?_
      refine zr_sub (ls' := [(0, _), (1, _), (3, _), (4, _)]) [1, 2, 3, 0] rfl ?_
      exact ih (v4 + (1 : Int32)) (wr (wr s 73 v4.toNatClampNeg (s r1 (c3 + v4).toNatClampNeg)) 77 v4.toNatClampNeg ((wr s 73 v4.toNatClampNeg (s r1 (c3 + v4).toNatClampNeg)) r1 ((c3 + (12 : Int32)) + v4).toNatClampNeg))
def fX12_unpack_L85 (k111 : St → Option (Int32 × St)) (r1 : Nat) (c3 : Int32) : Nat → Int32 → St → Option (Int32 × St)
  | 0, _, _ => none
  | n + 1, v4, s =>
    if (12 : Int32) ≤ v4 then
    (k111 s)
  else
    (if inA (c3 + v4) (LN r1) then
    (if inA v4 12 then
    (let s_6 := wr s 87 v4.toNatClampNeg (s r1 (c3 + v4).toNatClampNeg);
    fX12_unpack_L85 k111 r1 c3 n (v4 + (1 : Int32)) s_6) else none) else none)
set_option maxRecDepth 100000 in
set_option maxHeartbeats 4000000 in
theorem tX12_unpack_L85 (r1 : Nat) (c3 : Int32) (k111 : St → Option (Int32 × St)) (X : KX) (hC : Ctx X RX12 cX12_unpack FULL 1 0) (hR : RC X none) (hN : X_nL X = 5) (hr1 : isArrD FULL r1) (hk111 : ∀ (s : St), Zr X (QFN X none) 0 s 111 [(0, .ref (X_ad X 69)), (1, .ref (X_ad X r1)), (3, .int c3)] [] (k111 s)) : ∀ (n : Nat) (v4 : Int32) (s : St), Zr X (QFN X none) 0 s 85 [(0, .ref (X_ad X 69)), (1, .ref (X_ad X r1)), (3, .int c3), (4, .int v4)] [] (fX12_unpack_L85 k111 r1 c3 n v4 s) := by
  intro n
  induction n with
  | zero =>
    intro v4 s
    exact zr_none
  | succ n ih =>
    intro v4 s
    rw [fX12_unpack_L85]
    refine zr_iload (pc := 85) 3 hC dX12_unpack_85 rfl ?_
    refine zr_bipush (pc := 87) (v := (12 : Int32)) hC dX12_unpack_87 bi_12 ?_
    refine zr_icmp_ge (pc := 89) (tgt := 111) hC dX12_unpack_89 (by decide) (fun c_ => ?_) (fun c_ => ?_)
    · refine zr_sub (ls' := [(0, _), (1, _), (3, _)]) [0, 1, 2] rfl ?_
      exact hk111 s
    · refine zr_aload_n (pc := 92) (i := 0) 0 hC dX12_unpack_92 rfl rfl ?_
      refine zr_getR (pc := 93) (j := 29) (k1 := 87) hC mem_69 lay_69 rfl rfl (Nat.le_of_ble_eq_true rfl) iX12 m_1424 dX12_unpack_93 ?_
      refine zr_iload (pc := 96) 3 hC dX12_unpack_96 rfl ?_
      refine zr_aload_n (pc := 98) (i := 1) 1 hC dX12_unpack_98 rfl rfl ?_
      refine zr_iload_n (pc := 99) (i := 3) 2 hC dX12_unpack_99 rfl rfl ?_
      refine zr_iload (pc := 100) 3 hC dX12_unpack_100 rfl ?_
      refine zr_iadd (pc := 102) hC dX12_unpack_102 ?_
      refine zr_iald (pc := 103) hC hr1.1 hr1.2 dX12_unpack_103 ?_
      refine zr_iast (pc := 104) hC mem_87 lay_87 dX12_unpack_104 ?_
      refine zr_iinc (pc := 105) (q := 3) (ls' := [(4, _), (0, _), (1, _), (3, _)]) hC dX12_unpack_105 rfl (inc_1 _) (nlt hN (Nat.le_of_ble_eq_true rfl)) rfl ?_
      refine zr_goto (pc := 108) (tgt := 85) hC dX12_unpack_108 (by decide) ?_
      refine zr_sub (ls' := [(0, _), (1, _), (3, _), (4, _)]) [1, 2, 3, 0] rfl ?_
      exact ih (v4 + (1 : Int32)) (wr s 87 v4.toNatClampNeg (s r1 (c3 + v4).toNatClampNeg))
def fX12_unpack_L117 (r1 : Nat) (c3 : Int32) : Nat → Int32 → St → Option (Int32 × St)
  | 0, _, _ => none
  | n + 1, v4, s =>
    if (10 : Int32) ≤ v4 then
    (if inA (c3 + (10 : Int32)) (LN r1) then
    (let s_8 := wr s 69 17 (s r1 (c3 + (10 : Int32)).toNatClampNeg);
    some (0, s_8)) else none)
  else
    (if inA (c3 + v4) (LN r1) then
    (if inA v4 10 then
    (let s_9 := wr s 88 v4.toNatClampNeg (s r1 (c3 + v4).toNatClampNeg);
    fX12_unpack_L117 r1 c3 n (v4 + (1 : Int32)) s_9) else none) else none)
set_option maxRecDepth 100000 in
set_option maxHeartbeats 4000000 in
theorem tX12_unpack_L117 (r1 : Nat) (c3 : Int32) (X : KX) (hC : Ctx X RX12 cX12_unpack FULL 1 0) (hR : RC X none) (hN : X_nL X = 5) (hr1 : isArrD FULL r1) : ∀ (n : Nat) (v4 : Int32) (s : St), Zr X (QFN X none) 0 s 117 [(0, .ref (X_ad X 69)), (1, .ref (X_ad X r1)), (3, .int c3), (4, .int v4)] [] (fX12_unpack_L117 r1 c3 n v4 s) := by
  intro n
  induction n with
  | zero =>
    intro v4 s
    exact zr_none
  | succ n ih =>
    intro v4 s
    rw [fX12_unpack_L117]
    refine zr_iload (pc := 117) 3 hC dX12_unpack_117 rfl ?_
    refine zr_bipush (pc := 119) (v := (10 : Int32)) hC dX12_unpack_119 bi_10 ?_
    refine zr_icmp_ge (pc := 121) (tgt := 143) hC dX12_unpack_121 (by decide) (fun c_ => ?_) (fun c_ => ?_)
    · refine zr_aload_n (pc := 143) (i := 0) 0 hC dX12_unpack_143 rfl rfl ?_
      refine zr_aload_n (pc := 144) (i := 1) 1 hC dX12_unpack_144 rfl rfl ?_
      refine zr_iload_n (pc := 145) (i := 3) 2 hC dX12_unpack_145 rfl rfl ?_
      refine zr_bipush (pc := 146) (v := (10 : Int32)) hC dX12_unpack_146 bi_10 ?_
      refine zr_iadd (pc := 148) hC dX12_unpack_148 ?_
      refine zr_iald (pc := 149) hC hr1.1 hr1.2 dX12_unpack_149 ?_
      refine zr_putInt (pc := 150) (j := 17) hC mem_69 lay_69 rfl rfl (Nat.le_of_ble_eq_true rfl) iX12 tyX12_ok nmX12 m_1412 rfl (by decide +kernel) dX12_unpack_150 ?_
      exact zr_vret (pc := 153) hC hR dX12_unpack_153
    · refine zr_aload_n (pc := 124) (i := 0) 0 hC dX12_unpack_124 rfl rfl ?_
      refine zr_getR (pc := 125) (j := 30) (k1 := 88) hC mem_69 lay_69 rfl rfl (Nat.le_of_ble_eq_true rfl) iX12 m_1425 dX12_unpack_125 ?_
      refine zr_iload (pc := 128) 3 hC dX12_unpack_128 rfl ?_
      refine zr_aload_n (pc := 130) (i := 1) 1 hC dX12_unpack_130 rfl rfl ?_
      refine zr_iload_n (pc := 131) (i := 3) 2 hC dX12_unpack_131 rfl rfl ?_
      refine zr_iload (pc := 132) 3 hC dX12_unpack_132 rfl ?_
      refine zr_iadd (pc := 134) hC dX12_unpack_134 ?_
      refine zr_iald (pc := 135) hC hr1.1 hr1.2 dX12_unpack_135 ?_
      refine zr_iast (pc := 136) hC mem_88 lay_88 dX12_unpack_136 ?_
      refine zr_iinc (pc := 137) (q := 3) (ls' := [(4, _), (0, _), (1, _), (3, _)]) hC dX12_unpack_137 rfl (inc_1 _) (nlt hN (Nat.le_of_ble_eq_true rfl)) rfl ?_
      refine zr_goto (pc := 140) (tgt := 117) hC dX12_unpack_140 (by decide) ?_
      refine zr_sub (ls' := [(0, _), (1, _), (3, _), (4, _)]) [1, 2, 3, 0] rfl ?_
      exact ih (v4 + (1 : Int32)) (wr s 88 v4.toNatClampNeg (s r1 (c3 + v4).toNatClampNeg))
def fX12_unpack (r1 : Nat) (a2 : Int32) (s : St) : Option (Int32 × St) :=
  fX12_unpack_L5 (fun s_2 => fX12_unpack_L37 (fun s_5 => fX12_unpack_L85 (fun s_7 => fX12_unpack_L117 r1 (((a2 + (48 : Int32)) + (24 : Int32)) + (12 : Int32)) FU (0 : Int32) s_7) r1 ((a2 + (48 : Int32)) + (24 : Int32)) FU (0 : Int32) s_5) r1 (a2 + (48 : Int32)) FU (0 : Int32) s_2) r1 a2 FU (0 : Int32) s
set_option maxRecDepth 100000 in
set_option maxHeartbeats 4000000 in
theorem kX12_unpack (l : Launch)  {r1 : Nat} (hr1 : isArrD FULL r1) (a2 : Int32) (s : St) : CN l yX12_unpack cX12_unpack 5 none 1 FULL (fun ad => [.ref (ad 69), .ref (ad r1), .int a2]) s (fX12_unpack r1 a2 s) := by
  refine cn_of (by decide) (fun _ => (Nat.le_of_ble_eq_true rfl)) (fun X hC hR hl hN => ?_)
  subst hl
  show Zr X (QFN X none) 0 s 0 [(0, .ref (X_ad X 69)), (1, .ref (X_ad X r1)), (2, .int a2)] [] _
  rw [fX12_unpack]
  refine zr_iload_n (pc := 0) (i := 2) 2 hC dX12_unpack_0 rfl rfl ?_
  refine zr_istore_n (pc := 1) (i := 3) (ls' := [(3, _), (0, _), (1, _), (2, _)]) hC dX12_unpack_1 rfl (nlt hN (Nat.le_of_ble_eq_true rfl)) rfl ?_
  refine zr_iconst (pc := 2) (v := (0 : Int32)) hC dX12_unpack_2 ic_0 ?_
  refine zr_istore (pc := 3) (ls' := [(4, _), (3, _), (0, _), (1, _), (2, _)]) hC dX12_unpack_3 (nlt hN (Nat.le_of_ble_eq_true rfl)) rfl ?_
  refine zr_sub (ls' := [(0, _), (1, _), (3, _), (4, _)]) [2, 3, 1, 0] rfl ?_
  refine tX12_unpack_L5 r1 a2 _ X hC hR hN hr1 (fun s_2 => ?_) FU (0 : Int32) _
  · refine zr_iinc (pc := 31) (q := 2) (ls' := [(3, _), (0, _), (1, _)]) hC dX12_unpack_31 rfl (inc_48 _) (nlt hN (Nat.le_of_ble_eq_true rfl)) rfl ?_
    refine zr_iconst (pc := 34) (v := (0 : Int32)) hC dX12_unpack_34 ic_0 ?_
    refine zr_istore (pc := 35) (ls' := [(4, _), (3, _), (0, _), (1, _)]) hC dX12_unpack_35 (nlt hN (Nat.le_of_ble_eq_true rfl)) rfl ?_
    refine zr_sub (ls' := [(0, _), (1, _), (3, _), (4, _)]) [2, 3, 1, 0] rfl ?_
    refine tX12_unpack_L37 r1 (a2 + (48 : Int32)) _ X hC hR hN hr1 (fun s_5 => ?_) FU (0 : Int32) _
    · refine zr_iinc (pc := 79) (q := 2) (ls' := [(3, _), (0, _), (1, _)]) hC dX12_unpack_79 rfl (inc_24 _) (nlt hN (Nat.le_of_ble_eq_true rfl)) rfl ?_
      refine zr_iconst (pc := 82) (v := (0 : Int32)) hC dX12_unpack_82 ic_0 ?_
      refine zr_istore (pc := 83) (ls' := [(4, _), (3, _), (0, _), (1, _)]) hC dX12_unpack_83 (nlt hN (Nat.le_of_ble_eq_true rfl)) rfl ?_
      refine zr_sub (ls' := [(0, _), (1, _), (3, _), (4, _)]) [2, 3, 1, 0] rfl ?_
      refine tX12_unpack_L85 r1 ((a2 + (48 : Int32)) + (24 : Int32)) _ X hC hR hN hr1 (fun s_7 => ?_) FU (0 : Int32) _
      · refine zr_iinc (pc := 111) (q := 2) (ls' := [(3, _), (0, _), (1, _)]) hC dX12_unpack_111 rfl (inc_12 _) (nlt hN (Nat.le_of_ble_eq_true rfl)) rfl ?_
        refine zr_iconst (pc := 114) (v := (0 : Int32)) hC dX12_unpack_114 ic_0 ?_
        refine zr_istore (pc := 115) (ls' := [(4, _), (3, _), (0, _), (1, _)]) hC dX12_unpack_115 (nlt hN (Nat.le_of_ble_eq_true rfl)) rfl ?_
        refine zr_sub (ls' := [(0, _), (1, _), (3, _), (4, _)]) [2, 3, 1, 0] rfl ?_
        exact tX12_unpack_L117 r1 (((a2 + (48 : Int32)) + (24 : Int32)) + (12 : Int32)) X hC hR hN hr1 FU (0 : Int32) _
def fX12_undo (s : St) : Option (Int32 × St) :=
  let s_1 := wr s 69 1 (0 : Int32);
    if (s_1 69 32) = 0 then
    (some ((-1 : Int32), s_1))
  else
    (let s_2 := wr s_1 69 32 ((s_1 69 32) - (1 : Int32));
    bd (fX12_unpack 89 ((95 : Int32) * (s_2 69 32)) s_2) (fun y_3 s_3 =>
    some ((s_3 69 32), s_3)))
set_option maxRecDepth 100000 in
set_option maxHeartbeats 4000000 in
theorem kX12_undo (l : Launch)  (s : St) : CN l yX12_undo cX12_undo 1 (some .int) 2 FULL (fun ad => [.ref (ad 69)]) s (fX12_undo s) := by
  refine cn_of (by decide) (fun _ => (Nat.le_of_ble_eq_true rfl)) (fun X hC hR hl hN => ?_)
  subst hl
  show Zr X (QFN X (some .int)) 0 s 0 [(0, .ref (X_ad X 69))] [] _
  rw [fX12_undo]
  refine zr_aload_n (pc := 0) (i := 0) 0 hC dX12_undo_0 rfl rfl ?_
  refine zr_iconst (pc := 1) (v := (0 : Int32)) hC dX12_undo_1 ic_0 ?_
  refine zr_putInt (pc := 2) (j := 1) hC mem_69 lay_69 rfl rfl (Nat.le_of_ble_eq_true rfl) iX12 tyX12_ok nmX12 m_1396 rfl (by decide +kernel) dX12_undo_2 ?_
  refine zr_aload_n (pc := 5) (i := 0) 0 hC dX12_undo_5 rfl rfl ?_
  refine zr_getI (pc := 6) (j := 32) hC mem_69 lay_69 rfl rfl (Nat.le_of_ble_eq_true rfl) iX12 m_1427 dX12_undo_6 ?_
  refine zr_if_ne (pc := 9) (tgt := 14) hC dX12_undo_9 (by decide) (fun c_ => ?_) (fun c_ => ?_)
  · refine zr_iconst (pc := 12) (v := (-1 : Int32)) hC dX12_undo_12 ic_m1 ?_
    exact zr_iret (pc := 13) hC hR dX12_undo_13
  · refine zr_aload_n (pc := 14) (i := 0) 0 hC dX12_undo_14 rfl rfl ?_
    refine zr_dup (pc := 15) hC dX12_undo_15 rfl ?_
    refine zr_getI (pc := 16) (j := 32) hC mem_69 lay_69 rfl rfl (Nat.le_of_ble_eq_true rfl) iX12 m_1427 dX12_undo_16 ?_
    refine zr_iconst (pc := 19) (v := (1 : Int32)) hC dX12_undo_19 ic_1 ?_
    refine zr_isub (pc := 20) hC dX12_undo_20 ?_
    refine zr_putInt (pc := 21) (j := 32) hC mem_69 lay_69 rfl rfl (Nat.le_of_ble_eq_true rfl) iX12 tyX12_ok nmX12 m_1427 rfl (by decide +kernel) dX12_undo_21 ?_
    refine zr_aload_n (pc := 24) (i := 0) 0 hC dX12_undo_24 rfl rfl ?_
    refine zr_aload_n (pc := 25) (i := 0) 0 hC dX12_undo_25 rfl rfl ?_
    refine zr_getR (pc := 26) (j := 31) (k1 := 89) hC mem_69 lay_69 rfl rfl (Nat.le_of_ble_eq_true rfl) iX12 m_1426 dX12_undo_26 ?_
    refine zr_bipush (pc := 29) (v := (95 : Int32)) hC dX12_undo_29 bi_95 ?_
    refine zr_aload_n (pc := 31) (i := 0) 0 hC dX12_undo_31 rfl rfl ?_
    refine zr_getI (pc := 32) (j := 32) hC mem_69 lay_69 rfl rfl (Nat.le_of_ble_eq_true rfl) iX12 m_1427 dX12_undo_32 ?_
    refine zr_imul (pc := 35) hC dX12_undo_35 ?_
    refine zr_callVv (pc := 36) (As := fun ad => [.ref (ad 89), .int ((95 : Int32) * ((wr (wr s 69 1 (0 : Int32)) 69 32 (((wr s 69 1 (0 : Int32)) 69 32) - (1 : Int32))) 69 32))]) (st1 := []) hC (Nat.le_of_ble_eq_true rfl) (kX12_unpack _ ar_89 ((95 : Int32) * ((wr (wr s 69 1 (0 : Int32)) 69 32 (((wr s 69 1 (0 : Int32)) 69 32) - (1 : Int32))) 69 32)) _) (Nat.le_of_ble_eq_true rfl) mc_yX12_unpack m_1905 m_1907 m_p103 mem_69 lay_69 rfl rfl rfl rfl (Nat.le_of_ble_eq_true rfl) dX12_undo_36 (fun y_3 s_3 => ?_)
    refine zr_aload_n (pc := 39) (i := 0) 0 hC dX12_undo_39 rfl rfl ?_
    refine zr_getI (pc := 40) (j := 32) hC mem_69 lay_69 rfl rfl (Nat.le_of_ble_eq_true rfl) iX12 m_1427 dX12_undo_40 ?_
    exact zr_iret (pc := 43) hC hR dX12_undo_43
def fX12_heir (a1 : Int32) (a2 : Int32) (a3 : Int32) (s : St) : Option (Int32 × St) :=
  let s_1 := wr s 69 1 (0 : Int32);
    bd (fX12_isPerson a1 s_1) (fun y_2 s_2 =>
    if y_2 = 0 then
    (bd (fX12_fail (1 : Int32) s_2) (fun y_3 s_3 =>
    some (y_3, s_3)))
  else
    (bd (fX12_isPerson a2 s_2) (fun y_4 s_4 =>
    if y_4 = 0 then
    (bd (fX12_fail (1 : Int32) s_4) (fun y_5 s_5 =>
    some (y_5, s_5)))
  else
    (bd (fX12_isPart a3 s_4) (fun y_6 s_6 =>
    if y_6 = 0 then
    (bd (fX12_fail (1 : Int32) s_6) (fun y_12 s_12 =>
    some (y_12, s_12)))
  else
    (if a1 = a2 then
    (bd (fX12_fail (2 : Int32) s_6) (fun y_7 s_7 =>
    some (y_7, s_7)))
  else
    (bd (fX12_isAlive a1 s_6) (fun y_8 s_8 =>
    if y_8 = 0 then
    (bd (fX12_fail (2 : Int32) s_8) (fun y_11 s_11 =>
    some (y_11, s_11)))
  else
    (bd (fX12_tellShares a1 (1 : Int32) s_8) (fun y_9 s_9 =>
    bd (fX12_partOf a1 a2 a3 s_9) (fun y_10 s_10 =>
    some (y_10, s_10))))))))))))
set_option maxRecDepth 100000 in
set_option maxHeartbeats 4000000 in
theorem kX12_heir (l : Launch)  (a1 : Int32) (a2 : Int32) (a3 : Int32) (s : St) : CN l yX12_heir cX12_heir 4 (some .int) 9 FULL (fun ad => [.ref (ad 69), .int a1, .int a2, .int a3]) s (fX12_heir a1 a2 a3 s) := by
  refine cn_of (by decide) (fun _ => (Nat.le_of_ble_eq_true rfl)) (fun X hC hR hl hN => ?_)
  subst hl
  show Zr X (QFN X (some .int)) 0 s 0 [(0, .ref (X_ad X 69)), (1, .int a1), (2, .int a2), (3, .int a3)] [] _
  rw [fX12_heir]
  refine zr_aload_n (pc := 0) (i := 0) 0 hC dX12_heir_0 rfl rfl ?_
  refine zr_iconst (pc := 1) (v := (0 : Int32)) hC dX12_heir_1 ic_0 ?_
  refine zr_putInt (pc := 2) (j := 1) hC mem_69 lay_69 rfl rfl (Nat.le_of_ble_eq_true rfl) iX12 tyX12_ok nmX12 m_1396 rfl (by decide +kernel) dX12_heir_2 ?_
  refine zr_aload_n (pc := 5) (i := 0) 0 hC dX12_heir_5 rfl rfl ?_
  refine zr_iload_n (pc := 6) (i := 1) 1 hC dX12_heir_6 rfl rfl ?_
  refine zr_callV (pc := 7) (As := fun ad => [.int a1]) (st1 := []) hC (Nat.le_of_ble_eq_true rfl) (kX12_isPerson _ a1 _) (Nat.le_of_ble_eq_true rfl) mc_yX12_isPerson m_1762 m_1764 m_p82 mem_69 lay_69 rfl rfl rfl rfl (Nat.le_of_ble_eq_true rfl) dX12_heir_7 (fun y_2 s_2 => ?_)
  refine zr_if_eq (pc := 10) (tgt := 28) hC dX12_heir_10 (by decide) (fun c_ => ?_) (fun c_ => ?_)
  · refine zr_aload_n (pc := 28) (i := 0) 0 hC dX12_heir_28 rfl rfl ?_
    refine zr_iconst (pc := 29) (v := (1 : Int32)) hC dX12_heir_29 ic_1 ?_
    refine zr_callV (pc := 30) (As := fun ad => [.int (1 : Int32)]) (st1 := []) hC (Nat.le_of_ble_eq_true rfl) (kX12_fail _ (1 : Int32) _) (Nat.le_of_ble_eq_true rfl) mc_yX12_fail m_1606 m_1608 m_p53 mem_69 lay_69 rfl rfl rfl rfl (Nat.le_of_ble_eq_true rfl) dX12_heir_30 (fun y_3 s_3 => ?_)
    exact zr_iret (pc := 33) hC hR dX12_heir_33
  · refine zr_aload_n (pc := 13) (i := 0) 0 hC dX12_heir_13 rfl rfl ?_
    refine zr_iload_n (pc := 14) (i := 2) 2 hC dX12_heir_14 rfl rfl ?_
    refine zr_callV (pc := 15) (As := fun ad => [.int a2]) (st1 := []) hC (Nat.le_of_ble_eq_true rfl) (kX12_isPerson _ a2 _) (Nat.le_of_ble_eq_true rfl) mc_yX12_isPerson m_1762 m_1764 m_p82 mem_69 lay_69 rfl rfl rfl rfl (Nat.le_of_ble_eq_true rfl) dX12_heir_15 (fun y_4 s_4 => ?_)
    refine zr_if_eq (pc := 18) (tgt := 28) hC dX12_heir_18 (by decide) (fun c_ => ?_) (fun c_ => ?_)
    · refine zr_aload_n (pc := 28) (i := 0) 0 hC dX12_heir_28 rfl rfl ?_
      refine zr_iconst (pc := 29) (v := (1 : Int32)) hC dX12_heir_29 ic_1 ?_
      refine zr_callV (pc := 30) (As := fun ad => [.int (1 : Int32)]) (st1 := []) hC (Nat.le_of_ble_eq_true rfl) (kX12_fail _ (1 : Int32) _) (Nat.le_of_ble_eq_true rfl) mc_yX12_fail m_1606 m_1608 m_p53 mem_69 lay_69 rfl rfl rfl rfl (Nat.le_of_ble_eq_true rfl) dX12_heir_30 (fun y_5 s_5 => ?_)
      exact zr_iret (pc := 33) hC hR dX12_heir_33
    · refine zr_iload_n (pc := 21) (i := 3) 3 hC dX12_heir_21 rfl rfl ?_
      refine zr_callS (pc := 22) (As := fun ad => [.int a3]) (st1 := []) hC (Nat.le_of_ble_eq_true rfl) (kX12_isPart _ a3 _) (Nat.le_of_ble_eq_true rfl) mc_yX12_isPart m_1777 m_1778 rfl rfl rfl (Nat.le_of_ble_eq_true rfl) dX12_heir_22 (fun y_6 s_6 => ?_)
      refine zr_if_ne (pc := 25) (tgt := 34) hC dX12_heir_25 (by decide) (fun c_ => ?_) (fun c_ => ?_)
      · refine zr_aload_n (pc := 28) (i := 0) 0 hC dX12_heir_28 rfl rfl ?_
        refine zr_iconst (pc := 29) (v := (1 : Int32)) hC dX12_heir_29 ic_1 ?_
        refine zr_callV (pc := 30) (As := fun ad => [.int (1 : Int32)]) (st1 := []) hC (Nat.le_of_ble_eq_true rfl) (kX12_fail _ (1 : Int32) _) (Nat.le_of_ble_eq_true rfl) mc_yX12_fail m_1606 m_1608 m_p53 mem_69 lay_69 rfl rfl rfl rfl (Nat.le_of_ble_eq_true rfl) dX12_heir_30 (fun y_12 s_12 => ?_)
        exact zr_iret (pc := 33) hC hR dX12_heir_33
      · refine zr_iload_n (pc := 34) (i := 1) 1 hC dX12_heir_34 rfl rfl ?_
        refine zr_iload_n (pc := 35) (i := 2) 2 hC dX12_heir_35 rfl rfl ?_
        refine zr_icmp_eq (pc := 36) (tgt := 47) hC dX12_heir_36 (by decide) (fun c_ => ?_) (fun c_ => ?_)
        · refine zr_aload_n (pc := 47) (i := 0) 0 hC dX12_heir_47 rfl rfl ?_
          refine zr_iconst (pc := 48) (v := (2 : Int32)) hC dX12_heir_48 ic_2 ?_
          refine zr_callV (pc := 49) (As := fun ad => [.int (2 : Int32)]) (st1 := []) hC (Nat.le_of_ble_eq_true rfl) (kX12_fail _ (2 : Int32) _) (Nat.le_of_ble_eq_true rfl) mc_yX12_fail m_1606 m_1608 m_p53 mem_69 lay_69 rfl rfl rfl rfl (Nat.le_of_ble_eq_true rfl) dX12_heir_49 (fun y_7 s_7 => ?_)
          exact zr_iret (pc := 52) hC hR dX12_heir_52
        · refine zr_aload_n (pc := 39) (i := 0) 0 hC dX12_heir_39 rfl rfl ?_
          refine zr_iload_n (pc := 40) (i := 1) 1 hC dX12_heir_40 rfl rfl ?_
          refine zr_callV (pc := 41) (As := fun ad => [.int a1]) (st1 := []) hC (Nat.le_of_ble_eq_true rfl) (kX12_isAlive _ a1 _) (Nat.le_of_ble_eq_true rfl) mc_yX12_isAlive m_1769 m_1771 m_p83 mem_69 lay_69 rfl rfl rfl rfl (Nat.le_of_ble_eq_true rfl) dX12_heir_41 (fun y_8 s_8 => ?_)
          refine zr_if_ne (pc := 44) (tgt := 53) hC dX12_heir_44 (by decide) (fun c_ => ?_) (fun c_ => ?_)
          · refine zr_aload_n (pc := 47) (i := 0) 0 hC dX12_heir_47 rfl rfl ?_
            refine zr_iconst (pc := 48) (v := (2 : Int32)) hC dX12_heir_48 ic_2 ?_
            refine zr_callV (pc := 49) (As := fun ad => [.int (2 : Int32)]) (st1 := []) hC (Nat.le_of_ble_eq_true rfl) (kX12_fail _ (2 : Int32) _) (Nat.le_of_ble_eq_true rfl) mc_yX12_fail m_1606 m_1608 m_p53 mem_69 lay_69 rfl rfl rfl rfl (Nat.le_of_ble_eq_true rfl) dX12_heir_49 (fun y_11 s_11 => ?_)
            exact zr_iret (pc := 52) hC hR dX12_heir_52
          · refine zr_aload_n (pc := 53) (i := 0) 0 hC dX12_heir_53 rfl rfl ?_
            refine zr_iload_n (pc := 54) (i := 1) 1 hC dX12_heir_54 rfl rfl ?_
            refine zr_iconst (pc := 55) (v := (1 : Int32)) hC dX12_heir_55 ic_1 ?_
            refine zr_callVv (pc := 56) (As := fun ad => [.int a1, .int (1 : Int32)]) (st1 := []) hC (Nat.le_of_ble_eq_true rfl) (kX12_tellShares _ a1 (1 : Int32) _) (Nat.le_of_ble_eq_true rfl) mc_yX12_tellShares m_1860 m_1862 m_p96 mem_69 lay_69 rfl rfl rfl rfl (Nat.le_of_ble_eq_true rfl) dX12_heir_56 (fun y_9 s_9 => ?_)
            refine zr_aload_n (pc := 59) (i := 0) 0 hC dX12_heir_59 rfl rfl ?_
            refine zr_iload_n (pc := 60) (i := 1) 1 hC dX12_heir_60 rfl rfl ?_
            refine zr_iload_n (pc := 61) (i := 2) 2 hC dX12_heir_61 rfl rfl ?_
            refine zr_iload_n (pc := 62) (i := 3) 3 hC dX12_heir_62 rfl rfl ?_
            refine zr_callV (pc := 63) (As := fun ad => [.int a1, .int a2, .int a3]) (st1 := []) hC (Nat.le_of_ble_eq_true rfl) (kX12_partOf _ a1 a2 a3 _) (Nat.le_of_ble_eq_true rfl) mc_yX12_partOf m_1884 m_1886 m_p101 mem_69 lay_69 rfl rfl rfl rfl (Nat.le_of_ble_eq_true rfl) dX12_heir_63 (fun y_10 s_10 => ?_)
            exact zr_iret (pc := 66) hC hR dX12_heir_66
def fX12_failing_L11 : Nat → Int32 → Int32 → Int32 → St → Option (Int32 × St)
  | 0, _, _, _, _ => none
  | n + 1, v1, v2, v3, s =>
    if inA (1 : Int32) 10 then
    (if (s 71 (1 : Int32).toNatClampNeg) ≤ v3 then
    (some (((v1 &&& (v2 ^^^ (-1 : Int32))) &&& (s 69 17)), s))
  else
    (if inA v3 24 then
    (if inA v3 24 then
    (bd (fX12_isAlive (s 79 v3.toNatClampNeg) s) (fun y_2 s_2 =>
    if y_2 = 0 then
    (fX12_failing_L11 n (v1 ||| (jshl (1 : Int32) (s 78 v3.toNatClampNeg))) v2 (v3 + (1 : Int32)) s_2)
  else
    (if inA v3 24 then
    (fX12_failing_L11 n (v1 ||| (jshl (1 : Int32) (s 78 v3.toNatClampNeg))) (v2 ||| (jshl (1 : Int32) (s_2 78 v3.toNatClampNeg))) (v3 + (1 : Int32)) s_2) else none))) else none) else none)) else none
set_option maxRecDepth 100000 in
set_option maxHeartbeats 4000000 in
theorem tX12_failing_L11 (X : KX) (hC : Ctx X RX12 cX12_failing FULL 2 0) (hR : RC X (some .int)) (hN : X_nL X = 4) : ∀ (n : Nat) (v1 : Int32) (v2 : Int32) (v3 : Int32) (s : St), Zr X (QFN X (some .int)) 0 s 11 [(0, .ref (X_ad X 69)), (1, .int v1), (2, .int v2), (3, .int v3)] [] (fX12_failing_L11 n v1 v2 v3 s) := by
  intro n
  induction n with
  | zero =>
    intro v1 v2 v3 s
    exact zr_none
  | succ n ih =>
    intro v1 v2 v3 s
    rw [fX12_failing_L11]
    refine zr_iload_n (pc := 11) (i := 3) 3 hC dX12_failing_11 rfl rfl ?_
    refine zr_aload_n (pc := 12) (i := 0) 0 hC dX12_failing_12 rfl rfl ?_
    refine zr_getR (pc := 13) (j := 2) (k1 := 71) hC mem_69 lay_69 rfl rfl (Nat.le_of_ble_eq_true rfl) iX12 m_1397 dX12_failing_13 ?_
    refine zr_iconst (pc := 16) (v := (1 : Int32)) hC dX12_failing_16 ic_1 ?_
    refine zr_iald (pc := 17) hC mem_71 lay_71 dX12_failing_17 ?_
    refine zr_icmp_ge (pc := 18) (tgt := 62) hC dX12_failing_18 (by decide) (fun c_ => ?_) (fun c_ => ?_)
    · refine zr_iload_n (pc := 62) (i := 1) 1 hC dX12_failing_62 rfl rfl ?_
      refine zr_iload_n (pc := 63) (i := 2) 2 hC dX12_failing_63 rfl rfl ?_
      refine zr_iconst (pc := 64) (v := (-1 : Int32)) hC dX12_failing_64 ic_m1 ?_
      refine zr_ixor (pc := 65) hC dX12_failing_65 ?_
      refine zr_iand (pc := 66) hC dX12_failing_66 ?_
      refine zr_aload_n (pc := 67) (i := 0) 0 hC dX12_failing_67 rfl rfl ?_
      refine zr_getI (pc := 68) (j := 17) hC mem_69 lay_69 rfl rfl (Nat.le_of_ble_eq_true rfl) iX12 m_1412 dX12_failing_68 ?_
      refine zr_iand (pc := 71) hC dX12_failing_71 ?_
      exact zr_iret (pc := 72) hC hR dX12_failing_72
    · refine zr_iload_n (pc := 21) (i := 1) 1 hC dX12_failing_21 rfl rfl ?_
      refine zr_iconst (pc := 22) (v := (1 : Int32)) hC dX12_failing_22 ic_1 ?_
      refine zr_aload_n (pc := 23) (i := 0) 0 hC dX12_failing_23 rfl rfl ?_
      refine zr_getR (pc := 24) (j := 9) (k1 := 78) hC mem_69 lay_69 rfl rfl (Nat.le_of_ble_eq_true rfl) iX12 m_1404 dX12_failing_24 ?_
      refine zr_iload_n (pc := 27) (i := 3) 3 hC dX12_failing_27 rfl rfl ?_
      refine zr_iald (pc := 28) hC mem_78 lay_78 dX12_failing_28 ?_
      refine zr_ishl (pc := 29) hC dX12_failing_29 ?_
      refine zr_ior (pc := 30) hC dX12_failing_30 ?_
      refine zr_istore_n (pc := 31) (i := 1) (ls' := [(1, _), (0, _), (2, _), (3, _)]) hC dX12_failing_31 rfl (nlt hN (Nat.le_of_ble_eq_true rfl)) rfl ?_
      refine zr_aload_n (pc := 32) (i := 0) 1 hC dX12_failing_32 rfl rfl ?_
      refine zr_aload_n (pc := 33) (i := 0) 1 hC dX12_failing_33 rfl rfl ?_
      refine zr_getR (pc := 34) (j := 10) (k1 := 79) hC mem_69 lay_69 rfl rfl (Nat.le_of_ble_eq_true rfl) iX12 m_1405 dX12_failing_34 ?_
      refine zr_iload_n (pc := 37) (i := 3) 3 hC dX12_failing_37 rfl rfl ?_
      refine zr_iald (pc := 38) hC mem_79 lay_79 dX12_failing_38 ?_
      refine zr_callV (pc := 39) (As := fun ad => [.int (s 79 v3.toNatClampNeg)]) (st1 := []) hC (Nat.le_of_ble_eq_true rfl) (kX12_isAlive _ (s 79 v3.toNatClampNeg) _) (Nat.le_of_ble_eq_true rfl) mc_yX12_isAlive m_1769 m_1771 m_p83 mem_69 lay_69 rfl rfl rfl rfl (Nat.le_of_ble_eq_true rfl) dX12_failing_39 (fun y_2 s_2 => ?_)
      refine zr_if_eq (pc := 42) (tgt := 56) hC dX12_failing_42 (by decide) (fun c_ => ?_) (fun c_ => ?_)
      · refine zr_iinc (pc := 56) (q := 3) (ls' := [(3, _), (1, _), (0, _), (2, _)]) hC dX12_failing_56 rfl (inc_1 _) (nlt hN (Nat.le_of_ble_eq_true rfl)) rfl ?_
        refine zr_goto (pc := 59) (tgt := 11) hC dX12_failing_59 (by decide) ?_
        refine zr_sub (ls' := [(0, _), (1, _), (2, _), (3, _)]) [2, 1, 3, 0] rfl ?_
        exact ih (v1 ||| (jshl (1 : Int32) (s 78 v3.toNatClampNeg))) v2 (v3 + (1 : Int32)) s_2
      · refine zr_iload_n (pc := 45) (i := 2) 2 hC dX12_failing_45 rfl rfl ?_
        refine zr_iconst (pc := 46) (v := (1 : Int32)) hC dX12_failing_46 ic_1 ?_
        refine zr_aload_n (pc := 47) (i := 0) 1 hC dX12_failing_47 rfl rfl ?_
        refine zr_getR (pc := 48) (j := 9) (k1 := 78) hC mem_69 lay_69 rfl rfl (Nat.le_of_ble_eq_true rfl) iX12 m_1404 dX12_failing_48 ?_
        refine zr_iload_n (pc := 51) (i := 3) 3 hC dX12_failing_51 rfl rfl ?_
        refine zr_iald (pc := 52) hC mem_78 lay_78 dX12_failing_52 ?_
        refine zr_ishl (pc := 53) hC dX12_failing_53 ?_
        refine zr_ior (pc := 54) hC dX12_failing_54 ?_
        refine zr_istore_n (pc := 55) (i := 2) (ls' := [(2, _), (1, _), (0, _), (3, _)]) hC dX12_failing_55 rfl (nlt hN (Nat.le_of_ble_eq_true rfl)) rfl ?_
        refine zr_iinc (pc := 56) (q := 3) (ls' := [(3, _), (2, _), (1, _), (0, _)]) hC dX12_failing_56 rfl (inc_1 _) (nlt hN (Nat.le_of_ble_eq_true rfl)) rfl ?_
        refine zr_goto (pc := 59) (tgt := 11) hC dX12_failing_59 (by decide) ?_
        refine zr_sub (ls' := [(0, _), (1, _), (2, _), (3, _)]) [3, 2, 1, 0] rfl ?_
        exact ih (v1 ||| (jshl (1 : Int32) (s 78 v3.toNatClampNeg))) (v2 ||| (jshl (1 : Int32) (s_2 78 v3.toNatClampNeg))) (v3 + (1 : Int32)) s_2
def fX12_failing (s : St) : Option (Int32 × St) :=
  let s_1 := wr s 69 1 (0 : Int32);
    fX12_failing_L11 FU (0 : Int32) (0 : Int32) (0 : Int32) s_1
set_option maxRecDepth 100000 in
set_option maxHeartbeats 4000000 in
theorem kX12_failing (l : Launch)  (s : St) : CN l yX12_failing cX12_failing 4 (some .int) 2 FULL (fun ad => [.ref (ad 69)]) s (fX12_failing s) := by
  refine cn_of (by decide) (fun _ => (Nat.le_of_ble_eq_true rfl)) (fun X hC hR hl hN => ?_)
  subst hl
  show Zr X (QFN X (some .int)) 0 s 0 [(0, .ref (X_ad X 69))] [] _
  rw [fX12_failing]
  refine zr_aload_n (pc := 0) (i := 0) 0 hC dX12_failing_0 rfl rfl ?_
  refine zr_iconst (pc := 1) (v := (0 : Int32)) hC dX12_failing_1 ic_0 ?_
  refine zr_putInt (pc := 2) (j := 1) hC mem_69 lay_69 rfl rfl (Nat.le_of_ble_eq_true rfl) iX12 tyX12_ok nmX12 m_1396 rfl (by decide +kernel) dX12_failing_2 ?_
  refine zr_iconst (pc := 5) (v := (0 : Int32)) hC dX12_failing_5 ic_0 ?_
  refine zr_istore_n (pc := 6) (i := 1) (ls' := [(1, _), (0, _)]) hC dX12_failing_6 rfl (nlt hN (Nat.le_of_ble_eq_true rfl)) rfl ?_
  refine zr_iconst (pc := 7) (v := (0 : Int32)) hC dX12_failing_7 ic_0 ?_
  refine zr_istore_n (pc := 8) (i := 2) (ls' := [(2, _), (1, _), (0, _)]) hC dX12_failing_8 rfl (nlt hN (Nat.le_of_ble_eq_true rfl)) rfl ?_
  refine zr_iconst (pc := 9) (v := (0 : Int32)) hC dX12_failing_9 ic_0 ?_
  refine zr_istore_n (pc := 10) (i := 3) (ls' := [(3, _), (2, _), (1, _), (0, _)]) hC dX12_failing_10 rfl (nlt hN (Nat.le_of_ble_eq_true rfl)) rfl ?_
  refine zr_sub (ls' := [(0, _), (1, _), (2, _), (3, _)]) [3, 2, 1, 0] rfl ?_
  exact tX12_failing_L11  X hC hR hN FU (0 : Int32) (0 : Int32) (0 : Int32) _
