def fX4_addPerson (g : Nat) (a1 : Int32) (a2 : Int32) (a3 : Int32) (s : St) : Option (Int32 × St) :=
  bd (fX11_put (g + 1) (s g 0) a1 s) (fun y_1 s_1 =>
    bd (fX11_put (g + 2) (s_1 g 0) a2 s_1) (fun y_2 s_2 =>
    if a3 = 0 then
    (bd (fX11_put (g + 3) (s_2 g 0) (0 : Int32) s_2) (fun y_3 s_3 =>
    let s_4 := wr s_3 g 0 ((s_3 g 0) + (1 : Int32));
    some (0, s_4)))
  else
    (bd (fX11_put (g + 3) (s_2 g 0) (1 : Int32) s_2) (fun y_5 s_5 =>
    let s_6 := wr s_5 g 0 ((s_5 g 0) + (1 : Int32));
    some (0, s_6)))))
set_option maxRecDepth 100000 in
set_option maxHeartbeats 4000000 in
theorem kX4_addPerson (l : Launch)  {g : Nat} (hg : isLand g) (a1 : Int32) (a2 : Int32) (a3 : Int32) (s : St) : CN l yX4_addPerson cX4_addPerson 4 none 2 FULL (fun ad => [.ref (ad g), .int a1, .int a2, .int a3]) s (fX4_addPerson g a1 a2 a3 s) := by
  refine cn_of (by decide) (fun _ => (Nat.le_of_ble_eq_true rfl)) (fun X hC hR hl hN => ?_)
  subst hl
  show Zr X (QFN X none) 0 s 0 [(0, .ref (X_ad X g)), (1, .int a1), (2, .int a2), (3, .int a3)] [] _
  rw [fX4_addPerson]
  refine zr_aload_n (pc := 0) (i := 0) 0 hC dX4_addPerson_0 rfl rfl ?_
  refine zr_getR (pc := 1) (j := 1) (k1 := (g + 1)) hC hg.1.1 hg.1.2 rfl rfl (Nat.le_of_ble_eq_true rfl) iX4 m_72 dX4_addPerson_1 ?_
  refine zr_aload_n (pc := 4) (i := 0) 0 hC dX4_addPerson_4 rfl rfl ?_
  refine zr_getI (pc := 5) (j := 0) hC hg.1.1 hg.1.2 rfl rfl (Nat.le_of_ble_eq_true rfl) iX4 m_66 dX4_addPerson_5 ?_
  refine zr_iload_n (pc := 8) (i := 1) 1 hC dX4_addPerson_8 rfl rfl ?_
  refine zr_callSNv (pc := 9) (As := fun ad => [.ref (ad (g + 1)), .int (s g 0), .int a1]) (st1 := []) hC (Nat.le_of_ble_eq_true rfl) (kX11_put _ (isArr_of hg.2.1) (s g 0) a1 _) (Nat.le_of_ble_eq_true rfl) mc_yX11_put m_857 m_141 rfl rfl (Nat.le_of_ble_eq_true rfl) dX4_addPerson_9 (fun y_1 s_1 => ?_)
  refine zr_aload_n (pc := 12) (i := 0) 0 hC dX4_addPerson_12 rfl rfl ?_
  refine zr_getR (pc := 13) (j := 2) (k1 := (g + 2)) hC hg.1.1 hg.1.2 rfl rfl (Nat.le_of_ble_eq_true rfl) iX4 m_74 dX4_addPerson_13 ?_
  refine zr_aload_n (pc := 16) (i := 0) 0 hC dX4_addPerson_16 rfl rfl ?_
  refine zr_getI (pc := 17) (j := 0) hC hg.1.1 hg.1.2 rfl rfl (Nat.le_of_ble_eq_true rfl) iX4 m_66 dX4_addPerson_17 ?_
  refine zr_iload_n (pc := 20) (i := 2) 2 hC dX4_addPerson_20 rfl rfl ?_
  refine zr_callSNv (pc := 21) (As := fun ad => [.ref (ad (g + 2)), .int (s_1 g 0), .int a2]) (st1 := []) hC (Nat.le_of_ble_eq_true rfl) (kX11_put _ (isArr_of hg.2.2.1) (s_1 g 0) a2 _) (Nat.le_of_ble_eq_true rfl) mc_yX11_put m_857 m_141 rfl rfl (Nat.le_of_ble_eq_true rfl) dX4_addPerson_21 (fun y_2 s_2 => ?_)
  refine zr_aload_n (pc := 24) (i := 0) 0 hC dX4_addPerson_24 rfl rfl ?_
  refine zr_getR (pc := 25) (j := 3) (k1 := (g + 3)) hC hg.1.1 hg.1.2 rfl rfl (Nat.le_of_ble_eq_true rfl) iX4 m_76 dX4_addPerson_25 ?_
  refine zr_aload_n (pc := 28) (i := 0) 0 hC dX4_addPerson_28 rfl rfl ?_
  refine zr_getI (pc := 29) (j := 0) hC hg.1.1 hg.1.2 rfl rfl (Nat.le_of_ble_eq_true rfl) iX4 m_66 dX4_addPerson_29 ?_
  refine zr_iload_n (pc := 32) (i := 3) 3 hC dX4_addPerson_32 rfl rfl ?_
  refine zr_if_eq (pc := 33) (tgt := 40) hC dX4_addPerson_33 (by decide) (fun c_ => ?_) (fun c_ => ?_)
  · refine zr_iconst (pc := 40) (v := (0 : Int32)) hC dX4_addPerson_40 ic_0 ?_
    refine zr_callSNv (pc := 41) (As := fun ad => [.ref (ad (g + 3)), .int (s_2 g 0), .int (0 : Int32)]) (st1 := []) hC (Nat.le_of_ble_eq_true rfl) (kX11_put _ (isArr_of hg.2.2.2.1) (s_2 g 0) (0 : Int32) _) (Nat.le_of_ble_eq_true rfl) mc_yX11_put m_857 m_141 rfl rfl (Nat.le_of_ble_eq_true rfl) dX4_addPerson_41 (fun y_3 s_3 => ?_)
    refine zr_aload_n (pc := 44) (i := 0) 0 hC dX4_addPerson_44 rfl rfl ?_
    refine zr_dup (pc := 45) hC dX4_addPerson_45 rfl ?_
    refine zr_getI (pc := 46) (j := 0) hC hg.1.1 hg.1.2 rfl rfl (Nat.le_of_ble_eq_true rfl) iX4 m_66 dX4_addPerson_46 ?_
    refine zr_iconst (pc := 49) (v := (1 : Int32)) hC dX4_addPerson_49 ic_1 ?_
    refine zr_iadd (pc := 50) hC dX4_addPerson_50 ?_
    refine zr_putInt (pc := 51) (j := 0) hC hg.1.1 hg.1.2 rfl rfl (Nat.le_of_ble_eq_true rfl) iX4 tyX4_ok nmX4 m_66 rfl (by decide +kernel) dX4_addPerson_51 ?_
    exact zr_vret (pc := 54) hC hR dX4_addPerson_54
  · refine zr_iconst (pc := 36) (v := (1 : Int32)) hC dX4_addPerson_36 ic_1 ?_
    refine zr_goto (pc := 37) (tgt := 41) hC dX4_addPerson_37 (by decide) ?_
    refine zr_callSNv (pc := 41) (As := fun ad => [.ref (ad (g + 3)), .int (s_2 g 0), .int (1 : Int32)]) (st1 := []) hC (Nat.le_of_ble_eq_true rfl) (kX11_put _ (isArr_of hg.2.2.2.1) (s_2 g 0) (1 : Int32) _) (Nat.le_of_ble_eq_true rfl) mc_yX11_put m_857 m_141 rfl rfl (Nat.le_of_ble_eq_true rfl) dX4_addPerson_41 (fun y_5 s_5 => ?_)
    refine zr_aload_n (pc := 44) (i := 0) 0 hC dX4_addPerson_44 rfl rfl ?_
    refine zr_dup (pc := 45) hC dX4_addPerson_45 rfl ?_
    refine zr_getI (pc := 46) (j := 0) hC hg.1.1 hg.1.2 rfl rfl (Nat.le_of_ble_eq_true rfl) iX4 m_66 dX4_addPerson_46 ?_
    refine zr_iconst (pc := 49) (v := (1 : Int32)) hC dX4_addPerson_49 ic_1 ?_
    refine zr_iadd (pc := 50) hC dX4_addPerson_50 ?_
    refine zr_putInt (pc := 51) (j := 0) hC hg.1.1 hg.1.2 rfl rfl (Nat.le_of_ble_eq_true rfl) iX4 tyX4_ok nmX4 m_66 rfl (by decide +kernel) dX4_addPerson_51 ?_
    exact zr_vret (pc := 54) hC hR dX4_addPerson_54
def fX6_readPerson_L72 (k103 : St → Option (Int32 × St)) (c1 : Int32) (c2 : Int32) (c3 : Int32) (c4 : Int32) (c5 : Int32) : Nat → Int32 → St → Option (Int32 × St)
  | 0, _, _ => none
  | n + 1, v6, s =>
    if (4 : Int32) ≤ v6 then
    (k103 s)
  else
    (bd (fX6_takeNumber (0 : Int32) (999 : Int32) s) (fun y_3 s_3 =>
    bd (fX10_setPart 14 c5 v6 y_3 s_3) (fun y_4 s_4 =>
    fX6_readPerson_L72 k103 c1 c2 c3 c4 c5 n (v6 + (1 : Int32)) s_4)))
set_option maxRecDepth 100000 in
set_option maxHeartbeats 4000000 in
theorem tX6_readPerson_L72 (c1 : Int32) (c2 : Int32) (c3 : Int32) (c4 : Int32) (c5 : Int32) (k103 : St → Option (Int32 × St)) (X : KX) (hC : Ctx X RX6 cX6_readPerson FULL 5 0) (hR : RC X none) (hN : X_nL X = 7) (hk103 : ∀ (s : St), Zr X (QFN X none) 0 s 103 [(0, .ref (X_ad X 2)), (1, .int c1), (2, .int c2), (3, .int c3), (4, .int c4), (5, .int c5)] [] (k103 s)) : ∀ (n : Nat) (v6 : Int32) (s : St), Zr X (QFN X none) 0 s 72 [(0, .ref (X_ad X 2)), (1, .int c1), (2, .int c2), (3, .int c3), (4, .int c4), (5, .int c5), (6, .int v6)] [] (fX6_readPerson_L72 k103 c1 c2 c3 c4 c5 n v6 s) := by
  intro n
  induction n with
  | zero =>
    intro v6 s
    exact zr_none
  | succ n ih =>
    intro v6 s
    rw [fX6_readPerson_L72]
    refine zr_iload (pc := 72) 6 hC dX6_readPerson_72 rfl ?_
    refine zr_iconst (pc := 74) (v := (4 : Int32)) hC dX6_readPerson_74 ic_4 ?_
    refine zr_icmp_ge (pc := 75) (tgt := 103) hC dX6_readPerson_75 (by decide) (fun c_ => ?_) (fun c_ => ?_)
    · refine zr_sub (ls' := [(0, _), (1, _), (2, _), (3, _), (4, _), (5, _)]) [0, 1, 2, 3, 4, 5] rfl ?_
      exact hk103 s
    · refine zr_aload_n (pc := 78) (i := 0) 0 hC dX6_readPerson_78 rfl rfl ?_
      refine zr_getR (pc := 79) (j := 1) (k1 := 14) hC mem_2 lay_2 rfl rfl (Nat.le_of_ble_eq_true rfl) iX6 m_174 dX6_readPerson_79 ?_
      refine zr_iload (pc := 82) 5 hC dX6_readPerson_82 rfl ?_
      refine zr_iload (pc := 84) 6 hC dX6_readPerson_84 rfl ?_
      refine zr_aload_n (pc := 86) (i := 0) 0 hC dX6_readPerson_86 rfl rfl ?_
      refine zr_iconst (pc := 87) (v := (0 : Int32)) hC dX6_readPerson_87 ic_0 ?_
      refine zr_sipush (pc := 88) (v := (999 : Int32)) hC dX6_readPerson_88 si_999 ?_
      refine zr_callV (pc := 91) (As := fun ad => [.int (0 : Int32), .int (999 : Int32)]) (st1 := [.int v6, .int c5, .ref (X_ad X 14)]) hC (Nat.le_of_ble_eq_true rfl) (kX6_takeNumber _ (0 : Int32) (999 : Int32) _) (Nat.le_of_ble_eq_true rfl) mc_yX6_takeNumber m_841 m_843 m_p19 mem_2 lay_2 rfl rfl rfl rfl (Nat.le_of_ble_eq_true rfl) dX6_readPerson_91 (fun y_3 s_3 => ?_)
      refine zr_callVv (pc := 94) (As := fun ad => [.int c5, .int v6, .int y_3]) (st1 := []) hC (Nat.le_of_ble_eq_true rfl) (kX10_setPart _ is_14 c5 v6 y_3 _) (Nat.le_of_ble_eq_true rfl) mc_yX10_setPart m_845 m_846 m_847 mem_14 lay_14 rfl rfl rfl rfl (Nat.le_of_ble_eq_true rfl) dX6_readPerson_94 (fun y_4 s_4 => ?_)
      refine zr_iinc (pc := 97) (q := 6) (ls' := [(6, _), (0, _), (1, _), (2, _), (3, _), (4, _), (5, _)]) hC dX6_readPerson_97 rfl (inc_1 _) (nlt hN (Nat.le_of_ble_eq_true rfl)) rfl ?_
      refine zr_goto (pc := 100) (tgt := 72) hC dX6_readPerson_100 (by decide) ?_
      refine zr_sub (ls' := [(0, _), (1, _), (2, _), (3, _), (4, _), (5, _), (6, _)]) [1, 2, 3, 4, 5, 6, 0] rfl ?_
      exact ih (v6 + (1 : Int32)) s_4
def fX6_readPerson_J50 (v1 : Int32) (v2 : Int32) (q0 : Int32) (s : St) : Option (Int32 × St) :=
  bd (fX6_takeNumber (0 : Int32) (9 : Int32) s) (fun y_2 s_2 =>
    fX6_readPerson_L72 (fun s_5 => if (s_5 2 4) = 0 then
    (bd (fX10_setPlace 14 (s_2 3 0) y_2 s_5) (fun y_6 s_6 =>
    if v1 = (1 : Int32) then
    (bd (fX4_addPerson 3 v2 q0 (1 : Int32) s_6) (fun y_8 s_8 =>
    some (0, s_8)))
  else
    (bd (fX4_addPerson 3 v2 q0 (0 : Int32) s_6) (fun y_7 s_7 =>
    some (0, s_7)))))
  else
    (some (0, s_5))) v1 v2 q0 y_2 (s_2 3 0) FU (0 : Int32) s_2)
set_option maxRecDepth 100000 in
set_option maxHeartbeats 4000000 in
theorem tX6_readPerson_J50 (v1 : Int32) (v2 : Int32) (q0 : Int32) (X : KX) (hC : Ctx X RX6 cX6_readPerson FULL 5 0) (hR : RC X none) (hN : X_nL X = 7) (s : St) : Zr X (QFN X none) 0 s 50 [(0, .ref (X_ad X 2)), (1, .int v1), (2, .int v2)] [.int q0] (fX6_readPerson_J50 v1 v2 q0 s) := by
  rw [fX6_readPerson_J50]
  refine zr_istore_n (pc := 50) (i := 3) (ls' := [(3, _), (0, _), (1, _), (2, _)]) hC dX6_readPerson_50 rfl (nlt hN (Nat.le_of_ble_eq_true rfl)) rfl ?_
  refine zr_aload_n (pc := 51) (i := 0) 1 hC dX6_readPerson_51 rfl rfl ?_
  refine zr_iconst (pc := 52) (v := (0 : Int32)) hC dX6_readPerson_52 ic_0 ?_
  refine zr_bipush (pc := 53) (v := (9 : Int32)) hC dX6_readPerson_53 bi_9 ?_
  refine zr_callV (pc := 55) (As := fun ad => [.int (0 : Int32), .int (9 : Int32)]) (st1 := []) hC (Nat.le_of_ble_eq_true rfl) (kX6_takeNumber _ (0 : Int32) (9 : Int32) _) (Nat.le_of_ble_eq_true rfl) mc_yX6_takeNumber m_841 m_843 m_p19 mem_2 lay_2 rfl rfl rfl rfl (Nat.le_of_ble_eq_true rfl) dX6_readPerson_55 (fun y_2 s_2 => ?_)
  refine zr_istore (pc := 58) (ls' := [(4, _), (3, _), (0, _), (1, _), (2, _)]) hC dX6_readPerson_58 (nlt hN (Nat.le_of_ble_eq_true rfl)) rfl ?_
  refine zr_aload_n (pc := 60) (i := 0) 2 hC dX6_readPerson_60 rfl rfl ?_
  refine zr_getR (pc := 61) (j := 0) (k1 := 3) hC mem_2 lay_2 rfl rfl (Nat.le_of_ble_eq_true rfl) iX6 m_172 dX6_readPerson_61 ?_
  refine zr_getI (pc := 64) (j := 0) hC mem_3 lay_3 rfl rfl (Nat.le_of_ble_eq_true rfl) iX4 m_71 dX6_readPerson_64 ?_
  refine zr_istore (pc := 67) (ls' := [(5, _), (4, _), (3, _), (0, _), (1, _), (2, _)]) hC dX6_readPerson_67 (nlt hN (Nat.le_of_ble_eq_true rfl)) rfl ?_
  refine zr_iconst (pc := 69) (v := (0 : Int32)) hC dX6_readPerson_69 ic_0 ?_
  refine zr_istore (pc := 70) (ls' := [(6, _), (5, _), (4, _), (3, _), (0, _), (1, _), (2, _)]) hC dX6_readPerson_70 (nlt hN (Nat.le_of_ble_eq_true rfl)) rfl ?_
  refine zr_sub (ls' := [(0, _), (1, _), (2, _), (3, _), (4, _), (5, _), (6, _)]) [4, 5, 6, 3, 2, 1, 0] rfl ?_
  refine tX6_readPerson_L72 v1 v2 q0 y_2 (s_2 3 0) _ X hC hR hN (fun s_5 => ?_) FU (0 : Int32) _
  · refine zr_aload_n (pc := 103) (i := 0) 0 hC dX6_readPerson_103 rfl rfl ?_
    refine zr_getI (pc := 104) (j := 4) hC mem_2 lay_2 rfl rfl (Nat.le_of_ble_eq_true rfl) iX6 m_179 dX6_readPerson_104 ?_
    refine zr_if_ne (pc := 107) (tgt := 140) hC dX6_readPerson_107 (by decide) (fun c_ => ?_) (fun c_ => ?_)
    · refine zr_aload_n (pc := 110) (i := 0) 0 hC dX6_readPerson_110 rfl rfl ?_
      refine zr_getR (pc := 111) (j := 1) (k1 := 14) hC mem_2 lay_2 rfl rfl (Nat.le_of_ble_eq_true rfl) iX6 m_174 dX6_readPerson_111 ?_
      refine zr_iload (pc := 114) 5 hC dX6_readPerson_114 rfl ?_
      refine zr_iload (pc := 116) 4 hC dX6_readPerson_116 rfl ?_
      refine zr_callVv (pc := 118) (As := fun ad => [.int (s_2 3 0), .int y_2]) (st1 := []) hC (Nat.le_of_ble_eq_true rfl) (kX10_setPlace _ is_14 (s_2 3 0) y_2 _) (Nat.le_of_ble_eq_true rfl) mc_yX10_setPlace m_849 m_850 m_851 mem_14 lay_14 rfl rfl rfl rfl (Nat.le_of_ble_eq_true rfl) dX6_readPerson_118 (fun y_6 s_6 => ?_)
      refine zr_aload_n (pc := 121) (i := 0) 0 hC dX6_readPerson_121 rfl rfl ?_
      refine zr_getR (pc := 122) (j := 0) (k1 := 3) hC mem_2 lay_2 rfl rfl (Nat.le_of_ble_eq_true rfl) iX6 m_172 dX6_readPerson_122 ?_
      refine zr_iload_n (pc := 125) (i := 2) 2 hC dX6_readPerson_125 rfl rfl ?_
      refine zr_iload_n (pc := 126) (i := 3) 3 hC dX6_readPerson_126 rfl rfl ?_
      refine zr_iload_n (pc := 127) (i := 1) 1 hC dX6_readPerson_127 rfl rfl ?_
      refine zr_iconst (pc := 128) (v := (1 : Int32)) hC dX6_readPerson_128 ic_1 ?_
      refine zr_icmp_ne (pc := 129) (tgt := 136) hC dX6_readPerson_129 (by decide) (fun c_ => ?_) (fun c_ => ?_)
      · refine zr_iconst (pc := 132) (v := (1 : Int32)) hC dX6_readPerson_132 ic_1 ?_
        refine zr_goto (pc := 133) (tgt := 137) hC dX6_readPerson_133 (by decide) ?_
        refine zr_callVv (pc := 137) (As := fun ad => [.int v2, .int q0, .int (1 : Int32)]) (st1 := []) hC (Nat.le_of_ble_eq_true rfl) (kX4_addPerson _ is_3 v2 q0 (1 : Int32) _) (Nat.le_of_ble_eq_true rfl) mc_yX4_addPerson m_853 m_854 m_855 mem_3 lay_3 rfl rfl rfl rfl (Nat.le_of_ble_eq_true rfl) dX6_readPerson_137 (fun y_8 s_8 => ?_)
        exact zr_vret (pc := 140) hC hR dX6_readPerson_140
      · refine zr_iconst (pc := 136) (v := (0 : Int32)) hC dX6_readPerson_136 ic_0 ?_
        refine zr_callVv (pc := 137) (As := fun ad => [.int v2, .int q0, .int (0 : Int32)]) (st1 := []) hC (Nat.le_of_ble_eq_true rfl) (kX4_addPerson _ is_3 v2 q0 (0 : Int32) _) (Nat.le_of_ble_eq_true rfl) mc_yX4_addPerson m_853 m_854 m_855 mem_3 lay_3 rfl rfl rfl rfl (Nat.le_of_ble_eq_true rfl) dX6_readPerson_137 (fun y_7 s_7 => ?_)
        exact zr_vret (pc := 140) hC hR dX6_readPerson_140
    · exact zr_vret (pc := 140) hC hR dX6_readPerson_140
def fX6_readPerson_J35 (v1 : Int32) (q0 : Int32) (s : St) : Option (Int32 × St) :=
  if v1 ≤ (1 : Int32) then
    (fX6_readPerson_J50 v1 q0 (-1 : Int32) s)
  else
    (bd (fX6_takePerson q0 s) (fun y_9 s_9 =>
    fX6_readPerson_J50 v1 q0 y_9 s_9))
set_option maxRecDepth 100000 in
set_option maxHeartbeats 4000000 in
theorem tX6_readPerson_J35 (v1 : Int32) (q0 : Int32) (X : KX) (hC : Ctx X RX6 cX6_readPerson FULL 5 0) (hR : RC X none) (hN : X_nL X = 7) (s : St) : Zr X (QFN X none) 0 s 35 [(0, .ref (X_ad X 2)), (1, .int v1)] [.int q0] (fX6_readPerson_J35 v1 q0 s) := by
  rw [fX6_readPerson_J35]
  refine zr_istore_n (pc := 35) (i := 2) (ls' := [(2, _), (0, _), (1, _)]) hC dX6_readPerson_35 rfl (nlt hN (Nat.le_of_ble_eq_true rfl)) rfl ?_
  refine zr_iload_n (pc := 36) (i := 1) 2 hC dX6_readPerson_36 rfl rfl ?_
  refine zr_iconst (pc := 37) (v := (1 : Int32)) hC dX6_readPerson_37 ic_1 ?_
  refine zr_icmp_le (pc := 38) (tgt := 49) hC dX6_readPerson_38 (by decide) (fun c_ => ?_) (fun c_ => ?_)
  · refine zr_iconst (pc := 49) (v := (-1 : Int32)) hC dX6_readPerson_49 ic_m1 ?_
    refine zr_sub (ls' := [(0, _), (1, _), (2, _)]) [1, 2, 0] rfl ?_
    exact tX6_readPerson_J50 v1 q0 (-1 : Int32) X hC hR hN  _
  · refine zr_aload_n (pc := 41) (i := 0) 1 hC dX6_readPerson_41 rfl rfl ?_
    refine zr_iload_n (pc := 42) (i := 2) 0 hC dX6_readPerson_42 rfl rfl ?_
    refine zr_callV (pc := 43) (As := fun ad => [.int q0]) (st1 := []) hC (Nat.le_of_ble_eq_true rfl) (kX6_takePerson _ q0 _) (Nat.le_of_ble_eq_true rfl) mc_yX6_takePerson m_829 m_831 m_p16 mem_2 lay_2 rfl rfl rfl rfl (Nat.le_of_ble_eq_true rfl) dX6_readPerson_43 (fun y_9 s_9 => ?_)
    refine zr_goto (pc := 46) (tgt := 50) hC dX6_readPerson_46 (by decide) ?_
    refine zr_sub (ls' := [(0, _), (1, _), (2, _)]) [1, 2, 0] rfl ?_
    exact tX6_readPerson_J50 v1 q0 y_9 X hC hR hN  _
def fX6_readPerson_J18 (v1 : Int32) (q0 : Int32) (s : St) : Option (Int32 × St) :=
  bd (fX6_takeFirst q0 (2 : Int32) s) (fun y_1 s_1 =>
    if v1 ≤ 0 then
    (fX6_readPerson_J35 v1 (-1 : Int32) s_1)
  else
    (bd (fX6_takePerson (-1 : Int32) s_1) (fun y_10 s_10 =>
    fX6_readPerson_J35 v1 y_10 s_10)))
set_option maxRecDepth 100000 in
set_option maxHeartbeats 4000000 in
theorem tX6_readPerson_J18 (v1 : Int32) (q0 : Int32) (X : KX) (hC : Ctx X RX6 cX6_readPerson FULL 5 0) (hR : RC X none) (hN : X_nL X = 7) (s : St) : Zr X (QFN X none) 0 s 18 [(0, .ref (X_ad X 2)), (1, .int v1)] [.int q0, .ref (X_ad X 2)] (fX6_readPerson_J18 v1 q0 s) := by
  rw [fX6_readPerson_J18]
  refine zr_iconst (pc := 18) (v := (2 : Int32)) hC dX6_readPerson_18 ic_2 ?_
  refine zr_callVv (pc := 19) (As := fun ad => [.int q0, .int (2 : Int32)]) (st1 := []) hC (Nat.le_of_ble_eq_true rfl) (kX6_takeFirst _ q0 (2 : Int32) _) (Nat.le_of_ble_eq_true rfl) mc_yX6_takeFirst m_821 m_823 m_p14 mem_2 lay_2 rfl rfl rfl rfl (Nat.le_of_ble_eq_true rfl) dX6_readPerson_19 (fun y_1 s_1 => ?_)
  refine zr_iload_n (pc := 22) (i := 1) 1 hC dX6_readPerson_22 rfl rfl ?_
  refine zr_if_le (pc := 23) (tgt := 34) hC dX6_readPerson_23 (by decide) (fun c_ => ?_) (fun c_ => ?_)
  · refine zr_iconst (pc := 34) (v := (-1 : Int32)) hC dX6_readPerson_34 ic_m1 ?_
    exact tX6_readPerson_J35 v1 (-1 : Int32) X hC hR hN  _
  · refine zr_aload_n (pc := 26) (i := 0) 0 hC dX6_readPerson_26 rfl rfl ?_
    refine zr_iconst (pc := 27) (v := (-1 : Int32)) hC dX6_readPerson_27 ic_m1 ?_
    refine zr_callV (pc := 28) (As := fun ad => [.int (-1 : Int32)]) (st1 := []) hC (Nat.le_of_ble_eq_true rfl) (kX6_takePerson _ (-1 : Int32) _) (Nat.le_of_ble_eq_true rfl) mc_yX6_takePerson m_829 m_831 m_p16 mem_2 lay_2 rfl rfl rfl rfl (Nat.le_of_ble_eq_true rfl) dX6_readPerson_28 (fun y_10 s_10 => ?_)
    refine zr_goto (pc := 31) (tgt := 35) hC dX6_readPerson_31 (by decide) ?_
    exact tX6_readPerson_J35 v1 y_10 X hC hR hN  _
def fX6_readPerson (a1 : Int32) (s : St) : Option (Int32 × St) :=
  if (s 3 0) < (12 : Int32) then
    (fX6_readPerson_J18 a1 (0 : Int32) s)
  else
    (fX6_readPerson_J18 a1 (1 : Int32) s)
set_option maxRecDepth 100000 in
set_option maxHeartbeats 4000000 in
theorem kX6_readPerson (l : Launch)  (a1 : Int32) (s : St) : CN l yX6_readPerson cX6_readPerson 7 none 5 FULL (fun ad => [.ref (ad 2), .int a1]) s (fX6_readPerson a1 s) := by
  refine cn_of (by decide) (fun _ => (Nat.le_of_ble_eq_true rfl)) (fun X hC hR hl hN => ?_)
  subst hl
  show Zr X (QFN X none) 0 s 0 [(0, .ref (X_ad X 2)), (1, .int a1)] [] _
  rw [fX6_readPerson]
  refine zr_aload_n (pc := 0) (i := 0) 0 hC dX6_readPerson_0 rfl rfl ?_
  refine zr_aload_n (pc := 1) (i := 0) 0 hC dX6_readPerson_1 rfl rfl ?_
  refine zr_getR (pc := 2) (j := 0) (k1 := 3) hC mem_2 lay_2 rfl rfl (Nat.le_of_ble_eq_true rfl) iX6 m_172 dX6_readPerson_2 ?_
  refine zr_getI (pc := 5) (j := 0) hC mem_3 lay_3 rfl rfl (Nat.le_of_ble_eq_true rfl) iX4 m_71 dX6_readPerson_5 ?_
  refine zr_bipush (pc := 8) (v := (12 : Int32)) hC dX6_readPerson_8 bi_12 ?_
  refine zr_icmp_lt (pc := 10) (tgt := 17) hC dX6_readPerson_10 (by decide) (fun c_ => ?_) (fun c_ => ?_)
  · refine zr_iconst (pc := 17) (v := (0 : Int32)) hC dX6_readPerson_17 ic_0 ?_
    exact tX6_readPerson_J18 a1 (0 : Int32) X hC hR hN  _
  · refine zr_iconst (pc := 13) (v := (1 : Int32)) hC dX6_readPerson_13 ic_1 ?_
    refine zr_goto (pc := 14) (tgt := 18) hC dX6_readPerson_14 (by decide) ?_
    exact tX6_readPerson_J18 a1 (1 : Int32) X hC hR hN  _
def fX10_spouse (w : Nat) (a1 : Int32) (s : St) : Option (Int32 × St) :=
  bd (fX11_at (w + 1) ((60 : Int32) + a1) s) (fun y_1 s_1 =>
    some (y_1, s_1))
set_option maxRecDepth 100000 in
set_option maxHeartbeats 4000000 in
theorem kX10_spouse (l : Launch)  {w : Nat} (hw : isWd w) (a1 : Int32) (s : St) : CN l yX10_spouse cX10_spouse 2 (some .int) 2 FULL (fun ad => [.ref (ad w), .int a1]) s (fX10_spouse w a1 s) := by
  refine cn_of (by decide) (fun _ => (Nat.le_of_ble_eq_true rfl)) (fun X hC hR hl hN => ?_)
  subst hl
  show Zr X (QFN X (some .int)) 0 s 0 [(0, .ref (X_ad X w)), (1, .int a1)] [] _
  rw [fX10_spouse]
  refine zr_aload_n (pc := 0) (i := 0) 0 hC dX10_spouse_0 rfl rfl ?_
  refine zr_getR (pc := 1) (j := 0) (k1 := (w + 1)) hC hw.1.1 hw.1.2 rfl rfl (Nat.le_of_ble_eq_true rfl) iX10 m_143 dX10_spouse_1 ?_
  refine zr_bipush (pc := 4) (v := (60 : Int32)) hC dX10_spouse_4 bi_60 ?_
  refine zr_iload_n (pc := 6) (i := 1) 1 hC dX10_spouse_6 rfl rfl ?_
  refine zr_iadd (pc := 7) hC dX10_spouse_7 ?_
  refine zr_callSN (pc := 8) (As := fun ad => [.ref (ad (w + 1)), .int ((60 : Int32) + a1)]) (st1 := []) hC (Nat.le_of_ble_eq_true rfl) (kX11_at _ (isArr_of hw.2) ((60 : Int32) + a1) _) (Nat.le_of_ble_eq_true rfl) mc_yX11_at m_478 m_453 rfl rfl (Nat.le_of_ble_eq_true rfl) dX10_spouse_8 (fun y_1 s_1 => ?_)
  exact zr_iret (pc := 11) hC hR dX10_spouse_11
def fX6_takeSpouse (a1 : Int32) (s : St) : Option (Int32 × St) :=
  bd (fX6_lookPerson a1 s) (fun y_1 s_1 =>
    if (s_1 2 4) = 0 then
    (bd (fX10_spouse 14 y_1 s_1) (fun y_3 s_3 =>
    if y_3 = (-1 : Int32) then
    (bd (fX6_advance s_3) (fun y_4 s_4 =>
    some (y_1, s_4)))
  else
    (bd (fX6_refuse (6 : Int32) s_3) (fun y_5 s_5 =>
    bd (fX6_advance s_5) (fun y_6 s_6 =>
    some (y_1, s_6))))))
  else
    (bd (fX6_advance s_1) (fun y_2 s_2 =>
    some (y_1, s_2))))
set_option maxRecDepth 100000 in
set_option maxHeartbeats 4000000 in
theorem kX6_takeSpouse (l : Launch)  (a1 : Int32) (s : St) : CN l yX6_takeSpouse cX6_takeSpouse 3 (some .int) 4 FULL (fun ad => [.ref (ad 2), .int a1]) s (fX6_takeSpouse a1 s) := by
  refine cn_of (by decide) (fun _ => (Nat.le_of_ble_eq_true rfl)) (fun X hC hR hl hN => ?_)
  subst hl
  show Zr X (QFN X (some .int)) 0 s 0 [(0, .ref (X_ad X 2)), (1, .int a1)] [] _
  rw [fX6_takeSpouse]
  refine zr_aload_n (pc := 0) (i := 0) 0 hC dX6_takeSpouse_0 rfl rfl ?_
  refine zr_iload_n (pc := 1) (i := 1) 1 hC dX6_takeSpouse_1 rfl rfl ?_
  refine zr_callV (pc := 2) (As := fun ad => [.int a1]) (st1 := []) hC (Nat.le_of_ble_eq_true rfl) (kX6_lookPerson _ a1 _) (Nat.le_of_ble_eq_true rfl) mc_yX6_lookPerson m_833 m_835 m_p17 mem_2 lay_2 rfl rfl rfl rfl (Nat.le_of_ble_eq_true rfl) dX6_takeSpouse_2 (fun y_1 s_1 => ?_)
  refine zr_istore_n (pc := 5) (i := 2) (ls' := [(2, _), (0, _), (1, _)]) hC dX6_takeSpouse_5 rfl (nlt hN (Nat.le_of_ble_eq_true rfl)) rfl ?_
  refine zr_aload_n (pc := 6) (i := 0) 1 hC dX6_takeSpouse_6 rfl rfl ?_
  refine zr_getI (pc := 7) (j := 4) hC mem_2 lay_2 rfl rfl (Nat.le_of_ble_eq_true rfl) iX6 m_179 dX6_takeSpouse_7 ?_
  refine zr_if_ne (pc := 10) (tgt := 31) hC dX6_takeSpouse_10 (by decide) (fun c_ => ?_) (fun c_ => ?_)
  · refine zr_aload_n (pc := 13) (i := 0) 1 hC dX6_takeSpouse_13 rfl rfl ?_
    refine zr_getR (pc := 14) (j := 1) (k1 := 14) hC mem_2 lay_2 rfl rfl (Nat.le_of_ble_eq_true rfl) iX6 m_174 dX6_takeSpouse_14 ?_
    refine zr_iload_n (pc := 17) (i := 2) 0 hC dX6_takeSpouse_17 rfl rfl ?_
    refine zr_callV (pc := 18) (As := fun ad => [.int y_1]) (st1 := []) hC (Nat.le_of_ble_eq_true rfl) (kX10_spouse _ is_14 y_1 _) (Nat.le_of_ble_eq_true rfl) mc_yX10_spouse m_866 m_867 m_868 mem_14 lay_14 rfl rfl rfl rfl (Nat.le_of_ble_eq_true rfl) dX6_takeSpouse_18 (fun y_3 s_3 => ?_)
    refine zr_iconst (pc := 21) (v := (-1 : Int32)) hC dX6_takeSpouse_21 ic_m1 ?_
    refine zr_icmp_eq (pc := 22) (tgt := 31) hC dX6_takeSpouse_22 (by decide) (fun c_ => ?_) (fun c_ => ?_)
    · refine zr_aload_n (pc := 31) (i := 0) 1 hC dX6_takeSpouse_31 rfl rfl ?_
      refine zr_callVv (pc := 32) (As := fun ad => []) (st1 := []) hC (Nat.le_of_ble_eq_true rfl) (kX6_advance _  _) (Nat.le_of_ble_eq_true rfl) mc_yX6_advance m_808 m_810 m_p11 mem_2 lay_2 rfl rfl rfl rfl (Nat.le_of_ble_eq_true rfl) dX6_takeSpouse_32 (fun y_4 s_4 => ?_)
      refine zr_iload_n (pc := 35) (i := 2) 0 hC dX6_takeSpouse_35 rfl rfl ?_
      exact zr_iret (pc := 36) hC hR dX6_takeSpouse_36
    · refine zr_aload_n (pc := 25) (i := 0) 1 hC dX6_takeSpouse_25 rfl rfl ?_
      refine zr_bipush (pc := 26) (v := (6 : Int32)) hC dX6_takeSpouse_26 bi_6 ?_
      refine zr_callVv (pc := 28) (As := fun ad => [.int (6 : Int32)]) (st1 := []) hC (Nat.le_of_ble_eq_true rfl) (kX6_refuse _ (6 : Int32) _) (Nat.le_of_ble_eq_true rfl) mc_yX6_refuse m_825 m_827 m_p15 mem_2 lay_2 rfl rfl rfl rfl (Nat.le_of_ble_eq_true rfl) dX6_takeSpouse_28 (fun y_5 s_5 => ?_)
      refine zr_aload_n (pc := 31) (i := 0) 1 hC dX6_takeSpouse_31 rfl rfl ?_
      refine zr_callVv (pc := 32) (As := fun ad => []) (st1 := []) hC (Nat.le_of_ble_eq_true rfl) (kX6_advance _  _) (Nat.le_of_ble_eq_true rfl) mc_yX6_advance m_808 m_810 m_p11 mem_2 lay_2 rfl rfl rfl rfl (Nat.le_of_ble_eq_true rfl) dX6_takeSpouse_32 (fun y_6 s_6 => ?_)
      refine zr_iload_n (pc := 35) (i := 2) 0 hC dX6_takeSpouse_35 rfl rfl ?_
      exact zr_iret (pc := 36) hC hR dX6_takeSpouse_36
  · refine zr_aload_n (pc := 31) (i := 0) 1 hC dX6_takeSpouse_31 rfl rfl ?_
    refine zr_callVv (pc := 32) (As := fun ad => []) (st1 := []) hC (Nat.le_of_ble_eq_true rfl) (kX6_advance _  _) (Nat.le_of_ble_eq_true rfl) mc_yX6_advance m_808 m_810 m_p11 mem_2 lay_2 rfl rfl rfl rfl (Nat.le_of_ble_eq_true rfl) dX6_takeSpouse_32 (fun y_2 s_2 => ?_)
    refine zr_iload_n (pc := 35) (i := 2) 0 hC dX6_takeSpouse_35 rfl rfl ?_
    exact zr_iret (pc := 36) hC hR dX6_takeSpouse_36
def fX10_setSpouse (w : Nat) (a1 : Int32) (a2 : Int32) (s : St) : Option (Int32 × St) :=
  bd (fX11_put (w + 1) ((60 : Int32) + a1) a2 s) (fun y_1 s_1 =>
    some (0, s_1))
set_option maxRecDepth 100000 in
set_option maxHeartbeats 4000000 in
theorem kX10_setSpouse (l : Launch)  {w : Nat} (hw : isWd w) (a1 : Int32) (a2 : Int32) (s : St) : CN l yX10_setSpouse cX10_setSpouse 3 none 2 FULL (fun ad => [.ref (ad w), .int a1, .int a2]) s (fX10_setSpouse w a1 a2 s) := by
  refine cn_of (by decide) (fun _ => (Nat.le_of_ble_eq_true rfl)) (fun X hC hR hl hN => ?_)
  subst hl
  show Zr X (QFN X none) 0 s 0 [(0, .ref (X_ad X w)), (1, .int a1), (2, .int a2)] [] _
  rw [fX10_setSpouse]
  refine zr_aload_n (pc := 0) (i := 0) 0 hC dX10_setSpouse_0 rfl rfl ?_
  refine zr_getR (pc := 1) (j := 0) (k1 := (w + 1)) hC hw.1.1 hw.1.2 rfl rfl (Nat.le_of_ble_eq_true rfl) iX10 m_143 dX10_setSpouse_1 ?_
  refine zr_bipush (pc := 4) (v := (60 : Int32)) hC dX10_setSpouse_4 bi_60 ?_
  refine zr_iload_n (pc := 6) (i := 1) 1 hC dX10_setSpouse_6 rfl rfl ?_
  refine zr_iadd (pc := 7) hC dX10_setSpouse_7 ?_
  refine zr_iload_n (pc := 8) (i := 2) 2 hC dX10_setSpouse_8 rfl rfl ?_
  refine zr_callSNv (pc := 9) (As := fun ad => [.ref (ad (w + 1)), .int ((60 : Int32) + a1), .int a2]) (st1 := []) hC (Nat.le_of_ble_eq_true rfl) (kX11_put _ (isArr_of hw.2) ((60 : Int32) + a1) a2 _) (Nat.le_of_ble_eq_true rfl) mc_yX11_put m_498 m_141 rfl rfl (Nat.le_of_ble_eq_true rfl) dX10_setSpouse_9 (fun y_1 s_1 => ?_)
  exact zr_vret (pc := 12) hC hR dX10_setSpouse_12
def fX10_join (w : Nat) (a1 : Int32) (a2 : Int32) (s : St) : Option (Int32 × St) :=
  bd (fX10_setSpouse w a1 a2 s) (fun y_1 s_1 =>
    bd (fX10_setSpouse w a2 a1 s_1) (fun y_2 s_2 =>
    some (0, s_2)))
set_option maxRecDepth 100000 in
set_option maxHeartbeats 4000000 in
theorem kX10_join (l : Launch)  {w : Nat} (hw : isWd w) (a1 : Int32) (a2 : Int32) (s : St) : CN l yX10_join cX10_join 3 none 3 FULL (fun ad => [.ref (ad w), .int a1, .int a2]) s (fX10_join w a1 a2 s) := by
  refine cn_of (by decide) (fun _ => (Nat.le_of_ble_eq_true rfl)) (fun X hC hR hl hN => ?_)
  subst hl
  show Zr X (QFN X none) 0 s 0 [(0, .ref (X_ad X w)), (1, .int a1), (2, .int a2)] [] _
  rw [fX10_join]
  refine zr_aload_n (pc := 0) (i := 0) 0 hC dX10_join_0 rfl rfl ?_
  refine zr_iload_n (pc := 1) (i := 1) 1 hC dX10_join_1 rfl rfl ?_
  refine zr_iload_n (pc := 2) (i := 2) 2 hC dX10_join_2 rfl rfl ?_
  refine zr_callVv (pc := 3) (As := fun ad => [.int a1, .int a2]) (st1 := []) hC (Nat.le_of_ble_eq_true rfl) (kX10_setSpouse _ hw a1 a2 _) (Nat.le_of_ble_eq_true rfl) mc_yX10_setSpouse m_874 m_875 m_876 hw.1.1 hw.1.2 rfl rfl rfl rfl (Nat.le_of_ble_eq_true rfl) dX10_join_3 (fun y_1 s_1 => ?_)
  refine zr_aload_n (pc := 6) (i := 0) 0 hC dX10_join_6 rfl rfl ?_
  refine zr_iload_n (pc := 7) (i := 2) 2 hC dX10_join_7 rfl rfl ?_
  refine zr_iload_n (pc := 8) (i := 1) 1 hC dX10_join_8 rfl rfl ?_
  refine zr_callVv (pc := 9) (As := fun ad => [.int a2, .int a1]) (st1 := []) hC (Nat.le_of_ble_eq_true rfl) (kX10_setSpouse _ hw a2 a1 _) (Nat.le_of_ble_eq_true rfl) mc_yX10_setSpouse m_874 m_875 m_876 hw.1.1 hw.1.2 rfl rfl rfl rfl (Nat.le_of_ble_eq_true rfl) dX10_join_9 (fun y_2 s_2 => ?_)
  exact zr_vret (pc := 12) hC hR dX10_join_12
def fX6_readWed (s : St) : Option (Int32 × St) :=
  bd (fX6_advance s) (fun y_1 s_1 =>
    bd (fX6_takeSpouse (-1 : Int32) s_1) (fun y_2 s_2 =>
    bd (fX6_takeSpouse y_2 s_2) (fun y_3 s_3 =>
    if (s_3 2 4) = 0 then
    (bd (fX10_join 14 y_2 y_3 s_3) (fun y_4 s_4 =>
    some (0, s_4)))
  else
    (some (0, s_3)))))
set_option maxRecDepth 100000 in
set_option maxHeartbeats 4000000 in
theorem kX6_readWed (l : Launch)  (s : St) : CN l yX6_readWed cX6_readWed 3 none 5 FULL (fun ad => [.ref (ad 2)]) s (fX6_readWed s) := by
  refine cn_of (by decide) (fun _ => (Nat.le_of_ble_eq_true rfl)) (fun X hC hR hl hN => ?_)
  subst hl
  show Zr X (QFN X none) 0 s 0 [(0, .ref (X_ad X 2))] [] _
  rw [fX6_readWed]
  refine zr_aload_n (pc := 0) (i := 0) 0 hC dX6_readWed_0 rfl rfl ?_
  refine zr_callVv (pc := 1) (As := fun ad => []) (st1 := []) hC (Nat.le_of_ble_eq_true rfl) (kX6_advance _  _) (Nat.le_of_ble_eq_true rfl) mc_yX6_advance m_808 m_810 m_p11 mem_2 lay_2 rfl rfl rfl rfl (Nat.le_of_ble_eq_true rfl) dX6_readWed_1 (fun y_1 s_1 => ?_)
  refine zr_aload_n (pc := 4) (i := 0) 0 hC dX6_readWed_4 rfl rfl ?_
  refine zr_iconst (pc := 5) (v := (-1 : Int32)) hC dX6_readWed_5 ic_m1 ?_
  refine zr_callV (pc := 6) (As := fun ad => [.int (-1 : Int32)]) (st1 := []) hC (Nat.le_of_ble_eq_true rfl) (kX6_takeSpouse _ (-1 : Int32) _) (Nat.le_of_ble_eq_true rfl) mc_yX6_takeSpouse m_862 m_864 m_p21 mem_2 lay_2 rfl rfl rfl rfl (Nat.le_of_ble_eq_true rfl) dX6_readWed_6 (fun y_2 s_2 => ?_)
  refine zr_istore_n (pc := 9) (i := 1) (ls' := [(1, _), (0, _)]) hC dX6_readWed_9 rfl (nlt hN (Nat.le_of_ble_eq_true rfl)) rfl ?_
  refine zr_aload_n (pc := 10) (i := 0) 1 hC dX6_readWed_10 rfl rfl ?_
  refine zr_iload_n (pc := 11) (i := 1) 0 hC dX6_readWed_11 rfl rfl ?_
  refine zr_callV (pc := 12) (As := fun ad => [.int y_2]) (st1 := []) hC (Nat.le_of_ble_eq_true rfl) (kX6_takeSpouse _ y_2 _) (Nat.le_of_ble_eq_true rfl) mc_yX6_takeSpouse m_862 m_864 m_p21 mem_2 lay_2 rfl rfl rfl rfl (Nat.le_of_ble_eq_true rfl) dX6_readWed_12 (fun y_3 s_3 => ?_)
  refine zr_istore_n (pc := 15) (i := 2) (ls' := [(2, _), (1, _), (0, _)]) hC dX6_readWed_15 rfl (nlt hN (Nat.le_of_ble_eq_true rfl)) rfl ?_
  refine zr_aload_n (pc := 16) (i := 0) 2 hC dX6_readWed_16 rfl rfl ?_
  refine zr_getI (pc := 17) (j := 4) hC mem_2 lay_2 rfl rfl (Nat.le_of_ble_eq_true rfl) iX6 m_179 dX6_readWed_17 ?_
  refine zr_if_ne (pc := 20) (tgt := 32) hC dX6_readWed_20 (by decide) (fun c_ => ?_) (fun c_ => ?_)
  · refine zr_aload_n (pc := 23) (i := 0) 2 hC dX6_readWed_23 rfl rfl ?_
    refine zr_getR (pc := 24) (j := 1) (k1 := 14) hC mem_2 lay_2 rfl rfl (Nat.le_of_ble_eq_true rfl) iX6 m_174 dX6_readWed_24 ?_
    refine zr_iload_n (pc := 27) (i := 1) 1 hC dX6_readWed_27 rfl rfl ?_
    refine zr_iload_n (pc := 28) (i := 2) 0 hC dX6_readWed_28 rfl rfl ?_
    refine zr_callVv (pc := 29) (As := fun ad => [.int y_2, .int y_3]) (st1 := []) hC (Nat.le_of_ble_eq_true rfl) (kX10_join _ is_14 y_2 y_3 _) (Nat.le_of_ble_eq_true rfl) mc_yX10_join m_870 m_871 m_872 mem_14 lay_14 rfl rfl rfl rfl (Nat.le_of_ble_eq_true rfl) dX6_readWed_29 (fun y_4 s_4 => ?_)
    exact zr_vret (pc := 32) hC hR dX6_readWed_32
  · exact zr_vret (pc := 32) hC hR dX6_readWed_32
def fX4_addWill (g : Nat) (a1 : Int32) (a2 : Int32) (a3 : Int32) (s : St) : Option (Int32 × St) :=
  bd (fX11_put (g + 4) ((a1 * (12 : Int32)) + a2) a3 s) (fun y_1 s_1 =>
    let s_2 := wr s_1 g 4 ((s_1 g 4) + (1 : Int32));
    some (0, s_2))
set_option maxRecDepth 100000 in
set_option maxHeartbeats 4000000 in
theorem kX4_addWill (l : Launch)  {g : Nat} (hg : isLand g) (a1 : Int32) (a2 : Int32) (a3 : Int32) (s : St) : CN l yX4_addWill cX4_addWill 4 none 2 FULL (fun ad => [.ref (ad g), .int a1, .int a2, .int a3]) s (fX4_addWill g a1 a2 a3 s) := by
  refine cn_of (by decide) (fun _ => (Nat.le_of_ble_eq_true rfl)) (fun X hC hR hl hN => ?_)
  subst hl
  show Zr X (QFN X none) 0 s 0 [(0, .ref (X_ad X g)), (1, .int a1), (2, .int a2), (3, .int a3)] [] _
  rw [fX4_addWill]
  refine zr_aload_n (pc := 0) (i := 0) 0 hC dX4_addWill_0 rfl rfl ?_
  refine zr_getR (pc := 1) (j := 5) (k1 := (g + 4)) hC hg.1.1 hg.1.2 rfl rfl (Nat.le_of_ble_eq_true rfl) iX4 m_81 dX4_addWill_1 ?_
  refine zr_iload_n (pc := 4) (i := 1) 1 hC dX4_addWill_4 rfl rfl ?_
  refine zr_bipush (pc := 5) (v := (12 : Int32)) hC dX4_addWill_5 bi_12 ?_
  refine zr_imul (pc := 7) hC dX4_addWill_7 ?_
  refine zr_iload_n (pc := 8) (i := 2) 2 hC dX4_addWill_8 rfl rfl ?_
  refine zr_iadd (pc := 9) hC dX4_addWill_9 ?_
  refine zr_iload_n (pc := 10) (i := 3) 3 hC dX4_addWill_10 rfl rfl ?_
  refine zr_callSNv (pc := 11) (As := fun ad => [.ref (ad (g + 4)), .int ((a1 * (12 : Int32)) + a2), .int a3]) (st1 := []) hC (Nat.le_of_ble_eq_true rfl) (kX11_put _ (isArr_of hg.2.2.2.2.1) ((a1 * (12 : Int32)) + a2) a3 _) (Nat.le_of_ble_eq_true rfl) mc_yX11_put m_857 m_141 rfl rfl (Nat.le_of_ble_eq_true rfl) dX4_addWill_11 (fun y_1 s_1 => ?_)
  refine zr_aload_n (pc := 14) (i := 0) 0 hC dX4_addWill_14 rfl rfl ?_
  refine zr_dup (pc := 15) hC dX4_addWill_15 rfl ?_
  refine zr_getI (pc := 16) (j := 4) hC hg.1.1 hg.1.2 rfl rfl (Nat.le_of_ble_eq_true rfl) iX4 m_78 dX4_addWill_16 ?_
  refine zr_iconst (pc := 19) (v := (1 : Int32)) hC dX4_addWill_19 ic_1 ?_
  refine zr_iadd (pc := 20) hC dX4_addWill_20 ?_
  refine zr_putInt (pc := 21) (j := 4) hC hg.1.1 hg.1.2 rfl rfl (Nat.le_of_ble_eq_true rfl) iX4 tyX4_ok nmX4 m_78 rfl (by decide +kernel) dX4_addWill_21 ?_
  exact zr_vret (pc := 24) hC hR dX4_addWill_24
def fX6_readWill_J58 (v1 : Int32) (v2 : Int32) (s : St) : Option (Int32 × St) :=
  bd (fX6_advance s) (fun y_4 s_4 =>
    bd (fX6_takeNumber (1 : Int32) (99 : Int32) s_4) (fun y_5 s_5 =>
    if (s_5 2 4) = 0 then
    (bd (fX4_addWill 3 v1 v2 y_5 s_5) (fun y_6 s_6 =>
    some (0, s_6)))
  else
    (some (0, s_5))))
set_option maxRecDepth 100000 in
set_option maxHeartbeats 4000000 in
theorem tX6_readWill_J58 (v1 : Int32) (v2 : Int32) (X : KX) (hC : Ctx X RX6 cX6_readWill FULL 5 0) (hR : RC X none) (hN : X_nL X = 4) (s : St) : Zr X (QFN X none) 0 s 58 [(0, .ref (X_ad X 2)), (1, .int v1), (2, .int v2)] [] (fX6_readWill_J58 v1 v2 s) := by
  rw [fX6_readWill_J58]
  refine zr_aload_n (pc := 58) (i := 0) 0 hC dX6_readWill_58 rfl rfl ?_
  refine zr_callVv (pc := 59) (As := fun ad => []) (st1 := []) hC (Nat.le_of_ble_eq_true rfl) (kX6_advance _  _) (Nat.le_of_ble_eq_true rfl) mc_yX6_advance m_808 m_810 m_p11 mem_2 lay_2 rfl rfl rfl rfl (Nat.le_of_ble_eq_true rfl) dX6_readWill_59 (fun y_4 s_4 => ?_)
  refine zr_aload_n (pc := 62) (i := 0) 0 hC dX6_readWill_62 rfl rfl ?_
  refine zr_iconst (pc := 63) (v := (1 : Int32)) hC dX6_readWill_63 ic_1 ?_
  refine zr_bipush (pc := 64) (v := (99 : Int32)) hC dX6_readWill_64 bi_99 ?_
  refine zr_callV (pc := 66) (As := fun ad => [.int (1 : Int32), .int (99 : Int32)]) (st1 := []) hC (Nat.le_of_ble_eq_true rfl) (kX6_takeNumber _ (1 : Int32) (99 : Int32) _) (Nat.le_of_ble_eq_true rfl) mc_yX6_takeNumber m_841 m_843 m_p19 mem_2 lay_2 rfl rfl rfl rfl (Nat.le_of_ble_eq_true rfl) dX6_readWill_66 (fun y_5 s_5 => ?_)
  refine zr_istore_n (pc := 69) (i := 3) (ls' := [(3, _), (0, _), (1, _), (2, _)]) hC dX6_readWill_69 rfl (nlt hN (Nat.le_of_ble_eq_true rfl)) rfl ?_
  refine zr_aload_n (pc := 70) (i := 0) 1 hC dX6_readWill_70 rfl rfl ?_
  refine zr_getI (pc := 71) (j := 4) hC mem_2 lay_2 rfl rfl (Nat.le_of_ble_eq_true rfl) iX6 m_179 dX6_readWill_71 ?_
  refine zr_if_ne (pc := 74) (tgt := 87) hC dX6_readWill_74 (by decide) (fun c_ => ?_) (fun c_ => ?_)
  · refine zr_aload_n (pc := 77) (i := 0) 1 hC dX6_readWill_77 rfl rfl ?_
    refine zr_getR (pc := 78) (j := 0) (k1 := 3) hC mem_2 lay_2 rfl rfl (Nat.le_of_ble_eq_true rfl) iX6 m_172 dX6_readWill_78 ?_
    refine zr_iload_n (pc := 81) (i := 1) 2 hC dX6_readWill_81 rfl rfl ?_
    refine zr_iload_n (pc := 82) (i := 2) 3 hC dX6_readWill_82 rfl rfl ?_
    refine zr_iload_n (pc := 83) (i := 3) 0 hC dX6_readWill_83 rfl rfl ?_
    refine zr_callVv (pc := 84) (As := fun ad => [.int v1, .int v2, .int y_5]) (st1 := []) hC (Nat.le_of_ble_eq_true rfl) (kX4_addWill _ is_3 v1 v2 y_5 _) (Nat.le_of_ble_eq_true rfl) mc_yX4_addWill m_883 m_884 m_885 mem_3 lay_3 rfl rfl rfl rfl (Nat.le_of_ble_eq_true rfl) dX6_readWill_84 (fun y_6 s_6 => ?_)
    exact zr_vret (pc := 87) hC hR dX6_readWill_87
  · exact zr_vret (pc := 87) hC hR dX6_readWill_87
def fX6_readWill_J18 (q0 : Int32) (s : St) : Option (Int32 × St) :=
  bd (fX6_takeFirst q0 (2 : Int32) s) (fun y_1 s_1 =>
    bd (fX6_takePerson (-1 : Int32) s_1) (fun y_2 s_2 =>
    bd (fX6_lookPerson y_2 s_2) (fun y_3 s_3 =>
    if (s_3 2 4) = 0 then
    (bd (fX4_left 3 y_2 y_3 s_3) (fun y_7 s_7 =>
    if y_7 ≤ 0 then
    (fX6_readWill_J58 y_2 y_3 s_7)
  else
    (bd (fX6_refuse (4 : Int32) s_7) (fun y_8 s_8 =>
    fX6_readWill_J58 y_2 y_3 s_8))))
  else
    (fX6_readWill_J58 y_2 y_3 s_3))))
set_option maxRecDepth 100000 in
set_option maxHeartbeats 4000000 in
theorem tX6_readWill_J18 (q0 : Int32) (X : KX) (hC : Ctx X RX6 cX6_readWill FULL 5 0) (hR : RC X none) (hN : X_nL X = 4) (s : St) : Zr X (QFN X none) 0 s 18 [(0, .ref (X_ad X 2))] [.int q0, .ref (X_ad X 2)] (fX6_readWill_J18 q0 s) := by
  rw [fX6_readWill_J18]
  refine zr_iconst (pc := 18) (v := (2 : Int32)) hC dX6_readWill_18 ic_2 ?_
  refine zr_callVv (pc := 19) (As := fun ad => [.int q0, .int (2 : Int32)]) (st1 := []) hC (Nat.le_of_ble_eq_true rfl) (kX6_takeFirst _ q0 (2 : Int32) _) (Nat.le_of_ble_eq_true rfl) mc_yX6_takeFirst m_821 m_823 m_p14 mem_2 lay_2 rfl rfl rfl rfl (Nat.le_of_ble_eq_true rfl) dX6_readWill_19 (fun y_1 s_1 => ?_)
  refine zr_aload_n (pc := 22) (i := 0) 0 hC dX6_readWill_22 rfl rfl ?_
  refine zr_iconst (pc := 23) (v := (-1 : Int32)) hC dX6_readWill_23 ic_m1 ?_
  refine zr_callV (pc := 24) (As := fun ad => [.int (-1 : Int32)]) (st1 := []) hC (Nat.le_of_ble_eq_true rfl) (kX6_takePerson _ (-1 : Int32) _) (Nat.le_of_ble_eq_true rfl) mc_yX6_takePerson m_829 m_831 m_p16 mem_2 lay_2 rfl rfl rfl rfl (Nat.le_of_ble_eq_true rfl) dX6_readWill_24 (fun y_2 s_2 => ?_)
  refine zr_istore_n (pc := 27) (i := 1) (ls' := [(1, _), (0, _)]) hC dX6_readWill_27 rfl (nlt hN (Nat.le_of_ble_eq_true rfl)) rfl ?_
  refine zr_aload_n (pc := 28) (i := 0) 1 hC dX6_readWill_28 rfl rfl ?_
  refine zr_iload_n (pc := 29) (i := 1) 0 hC dX6_readWill_29 rfl rfl ?_
  refine zr_callV (pc := 30) (As := fun ad => [.int y_2]) (st1 := []) hC (Nat.le_of_ble_eq_true rfl) (kX6_lookPerson _ y_2 _) (Nat.le_of_ble_eq_true rfl) mc_yX6_lookPerson m_833 m_835 m_p17 mem_2 lay_2 rfl rfl rfl rfl (Nat.le_of_ble_eq_true rfl) dX6_readWill_30 (fun y_3 s_3 => ?_)
  refine zr_istore_n (pc := 33) (i := 2) (ls' := [(2, _), (1, _), (0, _)]) hC dX6_readWill_33 rfl (nlt hN (Nat.le_of_ble_eq_true rfl)) rfl ?_
  refine zr_aload_n (pc := 34) (i := 0) 2 hC dX6_readWill_34 rfl rfl ?_
  refine zr_getI (pc := 35) (j := 4) hC mem_2 lay_2 rfl rfl (Nat.le_of_ble_eq_true rfl) iX6 m_179 dX6_readWill_35 ?_
  refine zr_if_ne (pc := 38) (tgt := 58) hC dX6_readWill_38 (by decide) (fun c_ => ?_) (fun c_ => ?_)
  · refine zr_aload_n (pc := 41) (i := 0) 2 hC dX6_readWill_41 rfl rfl ?_
    refine zr_getR (pc := 42) (j := 0) (k1 := 3) hC mem_2 lay_2 rfl rfl (Nat.le_of_ble_eq_true rfl) iX6 m_172 dX6_readWill_42 ?_
    refine zr_iload_n (pc := 45) (i := 1) 1 hC dX6_readWill_45 rfl rfl ?_
    refine zr_iload_n (pc := 46) (i := 2) 0 hC dX6_readWill_46 rfl rfl ?_
    refine zr_callV (pc := 47) (As := fun ad => [.int y_2, .int y_3]) (st1 := []) hC (Nat.le_of_ble_eq_true rfl) (kX4_left _ is_3 y_2 y_3 _) (Nat.le_of_ble_eq_true rfl) mc_yX4_left m_882 m_532 m_533 mem_3 lay_3 rfl rfl rfl rfl (Nat.le_of_ble_eq_true rfl) dX6_readWill_47 (fun y_7 s_7 => ?_)
    refine zr_if_le (pc := 50) (tgt := 58) hC dX6_readWill_50 (by decide) (fun c_ => ?_) (fun c_ => ?_)
    · refine zr_sub (ls' := [(0, _), (1, _), (2, _)]) [2, 1, 0] rfl ?_
      exact tX6_readWill_J58 y_2 y_3 X hC hR hN  _
    · refine zr_aload_n (pc := 53) (i := 0) 2 hC dX6_readWill_53 rfl rfl ?_
      refine zr_iconst (pc := 54) (v := (4 : Int32)) hC dX6_readWill_54 ic_4 ?_
      refine zr_callVv (pc := 55) (As := fun ad => [.int (4 : Int32)]) (st1 := []) hC (Nat.le_of_ble_eq_true rfl) (kX6_refuse _ (4 : Int32) _) (Nat.le_of_ble_eq_true rfl) mc_yX6_refuse m_825 m_827 m_p15 mem_2 lay_2 rfl rfl rfl rfl (Nat.le_of_ble_eq_true rfl) dX6_readWill_55 (fun y_8 s_8 => ?_)
      refine zr_sub (ls' := [(0, _), (1, _), (2, _)]) [2, 1, 0] rfl ?_
      exact tX6_readWill_J58 y_2 y_3 X hC hR hN  _
  · refine zr_sub (ls' := [(0, _), (1, _), (2, _)]) [2, 1, 0] rfl ?_
    exact tX6_readWill_J58 y_2 y_3 X hC hR hN  _
def fX6_readWill (s : St) : Option (Int32 × St) :=
  if (s 3 4) < (12 : Int32) then
    (fX6_readWill_J18 (0 : Int32) s)
  else
    (fX6_readWill_J18 (1 : Int32) s)
set_option maxRecDepth 100000 in
set_option maxHeartbeats 4000000 in
theorem kX6_readWill (l : Launch)  (s : St) : CN l yX6_readWill cX6_readWill 4 none 5 FULL (fun ad => [.ref (ad 2)]) s (fX6_readWill s) := by
  refine cn_of (by decide) (fun _ => (Nat.le_of_ble_eq_true rfl)) (fun X hC hR hl hN => ?_)
  subst hl
  show Zr X (QFN X none) 0 s 0 [(0, .ref (X_ad X 2))] [] _
  rw [fX6_readWill]
  refine zr_aload_n (pc := 0) (i := 0) 0 hC dX6_readWill_0 rfl rfl ?_
  refine zr_aload_n (pc := 1) (i := 0) 0 hC dX6_readWill_1 rfl rfl ?_
  refine zr_getR (pc := 2) (j := 0) (k1 := 3) hC mem_2 lay_2 rfl rfl (Nat.le_of_ble_eq_true rfl) iX6 m_172 dX6_readWill_2 ?_
  refine zr_getI (pc := 5) (j := 4) hC mem_3 lay_3 rfl rfl (Nat.le_of_ble_eq_true rfl) iX4 m_80 dX6_readWill_5 ?_
  refine zr_bipush (pc := 8) (v := (12 : Int32)) hC dX6_readWill_8 bi_12 ?_
  refine zr_icmp_lt (pc := 10) (tgt := 17) hC dX6_readWill_10 (by decide) (fun c_ => ?_) (fun c_ => ?_)
  · refine zr_iconst (pc := 17) (v := (0 : Int32)) hC dX6_readWill_17 ic_0 ?_
    exact tX6_readWill_J18 (0 : Int32) X hC hR hN  _
  · refine zr_iconst (pc := 13) (v := (1 : Int32)) hC dX6_readWill_13 ic_1 ?_
    refine zr_goto (pc := 14) (tgt := 18) hC dX6_readWill_14 (by decide) ?_
    exact tX6_readWill_J18 (1 : Int32) X hC hR hN  _
def fX4_hasFieldAt_L2 (g : Nat) (c1 : Int32) : Nat → Int32 → St → Option (Int32 × St)
  | 0, _, _ => none
  | n + 1, v2, s =>
    if (s g 6) ≤ v2 then
    (some ((0 : Int32), s))
  else
    (bd (fX11_at (g + 5) v2 s) (fun y_1 s_1 =>
    if y_1 = c1 then
    (some ((1 : Int32), s_1))
  else
    (fX4_hasFieldAt_L2 g c1 n (v2 + (1 : Int32)) s_1)))
set_option maxRecDepth 100000 in
set_option maxHeartbeats 4000000 in
theorem tX4_hasFieldAt_L2 (g : Nat) (c1 : Int32) (X : KX) (hC : Ctx X RX4 cX4_hasFieldAt FULL 2 0) (hR : RC X (some .boolean)) (hN : X_nL X = 3) (hg : isLand g) : ∀ (n : Nat) (v2 : Int32) (s : St), Zr X (QFN X (some .boolean)) 0 s 2 [(0, .ref (X_ad X g)), (1, .int c1), (2, .int v2)] [] (fX4_hasFieldAt_L2 g c1 n v2 s) := by
  intro n
  induction n with
  | zero =>
    intro v2 s
    exact zr_none
  | succ n ih =>
    intro v2 s
    rw [fX4_hasFieldAt_L2]
    refine zr_iload_n (pc := 2) (i := 2) 2 hC dX4_hasFieldAt_2 rfl rfl ?_
    refine zr_aload_n (pc := 3) (i := 0) 0 hC dX4_hasFieldAt_3 rfl rfl ?_
    refine zr_getI (pc := 4) (j := 6) hC hg.1.1 hg.1.2 rfl rfl (Nat.le_of_ble_eq_true rfl) iX4 m_82 dX4_hasFieldAt_4 ?_
    refine zr_icmp_ge (pc := 7) (tgt := 30) hC dX4_hasFieldAt_7 (by decide) (fun c_ => ?_) (fun c_ => ?_)
    · refine zr_iconst (pc := 30) (v := (0 : Int32)) hC dX4_hasFieldAt_30 ic_0 ?_
      exact zr_zret (pc := 31) (by decide) hC hR dX4_hasFieldAt_31
    · refine zr_aload_n (pc := 10) (i := 0) 0 hC dX4_hasFieldAt_10 rfl rfl ?_
      refine zr_getR (pc := 11) (j := 7) (k1 := (g + 5)) hC hg.1.1 hg.1.2 rfl rfl (Nat.le_of_ble_eq_true rfl) iX4 m_87 dX4_hasFieldAt_11 ?_
      refine zr_iload_n (pc := 14) (i := 2) 2 hC dX4_hasFieldAt_14 rfl rfl ?_
      refine zr_callSN (pc := 15) (As := fun ad => [.ref (ad (g + 5)), .int v2]) (st1 := []) hC (Nat.le_of_ble_eq_true rfl) (kX11_at _ (isArr_of hg.2.2.2.2.2.1) v2 _) (Nat.le_of_ble_eq_true rfl) mc_yX11_at m_535 m_453 rfl rfl (Nat.le_of_ble_eq_true rfl) dX4_hasFieldAt_15 (fun y_1 s_1 => ?_)
      refine zr_iload_n (pc := 18) (i := 1) 1 hC dX4_hasFieldAt_18 rfl rfl ?_
      refine zr_icmp_ne (pc := 19) (tgt := 24) hC dX4_hasFieldAt_19 (by decide) (fun c_ => ?_) (fun c_ => ?_)
      · refine zr_iconst (pc := 22) (v := (1 : Int32)) hC dX4_hasFieldAt_22 ic_1 ?_
        exact zr_zret (pc := 23) (by decide) hC hR dX4_hasFieldAt_23
      · refine zr_iinc (pc := 24) (q := 2) (ls' := [(2, _), (0, _), (1, _)]) hC dX4_hasFieldAt_24 rfl (inc_1 _) (nlt hN (Nat.le_of_ble_eq_true rfl)) rfl ?_
        refine zr_goto (pc := 27) (tgt := 2) hC dX4_hasFieldAt_27 (by decide) ?_
        refine zr_sub (ls' := [(0, _), (1, _), (2, _)]) [1, 2, 0] rfl ?_
        exact ih (v2 + (1 : Int32)) s_1
def fX4_hasFieldAt (g : Nat) (a1 : Int32) (s : St) : Option (Int32 × St) :=
  fX4_hasFieldAt_L2 g a1 FU (0 : Int32) s
set_option maxRecDepth 100000 in
set_option maxHeartbeats 4000000 in
theorem kX4_hasFieldAt (l : Launch)  {g : Nat} (hg : isLand g) (a1 : Int32) (s : St) : CN l yX4_hasFieldAt cX4_hasFieldAt 3 (some .boolean) 2 FULL (fun ad => [.ref (ad g), .int a1]) s (fX4_hasFieldAt g a1 s) := by
  refine cn_of (by decide) (fun _ => (Nat.le_of_ble_eq_true rfl)) (fun X hC hR hl hN => ?_)
  subst hl
  show Zr X (QFN X (some .boolean)) 0 s 0 [(0, .ref (X_ad X g)), (1, .int a1)] [] _
  rw [fX4_hasFieldAt]
  refine zr_iconst (pc := 0) (v := (0 : Int32)) hC dX4_hasFieldAt_0 ic_0 ?_
  refine zr_istore_n (pc := 1) (i := 2) (ls' := [(2, _), (0, _), (1, _)]) hC dX4_hasFieldAt_1 rfl (nlt hN (Nat.le_of_ble_eq_true rfl)) rfl ?_
  refine zr_sub (ls' := [(0, _), (1, _), (2, _)]) [1, 2, 0] rfl ?_
  exact tX4_hasFieldAt_L2 g a1 X hC hR hN hg FU (0 : Int32) _
def fX4_addField (g : Nat) (a1 : Int32) (a2 : Int32) (a3 : Int32) (s : St) : Option (Int32 × St) :=
  bd (fX11_put (g + 5) (s g 6) a1 s) (fun y_1 s_1 =>
    bd (fX11_put (g + 6) (s_1 g 6) a2 s_1) (fun y_2 s_2 =>
    bd (fX11_put (g + 7) (s_2 g 6) a3 s_2) (fun y_3 s_3 =>
    let s_4 := wr s_3 g 6 ((s_3 g 6) + (1 : Int32));
    some (0, s_4))))
set_option maxRecDepth 100000 in
set_option maxHeartbeats 4000000 in
theorem kX4_addField (l : Launch)  {g : Nat} (hg : isLand g) (a1 : Int32) (a2 : Int32) (a3 : Int32) (s : St) : CN l yX4_addField cX4_addField 4 none 2 FULL (fun ad => [.ref (ad g), .int a1, .int a2, .int a3]) s (fX4_addField g a1 a2 a3 s) := by
  refine cn_of (by decide) (fun _ => (Nat.le_of_ble_eq_true rfl)) (fun X hC hR hl hN => ?_)
  subst hl
  show Zr X (QFN X none) 0 s 0 [(0, .ref (X_ad X g)), (1, .int a1), (2, .int a2), (3, .int a3)] [] _
  rw [fX4_addField]
  refine zr_aload_n (pc := 0) (i := 0) 0 hC dX4_addField_0 rfl rfl ?_
  refine zr_getR (pc := 1) (j := 7) (k1 := (g + 5)) hC hg.1.1 hg.1.2 rfl rfl (Nat.le_of_ble_eq_true rfl) iX4 m_87 dX4_addField_1 ?_
  refine zr_aload_n (pc := 4) (i := 0) 0 hC dX4_addField_4 rfl rfl ?_
  refine zr_getI (pc := 5) (j := 6) hC hg.1.1 hg.1.2 rfl rfl (Nat.le_of_ble_eq_true rfl) iX4 m_82 dX4_addField_5 ?_
  refine zr_iload_n (pc := 8) (i := 1) 1 hC dX4_addField_8 rfl rfl ?_
  refine zr_callSNv (pc := 9) (As := fun ad => [.ref (ad (g + 5)), .int (s g 6), .int a1]) (st1 := []) hC (Nat.le_of_ble_eq_true rfl) (kX11_put _ (isArr_of hg.2.2.2.2.2.1) (s g 6) a1 _) (Nat.le_of_ble_eq_true rfl) mc_yX11_put m_857 m_141 rfl rfl (Nat.le_of_ble_eq_true rfl) dX4_addField_9 (fun y_1 s_1 => ?_)
  refine zr_aload_n (pc := 12) (i := 0) 0 hC dX4_addField_12 rfl rfl ?_
  refine zr_getR (pc := 13) (j := 8) (k1 := (g + 6)) hC hg.1.1 hg.1.2 rfl rfl (Nat.le_of_ble_eq_true rfl) iX4 m_91 dX4_addField_13 ?_
  refine zr_aload_n (pc := 16) (i := 0) 0 hC dX4_addField_16 rfl rfl ?_
  refine zr_getI (pc := 17) (j := 6) hC hg.1.1 hg.1.2 rfl rfl (Nat.le_of_ble_eq_true rfl) iX4 m_82 dX4_addField_17 ?_
  refine zr_iload_n (pc := 20) (i := 2) 2 hC dX4_addField_20 rfl rfl ?_
  refine zr_callSNv (pc := 21) (As := fun ad => [.ref (ad (g + 6)), .int (s_1 g 6), .int a2]) (st1 := []) hC (Nat.le_of_ble_eq_true rfl) (kX11_put _ (isArr_of hg.2.2.2.2.2.2.1) (s_1 g 6) a2 _) (Nat.le_of_ble_eq_true rfl) mc_yX11_put m_857 m_141 rfl rfl (Nat.le_of_ble_eq_true rfl) dX4_addField_21 (fun y_2 s_2 => ?_)
  refine zr_aload_n (pc := 24) (i := 0) 0 hC dX4_addField_24 rfl rfl ?_
  refine zr_getR (pc := 25) (j := 9) (k1 := (g + 7)) hC hg.1.1 hg.1.2 rfl rfl (Nat.le_of_ble_eq_true rfl) iX4 m_95 dX4_addField_25 ?_
  refine zr_aload_n (pc := 28) (i := 0) 0 hC dX4_addField_28 rfl rfl ?_
  refine zr_getI (pc := 29) (j := 6) hC hg.1.1 hg.1.2 rfl rfl (Nat.le_of_ble_eq_true rfl) iX4 m_82 dX4_addField_29 ?_
  refine zr_iload_n (pc := 32) (i := 3) 3 hC dX4_addField_32 rfl rfl ?_
  refine zr_callSNv (pc := 33) (As := fun ad => [.ref (ad (g + 7)), .int (s_2 g 6), .int a3]) (st1 := []) hC (Nat.le_of_ble_eq_true rfl) (kX11_put _ (isArr_of hg.2.2.2.2.2.2.2.1) (s_2 g 6) a3 _) (Nat.le_of_ble_eq_true rfl) mc_yX11_put m_857 m_141 rfl rfl (Nat.le_of_ble_eq_true rfl) dX4_addField_33 (fun y_3 s_3 => ?_)
  refine zr_aload_n (pc := 36) (i := 0) 0 hC dX4_addField_36 rfl rfl ?_
  refine zr_dup (pc := 37) hC dX4_addField_37 rfl ?_
  refine zr_getI (pc := 38) (j := 6) hC hg.1.1 hg.1.2 rfl rfl (Nat.le_of_ble_eq_true rfl) iX4 m_82 dX4_addField_38 ?_
  refine zr_iconst (pc := 41) (v := (1 : Int32)) hC dX4_addField_41 ic_1 ?_
  refine zr_iadd (pc := 42) hC dX4_addField_42 ?_
  refine zr_putInt (pc := 43) (j := 6) hC hg.1.1 hg.1.2 rfl rfl (Nat.le_of_ble_eq_true rfl) iX4 tyX4_ok nmX4 m_82 rfl (by decide +kernel) dX4_addField_43 ?_
  exact zr_vret (pc := 46) hC hR dX4_addField_46
def fX6_readField_J46 (v1 : Int32) (s : St) : Option (Int32 × St) :=
  bd (fX6_advance s) (fun y_4 s_4 =>
    bd (fX6_takeNumber (0 : Int32) (9999 : Int32) s_4) (fun y_5 s_5 =>
    bd (fX6_takeNumber (0 : Int32) (9999 : Int32) s_5) (fun y_6 s_6 =>
    if (s_6 2 4) = 0 then
    (bd (fX4_addField 3 v1 y_5 y_6 s_6) (fun y_7 s_7 =>
    some (0, s_7)))
  else
    (some (0, s_6)))))
set_option maxRecDepth 100000 in
set_option maxHeartbeats 4000000 in
theorem tX6_readField_J46 (v1 : Int32) (X : KX) (hC : Ctx X RX6 cX6_readField FULL 4 0) (hR : RC X none) (hN : X_nL X = 4) (s : St) : Zr X (QFN X none) 0 s 46 [(0, .ref (X_ad X 2)), (1, .int v1)] [] (fX6_readField_J46 v1 s) := by
  rw [fX6_readField_J46]
  refine zr_aload_n (pc := 46) (i := 0) 0 hC dX6_readField_46 rfl rfl ?_
  refine zr_callVv (pc := 47) (As := fun ad => []) (st1 := []) hC (Nat.le_of_ble_eq_true rfl) (kX6_advance _  _) (Nat.le_of_ble_eq_true rfl) mc_yX6_advance m_808 m_810 m_p11 mem_2 lay_2 rfl rfl rfl rfl (Nat.le_of_ble_eq_true rfl) dX6_readField_47 (fun y_4 s_4 => ?_)
  refine zr_aload_n (pc := 50) (i := 0) 0 hC dX6_readField_50 rfl rfl ?_
  refine zr_iconst (pc := 51) (v := (0 : Int32)) hC dX6_readField_51 ic_0 ?_
  refine zr_sipush (pc := 52) (v := (9999 : Int32)) hC dX6_readField_52 si_9999 ?_
  refine zr_callV (pc := 55) (As := fun ad => [.int (0 : Int32), .int (9999 : Int32)]) (st1 := []) hC (Nat.le_of_ble_eq_true rfl) (kX6_takeNumber _ (0 : Int32) (9999 : Int32) _) (Nat.le_of_ble_eq_true rfl) mc_yX6_takeNumber m_841 m_843 m_p19 mem_2 lay_2 rfl rfl rfl rfl (Nat.le_of_ble_eq_true rfl) dX6_readField_55 (fun y_5 s_5 => ?_)
  refine zr_istore_n (pc := 58) (i := 2) (ls' := [(2, _), (0, _), (1, _)]) hC dX6_readField_58 rfl (nlt hN (Nat.le_of_ble_eq_true rfl)) rfl ?_
  refine zr_aload_n (pc := 59) (i := 0) 1 hC dX6_readField_59 rfl rfl ?_
  refine zr_iconst (pc := 60) (v := (0 : Int32)) hC dX6_readField_60 ic_0 ?_
  refine zr_sipush (pc := 61) (v := (9999 : Int32)) hC dX6_readField_61 si_9999 ?_
  refine zr_callV (pc := 64) (As := fun ad => [.int (0 : Int32), .int (9999 : Int32)]) (st1 := []) hC (Nat.le_of_ble_eq_true rfl) (kX6_takeNumber _ (0 : Int32) (9999 : Int32) _) (Nat.le_of_ble_eq_true rfl) mc_yX6_takeNumber m_841 m_843 m_p19 mem_2 lay_2 rfl rfl rfl rfl (Nat.le_of_ble_eq_true rfl) dX6_readField_64 (fun y_6 s_6 => ?_)
  refine zr_istore_n (pc := 67) (i := 3) (ls' := [(3, _), (2, _), (0, _), (1, _)]) hC dX6_readField_67 rfl (nlt hN (Nat.le_of_ble_eq_true rfl)) rfl ?_
  refine zr_aload_n (pc := 68) (i := 0) 2 hC dX6_readField_68 rfl rfl ?_
  refine zr_getI (pc := 69) (j := 4) hC mem_2 lay_2 rfl rfl (Nat.le_of_ble_eq_true rfl) iX6 m_179 dX6_readField_69 ?_
  refine zr_if_ne (pc := 72) (tgt := 85) hC dX6_readField_72 (by decide) (fun c_ => ?_) (fun c_ => ?_)
  · refine zr_aload_n (pc := 75) (i := 0) 2 hC dX6_readField_75 rfl rfl ?_
    refine zr_getR (pc := 76) (j := 0) (k1 := 3) hC mem_2 lay_2 rfl rfl (Nat.le_of_ble_eq_true rfl) iX6 m_172 dX6_readField_76 ?_
    refine zr_iload_n (pc := 79) (i := 1) 3 hC dX6_readField_79 rfl rfl ?_
    refine zr_iload_n (pc := 80) (i := 2) 1 hC dX6_readField_80 rfl rfl ?_
    refine zr_iload_n (pc := 81) (i := 3) 0 hC dX6_readField_81 rfl rfl ?_
    refine zr_callVv (pc := 82) (As := fun ad => [.int v1, .int y_5, .int y_6]) (st1 := []) hC (Nat.le_of_ble_eq_true rfl) (kX4_addField _ is_3 v1 y_5 y_6 _) (Nat.le_of_ble_eq_true rfl) mc_yX4_addField m_895 m_896 m_897 mem_3 lay_3 rfl rfl rfl rfl (Nat.le_of_ble_eq_true rfl) dX6_readField_82 (fun y_7 s_7 => ?_)
    exact zr_vret (pc := 85) hC hR dX6_readField_85
  · exact zr_vret (pc := 85) hC hR dX6_readField_85
def fX6_readField_J18 (q0 : Int32) (s : St) : Option (Int32 × St) :=
  bd (fX6_takeFirst q0 (2 : Int32) s) (fun y_1 s_1 =>
    bd (fX6_lookNumber (0 : Int32) (9 : Int32) s_1) (fun y_2 s_2 =>
    bd (fX4_hasFieldAt 3 y_2 s_2) (fun y_3 s_3 =>
    if y_3 = 0 then
    (fX6_readField_J46 y_2 s_3)
  else
    (bd (fX6_refuse (4 : Int32) s_3) (fun y_8 s_8 =>
    fX6_readField_J46 y_2 s_8)))))
set_option maxRecDepth 100000 in
set_option maxHeartbeats 4000000 in
theorem tX6_readField_J18 (q0 : Int32) (X : KX) (hC : Ctx X RX6 cX6_readField FULL 4 0) (hR : RC X none) (hN : X_nL X = 4) (s : St) : Zr X (QFN X none) 0 s 18 [(0, .ref (X_ad X 2))] [.int q0, .ref (X_ad X 2)] (fX6_readField_J18 q0 s) := by
  rw [fX6_readField_J18]
  refine zr_iconst (pc := 18) (v := (2 : Int32)) hC dX6_readField_18 ic_2 ?_
  refine zr_callVv (pc := 19) (As := fun ad => [.int q0, .int (2 : Int32)]) (st1 := []) hC (Nat.le_of_ble_eq_true rfl) (kX6_takeFirst _ q0 (2 : Int32) _) (Nat.le_of_ble_eq_true rfl) mc_yX6_takeFirst m_821 m_823 m_p14 mem_2 lay_2 rfl rfl rfl rfl (Nat.le_of_ble_eq_true rfl) dX6_readField_19 (fun y_1 s_1 => ?_)
  refine zr_aload_n (pc := 22) (i := 0) 0 hC dX6_readField_22 rfl rfl ?_
  refine zr_iconst (pc := 23) (v := (0 : Int32)) hC dX6_readField_23 ic_0 ?_
  refine zr_bipush (pc := 24) (v := (9 : Int32)) hC dX6_readField_24 bi_9 ?_
  refine zr_callV (pc := 26) (As := fun ad => [.int (0 : Int32), .int (9 : Int32)]) (st1 := []) hC (Nat.le_of_ble_eq_true rfl) (kX6_lookNumber _ (0 : Int32) (9 : Int32) _) (Nat.le_of_ble_eq_true rfl) mc_yX6_lookNumber m_837 m_839 m_p18 mem_2 lay_2 rfl rfl rfl rfl (Nat.le_of_ble_eq_true rfl) dX6_readField_26 (fun y_2 s_2 => ?_)
  refine zr_istore_n (pc := 29) (i := 1) (ls' := [(1, _), (0, _)]) hC dX6_readField_29 rfl (nlt hN (Nat.le_of_ble_eq_true rfl)) rfl ?_
  refine zr_aload_n (pc := 30) (i := 0) 1 hC dX6_readField_30 rfl rfl ?_
  refine zr_getR (pc := 31) (j := 0) (k1 := 3) hC mem_2 lay_2 rfl rfl (Nat.le_of_ble_eq_true rfl) iX6 m_172 dX6_readField_31 ?_
  refine zr_iload_n (pc := 34) (i := 1) 0 hC dX6_readField_34 rfl rfl ?_
  refine zr_callV (pc := 35) (As := fun ad => [.int y_2]) (st1 := []) hC (Nat.le_of_ble_eq_true rfl) (kX4_hasFieldAt _ is_3 y_2 _) (Nat.le_of_ble_eq_true rfl) mc_yX4_hasFieldAt m_891 m_892 m_893 mem_3 lay_3 rfl rfl rfl rfl (Nat.le_of_ble_eq_true rfl) dX6_readField_35 (fun y_3 s_3 => ?_)
  refine zr_if_eq (pc := 38) (tgt := 46) hC dX6_readField_38 (by decide) (fun c_ => ?_) (fun c_ => ?_)
  · refine zr_sub (ls' := [(0, _), (1, _)]) [1, 0] rfl ?_
    exact tX6_readField_J46 y_2 X hC hR hN  _
  · refine zr_aload_n (pc := 41) (i := 0) 1 hC dX6_readField_41 rfl rfl ?_
    refine zr_iconst (pc := 42) (v := (4 : Int32)) hC dX6_readField_42 ic_4 ?_
    refine zr_callVv (pc := 43) (As := fun ad => [.int (4 : Int32)]) (st1 := []) hC (Nat.le_of_ble_eq_true rfl) (kX6_refuse _ (4 : Int32) _) (Nat.le_of_ble_eq_true rfl) mc_yX6_refuse m_825 m_827 m_p15 mem_2 lay_2 rfl rfl rfl rfl (Nat.le_of_ble_eq_true rfl) dX6_readField_43 (fun y_8 s_8 => ?_)
    refine zr_sub (ls' := [(0, _), (1, _)]) [1, 0] rfl ?_
    exact tX6_readField_J46 y_2 X hC hR hN  _
def fX6_readField (s : St) : Option (Int32 × St) :=
  if (s 3 6) < (6 : Int32) then
    (fX6_readField_J18 (0 : Int32) s)
  else
    (fX6_readField_J18 (1 : Int32) s)
set_option maxRecDepth 100000 in
set_option maxHeartbeats 4000000 in
theorem kX6_readField (l : Launch)  (s : St) : CN l yX6_readField cX6_readField 4 none 4 FULL (fun ad => [.ref (ad 2)]) s (fX6_readField s) := by
  refine cn_of (by decide) (fun _ => (Nat.le_of_ble_eq_true rfl)) (fun X hC hR hl hN => ?_)
  subst hl
  show Zr X (QFN X none) 0 s 0 [(0, .ref (X_ad X 2))] [] _
  rw [fX6_readField]
  refine zr_aload_n (pc := 0) (i := 0) 0 hC dX6_readField_0 rfl rfl ?_
  refine zr_aload_n (pc := 1) (i := 0) 0 hC dX6_readField_1 rfl rfl ?_
  refine zr_getR (pc := 2) (j := 0) (k1 := 3) hC mem_2 lay_2 rfl rfl (Nat.le_of_ble_eq_true rfl) iX6 m_172 dX6_readField_2 ?_
  refine zr_getI (pc := 5) (j := 6) hC mem_3 lay_3 rfl rfl (Nat.le_of_ble_eq_true rfl) iX4 m_85 dX6_readField_5 ?_
  refine zr_bipush (pc := 8) (v := (6 : Int32)) hC dX6_readField_8 bi_6 ?_
  refine zr_icmp_lt (pc := 10) (tgt := 17) hC dX6_readField_10 (by decide) (fun c_ => ?_) (fun c_ => ?_)
  · refine zr_iconst (pc := 17) (v := (0 : Int32)) hC dX6_readField_17 ic_0 ?_
    exact tX6_readField_J18 (0 : Int32) X hC hR hN  _
  · refine zr_iconst (pc := 13) (v := (1 : Int32)) hC dX6_readField_13 ic_1 ?_
    refine zr_goto (pc := 14) (tgt := 18) hC dX6_readField_14 (by decide) ?_
    exact tX6_readField_J18 (1 : Int32) X hC hR hN  _
def fX6_readFront (s : St) : Option (Int32 × St) :=
  bd (fX6_takeFirst (s 2 8) (5 : Int32) s) (fun y_1 s_1 =>
    bd (fX6_takeNumber (1 : Int32) (3996 : Int32) s_1) (fun y_2 s_2 =>
    if (s_2 2 4) = 0 then
    (let s_3 := wr s_2 3 10 y_2;
    let s_4 := wr s_3 2 8 (1 : Int32);
    some (0, s_4))
  else
    (some (0, s_2))))
set_option maxRecDepth 100000 in
set_option maxHeartbeats 4000000 in
theorem kX6_readFront (l : Launch)  (s : St) : CN l yX6_readFront cX6_readFront 2 none 4 FULL (fun ad => [.ref (ad 2)]) s (fX6_readFront s) := by
  refine cn_of (by decide) (fun _ => (Nat.le_of_ble_eq_true rfl)) (fun X hC hR hl hN => ?_)
  subst hl
  show Zr X (QFN X none) 0 s 0 [(0, .ref (X_ad X 2))] [] _
  rw [fX6_readFront]
  refine zr_aload_n (pc := 0) (i := 0) 0 hC dX6_readFront_0 rfl rfl ?_
  refine zr_aload_n (pc := 1) (i := 0) 0 hC dX6_readFront_1 rfl rfl ?_
  refine zr_getI (pc := 2) (j := 8) hC mem_2 lay_2 rfl rfl (Nat.le_of_ble_eq_true rfl) iX6 m_183 dX6_readFront_2 ?_
  refine zr_iconst (pc := 5) (v := (5 : Int32)) hC dX6_readFront_5 ic_5 ?_
  refine zr_callVv (pc := 6) (As := fun ad => [.int (s 2 8), .int (5 : Int32)]) (st1 := []) hC (Nat.le_of_ble_eq_true rfl) (kX6_takeFirst _ (s 2 8) (5 : Int32) _) (Nat.le_of_ble_eq_true rfl) mc_yX6_takeFirst m_821 m_823 m_p14 mem_2 lay_2 rfl rfl rfl rfl (Nat.le_of_ble_eq_true rfl) dX6_readFront_6 (fun y_1 s_1 => ?_)
  refine zr_aload_n (pc := 9) (i := 0) 0 hC dX6_readFront_9 rfl rfl ?_
  refine zr_iconst (pc := 10) (v := (1 : Int32)) hC dX6_readFront_10 ic_1 ?_
  refine zr_sipush (pc := 11) (v := (3996 : Int32)) hC dX6_readFront_11 si_3996 ?_
  refine zr_callV (pc := 14) (As := fun ad => [.int (1 : Int32), .int (3996 : Int32)]) (st1 := []) hC (Nat.le_of_ble_eq_true rfl) (kX6_takeNumber _ (1 : Int32) (3996 : Int32) _) (Nat.le_of_ble_eq_true rfl) mc_yX6_takeNumber m_841 m_843 m_p19 mem_2 lay_2 rfl rfl rfl rfl (Nat.le_of_ble_eq_true rfl) dX6_readFront_14 (fun y_2 s_2 => ?_)
  refine zr_istore_n (pc := 17) (i := 1) (ls' := [(1, _), (0, _)]) hC dX6_readFront_17 rfl (nlt hN (Nat.le_of_ble_eq_true rfl)) rfl ?_
  refine zr_aload_n (pc := 18) (i := 0) 1 hC dX6_readFront_18 rfl rfl ?_
  refine zr_getI (pc := 19) (j := 4) hC mem_2 lay_2 rfl rfl (Nat.le_of_ble_eq_true rfl) iX6 m_179 dX6_readFront_19 ?_
  refine zr_if_ne (pc := 22) (tgt := 38) hC dX6_readFront_22 (by decide) (fun c_ => ?_) (fun c_ => ?_)
  · refine zr_aload_n (pc := 25) (i := 0) 1 hC dX6_readFront_25 rfl rfl ?_
    refine zr_getR (pc := 26) (j := 0) (k1 := 3) hC mem_2 lay_2 rfl rfl (Nat.le_of_ble_eq_true rfl) iX6 m_172 dX6_readFront_26 ?_
    refine zr_iload_n (pc := 29) (i := 1) 0 hC dX6_readFront_29 rfl rfl ?_
    refine zr_putInt (pc := 30) (j := 10) hC mem_3 lay_3 rfl rfl (Nat.le_of_ble_eq_true rfl) iX4 tyX4_ok nmX4 m_102 rfl (by decide +kernel) dX6_readFront_30 ?_
    refine zr_aload_n (pc := 33) (i := 0) 1 hC dX6_readFront_33 rfl rfl ?_
    refine zr_iconst (pc := 34) (v := (1 : Int32)) hC dX6_readFront_34 ic_1 ?_
    refine zr_putB (by decide) (pc := 35) (j := 8) hC mem_2 lay_2 rfl rfl (Nat.le_of_ble_eq_true rfl) iX6 tyX6_ok nmX6 m_183 rfl (by decide +kernel) dX6_readFront_35 ?_
    exact zr_vret (pc := 38) hC hR dX6_readFront_38
  · exact zr_vret (pc := 38) hC hR dX6_readFront_38
def fX6_take (a1 : Int32) (s : St) : Option (Int32 × St) :=
  if (s 2 6) = a1 then
    (bd (fX6_advance s) (fun y_1 s_1 =>
    some (0, s_1)))
  else
    (bd (fX6_refuse (1 : Int32) s) (fun y_2 s_2 =>
    bd (fX6_advance s_2) (fun y_3 s_3 =>
    some (0, s_3))))
set_option maxRecDepth 100000 in
set_option maxHeartbeats 4000000 in
theorem kX6_take (l : Launch)  (a1 : Int32) (s : St) : CN l yX6_take cX6_take 2 none 3 FULL (fun ad => [.ref (ad 2), .int a1]) s (fX6_take a1 s) := by
  refine cn_of (by decide) (fun _ => (Nat.le_of_ble_eq_true rfl)) (fun X hC hR hl hN => ?_)
  subst hl
  show Zr X (QFN X none) 0 s 0 [(0, .ref (X_ad X 2)), (1, .int a1)] [] _
  rw [fX6_take]
  refine zr_aload_n (pc := 0) (i := 0) 0 hC dX6_take_0 rfl rfl ?_
  refine zr_getI (pc := 1) (j := 6) hC mem_2 lay_2 rfl rfl (Nat.le_of_ble_eq_true rfl) iX6 m_181 dX6_take_1 ?_
  refine zr_iload_n (pc := 4) (i := 1) 1 hC dX6_take_4 rfl rfl ?_
  refine zr_icmp_eq (pc := 5) (tgt := 13) hC dX6_take_5 (by decide) (fun c_ => ?_) (fun c_ => ?_)
  · refine zr_aload_n (pc := 13) (i := 0) 0 hC dX6_take_13 rfl rfl ?_
    refine zr_callVv (pc := 14) (As := fun ad => []) (st1 := []) hC (Nat.le_of_ble_eq_true rfl) (kX6_advance _  _) (Nat.le_of_ble_eq_true rfl) mc_yX6_advance m_808 m_810 m_p11 mem_2 lay_2 rfl rfl rfl rfl (Nat.le_of_ble_eq_true rfl) dX6_take_14 (fun y_1 s_1 => ?_)
    exact zr_vret (pc := 17) hC hR dX6_take_17
  · refine zr_aload_n (pc := 8) (i := 0) 0 hC dX6_take_8 rfl rfl ?_
    refine zr_iconst (pc := 9) (v := (1 : Int32)) hC dX6_take_9 ic_1 ?_
    refine zr_callVv (pc := 10) (As := fun ad => [.int (1 : Int32)]) (st1 := []) hC (Nat.le_of_ble_eq_true rfl) (kX6_refuse _ (1 : Int32) _) (Nat.le_of_ble_eq_true rfl) mc_yX6_refuse m_825 m_827 m_p15 mem_2 lay_2 rfl rfl rfl rfl (Nat.le_of_ble_eq_true rfl) dX6_take_10 (fun y_2 s_2 => ?_)
    refine zr_aload_n (pc := 13) (i := 0) 0 hC dX6_take_13 rfl rfl ?_
    refine zr_callVv (pc := 14) (As := fun ad => []) (st1 := []) hC (Nat.le_of_ble_eq_true rfl) (kX6_advance _  _) (Nat.le_of_ble_eq_true rfl) mc_yX6_advance m_808 m_810 m_p11 mem_2 lay_2 rfl rfl rfl rfl (Nat.le_of_ble_eq_true rfl) dX6_take_14 (fun y_3 s_3 => ?_)
    exact zr_vret (pc := 17) hC hR dX6_take_17
def fX6_valueStep (a0 : Int32) (s : St) : Option (Int32 × St) :=
  if a0 = (302 : Int32) then
    (some ((-1 : Int32), s))
  else
    (if a0 = (303 : Int32) then
    (some ((-2 : Int32), s))
  else
    (if a0 = (312 : Int32) then
    (some ((-3 : Int32), s))
  else
    (if a0 = (313 : Int32) then
    (some ((-4 : Int32), s))
  else
    (if a0 = (314 : Int32) then
    (some ((-5 : Int32), s))
  else
    (if a0 = (315 : Int32) then
    (some ((-6 : Int32), s))
  else
    (if a0 = (316 : Int32) then
    (some ((-7 : Int32), s))
  else
    (some ((0 : Int32), s))))))))
set_option maxRecDepth 100000 in
set_option maxHeartbeats 4000000 in
theorem kX6_valueStep (l : Launch)  (a0 : Int32) (s : St) : CN l yX6_valueStep cX6_valueStep 1 (some .int) 1 FULL (fun ad => [.int a0]) s (fX6_valueStep a0 s) := by
  refine cn_of (by decide) (fun _ => (Nat.le_of_ble_eq_true rfl)) (fun X hC hR hl hN => ?_)
  subst hl
  show Zr X (QFN X (some .int)) 0 s 0 [(0, .int a0)] [] _
  rw [fX6_valueStep]
  refine zr_iload_n (pc := 0) (i := 0) 0 hC dX6_valueStep_0 rfl rfl ?_
  refine zr_tcase (pc := 1) (v := (302 : Int32)) (off := 75) (tgt := 76) hC dX6_valueStep_1 (by decide) (by decide) (by decide) (by decide) ?_ (fun e0 => ?_)
  · refine zr_iconst (pc := 76) (v := (-1 : Int32)) hC dX6_valueStep_76 ic_m1 ?_
    exact zr_iret (pc := 77) hC hR dX6_valueStep_77
  refine zr_tcase (pc := 1) (v := (303 : Int32)) (off := 77) (tgt := 78) hC dX6_valueStep_1 (by decide) (by decide) (by decide) (by decide) ?_ (fun e1 => ?_)
  · refine zr_bipush (pc := 78) (v := (-2 : Int32)) hC dX6_valueStep_78 bi_m2 ?_
    exact zr_iret (pc := 80) hC hR dX6_valueStep_80
  refine zr_tcase (pc := 1) (v := (312 : Int32)) (off := 80) (tgt := 81) hC dX6_valueStep_1 (by decide) (by decide) (by decide) (by decide) ?_ (fun e2 => ?_)
  · refine zr_bipush (pc := 81) (v := (-3 : Int32)) hC dX6_valueStep_81 bi_m3 ?_
    exact zr_iret (pc := 83) hC hR dX6_valueStep_83
  refine zr_tcase (pc := 1) (v := (313 : Int32)) (off := 83) (tgt := 84) hC dX6_valueStep_1 (by decide) (by decide) (by decide) (by decide) ?_ (fun e3 => ?_)
  · refine zr_bipush (pc := 84) (v := (-4 : Int32)) hC dX6_valueStep_84 bi_m4 ?_
    exact zr_iret (pc := 86) hC hR dX6_valueStep_86
  refine zr_tcase (pc := 1) (v := (314 : Int32)) (off := 86) (tgt := 87) hC dX6_valueStep_1 (by decide) (by decide) (by decide) (by decide) ?_ (fun e4 => ?_)
  · refine zr_bipush (pc := 87) (v := (-5 : Int32)) hC dX6_valueStep_87 bi_m5 ?_
    exact zr_iret (pc := 89) hC hR dX6_valueStep_89
  refine zr_tcase (pc := 1) (v := (315 : Int32)) (off := 89) (tgt := 90) hC dX6_valueStep_1 (by decide) (by decide) (by decide) (by decide) ?_ (fun e5 => ?_)
  · refine zr_bipush (pc := 90) (v := (-6 : Int32)) hC dX6_valueStep_90 bi_m6 ?_
    exact zr_iret (pc := 92) hC hR dX6_valueStep_92
  refine zr_tcase (pc := 1) (v := (316 : Int32)) (off := 92) (tgt := 93) hC dX6_valueStep_1 (by decide) (by decide) (by decide) (by decide) ?_ (fun e6 => ?_)
  · refine zr_bipush (pc := 93) (v := (-7 : Int32)) hC dX6_valueStep_93 bi_m7 ?_
    exact zr_iret (pc := 95) hC hR dX6_valueStep_95
  refine zr_tdef (pc := 1) (tgt := 96) [(302 : Int32), (303 : Int32), (312 : Int32), (313 : Int32), (314 : Int32), (315 : Int32), (316 : Int32)] hC dX6_valueStep_1 (List.forall_mem_cons.mpr ⟨e0, List.forall_mem_cons.mpr ⟨e1, List.forall_mem_cons.mpr ⟨e2, List.forall_mem_cons.mpr ⟨e3, List.forall_mem_cons.mpr ⟨e4, List.forall_mem_cons.mpr ⟨e5, List.forall_mem_cons.mpr ⟨e6, fun _ h => absurd h List.not_mem_nil⟩⟩⟩⟩⟩⟩⟩) (by decide) (by decide) (by decide) ?_
  refine zr_iconst (pc := 96) (v := (0 : Int32)) hC dX6_valueStep_96 ic_0 ?_
  exact zr_iret (pc := 97) hC hR dX6_valueStep_97
def fX5_add (w : Nat) (a1 : Int32) (s : St) : Option (Int32 × St) :=
  bd (fX11_put (w + 1) (s w 2) a1 s) (fun y_1 s_1 =>
    let s_2 := wr s_1 w 2 ((s_1 w 2) + (1 : Int32));
    some (0, s_2))
set_option maxRecDepth 100000 in
set_option maxHeartbeats 4000000 in
theorem kX5_add (l : Launch)  {w : Nat} (hw : isLaw w) (a1 : Int32) (s : St) : CN l yX5_add cX5_add 2 none 2 FULL (fun ad => [.ref (ad w), .int a1]) s (fX5_add w a1 s) := by
  refine cn_of (by decide) (fun _ => (Nat.le_of_ble_eq_true rfl)) (fun X hC hR hl hN => ?_)
  subst hl
  show Zr X (QFN X none) 0 s 0 [(0, .ref (X_ad X w)), (1, .int a1)] [] _
  rw [fX5_add]
  refine zr_aload_n (pc := 0) (i := 0) 0 hC dX5_add_0 rfl rfl ?_
  refine zr_getR (pc := 1) (j := 0) (k1 := (w + 1)) hC hw.1.1 hw.1.2 rfl rfl (Nat.le_of_ble_eq_true rfl) iX5 m_51 dX5_add_1 ?_
  refine zr_aload_n (pc := 4) (i := 0) 0 hC dX5_add_4 rfl rfl ?_
  refine zr_getI (pc := 5) (j := 2) hC hw.1.1 hw.1.2 rfl rfl (Nat.le_of_ble_eq_true rfl) iX5 m_53 dX5_add_5 ?_
  refine zr_iload_n (pc := 8) (i := 1) 1 hC dX5_add_8 rfl rfl ?_
  refine zr_callSNv (pc := 9) (As := fun ad => [.ref (ad (w + 1)), .int (s w 2), .int a1]) (st1 := []) hC (Nat.le_of_ble_eq_true rfl) (kX11_put _ (isArr_of hw.2.1) (s w 2) a1 _) (Nat.le_of_ble_eq_true rfl) mc_yX11_put m_950 m_141 rfl rfl (Nat.le_of_ble_eq_true rfl) dX5_add_9 (fun y_1 s_1 => ?_)
  refine zr_aload_n (pc := 12) (i := 0) 0 hC dX5_add_12 rfl rfl ?_
  refine zr_dup (pc := 13) hC dX5_add_13 rfl ?_
  refine zr_getI (pc := 14) (j := 2) hC hw.1.1 hw.1.2 rfl rfl (Nat.le_of_ble_eq_true rfl) iX5 m_53 dX5_add_14 ?_
  refine zr_iconst (pc := 17) (v := (1 : Int32)) hC dX5_add_17 ic_1 ?_
  refine zr_iadd (pc := 18) hC dX5_add_18 ?_
  refine zr_putInt (pc := 19) (j := 2) hC hw.1.1 hw.1.2 rfl rfl (Nat.le_of_ble_eq_true rfl) iX5 tyX5_ok nmX5 m_53 rfl (by decide +kernel) dX5_add_19 ?_
  exact zr_vret (pc := 22) hC hR dX5_add_22
def fX6_readValue_J17 (v1 : Int32) (s : St) : Option (Int32 × St) :=
  bd (fX5_add 11 v1 s) (fun y_2 s_2 =>
    bd (fX6_advance s_2) (fun y_3 s_3 =>
    some (0, s_3)))
set_option maxRecDepth 100000 in
set_option maxHeartbeats 4000000 in
theorem tX6_readValue_J17 (v1 : Int32) (X : KX) (hC : Ctx X RX6 cX6_readValue FULL 3 0) (hR : RC X none) (hN : X_nL X = 2) (s : St) : Zr X (QFN X none) 0 s 17 [(0, .ref (X_ad X 2)), (1, .int v1)] [] (fX6_readValue_J17 v1 s) := by
  rw [fX6_readValue_J17]
  refine zr_aload_n (pc := 17) (i := 0) 0 hC dX6_readValue_17 rfl rfl ?_
  refine zr_getR (pc := 18) (j := 0) (k1 := 3) hC mem_2 lay_2 rfl rfl (Nat.le_of_ble_eq_true rfl) iX6 m_172 dX6_readValue_18 ?_
  refine zr_getR (pc := 21) (j := 11) (k1 := 11) hC mem_3 lay_3 rfl rfl (Nat.le_of_ble_eq_true rfl) iX4 m_105 dX6_readValue_21 ?_
  refine zr_iload_n (pc := 24) (i := 1) 1 hC dX6_readValue_24 rfl rfl ?_
  refine zr_callVv (pc := 25) (As := fun ad => [.int v1]) (st1 := []) hC (Nat.le_of_ble_eq_true rfl) (kX5_add _ is_11 v1 _) (Nat.le_of_ble_eq_true rfl) mc_yX5_add m_946 m_947 m_948 mem_11 lay_11 rfl rfl rfl rfl (Nat.le_of_ble_eq_true rfl) dX6_readValue_25 (fun y_2 s_2 => ?_)
  refine zr_aload_n (pc := 28) (i := 0) 0 hC dX6_readValue_28 rfl rfl ?_
  refine zr_callVv (pc := 29) (As := fun ad => []) (st1 := []) hC (Nat.le_of_ble_eq_true rfl) (kX6_advance _  _) (Nat.le_of_ble_eq_true rfl) mc_yX6_advance m_808 m_810 m_p11 mem_2 lay_2 rfl rfl rfl rfl (Nat.le_of_ble_eq_true rfl) dX6_readValue_29 (fun y_3 s_3 => ?_)
  exact zr_vret (pc := 32) hC hR dX6_readValue_32
def fX6_readValue (s : St) : Option (Int32 × St) :=
  bd (fX6_valueStep (s 2 6) s) (fun y_1 s_1 =>
    if y_1 = 0 then
    (bd (fX6_refuse (3 : Int32) s_1) (fun y_4 s_4 =>
    fX6_readValue_J17 y_1 s_4))
  else
    (fX6_readValue_J17 y_1 s_1))
set_option maxRecDepth 100000 in
set_option maxHeartbeats 4000000 in
theorem kX6_readValue (l : Launch)  (s : St) : CN l yX6_readValue cX6_readValue 2 none 3 FULL (fun ad => [.ref (ad 2)]) s (fX6_readValue s) := by
  refine cn_of (by decide) (fun _ => (Nat.le_of_ble_eq_true rfl)) (fun X hC hR hl hN => ?_)
  subst hl
  show Zr X (QFN X none) 0 s 0 [(0, .ref (X_ad X 2))] [] _
  rw [fX6_readValue]
  refine zr_aload_n (pc := 0) (i := 0) 0 hC dX6_readValue_0 rfl rfl ?_
  refine zr_getI (pc := 1) (j := 6) hC mem_2 lay_2 rfl rfl (Nat.le_of_ble_eq_true rfl) iX6 m_181 dX6_readValue_1 ?_
  refine zr_callS (pc := 4) (As := fun ad => [.int (s 2 6)]) (st1 := []) hC (Nat.le_of_ble_eq_true rfl) (kX6_valueStep _ (s 2 6) _) (Nat.le_of_ble_eq_true rfl) mc_yX6_valueStep m_943 m_944 rfl rfl rfl (Nat.le_of_ble_eq_true rfl) dX6_readValue_4 (fun y_1 s_1 => ?_)
  refine zr_istore_n (pc := 7) (i := 1) (ls' := [(1, _), (0, _)]) hC dX6_readValue_7 rfl (nlt hN (Nat.le_of_ble_eq_true rfl)) rfl ?_
  refine zr_iload_n (pc := 8) (i := 1) 0 hC dX6_readValue_8 rfl rfl ?_
  refine zr_if_ne (pc := 9) (tgt := 17) hC dX6_readValue_9 (by decide) (fun c_ => ?_) (fun c_ => ?_)
  · refine zr_aload_n (pc := 12) (i := 0) 1 hC dX6_readValue_12 rfl rfl ?_
    refine zr_iconst (pc := 13) (v := (3 : Int32)) hC dX6_readValue_13 ic_3 ?_
    refine zr_callVv (pc := 14) (As := fun ad => [.int (3 : Int32)]) (st1 := []) hC (Nat.le_of_ble_eq_true rfl) (kX6_refuse _ (3 : Int32) _) (Nat.le_of_ble_eq_true rfl) mc_yX6_refuse m_825 m_827 m_p15 mem_2 lay_2 rfl rfl rfl rfl (Nat.le_of_ble_eq_true rfl) dX6_readValue_14 (fun y_4 s_4 => ?_)
    refine zr_sub (ls' := [(0, _), (1, _)]) [1, 0] rfl ?_
    exact tX6_readValue_J17 y_1 X hC hR hN  _
  · refine zr_sub (ls' := [(0, _), (1, _)]) [1, 0] rfl ?_
    exact tX6_readValue_J17 y_1 X hC hR hN  _
def fX6_readPart (rc : Int32 → St → Option (Int32 × St)) (a1 : Int32) (s : St) : Option (Int32 × St) :=
  if (s 2 4) = 0 then
    (if (s 2 6) = (40 : Int32) then
    (bd (fX6_advance s) (fun y_4 s_4 =>
    bd (rc (a1 + (1 : Int32)) s_4) (fun y_5 s_5 =>
    bd (fX6_take (41 : Int32) s_5) (fun y_6 s_6 =>
    some (0, s_6)))))
  else
    (if (s 2 6) < (300 : Int32) then
    (bd (fX6_takeNumber (0 : Int32) (9999 : Int32) s) (fun y_1 s_1 =>
    bd (fX5_add 11 y_1 s_1) (fun y_2 s_2 =>
    some (0, s_2))))
  else
    (bd (fX6_readValue s) (fun y_3 s_3 =>
    some (0, s_3)))))
  else
    (some (0, s))
set_option maxRecDepth 100000 in
set_option maxHeartbeats 4000000 in
theorem kX6_readPart (l : Launch) (rc : Int32 → St → Option (Int32 × St)) (dd : Nat) (hdd : 3 ≤ dd)  (hrc : ∀ (z0 : Int32) (s : St), CN l yX6_readExpr cX6_readExpr 4 none dd FULL (fun ad => [.ref (ad 2), .int z0]) s (rc z0 s)) (a1 : Int32) (s : St) : CN l yX6_readPart cX6_readPart 2 none (dd + 1) FULL (fun ad => [.ref (ad 2), .int a1]) s (fX6_readPart rc a1 s) := by
  refine cn_of (by decide) (fun _ => (Nat.le_of_ble_eq_true rfl)) (fun X hC hR hl hN => ?_)
  subst hl
  show Zr X (QFN X none) 0 s 0 [(0, .ref (X_ad X 2)), (1, .int a1)] [] _
  rw [fX6_readPart]
  refine zr_aload_n (pc := 0) (i := 0) 0 hC dX6_readPart_0 rfl rfl ?_
  refine zr_getI (pc := 1) (j := 4) hC mem_2 lay_2 rfl rfl (Nat.le_of_ble_eq_true rfl) iX6 m_179 dX6_readPart_1 ?_
  refine zr_if_eq (pc := 4) (tgt := 8) hC dX6_readPart_4 (by decide) (fun c_ => ?_) (fun c_ => ?_)
  · refine zr_aload_n (pc := 8) (i := 0) 0 hC dX6_readPart_8 rfl rfl ?_
    refine zr_getI (pc := 9) (j := 6) hC mem_2 lay_2 rfl rfl (Nat.le_of_ble_eq_true rfl) iX6 m_181 dX6_readPart_9 ?_
    refine zr_bipush (pc := 12) (v := (40 : Int32)) hC dX6_readPart_12 bi_40 ?_
    refine zr_icmp_ne (pc := 14) (tgt := 37) hC dX6_readPart_14 (by decide) (fun c_ => ?_) (fun c_ => ?_)
    · refine zr_aload_n (pc := 17) (i := 0) 0 hC dX6_readPart_17 rfl rfl ?_
      refine zr_callVv (pc := 18) (As := fun ad => []) (st1 := []) hC (Nat.le_of_ble_eq_true rfl) (kX6_advance _  _) (by omega) mc_yX6_advance m_808 m_810 m_p11 mem_2 lay_2 rfl rfl rfl rfl (Nat.le_of_ble_eq_true rfl) dX6_readPart_18 (fun y_4 s_4 => ?_)
      refine zr_aload_n (pc := 21) (i := 0) 0 hC dX6_readPart_21 rfl rfl ?_
      refine zr_iload_n (pc := 22) (i := 1) 1 hC dX6_readPart_22 rfl rfl ?_
      refine zr_iconst (pc := 23) (v := (1 : Int32)) hC dX6_readPart_23 ic_1 ?_
      refine zr_iadd (pc := 24) hC dX6_readPart_24 ?_
      refine zr_callVv (pc := 25) (As := fun ad => [.int (a1 + (1 : Int32))]) (st1 := []) hC (Nat.le_of_ble_eq_true rfl) (hrc (a1 + (1 : Int32)) _) (by omega) mc_yX6_readExpr m_907 m_909 m_p26 mem_2 lay_2 rfl rfl rfl rfl (Nat.le_of_ble_eq_true rfl) dX6_readPart_25 (fun y_5 s_5 => ?_)
      refine zr_aload_n (pc := 28) (i := 0) 0 hC dX6_readPart_28 rfl rfl ?_
      refine zr_bipush (pc := 29) (v := (41 : Int32)) hC dX6_readPart_29 bi_41 ?_
      refine zr_callVv (pc := 31) (As := fun ad => [.int (41 : Int32)]) (st1 := []) hC (Nat.le_of_ble_eq_true rfl) (kX6_take _ (41 : Int32) _) (by omega) mc_yX6_take m_935 m_937 m_p33 mem_2 lay_2 rfl rfl rfl rfl (Nat.le_of_ble_eq_true rfl) dX6_readPart_31 (fun y_6 s_6 => ?_)
      refine zr_goto (pc := 34) (tgt := 72) hC dX6_readPart_34 (by decide) ?_
      exact zr_vret (pc := 72) hC hR dX6_readPart_72
    · refine zr_aload_n (pc := 37) (i := 0) 0 hC dX6_readPart_37 rfl rfl ?_
      refine zr_getI (pc := 38) (j := 6) hC mem_2 lay_2 rfl rfl (Nat.le_of_ble_eq_true rfl) iX6 m_181 dX6_readPart_38 ?_
      refine zr_sipush (pc := 41) (v := (300 : Int32)) hC dX6_readPart_41 si_300 ?_
      refine zr_icmp_lt (pc := 44) (tgt := 54) hC dX6_readPart_44 (by decide) (fun c_ => ?_) (fun c_ => ?_)
      · refine zr_aload_n (pc := 54) (i := 0) 0 hC dX6_readPart_54 rfl rfl ?_
        refine zr_getR (pc := 55) (j := 0) (k1 := 3) hC mem_2 lay_2 rfl rfl (Nat.le_of_ble_eq_true rfl) iX6 m_172 dX6_readPart_55 ?_
        refine zr_getR (pc := 58) (j := 11) (k1 := 11) hC mem_3 lay_3 rfl rfl (Nat.le_of_ble_eq_true rfl) iX4 m_105 dX6_readPart_58 ?_
        refine zr_aload_n (pc := 61) (i := 0) 0 hC dX6_readPart_61 rfl rfl ?_
        refine zr_iconst (pc := 62) (v := (0 : Int32)) hC dX6_readPart_62 ic_0 ?_
        refine zr_sipush (pc := 63) (v := (9999 : Int32)) hC dX6_readPart_63 si_9999 ?_
        refine zr_callV (pc := 66) (As := fun ad => [.int (0 : Int32), .int (9999 : Int32)]) (st1 := [.ref (X_ad X 11)]) hC (Nat.le_of_ble_eq_true rfl) (kX6_takeNumber _ (0 : Int32) (9999 : Int32) _) (by omega) mc_yX6_takeNumber m_841 m_843 m_p19 mem_2 lay_2 rfl rfl rfl rfl (Nat.le_of_ble_eq_true rfl) dX6_readPart_66 (fun y_1 s_1 => ?_)
        refine zr_callVv (pc := 69) (As := fun ad => [.int y_1]) (st1 := []) hC (Nat.le_of_ble_eq_true rfl) (kX5_add _ is_11 y_1 _) (by omega) mc_yX5_add m_946 m_947 m_948 mem_11 lay_11 rfl rfl rfl rfl (Nat.le_of_ble_eq_true rfl) dX6_readPart_69 (fun y_2 s_2 => ?_)
        exact zr_vret (pc := 72) hC hR dX6_readPart_72
      · refine zr_aload_n (pc := 47) (i := 0) 0 hC dX6_readPart_47 rfl rfl ?_
        refine zr_callVv (pc := 48) (As := fun ad => []) (st1 := []) hC (Nat.le_of_ble_eq_true rfl) (kX6_readValue _  _) (by omega) mc_yX6_readValue m_939 m_941 m_p34 mem_2 lay_2 rfl rfl rfl rfl (Nat.le_of_ble_eq_true rfl) dX6_readPart_48 (fun y_3 s_3 => ?_)
        refine zr_goto (pc := 51) (tgt := 72) hC dX6_readPart_51 (by decide) ?_
        exact zr_vret (pc := 72) hC hR dX6_readPart_72
  · exact zr_vret (pc := 7) hC hR dX6_readPart_7
def fX6_readProduct_J55 (lp : Int32 → St → Option (Int32 × St)) (rc : Int32 → St → Option (Int32 × St)) (v1 : Int32) (v2 : Int32) (q0 : Int32) (s : St) : Option (Int32 × St) :=
  bd (fX6_advance s) (fun y_2 s_2 =>
    bd (fX6_readPart rc v1 s_2) (fun y_3 s_3 =>
    bd (fX5_add 11 q0 s_3) (fun y_4 s_4 =>
    lp (v2 + (1 : Int32)) s_4)))
set_option maxRecDepth 100000 in
set_option maxHeartbeats 4000000 in
theorem tX6_readProduct_J55 (rc : Int32 → St → Option (Int32 × St)) (v1 : Int32) (v2 : Int32) (q0 : Int32) (lp : Int32 → St → Option (Int32 × St)) (dd : Nat) (hdd : 3 ≤ dd) (X : KX) (hC : Ctx X RX6 cX6_readProduct FULL (dd + 2) 0) (hR : RC X none) (hN : X_nL X = 4) (hrc : ∀ (z0 : Int32) (s : St), CN (X_l X) yX6_readExpr cX6_readExpr 4 none dd FULL (fun ad => [.ref (ad 2), .int z0]) s (rc z0 s)) (ih : ∀ (u2 : Int32) (s : St), Zr X (QFN X none) 0 s 7 [(0, .ref (X_ad X 2)), (1, .int v1), (2, .int u2)] [] (lp u2 s)) (s : St) : Zr X (QFN X none) 0 s 55 [(0, .ref (X_ad X 2)), (1, .int v1), (2, .int v2)] [.int q0] (fX6_readProduct_J55 lp rc v1 v2 q0 s) := by
  rw [fX6_readProduct_J55]
  refine zr_istore_n (pc := 55) (i := 3) (ls' := [(3, _), (0, _), (1, _), (2, _)]) hC dX6_readProduct_55 rfl (nlt hN (Nat.le_of_ble_eq_true rfl)) rfl ?_
  refine zr_aload_n (pc := 56) (i := 0) 1 hC dX6_readProduct_56 rfl rfl ?_
  refine zr_callVv (pc := 57) (As := fun ad => []) (st1 := []) hC (Nat.le_of_ble_eq_true rfl) (kX6_advance _  _) (by omega) mc_yX6_advance m_808 m_810 m_p11 mem_2 lay_2 rfl rfl rfl rfl (Nat.le_of_ble_eq_true rfl) dX6_readProduct_57 (fun y_2 s_2 => ?_)
  refine zr_aload_n (pc := 60) (i := 0) 1 hC dX6_readProduct_60 rfl rfl ?_
  refine zr_iload_n (pc := 61) (i := 1) 2 hC dX6_readProduct_61 rfl rfl ?_
  refine zr_callVv (pc := 62) (As := fun ad => [.int v1]) (st1 := []) hC (Nat.le_of_ble_eq_true rfl) (kX6_readPart _ rc dd hdd hrc v1 _) (by omega) mc_yX6_readPart m_931 m_933 m_p32 mem_2 lay_2 rfl rfl rfl rfl (Nat.le_of_ble_eq_true rfl) dX6_readProduct_62 (fun y_3 s_3 => ?_)
  refine zr_aload_n (pc := 65) (i := 0) 1 hC dX6_readProduct_65 rfl rfl ?_
  refine zr_getR (pc := 66) (j := 0) (k1 := 3) hC mem_2 lay_2 rfl rfl (Nat.le_of_ble_eq_true rfl) iX6 m_172 dX6_readProduct_66 ?_
  refine zr_getR (pc := 69) (j := 11) (k1 := 11) hC mem_3 lay_3 rfl rfl (Nat.le_of_ble_eq_true rfl) iX4 m_105 dX6_readProduct_69 ?_
  refine zr_iload_n (pc := 72) (i := 3) 0 hC dX6_readProduct_72 rfl rfl ?_
  refine zr_callVv (pc := 73) (As := fun ad => [.int q0]) (st1 := []) hC (Nat.le_of_ble_eq_true rfl) (kX5_add _ is_11 q0 _) (by omega) mc_yX5_add m_946 m_947 m_948 mem_11 lay_11 rfl rfl rfl rfl (Nat.le_of_ble_eq_true rfl) dX6_readProduct_73 (fun y_4 s_4 => ?_)
  refine zr_iinc (pc := 76) (q := 3) (ls' := [(2, _), (3, _), (0, _), (1, _)]) hC dX6_readProduct_76 rfl (inc_1 _) (nlt hN (Nat.le_of_ble_eq_true rfl)) rfl ?_
  refine zr_goto (pc := 79) (tgt := 7) hC dX6_readProduct_79 (by decide) ?_
  refine zr_sub (ls' := [(0, _), (1, _), (2, _)]) [2, 3, 0] rfl ?_
  exact ih (v2 + (1 : Int32)) s_4
def fX6_readProduct_J39 (lp : Int32 → St → Option (Int32 × St)) (rc : Int32 → St → Option (Int32 × St)) (v1 : Int32) (v2 : Int32) (s : St) : Option (Int32 × St) :=
  if (s 2 6) = (42 : Int32) then
    (fX6_readProduct_J55 (lp) rc v1 v2 (-18 : Int32) s)
  else
    (fX6_readProduct_J55 (lp) rc v1 v2 (-19 : Int32) s)
set_option maxRecDepth 100000 in
set_option maxHeartbeats 4000000 in
theorem tX6_readProduct_J39 (rc : Int32 → St → Option (Int32 × St)) (v1 : Int32) (v2 : Int32) (lp : Int32 → St → Option (Int32 × St)) (dd : Nat) (hdd : 3 ≤ dd) (X : KX) (hC : Ctx X RX6 cX6_readProduct FULL (dd + 2) 0) (hR : RC X none) (hN : X_nL X = 4) (hrc : ∀ (z0 : Int32) (s : St), CN (X_l X) yX6_readExpr cX6_readExpr 4 none dd FULL (fun ad => [.ref (ad 2), .int z0]) s (rc z0 s)) (ih : ∀ (u2 : Int32) (s : St), Zr X (QFN X none) 0 s 7 [(0, .ref (X_ad X 2)), (1, .int v1), (2, .int u2)] [] (lp u2 s)) (s : St) : Zr X (QFN X none) 0 s 39 [(0, .ref (X_ad X 2)), (1, .int v1), (2, .int v2)] [] (fX6_readProduct_J39 lp rc v1 v2 s) := by
  rw [fX6_readProduct_J39]
  refine zr_aload_n (pc := 39) (i := 0) 0 hC dX6_readProduct_39 rfl rfl ?_
  refine zr_getI (pc := 40) (j := 6) hC mem_2 lay_2 rfl rfl (Nat.le_of_ble_eq_true rfl) iX6 m_181 dX6_readProduct_40 ?_
  refine zr_bipush (pc := 43) (v := (42 : Int32)) hC dX6_readProduct_43 bi_42 ?_
  refine zr_icmp_ne (pc := 45) (tgt := 53) hC dX6_readProduct_45 (by decide) (fun c_ => ?_) (fun c_ => ?_)
  · refine zr_bipush (pc := 48) (v := (-18 : Int32)) hC dX6_readProduct_48 bi_m18 ?_
    refine zr_goto (pc := 50) (tgt := 55) hC dX6_readProduct_50 (by decide) ?_
    exact tX6_readProduct_J55 rc v1 v2 (-18 : Int32) _ dd hdd X hC hR hN hrc  ih _
  · refine zr_bipush (pc := 53) (v := (-19 : Int32)) hC dX6_readProduct_53 bi_m19 ?_
    exact tX6_readProduct_J55 rc v1 v2 (-19 : Int32) _ dd hdd X hC hR hN hrc  ih _
def fX6_readProduct_L7 (rc : Int32 → St → Option (Int32 × St)) (c1 : Int32) : Nat → Int32 → St → Option (Int32 × St)
  | 0, _, _ => none
  | n + 1, v2, s =>
    if (700 : Int32) ≤ v2 then
    (some (0, s))
  else
    (if (s 2 4) = 0 then
    (if (s 2 6) = (42 : Int32) then
    (fX6_readProduct_J39 (fX6_readProduct_L7 rc c1 n) rc c1 v2 s)
  else
    (if (s 2 6) = (47 : Int32) then
    (fX6_readProduct_J39 (fX6_readProduct_L7 rc c1 n) rc c1 v2 s)
  else
    (some (0, s))))
  else
    (some (0, s)))
set_option maxRecDepth 100000 in
set_option maxHeartbeats 4000000 in
theorem tX6_readProduct_L7 (rc : Int32 → St → Option (Int32 × St)) (c1 : Int32) (dd : Nat) (hdd : 3 ≤ dd) (X : KX) (hC : Ctx X RX6 cX6_readProduct FULL (dd + 2) 0) (hR : RC X none) (hN : X_nL X = 4) (hrc : ∀ (z0 : Int32) (s : St), CN (X_l X) yX6_readExpr cX6_readExpr 4 none dd FULL (fun ad => [.ref (ad 2), .int z0]) s (rc z0 s)) : ∀ (n : Nat) (v2 : Int32) (s : St), Zr X (QFN X none) 0 s 7 [(0, .ref (X_ad X 2)), (1, .int c1), (2, .int v2)] [] (fX6_readProduct_L7 rc c1 n v2 s) := by
  intro n
  induction n with
  | zero =>
    intro v2 s
    exact zr_none
  | succ n ih =>
    intro v2 s
    rw [fX6_readProduct_L7]
    refine zr_iload_n (pc := 7) (i := 2) 2 hC dX6_readProduct_7 rfl rfl ?_
    refine zr_sipush (pc := 8) (v := (700 : Int32)) hC dX6_readProduct_8 si_700 ?_
    refine zr_icmp_ge (pc := 11) (tgt := 82) hC dX6_readProduct_11 (by decide) (fun c_ => ?_) (fun c_ => ?_)
    · exact zr_vret (pc := 82) hC hR dX6_readProduct_82
    · refine zr_aload_n (pc := 14) (i := 0) 0 hC dX6_readProduct_14 rfl rfl ?_
      refine zr_getI (pc := 15) (j := 4) hC mem_2 lay_2 rfl rfl (Nat.le_of_ble_eq_true rfl) iX6 m_179 dX6_readProduct_15 ?_
      refine zr_if_ne (pc := 18) (tgt := 82) hC dX6_readProduct_18 (by decide) (fun c_ => ?_) (fun c_ => ?_)
      · refine zr_aload_n (pc := 21) (i := 0) 0 hC dX6_readProduct_21 rfl rfl ?_
        refine zr_getI (pc := 22) (j := 6) hC mem_2 lay_2 rfl rfl (Nat.le_of_ble_eq_true rfl) iX6 m_181 dX6_readProduct_22 ?_
        refine zr_bipush (pc := 25) (v := (42 : Int32)) hC dX6_readProduct_25 bi_42 ?_
        refine zr_icmp_eq (pc := 27) (tgt := 39) hC dX6_readProduct_27 (by decide) (fun c_ => ?_) (fun c_ => ?_)
        · exact tX6_readProduct_J39 rc c1 v2 _ dd hdd X hC hR hN hrc  ih _
        · refine zr_aload_n (pc := 30) (i := 0) 0 hC dX6_readProduct_30 rfl rfl ?_
          refine zr_getI (pc := 31) (j := 6) hC mem_2 lay_2 rfl rfl (Nat.le_of_ble_eq_true rfl) iX6 m_181 dX6_readProduct_31 ?_
          refine zr_bipush (pc := 34) (v := (47 : Int32)) hC dX6_readProduct_34 bi_47 ?_
          refine zr_icmp_ne (pc := 36) (tgt := 82) hC dX6_readProduct_36 (by decide) (fun c_ => ?_) (fun c_ => ?_)
          · exact tX6_readProduct_J39 rc c1 v2 _ dd hdd X hC hR hN hrc  ih _
          · exact zr_vret (pc := 82) hC hR dX6_readProduct_82
      · exact zr_vret (pc := 82) hC hR dX6_readProduct_82
def fX6_readProduct (rc : Int32 → St → Option (Int32 × St)) (a1 : Int32) (s : St) : Option (Int32 × St) :=
  bd (fX6_readPart rc a1 s) (fun y_1 s_1 =>
    fX6_readProduct_L7 rc a1 FU (0 : Int32) s_1)
set_option maxRecDepth 100000 in
set_option maxHeartbeats 4000000 in
theorem kX6_readProduct (l : Launch) (rc : Int32 → St → Option (Int32 × St)) (dd : Nat) (hdd : 3 ≤ dd)  (hrc : ∀ (z0 : Int32) (s : St), CN l yX6_readExpr cX6_readExpr 4 none dd FULL (fun ad => [.ref (ad 2), .int z0]) s (rc z0 s)) (a1 : Int32) (s : St) : CN l yX6_readProduct cX6_readProduct 4 none (dd + 2) FULL (fun ad => [.ref (ad 2), .int a1]) s (fX6_readProduct rc a1 s) := by
  refine cn_of (by decide) (fun _ => (Nat.le_of_ble_eq_true rfl)) (fun X hC hR hl hN => ?_)
  subst hl
  show Zr X (QFN X none) 0 s 0 [(0, .ref (X_ad X 2)), (1, .int a1)] [] _
  rw [fX6_readProduct]
  refine zr_aload_n (pc := 0) (i := 0) 0 hC dX6_readProduct_0 rfl rfl ?_
  refine zr_iload_n (pc := 1) (i := 1) 1 hC dX6_readProduct_1 rfl rfl ?_
  refine zr_callVv (pc := 2) (As := fun ad => [.int a1]) (st1 := []) hC (Nat.le_of_ble_eq_true rfl) (kX6_readPart _ rc dd hdd hrc a1 _) (by omega) mc_yX6_readPart m_931 m_933 m_p32 mem_2 lay_2 rfl rfl rfl rfl (Nat.le_of_ble_eq_true rfl) dX6_readProduct_2 (fun y_1 s_1 => ?_)
  refine zr_iconst (pc := 5) (v := (0 : Int32)) hC dX6_readProduct_5 ic_0 ?_
  refine zr_istore_n (pc := 6) (i := 2) (ls' := [(2, _), (0, _), (1, _)]) hC dX6_readProduct_6 rfl (nlt hN (Nat.le_of_ble_eq_true rfl)) rfl ?_
  refine zr_sub (ls' := [(0, _), (1, _), (2, _)]) [1, 2, 0] rfl ?_
  exact tX6_readProduct_L7 rc a1 dd hdd X hC hR hN hrc FU (0 : Int32) _
def fX6_readSum_J55 (lp : Int32 → St → Option (Int32 × St)) (rc : Int32 → St → Option (Int32 × St)) (v1 : Int32) (v2 : Int32) (q0 : Int32) (s : St) : Option (Int32 × St) :=
  bd (fX6_advance s) (fun y_2 s_2 =>
    bd (fX6_readProduct rc v1 s_2) (fun y_3 s_3 =>
    bd (fX5_add 11 q0 s_3) (fun y_4 s_4 =>
    lp (v2 + (1 : Int32)) s_4)))
set_option maxRecDepth 100000 in
set_option maxHeartbeats 4000000 in
theorem tX6_readSum_J55 (rc : Int32 → St → Option (Int32 × St)) (v1 : Int32) (v2 : Int32) (q0 : Int32) (lp : Int32 → St → Option (Int32 × St)) (dd : Nat) (hdd : 3 ≤ dd) (X : KX) (hC : Ctx X RX6 cX6_readSum FULL (dd + 3) 0) (hR : RC X none) (hN : X_nL X = 4) (hrc : ∀ (z0 : Int32) (s : St), CN (X_l X) yX6_readExpr cX6_readExpr 4 none dd FULL (fun ad => [.ref (ad 2), .int z0]) s (rc z0 s)) (ih : ∀ (u2 : Int32) (s : St), Zr X (QFN X none) 0 s 7 [(0, .ref (X_ad X 2)), (1, .int v1), (2, .int u2)] [] (lp u2 s)) (s : St) : Zr X (QFN X none) 0 s 55 [(0, .ref (X_ad X 2)), (1, .int v1), (2, .int v2)] [.int q0] (fX6_readSum_J55 lp rc v1 v2 q0 s) := by
  rw [fX6_readSum_J55]
  refine zr_istore_n (pc := 55) (i := 3) (ls' := [(3, _), (0, _), (1, _), (2, _)]) hC dX6_readSum_55 rfl (nlt hN (Nat.le_of_ble_eq_true rfl)) rfl ?_
  refine zr_aload_n (pc := 56) (i := 0) 1 hC dX6_readSum_56 rfl rfl ?_
  refine zr_callVv (pc := 57) (As := fun ad => []) (st1 := []) hC (Nat.le_of_ble_eq_true rfl) (kX6_advance _  _) (by omega) mc_yX6_advance m_808 m_810 m_p11 mem_2 lay_2 rfl rfl rfl rfl (Nat.le_of_ble_eq_true rfl) dX6_readSum_57 (fun y_2 s_2 => ?_)
  refine zr_aload_n (pc := 60) (i := 0) 1 hC dX6_readSum_60 rfl rfl ?_
  refine zr_iload_n (pc := 61) (i := 1) 2 hC dX6_readSum_61 rfl rfl ?_
  refine zr_callVv (pc := 62) (As := fun ad => [.int v1]) (st1 := []) hC (Nat.le_of_ble_eq_true rfl) (kX6_readProduct _ rc dd hdd hrc v1 _) (by omega) mc_yX6_readProduct m_927 m_929 m_p31 mem_2 lay_2 rfl rfl rfl rfl (Nat.le_of_ble_eq_true rfl) dX6_readSum_62 (fun y_3 s_3 => ?_)
  refine zr_aload_n (pc := 65) (i := 0) 1 hC dX6_readSum_65 rfl rfl ?_
  refine zr_getR (pc := 66) (j := 0) (k1 := 3) hC mem_2 lay_2 rfl rfl (Nat.le_of_ble_eq_true rfl) iX6 m_172 dX6_readSum_66 ?_
  refine zr_getR (pc := 69) (j := 11) (k1 := 11) hC mem_3 lay_3 rfl rfl (Nat.le_of_ble_eq_true rfl) iX4 m_105 dX6_readSum_69 ?_
  refine zr_iload_n (pc := 72) (i := 3) 0 hC dX6_readSum_72 rfl rfl ?_
  refine zr_callVv (pc := 73) (As := fun ad => [.int q0]) (st1 := []) hC (Nat.le_of_ble_eq_true rfl) (kX5_add _ is_11 q0 _) (by omega) mc_yX5_add m_946 m_947 m_948 mem_11 lay_11 rfl rfl rfl rfl (Nat.le_of_ble_eq_true rfl) dX6_readSum_73 (fun y_4 s_4 => ?_)
  refine zr_iinc (pc := 76) (q := 3) (ls' := [(2, _), (3, _), (0, _), (1, _)]) hC dX6_readSum_76 rfl (inc_1 _) (nlt hN (Nat.le_of_ble_eq_true rfl)) rfl ?_
  refine zr_goto (pc := 79) (tgt := 7) hC dX6_readSum_79 (by decide) ?_
  refine zr_sub (ls' := [(0, _), (1, _), (2, _)]) [2, 3, 0] rfl ?_
  exact ih (v2 + (1 : Int32)) s_4
def fX6_readSum_J39 (lp : Int32 → St → Option (Int32 × St)) (rc : Int32 → St → Option (Int32 × St)) (v1 : Int32) (v2 : Int32) (s : St) : Option (Int32 × St) :=
  if (s 2 6) = (43 : Int32) then
    (fX6_readSum_J55 (lp) rc v1 v2 (-16 : Int32) s)
  else
    (fX6_readSum_J55 (lp) rc v1 v2 (-17 : Int32) s)
set_option maxRecDepth 100000 in
set_option maxHeartbeats 4000000 in
theorem tX6_readSum_J39 (rc : Int32 → St → Option (Int32 × St)) (v1 : Int32) (v2 : Int32) (lp : Int32 → St → Option (Int32 × St)) (dd : Nat) (hdd : 3 ≤ dd) (X : KX) (hC : Ctx X RX6 cX6_readSum FULL (dd + 3) 0) (hR : RC X none) (hN : X_nL X = 4) (hrc : ∀ (z0 : Int32) (s : St), CN (X_l X) yX6_readExpr cX6_readExpr 4 none dd FULL (fun ad => [.ref (ad 2), .int z0]) s (rc z0 s)) (ih : ∀ (u2 : Int32) (s : St), Zr X (QFN X none) 0 s 7 [(0, .ref (X_ad X 2)), (1, .int v1), (2, .int u2)] [] (lp u2 s)) (s : St) : Zr X (QFN X none) 0 s 39 [(0, .ref (X_ad X 2)), (1, .int v1), (2, .int v2)] [] (fX6_readSum_J39 lp rc v1 v2 s) := by
  rw [fX6_readSum_J39]
  refine zr_aload_n (pc := 39) (i := 0) 0 hC dX6_readSum_39 rfl rfl ?_
  refine zr_getI (pc := 40) (j := 6) hC mem_2 lay_2 rfl rfl (Nat.le_of_ble_eq_true rfl) iX6 m_181 dX6_readSum_40 ?_
  refine zr_bipush (pc := 43) (v := (43 : Int32)) hC dX6_readSum_43 bi_43 ?_
  refine zr_icmp_ne (pc := 45) (tgt := 53) hC dX6_readSum_45 (by decide) (fun c_ => ?_) (fun c_ => ?_)
  · refine zr_bipush (pc := 48) (v := (-16 : Int32)) hC dX6_readSum_48 bi_m16 ?_
    refine zr_goto (pc := 50) (tgt := 55) hC dX6_readSum_50 (by decide) ?_
    exact tX6_readSum_J55 rc v1 v2 (-16 : Int32) _ dd hdd X hC hR hN hrc  ih _
  · refine zr_bipush (pc := 53) (v := (-17 : Int32)) hC dX6_readSum_53 bi_m17 ?_
    exact tX6_readSum_J55 rc v1 v2 (-17 : Int32) _ dd hdd X hC hR hN hrc  ih _
def fX6_readSum_L7 (rc : Int32 → St → Option (Int32 × St)) (c1 : Int32) : Nat → Int32 → St → Option (Int32 × St)
  | 0, _, _ => none
  | n + 1, v2, s =>
    if (700 : Int32) ≤ v2 then
    (some (0, s))
  else
    (if (s 2 4) = 0 then
    (if (s 2 6) = (43 : Int32) then
    (fX6_readSum_J39 (fX6_readSum_L7 rc c1 n) rc c1 v2 s)
  else
    (if (s 2 6) = (45 : Int32) then
    (fX6_readSum_J39 (fX6_readSum_L7 rc c1 n) rc c1 v2 s)
  else
    (some (0, s))))
  else
    (some (0, s)))
set_option maxRecDepth 100000 in
set_option maxHeartbeats 4000000 in
theorem tX6_readSum_L7 (rc : Int32 → St → Option (Int32 × St)) (c1 : Int32) (dd : Nat) (hdd : 3 ≤ dd) (X : KX) (hC : Ctx X RX6 cX6_readSum FULL (dd + 3) 0) (hR : RC X none) (hN : X_nL X = 4) (hrc : ∀ (z0 : Int32) (s : St), CN (X_l X) yX6_readExpr cX6_readExpr 4 none dd FULL (fun ad => [.ref (ad 2), .int z0]) s (rc z0 s)) : ∀ (n : Nat) (v2 : Int32) (s : St), Zr X (QFN X none) 0 s 7 [(0, .ref (X_ad X 2)), (1, .int c1), (2, .int v2)] [] (fX6_readSum_L7 rc c1 n v2 s) := by
  intro n
  induction n with
  | zero =>
    intro v2 s
    exact zr_none
  | succ n ih =>
    intro v2 s
    rw [fX6_readSum_L7]
    refine zr_iload_n (pc := 7) (i := 2) 2 hC dX6_readSum_7 rfl rfl ?_
    refine zr_sipush (pc := 8) (v := (700 : Int32)) hC dX6_readSum_8 si_700 ?_
    refine zr_icmp_ge (pc := 11) (tgt := 82) hC dX6_readSum_11 (by decide) (fun c_ => ?_) (fun c_ => ?_)
    · exact zr_vret (pc := 82) hC hR dX6_readSum_82
    · refine zr_aload_n (pc := 14) (i := 0) 0 hC dX6_readSum_14 rfl rfl ?_
      refine zr_getI (pc := 15) (j := 4) hC mem_2 lay_2 rfl rfl (Nat.le_of_ble_eq_true rfl) iX6 m_179 dX6_readSum_15 ?_
      refine zr_if_ne (pc := 18) (tgt := 82) hC dX6_readSum_18 (by decide) (fun c_ => ?_) (fun c_ => ?_)
      · refine zr_aload_n (pc := 21) (i := 0) 0 hC dX6_readSum_21 rfl rfl ?_
        refine zr_getI (pc := 22) (j := 6) hC mem_2 lay_2 rfl rfl (Nat.le_of_ble_eq_true rfl) iX6 m_181 dX6_readSum_22 ?_
        refine zr_bipush (pc := 25) (v := (43 : Int32)) hC dX6_readSum_25 bi_43 ?_
        refine zr_icmp_eq (pc := 27) (tgt := 39) hC dX6_readSum_27 (by decide) (fun c_ => ?_) (fun c_ => ?_)
        · exact tX6_readSum_J39 rc c1 v2 _ dd hdd X hC hR hN hrc  ih _
        · refine zr_aload_n (pc := 30) (i := 0) 0 hC dX6_readSum_30 rfl rfl ?_
          refine zr_getI (pc := 31) (j := 6) hC mem_2 lay_2 rfl rfl (Nat.le_of_ble_eq_true rfl) iX6 m_181 dX6_readSum_31 ?_
          refine zr_bipush (pc := 34) (v := (45 : Int32)) hC dX6_readSum_34 bi_45 ?_
          refine zr_icmp_ne (pc := 36) (tgt := 82) hC dX6_readSum_36 (by decide) (fun c_ => ?_) (fun c_ => ?_)
          · exact tX6_readSum_J39 rc c1 v2 _ dd hdd X hC hR hN hrc  ih _
          · exact zr_vret (pc := 82) hC hR dX6_readSum_82
      · exact zr_vret (pc := 82) hC hR dX6_readSum_82
def fX6_readSum (rc : Int32 → St → Option (Int32 × St)) (a1 : Int32) (s : St) : Option (Int32 × St) :=
  bd (fX6_readProduct rc a1 s) (fun y_1 s_1 =>
    fX6_readSum_L7 rc a1 FU (0 : Int32) s_1)
set_option maxRecDepth 100000 in
set_option maxHeartbeats 4000000 in
theorem kX6_readSum (l : Launch) (rc : Int32 → St → Option (Int32 × St)) (dd : Nat) (hdd : 3 ≤ dd)  (hrc : ∀ (z0 : Int32) (s : St), CN l yX6_readExpr cX6_readExpr 4 none dd FULL (fun ad => [.ref (ad 2), .int z0]) s (rc z0 s)) (a1 : Int32) (s : St) : CN l yX6_readSum cX6_readSum 4 none (dd + 3) FULL (fun ad => [.ref (ad 2), .int a1]) s (fX6_readSum rc a1 s) := by
  refine cn_of (by decide) (fun _ => (Nat.le_of_ble_eq_true rfl)) (fun X hC hR hl hN => ?_)
  subst hl
  show Zr X (QFN X none) 0 s 0 [(0, .ref (X_ad X 2)), (1, .int a1)] [] _
  rw [fX6_readSum]
  refine zr_aload_n (pc := 0) (i := 0) 0 hC dX6_readSum_0 rfl rfl ?_
  refine zr_iload_n (pc := 1) (i := 1) 1 hC dX6_readSum_1 rfl rfl ?_
  refine zr_callVv (pc := 2) (As := fun ad => [.int a1]) (st1 := []) hC (Nat.le_of_ble_eq_true rfl) (kX6_readProduct _ rc dd hdd hrc a1 _) (by omega) mc_yX6_readProduct m_927 m_929 m_p31 mem_2 lay_2 rfl rfl rfl rfl (Nat.le_of_ble_eq_true rfl) dX6_readSum_2 (fun y_1 s_1 => ?_)
  refine zr_iconst (pc := 5) (v := (0 : Int32)) hC dX6_readSum_5 ic_0 ?_
  refine zr_istore_n (pc := 6) (i := 2) (ls' := [(2, _), (0, _), (1, _)]) hC dX6_readSum_6 rfl (nlt hN (Nat.le_of_ble_eq_true rfl)) rfl ?_
  refine zr_sub (ls' := [(0, _), (1, _), (2, _)]) [1, 2, 0] rfl ?_
  exact tX6_readSum_L7 rc a1 dd hdd X hC hR hN hrc FU (0 : Int32) _
def fX6_readTest_J22 (rc : Int32 → St → Option (Int32 × St)) (v1 : Int32) (v2 : Int32) (s : St) : Option (Int32 × St) :=
  bd (fX6_advance s) (fun y_2 s_2 =>
    bd (fX6_readSum rc v1 s_2) (fun y_3 s_3 =>
    if v2 = (60 : Int32) then
    (bd (fX5_add 11 (-14 : Int32) s_3) (fun y_5 s_5 =>
    some (0, s_5)))
  else
    (bd (fX5_add 11 (-15 : Int32) s_3) (fun y_4 s_4 =>
    some (0, s_4)))))
set_option maxRecDepth 100000 in
set_option maxHeartbeats 4000000 in
theorem tX6_readTest_J22 (rc : Int32 → St → Option (Int32 × St)) (v1 : Int32) (v2 : Int32) (dd : Nat) (hdd : 3 ≤ dd) (X : KX) (hC : Ctx X RX6 cX6_readTest FULL (dd + 4) 0) (hR : RC X none) (hN : X_nL X = 3) (hrc : ∀ (z0 : Int32) (s : St), CN (X_l X) yX6_readExpr cX6_readExpr 4 none dd FULL (fun ad => [.ref (ad 2), .int z0]) s (rc z0 s)) (s : St) : Zr X (QFN X none) 0 s 22 [(0, .ref (X_ad X 2)), (1, .int v1), (2, .int v2)] [] (fX6_readTest_J22 rc v1 v2 s) := by
  rw [fX6_readTest_J22]
  refine zr_aload_n (pc := 22) (i := 0) 0 hC dX6_readTest_22 rfl rfl ?_
  refine zr_callVv (pc := 23) (As := fun ad => []) (st1 := []) hC (Nat.le_of_ble_eq_true rfl) (kX6_advance _  _) (by omega) mc_yX6_advance m_808 m_810 m_p11 mem_2 lay_2 rfl rfl rfl rfl (Nat.le_of_ble_eq_true rfl) dX6_readTest_23 (fun y_2 s_2 => ?_)
  refine zr_aload_n (pc := 26) (i := 0) 0 hC dX6_readTest_26 rfl rfl ?_
  refine zr_iload_n (pc := 27) (i := 1) 1 hC dX6_readTest_27 rfl rfl ?_
  refine zr_callVv (pc := 28) (As := fun ad => [.int v1]) (st1 := []) hC (Nat.le_of_ble_eq_true rfl) (kX6_readSum _ rc dd hdd hrc v1 _) (by omega) mc_yX6_readSum m_923 m_925 m_p30 mem_2 lay_2 rfl rfl rfl rfl (Nat.le_of_ble_eq_true rfl) dX6_readTest_28 (fun y_3 s_3 => ?_)
  refine zr_aload_n (pc := 31) (i := 0) 0 hC dX6_readTest_31 rfl rfl ?_
  refine zr_getR (pc := 32) (j := 0) (k1 := 3) hC mem_2 lay_2 rfl rfl (Nat.le_of_ble_eq_true rfl) iX6 m_172 dX6_readTest_32 ?_
  refine zr_getR (pc := 35) (j := 11) (k1 := 11) hC mem_3 lay_3 rfl rfl (Nat.le_of_ble_eq_true rfl) iX4 m_105 dX6_readTest_35 ?_
  refine zr_iload_n (pc := 38) (i := 2) 2 hC dX6_readTest_38 rfl rfl ?_
  refine zr_bipush (pc := 39) (v := (60 : Int32)) hC dX6_readTest_39 bi_60 ?_
  refine zr_icmp_ne (pc := 41) (tgt := 49) hC dX6_readTest_41 (by decide) (fun c_ => ?_) (fun c_ => ?_)
  · refine zr_bipush (pc := 44) (v := (-14 : Int32)) hC dX6_readTest_44 bi_m14 ?_
    refine zr_goto (pc := 46) (tgt := 51) hC dX6_readTest_46 (by decide) ?_
    refine zr_callVv (pc := 51) (As := fun ad => [.int (-14 : Int32)]) (st1 := []) hC (Nat.le_of_ble_eq_true rfl) (kX5_add _ is_11 (-14 : Int32) _) (by omega) mc_yX5_add m_946 m_947 m_948 mem_11 lay_11 rfl rfl rfl rfl (Nat.le_of_ble_eq_true rfl) dX6_readTest_51 (fun y_5 s_5 => ?_)
    exact zr_vret (pc := 54) hC hR dX6_readTest_54
  · refine zr_bipush (pc := 49) (v := (-15 : Int32)) hC dX6_readTest_49 bi_m15 ?_
    refine zr_callVv (pc := 51) (As := fun ad => [.int (-15 : Int32)]) (st1 := []) hC (Nat.le_of_ble_eq_true rfl) (kX5_add _ is_11 (-15 : Int32) _) (by omega) mc_yX5_add m_946 m_947 m_948 mem_11 lay_11 rfl rfl rfl rfl (Nat.le_of_ble_eq_true rfl) dX6_readTest_51 (fun y_4 s_4 => ?_)
    exact zr_vret (pc := 54) hC hR dX6_readTest_54
def fX6_readTest (rc : Int32 → St → Option (Int32 × St)) (a1 : Int32) (s : St) : Option (Int32 × St) :=
  bd (fX6_readSum rc a1 s) (fun y_1 s_1 =>
    if (s_1 2 6) = (60 : Int32) then
    (fX6_readTest_J22 rc a1 (s_1 2 6) s_1)
  else
    (if (s_1 2 6) = (61 : Int32) then
    (fX6_readTest_J22 rc a1 (s_1 2 6) s_1)
  else
    (some (0, s_1))))
set_option maxRecDepth 100000 in
set_option maxHeartbeats 4000000 in
theorem kX6_readTest (l : Launch) (rc : Int32 → St → Option (Int32 × St)) (dd : Nat) (hdd : 3 ≤ dd)  (hrc : ∀ (z0 : Int32) (s : St), CN l yX6_readExpr cX6_readExpr 4 none dd FULL (fun ad => [.ref (ad 2), .int z0]) s (rc z0 s)) (a1 : Int32) (s : St) : CN l yX6_readTest cX6_readTest 3 none (dd + 4) FULL (fun ad => [.ref (ad 2), .int a1]) s (fX6_readTest rc a1 s) := by
  refine cn_of (by decide) (fun _ => (Nat.le_of_ble_eq_true rfl)) (fun X hC hR hl hN => ?_)
  subst hl
  show Zr X (QFN X none) 0 s 0 [(0, .ref (X_ad X 2)), (1, .int a1)] [] _
  rw [fX6_readTest]
  refine zr_aload_n (pc := 0) (i := 0) 0 hC dX6_readTest_0 rfl rfl ?_
  refine zr_iload_n (pc := 1) (i := 1) 1 hC dX6_readTest_1 rfl rfl ?_
  refine zr_callVv (pc := 2) (As := fun ad => [.int a1]) (st1 := []) hC (Nat.le_of_ble_eq_true rfl) (kX6_readSum _ rc dd hdd hrc a1 _) (by omega) mc_yX6_readSum m_923 m_925 m_p30 mem_2 lay_2 rfl rfl rfl rfl (Nat.le_of_ble_eq_true rfl) dX6_readTest_2 (fun y_1 s_1 => ?_)
  refine zr_aload_n (pc := 5) (i := 0) 0 hC dX6_readTest_5 rfl rfl ?_
  refine zr_getI (pc := 6) (j := 6) hC mem_2 lay_2 rfl rfl (Nat.le_of_ble_eq_true rfl) iX6 m_181 dX6_readTest_6 ?_
  refine zr_istore_n (pc := 9) (i := 2) (ls' := [(2, _), (0, _), (1, _)]) hC dX6_readTest_9 rfl (nlt hN (Nat.le_of_ble_eq_true rfl)) rfl ?_
  refine zr_iload_n (pc := 10) (i := 2) 0 hC dX6_readTest_10 rfl rfl ?_
  refine zr_bipush (pc := 11) (v := (60 : Int32)) hC dX6_readTest_11 bi_60 ?_
  refine zr_icmp_eq (pc := 13) (tgt := 22) hC dX6_readTest_13 (by decide) (fun c_ => ?_) (fun c_ => ?_)
  · refine zr_sub (ls' := [(0, _), (1, _), (2, _)]) [1, 2, 0] rfl ?_
    exact tX6_readTest_J22 rc a1 (s_1 2 6) dd hdd X hC hR hN hrc  _
  · refine zr_iload_n (pc := 16) (i := 2) 0 hC dX6_readTest_16 rfl rfl ?_
    refine zr_bipush (pc := 17) (v := (61 : Int32)) hC dX6_readTest_17 bi_61 ?_
    refine zr_icmp_ne (pc := 19) (tgt := 54) hC dX6_readTest_19 (by decide) (fun c_ => ?_) (fun c_ => ?_)
    · refine zr_sub (ls' := [(0, _), (1, _), (2, _)]) [1, 2, 0] rfl ?_
      exact tX6_readTest_J22 rc a1 (s_1 2 6) dd hdd X hC hR hN hrc  _
    · exact zr_vret (pc := 54) hC hR dX6_readTest_54
def fX6_readNot_L2 (k28 : Int32 → St → Option (Int32 × St)) (rc : Int32 → St → Option (Int32 × St)) (c1 : Int32) : Nat → Int32 → St → Option (Int32 × St)
  | 0, _, _ => none
  | n + 1, v2, s =>
    if (6 : Int32) ≤ v2 then
    (k28 v2 s)
  else
    (if (s 2 6) = (311 : Int32) then
    (bd (fX6_advance s) (fun y_1 s_1 =>
    fX6_readNot_L2 k28 rc c1 n (v2 + (1 : Int32)) s_1))
  else
    (k28 v2 s))
set_option maxRecDepth 100000 in
set_option maxHeartbeats 4000000 in
theorem tX6_readNot_L2 (rc : Int32 → St → Option (Int32 × St)) (c1 : Int32) (k28 : Int32 → St → Option (Int32 × St)) (dd : Nat) (hdd : 3 ≤ dd) (X : KX) (hC : Ctx X RX6 cX6_readNot FULL (dd + 5) 0) (hR : RC X none) (hN : X_nL X = 4) (hrc : ∀ (z0 : Int32) (s : St), CN (X_l X) yX6_readExpr cX6_readExpr 4 none dd FULL (fun ad => [.ref (ad 2), .int z0]) s (rc z0 s)) (hk28 : ∀ (v2 : Int32) (s : St), Zr X (QFN X none) 0 s 28 [(0, .ref (X_ad X 2)), (1, .int c1), (2, .int v2)] [] (k28 v2 s)) : ∀ (n : Nat) (v2 : Int32) (s : St), Zr X (QFN X none) 0 s 2 [(0, .ref (X_ad X 2)), (1, .int c1), (2, .int v2)] [] (fX6_readNot_L2 k28 rc c1 n v2 s) := by
  intro n
  induction n with
  | zero =>
    intro v2 s
    exact zr_none
  | succ n ih =>
    intro v2 s
    rw [fX6_readNot_L2]
    refine zr_iload_n (pc := 2) (i := 2) 2 hC dX6_readNot_2 rfl rfl ?_
    refine zr_bipush (pc := 3) (v := (6 : Int32)) hC dX6_readNot_3 bi_6 ?_
    refine zr_icmp_ge (pc := 5) (tgt := 28) hC dX6_readNot_5 (by decide) (fun c_ => ?_) (fun c_ => ?_)
    · exact hk28 v2 s
    · refine zr_aload_n (pc := 8) (i := 0) 0 hC dX6_readNot_8 rfl rfl ?_
      refine zr_getI (pc := 9) (j := 6) hC mem_2 lay_2 rfl rfl (Nat.le_of_ble_eq_true rfl) iX6 m_181 dX6_readNot_9 ?_
      refine zr_sipush (pc := 12) (v := (311 : Int32)) hC dX6_readNot_12 si_311 ?_
      refine zr_icmp_ne (pc := 15) (tgt := 28) hC dX6_readNot_15 (by decide) (fun c_ => ?_) (fun c_ => ?_)
      · refine zr_aload_n (pc := 18) (i := 0) 0 hC dX6_readNot_18 rfl rfl ?_
        refine zr_callVv (pc := 19) (As := fun ad => []) (st1 := []) hC (Nat.le_of_ble_eq_true rfl) (kX6_advance _  _) (by omega) mc_yX6_advance m_808 m_810 m_p11 mem_2 lay_2 rfl rfl rfl rfl (Nat.le_of_ble_eq_true rfl) dX6_readNot_19 (fun y_1 s_1 => ?_)
        refine zr_iinc (pc := 22) (q := 2) (ls' := [(2, _), (0, _), (1, _)]) hC dX6_readNot_22 rfl (inc_1 _) (nlt hN (Nat.le_of_ble_eq_true rfl)) rfl ?_
        refine zr_goto (pc := 25) (tgt := 2) hC dX6_readNot_25 (by decide) ?_
        refine zr_sub (ls' := [(0, _), (1, _), (2, _)]) [1, 2, 0] rfl ?_
        exact ih (v2 + (1 : Int32)) s_1
      · exact hk28 v2 s
def fX6_readNot_L50 (rc : Int32 → St → Option (Int32 × St)) (c2 : Int32) : Nat → Int32 → St → Option (Int32 × St)
  | 0, _, _ => none
  | n + 1, v3, s =>
    if c2 ≤ v3 then
    (some (0, s))
  else
    (bd (fX5_add 11 (-11 : Int32) s) (fun y_4 s_4 =>
    fX6_readNot_L50 rc c2 n (v3 + (1 : Int32)) s_4))
set_option maxRecDepth 100000 in
set_option maxHeartbeats 4000000 in
theorem tX6_readNot_L50 (rc : Int32 → St → Option (Int32 × St)) (c2 : Int32) (dd : Nat) (hdd : 3 ≤ dd) (X : KX) (hC : Ctx X RX6 cX6_readNot FULL (dd + 5) 0) (hR : RC X none) (hN : X_nL X = 4) (hrc : ∀ (z0 : Int32) (s : St), CN (X_l X) yX6_readExpr cX6_readExpr 4 none dd FULL (fun ad => [.ref (ad 2), .int z0]) s (rc z0 s)) : ∀ (n : Nat) (v3 : Int32) (s : St), Zr X (QFN X none) 0 s 50 [(0, .ref (X_ad X 2)), (2, .int c2), (3, .int v3)] [] (fX6_readNot_L50 rc c2 n v3 s) := by
  intro n
  induction n with
  | zero =>
    intro v3 s
    exact zr_none
  | succ n ih =>
    intro v3 s
    rw [fX6_readNot_L50]
    refine zr_iload_n (pc := 50) (i := 3) 2 hC dX6_readNot_50 rfl rfl ?_
    refine zr_iload_n (pc := 51) (i := 2) 1 hC dX6_readNot_51 rfl rfl ?_
    refine zr_icmp_ge (pc := 52) (tgt := 73) hC dX6_readNot_52 (by decide) (fun c_ => ?_) (fun c_ => ?_)
    · exact zr_vret (pc := 73) hC hR dX6_readNot_73
    · refine zr_aload_n (pc := 55) (i := 0) 0 hC dX6_readNot_55 rfl rfl ?_
      refine zr_getR (pc := 56) (j := 0) (k1 := 3) hC mem_2 lay_2 rfl rfl (Nat.le_of_ble_eq_true rfl) iX6 m_172 dX6_readNot_56 ?_
      refine zr_getR (pc := 59) (j := 11) (k1 := 11) hC mem_3 lay_3 rfl rfl (Nat.le_of_ble_eq_true rfl) iX4 m_105 dX6_readNot_59 ?_
      refine zr_bipush (pc := 62) (v := (-11 : Int32)) hC dX6_readNot_62 bi_m11 ?_
      refine zr_callVv (pc := 64) (As := fun ad => [.int (-11 : Int32)]) (st1 := []) hC (Nat.le_of_ble_eq_true rfl) (kX5_add _ is_11 (-11 : Int32) _) (by omega) mc_yX5_add m_946 m_947 m_948 mem_11 lay_11 rfl rfl rfl rfl (Nat.le_of_ble_eq_true rfl) dX6_readNot_64 (fun y_4 s_4 => ?_)
      refine zr_iinc (pc := 67) (q := 2) (ls' := [(3, _), (0, _), (2, _)]) hC dX6_readNot_67 rfl (inc_1 _) (nlt hN (Nat.le_of_ble_eq_true rfl)) rfl ?_
      refine zr_goto (pc := 70) (tgt := 50) hC dX6_readNot_70 (by decide) ?_
      refine zr_sub (ls' := [(0, _), (2, _), (3, _)]) [1, 2, 0] rfl ?_
      exact ih (v3 + (1 : Int32)) s_4
def fX6_readNot_J43 (rc : Int32 → St → Option (Int32 × St)) (v1 : Int32) (v2 : Int32) (s : St) : Option (Int32 × St) :=
  bd (fX6_readTest rc v1 s) (fun y_3 s_3 =>
    fX6_readNot_L50 rc v2 FU (0 : Int32) s_3)
set_option maxRecDepth 100000 in
set_option maxHeartbeats 4000000 in
theorem tX6_readNot_J43 (rc : Int32 → St → Option (Int32 × St)) (v1 : Int32) (v2 : Int32) (dd : Nat) (hdd : 3 ≤ dd) (X : KX) (hC : Ctx X RX6 cX6_readNot FULL (dd + 5) 0) (hR : RC X none) (hN : X_nL X = 4) (hrc : ∀ (z0 : Int32) (s : St), CN (X_l X) yX6_readExpr cX6_readExpr 4 none dd FULL (fun ad => [.ref (ad 2), .int z0]) s (rc z0 s)) (s : St) : Zr X (QFN X none) 0 s 43 [(0, .ref (X_ad X 2)), (1, .int v1), (2, .int v2)] [] (fX6_readNot_J43 rc v1 v2 s) := by
  rw [fX6_readNot_J43]
  refine zr_aload_n (pc := 43) (i := 0) 0 hC dX6_readNot_43 rfl rfl ?_
  refine zr_iload_n (pc := 44) (i := 1) 1 hC dX6_readNot_44 rfl rfl ?_
  refine zr_callVv (pc := 45) (As := fun ad => [.int v1]) (st1 := []) hC (Nat.le_of_ble_eq_true rfl) (kX6_readTest _ rc dd hdd hrc v1 _) (by omega) mc_yX6_readTest m_919 m_921 m_p29 mem_2 lay_2 rfl rfl rfl rfl (Nat.le_of_ble_eq_true rfl) dX6_readNot_45 (fun y_3 s_3 => ?_)
  refine zr_iconst (pc := 48) (v := (0 : Int32)) hC dX6_readNot_48 ic_0 ?_
  refine zr_istore_n (pc := 49) (i := 3) (ls' := [(3, _), (0, _), (1, _), (2, _)]) hC dX6_readNot_49 rfl (nlt hN (Nat.le_of_ble_eq_true rfl)) rfl ?_
  refine zr_sub (ls' := [(0, _), (2, _), (3, _)]) [1, 3, 0] rfl ?_
  exact tX6_readNot_L50 rc v2 dd hdd X hC hR hN hrc FU (0 : Int32) _
def fX6_readNot_J28 (rc : Int32 → St → Option (Int32 × St)) (v1 : Int32) (v2 : Int32) (s : St) : Option (Int32 × St) :=
  if (s 2 6) = (311 : Int32) then
    (bd (fX6_refuse (2 : Int32) s) (fun y_5 s_5 =>
    fX6_readNot_J43 rc v1 v2 s_5))
  else
    (fX6_readNot_J43 rc v1 v2 s)
set_option maxRecDepth 100000 in
set_option maxHeartbeats 4000000 in
theorem tX6_readNot_J28 (rc : Int32 → St → Option (Int32 × St)) (v1 : Int32) (v2 : Int32) (dd : Nat) (hdd : 3 ≤ dd) (X : KX) (hC : Ctx X RX6 cX6_readNot FULL (dd + 5) 0) (hR : RC X none) (hN : X_nL X = 4) (hrc : ∀ (z0 : Int32) (s : St), CN (X_l X) yX6_readExpr cX6_readExpr 4 none dd FULL (fun ad => [.ref (ad 2), .int z0]) s (rc z0 s)) (s : St) : Zr X (QFN X none) 0 s 28 [(0, .ref (X_ad X 2)), (1, .int v1), (2, .int v2)] [] (fX6_readNot_J28 rc v1 v2 s) := by
  rw [fX6_readNot_J28]
  refine zr_aload_n (pc := 28) (i := 0) 0 hC dX6_readNot_28 rfl rfl ?_
  refine zr_getI (pc := 29) (j := 6) hC mem_2 lay_2 rfl rfl (Nat.le_of_ble_eq_true rfl) iX6 m_181 dX6_readNot_29 ?_
  refine zr_sipush (pc := 32) (v := (311 : Int32)) hC dX6_readNot_32 si_311 ?_
  refine zr_icmp_ne (pc := 35) (tgt := 43) hC dX6_readNot_35 (by decide) (fun c_ => ?_) (fun c_ => ?_)
  · refine zr_aload_n (pc := 38) (i := 0) 0 hC dX6_readNot_38 rfl rfl ?_
    refine zr_iconst (pc := 39) (v := (2 : Int32)) hC dX6_readNot_39 ic_2 ?_
    refine zr_callVv (pc := 40) (As := fun ad => [.int (2 : Int32)]) (st1 := []) hC (Nat.le_of_ble_eq_true rfl) (kX6_refuse _ (2 : Int32) _) (by omega) mc_yX6_refuse m_825 m_827 m_p15 mem_2 lay_2 rfl rfl rfl rfl (Nat.le_of_ble_eq_true rfl) dX6_readNot_40 (fun y_5 s_5 => ?_)
    exact tX6_readNot_J43 rc v1 v2 dd hdd X hC hR hN hrc  _
  · exact tX6_readNot_J43 rc v1 v2 dd hdd X hC hR hN hrc  _
def fX6_readNot (rc : Int32 → St → Option (Int32 × St)) (a1 : Int32) (s : St) : Option (Int32 × St) :=
  fX6_readNot_L2 (fun v2_2 s_2 => fX6_readNot_J28 rc a1 v2_2 s_2) rc a1 FU (0 : Int32) s
set_option maxRecDepth 100000 in
set_option maxHeartbeats 4000000 in
theorem kX6_readNot (l : Launch) (rc : Int32 → St → Option (Int32 × St)) (dd : Nat) (hdd : 3 ≤ dd)  (hrc : ∀ (z0 : Int32) (s : St), CN l yX6_readExpr cX6_readExpr 4 none dd FULL (fun ad => [.ref (ad 2), .int z0]) s (rc z0 s)) (a1 : Int32) (s : St) : CN l yX6_readNot cX6_readNot 4 none (dd + 5) FULL (fun ad => [.ref (ad 2), .int a1]) s (fX6_readNot rc a1 s) := by
  refine cn_of (by decide) (fun _ => (Nat.le_of_ble_eq_true rfl)) (fun X hC hR hl hN => ?_)
  subst hl
  show Zr X (QFN X none) 0 s 0 [(0, .ref (X_ad X 2)), (1, .int a1)] [] _
  rw [fX6_readNot]
  refine zr_iconst (pc := 0) (v := (0 : Int32)) hC dX6_readNot_0 ic_0 ?_
  refine zr_istore_n (pc := 1) (i := 2) (ls' := [(2, _), (0, _), (1, _)]) hC dX6_readNot_1 rfl (nlt hN (Nat.le_of_ble_eq_true rfl)) rfl ?_
  refine zr_sub (ls' := [(0, _), (1, _), (2, _)]) [1, 2, 0] rfl ?_
  refine tX6_readNot_L2 rc a1 _ dd hdd X hC hR hN hrc (fun v2_2 s_2 => ?_) FU (0 : Int32) _
  · exact tX6_readNot_J28 rc a1 v2_2 dd hdd X hC hR hN hrc  _
def fX6_readAnd_L7 (rc : Int32 → St → Option (Int32 × St)) (c1 : Int32) : Nat → Int32 → St → Option (Int32 × St)
  | 0, _, _ => none
  | n + 1, v2, s =>
    if (700 : Int32) ≤ v2 then
    (some (0, s))
  else
    (if (s 2 4) = 0 then
    (if (s 2 6) = (310 : Int32) then
    (bd (fX6_advance s) (fun y_2 s_2 =>
    bd (fX6_readNot rc c1 s_2) (fun y_3 s_3 =>
    bd (fX5_add 11 (-13 : Int32) s_3) (fun y_4 s_4 =>
    fX6_readAnd_L7 rc c1 n (v2 + (1 : Int32)) s_4))))
  else
    (some (0, s)))
  else
    (some (0, s)))
set_option maxRecDepth 100000 in
set_option maxHeartbeats 4000000 in
theorem tX6_readAnd_L7 (rc : Int32 → St → Option (Int32 × St)) (c1 : Int32) (dd : Nat) (hdd : 3 ≤ dd) (X : KX) (hC : Ctx X RX6 cX6_readAnd FULL (dd + 6) 0) (hR : RC X none) (hN : X_nL X = 3) (hrc : ∀ (z0 : Int32) (s : St), CN (X_l X) yX6_readExpr cX6_readExpr 4 none dd FULL (fun ad => [.ref (ad 2), .int z0]) s (rc z0 s)) : ∀ (n : Nat) (v2 : Int32) (s : St), Zr X (QFN X none) 0 s 7 [(0, .ref (X_ad X 2)), (1, .int c1), (2, .int v2)] [] (fX6_readAnd_L7 rc c1 n v2 s) := by
  intro n
  induction n with
  | zero =>
    intro v2 s
    exact zr_none
  | succ n ih =>
    intro v2 s
    rw [fX6_readAnd_L7]
    refine zr_iload_n (pc := 7) (i := 2) 2 hC dX6_readAnd_7 rfl rfl ?_
    refine zr_sipush (pc := 8) (v := (700 : Int32)) hC dX6_readAnd_8 si_700 ?_
    refine zr_icmp_ge (pc := 11) (tgt := 58) hC dX6_readAnd_11 (by decide) (fun c_ => ?_) (fun c_ => ?_)
    · exact zr_vret (pc := 58) hC hR dX6_readAnd_58
    · refine zr_aload_n (pc := 14) (i := 0) 0 hC dX6_readAnd_14 rfl rfl ?_
      refine zr_getI (pc := 15) (j := 4) hC mem_2 lay_2 rfl rfl (Nat.le_of_ble_eq_true rfl) iX6 m_179 dX6_readAnd_15 ?_
      refine zr_if_ne (pc := 18) (tgt := 58) hC dX6_readAnd_18 (by decide) (fun c_ => ?_) (fun c_ => ?_)
      · refine zr_aload_n (pc := 21) (i := 0) 0 hC dX6_readAnd_21 rfl rfl ?_
        refine zr_getI (pc := 22) (j := 6) hC mem_2 lay_2 rfl rfl (Nat.le_of_ble_eq_true rfl) iX6 m_181 dX6_readAnd_22 ?_
        refine zr_sipush (pc := 25) (v := (310 : Int32)) hC dX6_readAnd_25 si_310 ?_
        refine zr_icmp_ne (pc := 28) (tgt := 58) hC dX6_readAnd_28 (by decide) (fun c_ => ?_) (fun c_ => ?_)
        · refine zr_aload_n (pc := 31) (i := 0) 0 hC dX6_readAnd_31 rfl rfl ?_
          refine zr_callVv (pc := 32) (As := fun ad => []) (st1 := []) hC (Nat.le_of_ble_eq_true rfl) (kX6_advance _  _) (by omega) mc_yX6_advance m_808 m_810 m_p11 mem_2 lay_2 rfl rfl rfl rfl (Nat.le_of_ble_eq_true rfl) dX6_readAnd_32 (fun y_2 s_2 => ?_)
          refine zr_aload_n (pc := 35) (i := 0) 0 hC dX6_readAnd_35 rfl rfl ?_
          refine zr_iload_n (pc := 36) (i := 1) 1 hC dX6_readAnd_36 rfl rfl ?_
          refine zr_callVv (pc := 37) (As := fun ad => [.int c1]) (st1 := []) hC (Nat.le_of_ble_eq_true rfl) (kX6_readNot _ rc dd hdd hrc c1 _) (by omega) mc_yX6_readNot m_915 m_917 m_p28 mem_2 lay_2 rfl rfl rfl rfl (Nat.le_of_ble_eq_true rfl) dX6_readAnd_37 (fun y_3 s_3 => ?_)
          refine zr_aload_n (pc := 40) (i := 0) 0 hC dX6_readAnd_40 rfl rfl ?_
          refine zr_getR (pc := 41) (j := 0) (k1 := 3) hC mem_2 lay_2 rfl rfl (Nat.le_of_ble_eq_true rfl) iX6 m_172 dX6_readAnd_41 ?_
          refine zr_getR (pc := 44) (j := 11) (k1 := 11) hC mem_3 lay_3 rfl rfl (Nat.le_of_ble_eq_true rfl) iX4 m_105 dX6_readAnd_44 ?_
          refine zr_bipush (pc := 47) (v := (-13 : Int32)) hC dX6_readAnd_47 bi_m13 ?_
          refine zr_callVv (pc := 49) (As := fun ad => [.int (-13 : Int32)]) (st1 := []) hC (Nat.le_of_ble_eq_true rfl) (kX5_add _ is_11 (-13 : Int32) _) (by omega) mc_yX5_add m_946 m_947 m_948 mem_11 lay_11 rfl rfl rfl rfl (Nat.le_of_ble_eq_true rfl) dX6_readAnd_49 (fun y_4 s_4 => ?_)
          refine zr_iinc (pc := 52) (q := 2) (ls' := [(2, _), (0, _), (1, _)]) hC dX6_readAnd_52 rfl (inc_1 _) (nlt hN (Nat.le_of_ble_eq_true rfl)) rfl ?_
          refine zr_goto (pc := 55) (tgt := 7) hC dX6_readAnd_55 (by decide) ?_
          refine zr_sub (ls' := [(0, _), (1, _), (2, _)]) [1, 2, 0] rfl ?_
          exact ih (v2 + (1 : Int32)) s_4
        · exact zr_vret (pc := 58) hC hR dX6_readAnd_58
      · exact zr_vret (pc := 58) hC hR dX6_readAnd_58
def fX6_readAnd (rc : Int32 → St → Option (Int32 × St)) (a1 : Int32) (s : St) : Option (Int32 × St) :=
  bd (fX6_readNot rc a1 s) (fun y_1 s_1 =>
    fX6_readAnd_L7 rc a1 FU (0 : Int32) s_1)
set_option maxRecDepth 100000 in
set_option maxHeartbeats 4000000 in
theorem kX6_readAnd (l : Launch) (rc : Int32 → St → Option (Int32 × St)) (dd : Nat) (hdd : 3 ≤ dd)  (hrc : ∀ (z0 : Int32) (s : St), CN l yX6_readExpr cX6_readExpr 4 none dd FULL (fun ad => [.ref (ad 2), .int z0]) s (rc z0 s)) (a1 : Int32) (s : St) : CN l yX6_readAnd cX6_readAnd 3 none (dd + 6) FULL (fun ad => [.ref (ad 2), .int a1]) s (fX6_readAnd rc a1 s) := by
  refine cn_of (by decide) (fun _ => (Nat.le_of_ble_eq_true rfl)) (fun X hC hR hl hN => ?_)
  subst hl
  show Zr X (QFN X none) 0 s 0 [(0, .ref (X_ad X 2)), (1, .int a1)] [] _
  rw [fX6_readAnd]
  refine zr_aload_n (pc := 0) (i := 0) 0 hC dX6_readAnd_0 rfl rfl ?_
  refine zr_iload_n (pc := 1) (i := 1) 1 hC dX6_readAnd_1 rfl rfl ?_
  refine zr_callVv (pc := 2) (As := fun ad => [.int a1]) (st1 := []) hC (Nat.le_of_ble_eq_true rfl) (kX6_readNot _ rc dd hdd hrc a1 _) (by omega) mc_yX6_readNot m_915 m_917 m_p28 mem_2 lay_2 rfl rfl rfl rfl (Nat.le_of_ble_eq_true rfl) dX6_readAnd_2 (fun y_1 s_1 => ?_)
  refine zr_iconst (pc := 5) (v := (0 : Int32)) hC dX6_readAnd_5 ic_0 ?_
  refine zr_istore_n (pc := 6) (i := 2) (ls' := [(2, _), (0, _), (1, _)]) hC dX6_readAnd_6 rfl (nlt hN (Nat.le_of_ble_eq_true rfl)) rfl ?_
  refine zr_sub (ls' := [(0, _), (1, _), (2, _)]) [1, 2, 0] rfl ?_
  exact tX6_readAnd_L7 rc a1 dd hdd X hC hR hN hrc FU (0 : Int32) _
def fX6_readExpr_L62 (rc : Int32 → St → Option (Int32 × St)) (c1 : Int32) : Nat → Int32 → St → Option (Int32 × St)
  | 0, _, _ => none
  | n + 1, v3, s =>
    if (700 : Int32) ≤ v3 then
    (some (0, s))
  else
    (if (s 2 4) = 0 then
    (if (s 2 6) = (309 : Int32) then
    (bd (fX6_advance s) (fun y_2 s_2 =>
    bd (fX6_readAnd rc c1 s_2) (fun y_3 s_3 =>
    bd (fX5_add 11 (-12 : Int32) s_3) (fun y_4 s_4 =>
    fX6_readExpr_L62 rc c1 n (v3 + (1 : Int32)) s_4))))
  else
    (some (0, s)))
  else
    (some (0, s)))
set_option maxRecDepth 100000 in
set_option maxHeartbeats 4000000 in
theorem tX6_readExpr_L62 (rc : Int32 → St → Option (Int32 × St)) (c1 : Int32) (dd : Nat) (hdd : 3 ≤ dd) (X : KX) (hC : Ctx X RX6 cX6_readExpr FULL (dd + 7) 0) (hR : RC X none) (hN : X_nL X = 4) (hrc : ∀ (z0 : Int32) (s : St), CN (X_l X) yX6_readExpr cX6_readExpr 4 none dd FULL (fun ad => [.ref (ad 2), .int z0]) s (rc z0 s)) : ∀ (n : Nat) (v3 : Int32) (s : St), Zr X (QFN X none) 0 s 62 [(0, .ref (X_ad X 2)), (1, .int c1), (3, .int v3)] [] (fX6_readExpr_L62 rc c1 n v3 s) := by
  intro n
  induction n with
  | zero =>
    intro v3 s
    exact zr_none
  | succ n ih =>
    intro v3 s
    rw [fX6_readExpr_L62]
    refine zr_iload_n (pc := 62) (i := 3) 2 hC dX6_readExpr_62 rfl rfl ?_
    refine zr_sipush (pc := 63) (v := (700 : Int32)) hC dX6_readExpr_63 si_700 ?_
    refine zr_icmp_ge (pc := 66) (tgt := 113) hC dX6_readExpr_66 (by decide) (fun c_ => ?_) (fun c_ => ?_)
    · exact zr_vret (pc := 113) hC hR dX6_readExpr_113
    · refine zr_aload_n (pc := 69) (i := 0) 0 hC dX6_readExpr_69 rfl rfl ?_
      refine zr_getI (pc := 70) (j := 4) hC mem_2 lay_2 rfl rfl (Nat.le_of_ble_eq_true rfl) iX6 m_179 dX6_readExpr_70 ?_
      refine zr_if_ne (pc := 73) (tgt := 113) hC dX6_readExpr_73 (by decide) (fun c_ => ?_) (fun c_ => ?_)
      · refine zr_aload_n (pc := 76) (i := 0) 0 hC dX6_readExpr_76 rfl rfl ?_
        refine zr_getI (pc := 77) (j := 6) hC mem_2 lay_2 rfl rfl (Nat.le_of_ble_eq_true rfl) iX6 m_181 dX6_readExpr_77 ?_
        refine zr_sipush (pc := 80) (v := (309 : Int32)) hC dX6_readExpr_80 si_309 ?_
        refine zr_icmp_ne (pc := 83) (tgt := 113) hC dX6_readExpr_83 (by decide) (fun c_ => ?_) (fun c_ => ?_)
        · refine zr_aload_n (pc := 86) (i := 0) 0 hC dX6_readExpr_86 rfl rfl ?_
          refine zr_callVv (pc := 87) (As := fun ad => []) (st1 := []) hC (Nat.le_of_ble_eq_true rfl) (kX6_advance _  _) (by omega) mc_yX6_advance m_808 m_810 m_p11 mem_2 lay_2 rfl rfl rfl rfl (Nat.le_of_ble_eq_true rfl) dX6_readExpr_87 (fun y_2 s_2 => ?_)
          refine zr_aload_n (pc := 90) (i := 0) 0 hC dX6_readExpr_90 rfl rfl ?_
          refine zr_iload_n (pc := 91) (i := 1) 1 hC dX6_readExpr_91 rfl rfl ?_
          refine zr_callVv (pc := 92) (As := fun ad => [.int c1]) (st1 := []) hC (Nat.le_of_ble_eq_true rfl) (kX6_readAnd _ rc dd hdd hrc c1 _) (by omega) mc_yX6_readAnd m_911 m_913 m_p27 mem_2 lay_2 rfl rfl rfl rfl (Nat.le_of_ble_eq_true rfl) dX6_readExpr_92 (fun y_3 s_3 => ?_)
          refine zr_aload_n (pc := 95) (i := 0) 0 hC dX6_readExpr_95 rfl rfl ?_
          refine zr_getR (pc := 96) (j := 0) (k1 := 3) hC mem_2 lay_2 rfl rfl (Nat.le_of_ble_eq_true rfl) iX6 m_172 dX6_readExpr_96 ?_
          refine zr_getR (pc := 99) (j := 11) (k1 := 11) hC mem_3 lay_3 rfl rfl (Nat.le_of_ble_eq_true rfl) iX4 m_105 dX6_readExpr_99 ?_
          refine zr_bipush (pc := 102) (v := (-12 : Int32)) hC dX6_readExpr_102 bi_m12 ?_
          refine zr_callVv (pc := 104) (As := fun ad => [.int (-12 : Int32)]) (st1 := []) hC (Nat.le_of_ble_eq_true rfl) (kX5_add _ is_11 (-12 : Int32) _) (by omega) mc_yX5_add m_946 m_947 m_948 mem_11 lay_11 rfl rfl rfl rfl (Nat.le_of_ble_eq_true rfl) dX6_readExpr_104 (fun y_4 s_4 => ?_)
          refine zr_iinc (pc := 107) (q := 2) (ls' := [(3, _), (0, _), (1, _)]) hC dX6_readExpr_107 rfl (inc_1 _) (nlt hN (Nat.le_of_ble_eq_true rfl)) rfl ?_
          refine zr_goto (pc := 110) (tgt := 62) hC dX6_readExpr_110 (by decide) ?_
          refine zr_sub (ls' := [(0, _), (1, _), (3, _)]) [1, 2, 0] rfl ?_
          exact ih (v3 + (1 : Int32)) s_4
        · exact zr_vret (pc := 113) hC hR dX6_readExpr_113
      · exact zr_vret (pc := 113) hC hR dX6_readExpr_113
def fX6_readExpr_J34 (rc : Int32 → St → Option (Int32 × St)) (v1 : Int32) (q0 : Int32) (s : St) : Option (Int32 × St) :=
  if v1 < (6 : Int32) then
    (bd (fX6_readAnd rc v1 s) (fun y_1 s_1 =>
    fX6_readExpr_L62 rc v1 FU (0 : Int32) s_1))
  else
    (if q0 = 0 then
    (bd (fX6_refuse (1 : Int32) s) (fun y_5 s_5 =>
    some (0, s_5)))
  else
    (bd (fX6_refuse (2 : Int32) s) (fun y_6 s_6 =>
    some (0, s_6))))
set_option maxRecDepth 100000 in
set_option maxHeartbeats 4000000 in
theorem tX6_readExpr_J34 (rc : Int32 → St → Option (Int32 × St)) (v1 : Int32) (q0 : Int32) (dd : Nat) (hdd : 3 ≤ dd) (X : KX) (hC : Ctx X RX6 cX6_readExpr FULL (dd + 7) 0) (hR : RC X none) (hN : X_nL X = 4) (hrc : ∀ (z0 : Int32) (s : St), CN (X_l X) yX6_readExpr cX6_readExpr 4 none dd FULL (fun ad => [.ref (ad 2), .int z0]) s (rc z0 s)) (s : St) : Zr X (QFN X none) 0 s 34 [(0, .ref (X_ad X 2)), (1, .int v1)] [.int q0] (fX6_readExpr_J34 rc v1 q0 s) := by
  rw [fX6_readExpr_J34]
  refine zr_istore_n (pc := 34) (i := 2) (ls' := [(2, _), (0, _), (1, _)]) hC dX6_readExpr_34 rfl (nlt hN (Nat.le_of_ble_eq_true rfl)) rfl ?_
  refine zr_iload_n (pc := 35) (i := 1) 2 hC dX6_readExpr_35 rfl rfl ?_
  refine zr_bipush (pc := 36) (v := (6 : Int32)) hC dX6_readExpr_36 bi_6 ?_
  refine zr_icmp_lt (pc := 38) (tgt := 55) hC dX6_readExpr_38 (by decide) (fun c_ => ?_) (fun c_ => ?_)
  · refine zr_aload_n (pc := 55) (i := 0) 1 hC dX6_readExpr_55 rfl rfl ?_
    refine zr_iload_n (pc := 56) (i := 1) 2 hC dX6_readExpr_56 rfl rfl ?_
    refine zr_callVv (pc := 57) (As := fun ad => [.int v1]) (st1 := []) hC (Nat.le_of_ble_eq_true rfl) (kX6_readAnd _ rc dd hdd hrc v1 _) (by omega) mc_yX6_readAnd m_911 m_913 m_p27 mem_2 lay_2 rfl rfl rfl rfl (Nat.le_of_ble_eq_true rfl) dX6_readExpr_57 (fun y_1 s_1 => ?_)
    refine zr_iconst (pc := 60) (v := (0 : Int32)) hC dX6_readExpr_60 ic_0 ?_
    refine zr_istore_n (pc := 61) (i := 3) (ls' := [(3, _), (2, _), (0, _), (1, _)]) hC dX6_readExpr_61 rfl (nlt hN (Nat.le_of_ble_eq_true rfl)) rfl ?_
    refine zr_sub (ls' := [(0, _), (1, _), (3, _)]) [2, 3, 0] rfl ?_
    exact tX6_readExpr_L62 rc v1 dd hdd X hC hR hN hrc FU (0 : Int32) _
  · refine zr_aload_n (pc := 41) (i := 0) 1 hC dX6_readExpr_41 rfl rfl ?_
    refine zr_iload_n (pc := 42) (i := 2) 0 hC dX6_readExpr_42 rfl rfl ?_
    refine zr_if_eq (pc := 43) (tgt := 50) hC dX6_readExpr_43 (by decide) (fun c_ => ?_) (fun c_ => ?_)
    · refine zr_iconst (pc := 50) (v := (1 : Int32)) hC dX6_readExpr_50 ic_1 ?_
      refine zr_callVv (pc := 51) (As := fun ad => [.int (1 : Int32)]) (st1 := []) hC (Nat.le_of_ble_eq_true rfl) (kX6_refuse _ (1 : Int32) _) (by omega) mc_yX6_refuse m_825 m_827 m_p15 mem_2 lay_2 rfl rfl rfl rfl (Nat.le_of_ble_eq_true rfl) dX6_readExpr_51 (fun y_5 s_5 => ?_)
      exact zr_vret (pc := 54) hC hR dX6_readExpr_54
    · refine zr_iconst (pc := 46) (v := (2 : Int32)) hC dX6_readExpr_46 ic_2 ?_
      refine zr_goto (pc := 47) (tgt := 51) hC dX6_readExpr_47 (by decide) ?_
      refine zr_callVv (pc := 51) (As := fun ad => [.int (2 : Int32)]) (st1 := []) hC (Nat.le_of_ble_eq_true rfl) (kX6_refuse _ (2 : Int32) _) (by omega) mc_yX6_refuse m_825 m_827 m_p15 mem_2 lay_2 rfl rfl rfl rfl (Nat.le_of_ble_eq_true rfl) dX6_readExpr_51 (fun y_6 s_6 => ?_)
      exact zr_vret (pc := 54) hC hR dX6_readExpr_54
def fX6_readExpr_J29 (rc : Int32 → St → Option (Int32 × St)) (v1 : Int32) (s : St) : Option (Int32 × St) :=
  fX6_readExpr_J34 rc v1 (1 : Int32) s
set_option maxRecDepth 100000 in
set_option maxHeartbeats 4000000 in
theorem tX6_readExpr_J29 (rc : Int32 → St → Option (Int32 × St)) (v1 : Int32) (dd : Nat) (hdd : 3 ≤ dd) (X : KX) (hC : Ctx X RX6 cX6_readExpr FULL (dd + 7) 0) (hR : RC X none) (hN : X_nL X = 4) (hrc : ∀ (z0 : Int32) (s : St), CN (X_l X) yX6_readExpr cX6_readExpr 4 none dd FULL (fun ad => [.ref (ad 2), .int z0]) s (rc z0 s)) (s : St) : Zr X (QFN X none) 0 s 29 [(0, .ref (X_ad X 2)), (1, .int v1)] [] (fX6_readExpr_J29 rc v1 s) := by
  rw [fX6_readExpr_J29]
  refine zr_iconst (pc := 29) (v := (1 : Int32)) hC dX6_readExpr_29 ic_1 ?_
  refine zr_goto (pc := 30) (tgt := 34) hC dX6_readExpr_30 (by decide) ?_
  exact tX6_readExpr_J34 rc v1 (1 : Int32) dd hdd X hC hR hN hrc  _
def gX6_readExpr (rc : Int32 → St → Option (Int32 × St)) (a1 : Int32) (s : St) : Option (Int32 × St) :=
  if (s 2 6) = (200 : Int32) then
    (fX6_readExpr_J29 rc a1 s)
  else
    (if (300 : Int32) ≤ (s 2 6) then
    (fX6_readExpr_J29 rc a1 s)
  else
    (if (s 2 6) = (40 : Int32) then
    (fX6_readExpr_J29 rc a1 s)
  else
    (fX6_readExpr_J34 rc a1 (0 : Int32) s)))
set_option maxRecDepth 100000 in
set_option maxHeartbeats 4000000 in
theorem gkX6_readExpr (l : Launch) (rc : Int32 → St → Option (Int32 × St)) (dd : Nat) (hdd : 3 ≤ dd)  (hrc : ∀ (z0 : Int32) (s : St), CN l yX6_readExpr cX6_readExpr 4 none dd FULL (fun ad => [.ref (ad 2), .int z0]) s (rc z0 s)) (a1 : Int32) (s : St) : CN l yX6_readExpr cX6_readExpr 4 none (dd + 7) FULL (fun ad => [.ref (ad 2), .int a1]) s (gX6_readExpr rc a1 s) := by
  refine cn_of (by decide) (fun _ => (Nat.le_of_ble_eq_true rfl)) (fun X hC hR hl hN => ?_)
  subst hl
  show Zr X (QFN X none) 0 s 0 [(0, .ref (X_ad X 2)), (1, .int a1)] [] _
  rw [gX6_readExpr]
  refine zr_aload_n (pc := 0) (i := 0) 0 hC dX6_readExpr_0 rfl rfl ?_
  refine zr_getI (pc := 1) (j := 6) hC mem_2 lay_2 rfl rfl (Nat.le_of_ble_eq_true rfl) iX6 m_181 dX6_readExpr_1 ?_
  refine zr_sipush (pc := 4) (v := (200 : Int32)) hC dX6_readExpr_4 si_200 ?_
  refine zr_icmp_eq (pc := 7) (tgt := 29) hC dX6_readExpr_7 (by decide) (fun c_ => ?_) (fun c_ => ?_)
  · exact tX6_readExpr_J29 rc a1 dd hdd X hC hR hN hrc  _
  · refine zr_aload_n (pc := 10) (i := 0) 0 hC dX6_readExpr_10 rfl rfl ?_
    refine zr_getI (pc := 11) (j := 6) hC mem_2 lay_2 rfl rfl (Nat.le_of_ble_eq_true rfl) iX6 m_181 dX6_readExpr_11 ?_
    refine zr_sipush (pc := 14) (v := (300 : Int32)) hC dX6_readExpr_14 si_300 ?_
    refine zr_icmp_ge (pc := 17) (tgt := 29) hC dX6_readExpr_17 (by decide) (fun c_ => ?_) (fun c_ => ?_)
    · exact tX6_readExpr_J29 rc a1 dd hdd X hC hR hN hrc  _
    · refine zr_aload_n (pc := 20) (i := 0) 0 hC dX6_readExpr_20 rfl rfl ?_
      refine zr_getI (pc := 21) (j := 6) hC mem_2 lay_2 rfl rfl (Nat.le_of_ble_eq_true rfl) iX6 m_181 dX6_readExpr_21 ?_
      refine zr_bipush (pc := 24) (v := (40 : Int32)) hC dX6_readExpr_24 bi_40 ?_
      refine zr_icmp_ne (pc := 26) (tgt := 33) hC dX6_readExpr_26 (by decide) (fun c_ => ?_) (fun c_ => ?_)
      · exact tX6_readExpr_J29 rc a1 dd hdd X hC hR hN hrc  _
      · refine zr_iconst (pc := 33) (v := (0 : Int32)) hC dX6_readExpr_33 ic_0 ?_
        exact tX6_readExpr_J34 rc a1 (0 : Int32) dd hdd X hC hR hN hrc  _
def fX6_readExpr : Nat → Int32 → St → Option (Int32 × St)
  | 0, _, _ => none
  | n + 1, a1, s => gX6_readExpr (fX6_readExpr n) a1 s
theorem kX6_readExpr (l : Launch) : ∀ (n : Nat) (a1 : Int32) (s : St), CN l yX6_readExpr cX6_readExpr 4 none (3 + 7 * n) FULL (fun ad => [.ref (ad 2), .int a1]) s (fX6_readExpr n a1 s)
  | 0, _, _ => fun _ _ h => by cases h
  | n + 1, a1, s => gkX6_readExpr l (fX6_readExpr n) (3 + 7 * n) (Nat.le_add_right _ _) (fun z0 s => kX6_readExpr l n z0 s) a1 s
def fX6_readLaw (s : St) : Option (Int32 × St) :=
  bd (fX6_takeFirst (s 11 3) (5 : Int32) s) (fun y_1 s_1 =>
    bd (fX6_readExpr 9 (0 : Int32) s_1) (fun y_2 s_2 =>
    let s_3 := wr s_2 11 3 (1 : Int32);
    some (0, s_3)))
set_option maxRecDepth 100000 in
set_option maxHeartbeats 4000000 in
theorem kX6_readLaw (l : Launch)  (s : St) : CN l yX6_readLaw cX6_readLaw 1 none 74 FULL (fun ad => [.ref (ad 2)]) s (fX6_readLaw s) := by
  refine cn_of (by decide) (fun _ => (Nat.le_of_ble_eq_true rfl)) (fun X hC hR hl hN => ?_)
  subst hl
  show Zr X (QFN X none) 0 s 0 [(0, .ref (X_ad X 2))] [] _
  rw [fX6_readLaw]
  refine zr_aload_n (pc := 0) (i := 0) 0 hC dX6_readLaw_0 rfl rfl ?_
  refine zr_aload_n (pc := 1) (i := 0) 0 hC dX6_readLaw_1 rfl rfl ?_
  refine zr_getR (pc := 2) (j := 0) (k1 := 3) hC mem_2 lay_2 rfl rfl (Nat.le_of_ble_eq_true rfl) iX6 m_172 dX6_readLaw_2 ?_
  refine zr_getR (pc := 5) (j := 11) (k1 := 11) hC mem_3 lay_3 rfl rfl (Nat.le_of_ble_eq_true rfl) iX4 m_105 dX6_readLaw_5 ?_
  refine zr_getI (pc := 8) (j := 3) hC mem_11 lay_11 rfl rfl (Nat.le_of_ble_eq_true rfl) iX5 m_55 dX6_readLaw_8 ?_
  refine zr_iconst (pc := 11) (v := (5 : Int32)) hC dX6_readLaw_11 ic_5 ?_
  refine zr_callVv (pc := 12) (As := fun ad => [.int (s 11 3), .int (5 : Int32)]) (st1 := []) hC (Nat.le_of_ble_eq_true rfl) (kX6_takeFirst _ (s 11 3) (5 : Int32) _) (Nat.le_of_ble_eq_true rfl) mc_yX6_takeFirst m_821 m_823 m_p14 mem_2 lay_2 rfl rfl rfl rfl (Nat.le_of_ble_eq_true rfl) dX6_readLaw_12 (fun y_1 s_1 => ?_)
  refine zr_aload_n (pc := 15) (i := 0) 0 hC dX6_readLaw_15 rfl rfl ?_
  refine zr_iconst (pc := 16) (v := (0 : Int32)) hC dX6_readLaw_16 ic_0 ?_
  refine zr_callVv (pc := 17) (As := fun ad => [.int (0 : Int32)]) (st1 := []) hC (Nat.le_of_ble_eq_true rfl) (kX6_readExpr _ 9 (0 : Int32) _) (Nat.le_of_ble_eq_true rfl) mc_yX6_readExpr m_907 m_909 m_p26 mem_2 lay_2 rfl rfl rfl rfl (Nat.le_of_ble_eq_true rfl) dX6_readLaw_17 (fun y_2 s_2 => ?_)
  refine zr_aload_n (pc := 20) (i := 0) 0 hC dX6_readLaw_20 rfl rfl ?_
  refine zr_getR (pc := 21) (j := 0) (k1 := 3) hC mem_2 lay_2 rfl rfl (Nat.le_of_ble_eq_true rfl) iX6 m_172 dX6_readLaw_21 ?_
  refine zr_getR (pc := 24) (j := 11) (k1 := 11) hC mem_3 lay_3 rfl rfl (Nat.le_of_ble_eq_true rfl) iX4 m_105 dX6_readLaw_24 ?_
  refine zr_iconst (pc := 27) (v := (1 : Int32)) hC dX6_readLaw_27 ic_1 ?_
  refine zr_putB (by decide) (pc := 28) (j := 3) hC mem_11 lay_11 rfl rfl (Nat.le_of_ble_eq_true rfl) iX5 tyX5_ok nmX5 m_55 rfl (by decide +kernel) dX6_readLaw_28 ?_
  exact zr_vret (pc := 31) hC hR dX6_readLaw_31
