def fX6_readLine (s : St) : Option (Int32 × St) :=
  if (s 2 6) = (301 : Int32) then
    (bd (fX6_readPerson (0 : Int32) s) (fun y_1 s_1 =>
    bd (fX6_take (59 : Int32) s_1) (fun y_2 s_2 =>
    some (0, s_2))))
  else
    (if (s 2 6) = (302 : Int32) then
    (bd (fX6_readPerson (2 : Int32) s) (fun y_3 s_3 =>
    bd (fX6_take (59 : Int32) s_3) (fun y_4 s_4 =>
    some (0, s_4))))
  else
    (if (s 2 6) = (303 : Int32) then
    (bd (fX6_readPerson (1 : Int32) s) (fun y_5 s_5 =>
    bd (fX6_take (59 : Int32) s_5) (fun y_6 s_6 =>
    some (0, s_6))))
  else
    (if (s 2 6) = (304 : Int32) then
    (bd (fX6_readWed s) (fun y_7 s_7 =>
    bd (fX6_take (59 : Int32) s_7) (fun y_8 s_8 =>
    some (0, s_8))))
  else
    (if (s 2 6) = (305 : Int32) then
    (bd (fX6_readWill s) (fun y_9 s_9 =>
    bd (fX6_take (59 : Int32) s_9) (fun y_10 s_10 =>
    some (0, s_10))))
  else
    (if (s 2 6) = (306 : Int32) then
    (bd (fX6_readField s) (fun y_11 s_11 =>
    bd (fX6_take (59 : Int32) s_11) (fun y_12 s_12 =>
    some (0, s_12))))
  else
    (if (s 2 6) = (307 : Int32) then
    (bd (fX6_readFront s) (fun y_13 s_13 =>
    bd (fX6_take (59 : Int32) s_13) (fun y_14 s_14 =>
    some (0, s_14))))
  else
    (if (s 2 6) = (308 : Int32) then
    (bd (fX6_readLaw s) (fun y_15 s_15 =>
    bd (fX6_take (59 : Int32) s_15) (fun y_16 s_16 =>
    some (0, s_16))))
  else
    (bd (fX6_refuse (1 : Int32) s) (fun y_17 s_17 =>
    bd (fX6_take (59 : Int32) s_17) (fun y_18 s_18 =>
    some (0, s_18)))))))))))
set_option maxRecDepth 100000 in
set_option maxHeartbeats 4000000 in
theorem kX6_readLine (l : Launch)  (s : St) : CN l yX6_readLine cX6_readLine 1 none 75 FULL (fun ad => [.ref (ad 2)]) s (fX6_readLine s) := by
  refine cn_of (by decide) (fun _ => (Nat.le_of_ble_eq_true rfl)) (fun X hC hR hl hN => ?_)
  subst hl
  show Zr X (QFN X none) 0 s 0 [(0, .ref (X_ad X 2))] [] _
  rw [fX6_readLine]
  refine zr_aload_n (pc := 0) (i := 0) 0 hC dX6_readLine_0 rfl rfl ?_
  refine zr_getI (pc := 1) (j := 6) hC mem_2 lay_2 rfl rfl (Nat.le_of_ble_eq_true rfl) iX6 m_181 dX6_readLine_1 ?_
  refine zr_tcase (pc := 4) (v := (301 : Int32)) (off := 48) (tgt := 52) hC dX6_readLine_4 (by decide) (by decide) (by decide) (by decide) ?_ (fun e0 => ?_)
  · refine zr_aload_n (pc := 52) (i := 0) 0 hC dX6_readLine_52 rfl rfl ?_
    refine zr_iconst (pc := 53) (v := (0 : Int32)) hC dX6_readLine_53 ic_0 ?_
    refine zr_callVv (pc := 54) (As := fun ad => [.int (0 : Int32)]) (st1 := []) hC (Nat.le_of_ble_eq_true rfl) (kX6_readPerson _ (0 : Int32) _) (Nat.le_of_ble_eq_true rfl) mc_yX6_readPerson m_817 m_819 m_p13 mem_2 lay_2 rfl rfl rfl rfl (Nat.le_of_ble_eq_true rfl) dX6_readLine_54 (fun y_1 s_1 => ?_)
    refine zr_goto (pc := 57) (tgt := 116) hC dX6_readLine_57 (by decide) ?_
    refine zr_aload_n (pc := 116) (i := 0) 0 hC dX6_readLine_116 rfl rfl ?_
    refine zr_bipush (pc := 117) (v := (59 : Int32)) hC dX6_readLine_117 bi_59 ?_
    refine zr_callVv (pc := 119) (As := fun ad => [.int (59 : Int32)]) (st1 := []) hC (Nat.le_of_ble_eq_true rfl) (kX6_take _ (59 : Int32) _) (Nat.le_of_ble_eq_true rfl) mc_yX6_take m_935 m_937 m_p33 mem_2 lay_2 rfl rfl rfl rfl (Nat.le_of_ble_eq_true rfl) dX6_readLine_119 (fun y_2 s_2 => ?_)
    exact zr_vret (pc := 122) hC hR dX6_readLine_122
  refine zr_tcase (pc := 4) (v := (302 : Int32)) (off := 64) (tgt := 68) hC dX6_readLine_4 (by decide) (by decide) (by decide) (by decide) ?_ (fun e1 => ?_)
  · refine zr_aload_n (pc := 68) (i := 0) 0 hC dX6_readLine_68 rfl rfl ?_
    refine zr_iconst (pc := 69) (v := (2 : Int32)) hC dX6_readLine_69 ic_2 ?_
    refine zr_callVv (pc := 70) (As := fun ad => [.int (2 : Int32)]) (st1 := []) hC (Nat.le_of_ble_eq_true rfl) (kX6_readPerson _ (2 : Int32) _) (Nat.le_of_ble_eq_true rfl) mc_yX6_readPerson m_817 m_819 m_p13 mem_2 lay_2 rfl rfl rfl rfl (Nat.le_of_ble_eq_true rfl) dX6_readLine_70 (fun y_3 s_3 => ?_)
    refine zr_goto (pc := 73) (tgt := 116) hC dX6_readLine_73 (by decide) ?_
    refine zr_aload_n (pc := 116) (i := 0) 0 hC dX6_readLine_116 rfl rfl ?_
    refine zr_bipush (pc := 117) (v := (59 : Int32)) hC dX6_readLine_117 bi_59 ?_
    refine zr_callVv (pc := 119) (As := fun ad => [.int (59 : Int32)]) (st1 := []) hC (Nat.le_of_ble_eq_true rfl) (kX6_take _ (59 : Int32) _) (Nat.le_of_ble_eq_true rfl) mc_yX6_take m_935 m_937 m_p33 mem_2 lay_2 rfl rfl rfl rfl (Nat.le_of_ble_eq_true rfl) dX6_readLine_119 (fun y_4 s_4 => ?_)
    exact zr_vret (pc := 122) hC hR dX6_readLine_122
  refine zr_tcase (pc := 4) (v := (303 : Int32)) (off := 56) (tgt := 60) hC dX6_readLine_4 (by decide) (by decide) (by decide) (by decide) ?_ (fun e2 => ?_)
  · refine zr_aload_n (pc := 60) (i := 0) 0 hC dX6_readLine_60 rfl rfl ?_
    refine zr_iconst (pc := 61) (v := (1 : Int32)) hC dX6_readLine_61 ic_1 ?_
    refine zr_callVv (pc := 62) (As := fun ad => [.int (1 : Int32)]) (st1 := []) hC (Nat.le_of_ble_eq_true rfl) (kX6_readPerson _ (1 : Int32) _) (Nat.le_of_ble_eq_true rfl) mc_yX6_readPerson m_817 m_819 m_p13 mem_2 lay_2 rfl rfl rfl rfl (Nat.le_of_ble_eq_true rfl) dX6_readLine_62 (fun y_5 s_5 => ?_)
    refine zr_goto (pc := 65) (tgt := 116) hC dX6_readLine_65 (by decide) ?_
    refine zr_aload_n (pc := 116) (i := 0) 0 hC dX6_readLine_116 rfl rfl ?_
    refine zr_bipush (pc := 117) (v := (59 : Int32)) hC dX6_readLine_117 bi_59 ?_
    refine zr_callVv (pc := 119) (As := fun ad => [.int (59 : Int32)]) (st1 := []) hC (Nat.le_of_ble_eq_true rfl) (kX6_take _ (59 : Int32) _) (Nat.le_of_ble_eq_true rfl) mc_yX6_take m_935 m_937 m_p33 mem_2 lay_2 rfl rfl rfl rfl (Nat.le_of_ble_eq_true rfl) dX6_readLine_119 (fun y_6 s_6 => ?_)
    exact zr_vret (pc := 122) hC hR dX6_readLine_122
  refine zr_tcase (pc := 4) (v := (304 : Int32)) (off := 72) (tgt := 76) hC dX6_readLine_4 (by decide) (by decide) (by decide) (by decide) ?_ (fun e3 => ?_)
  · refine zr_aload_n (pc := 76) (i := 0) 0 hC dX6_readLine_76 rfl rfl ?_
    refine zr_callVv (pc := 77) (As := fun ad => []) (st1 := []) hC (Nat.le_of_ble_eq_true rfl) (kX6_readWed _  _) (Nat.le_of_ble_eq_true rfl) mc_yX6_readWed m_858 m_860 m_p20 mem_2 lay_2 rfl rfl rfl rfl (Nat.le_of_ble_eq_true rfl) dX6_readLine_77 (fun y_7 s_7 => ?_)
    refine zr_goto (pc := 80) (tgt := 116) hC dX6_readLine_80 (by decide) ?_
    refine zr_aload_n (pc := 116) (i := 0) 0 hC dX6_readLine_116 rfl rfl ?_
    refine zr_bipush (pc := 117) (v := (59 : Int32)) hC dX6_readLine_117 bi_59 ?_
    refine zr_callVv (pc := 119) (As := fun ad => [.int (59 : Int32)]) (st1 := []) hC (Nat.le_of_ble_eq_true rfl) (kX6_take _ (59 : Int32) _) (Nat.le_of_ble_eq_true rfl) mc_yX6_take m_935 m_937 m_p33 mem_2 lay_2 rfl rfl rfl rfl (Nat.le_of_ble_eq_true rfl) dX6_readLine_119 (fun y_8 s_8 => ?_)
    exact zr_vret (pc := 122) hC hR dX6_readLine_122
  refine zr_tcase (pc := 4) (v := (305 : Int32)) (off := 79) (tgt := 83) hC dX6_readLine_4 (by decide) (by decide) (by decide) (by decide) ?_ (fun e4 => ?_)
  · refine zr_aload_n (pc := 83) (i := 0) 0 hC dX6_readLine_83 rfl rfl ?_
    refine zr_callVv (pc := 84) (As := fun ad => []) (st1 := []) hC (Nat.le_of_ble_eq_true rfl) (kX6_readWill _  _) (Nat.le_of_ble_eq_true rfl) mc_yX6_readWill m_878 m_880 m_p22 mem_2 lay_2 rfl rfl rfl rfl (Nat.le_of_ble_eq_true rfl) dX6_readLine_84 (fun y_9 s_9 => ?_)
    refine zr_goto (pc := 87) (tgt := 116) hC dX6_readLine_87 (by decide) ?_
    refine zr_aload_n (pc := 116) (i := 0) 0 hC dX6_readLine_116 rfl rfl ?_
    refine zr_bipush (pc := 117) (v := (59 : Int32)) hC dX6_readLine_117 bi_59 ?_
    refine zr_callVv (pc := 119) (As := fun ad => [.int (59 : Int32)]) (st1 := []) hC (Nat.le_of_ble_eq_true rfl) (kX6_take _ (59 : Int32) _) (Nat.le_of_ble_eq_true rfl) mc_yX6_take m_935 m_937 m_p33 mem_2 lay_2 rfl rfl rfl rfl (Nat.le_of_ble_eq_true rfl) dX6_readLine_119 (fun y_10 s_10 => ?_)
    exact zr_vret (pc := 122) hC hR dX6_readLine_122
  refine zr_tcase (pc := 4) (v := (306 : Int32)) (off := 86) (tgt := 90) hC dX6_readLine_4 (by decide) (by decide) (by decide) (by decide) ?_ (fun e5 => ?_)
  · refine zr_aload_n (pc := 90) (i := 0) 0 hC dX6_readLine_90 rfl rfl ?_
    refine zr_callVv (pc := 91) (As := fun ad => []) (st1 := []) hC (Nat.le_of_ble_eq_true rfl) (kX6_readField _  _) (Nat.le_of_ble_eq_true rfl) mc_yX6_readField m_887 m_889 m_p23 mem_2 lay_2 rfl rfl rfl rfl (Nat.le_of_ble_eq_true rfl) dX6_readLine_91 (fun y_11 s_11 => ?_)
    refine zr_goto (pc := 94) (tgt := 116) hC dX6_readLine_94 (by decide) ?_
    refine zr_aload_n (pc := 116) (i := 0) 0 hC dX6_readLine_116 rfl rfl ?_
    refine zr_bipush (pc := 117) (v := (59 : Int32)) hC dX6_readLine_117 bi_59 ?_
    refine zr_callVv (pc := 119) (As := fun ad => [.int (59 : Int32)]) (st1 := []) hC (Nat.le_of_ble_eq_true rfl) (kX6_take _ (59 : Int32) _) (Nat.le_of_ble_eq_true rfl) mc_yX6_take m_935 m_937 m_p33 mem_2 lay_2 rfl rfl rfl rfl (Nat.le_of_ble_eq_true rfl) dX6_readLine_119 (fun y_12 s_12 => ?_)
    exact zr_vret (pc := 122) hC hR dX6_readLine_122
  refine zr_tcase (pc := 4) (v := (307 : Int32)) (off := 93) (tgt := 97) hC dX6_readLine_4 (by decide) (by decide) (by decide) (by decide) ?_ (fun e6 => ?_)
  · refine zr_aload_n (pc := 97) (i := 0) 0 hC dX6_readLine_97 rfl rfl ?_
    refine zr_callVv (pc := 98) (As := fun ad => []) (st1 := []) hC (Nat.le_of_ble_eq_true rfl) (kX6_readFront _  _) (Nat.le_of_ble_eq_true rfl) mc_yX6_readFront m_899 m_901 m_p24 mem_2 lay_2 rfl rfl rfl rfl (Nat.le_of_ble_eq_true rfl) dX6_readLine_98 (fun y_13 s_13 => ?_)
    refine zr_goto (pc := 101) (tgt := 116) hC dX6_readLine_101 (by decide) ?_
    refine zr_aload_n (pc := 116) (i := 0) 0 hC dX6_readLine_116 rfl rfl ?_
    refine zr_bipush (pc := 117) (v := (59 : Int32)) hC dX6_readLine_117 bi_59 ?_
    refine zr_callVv (pc := 119) (As := fun ad => [.int (59 : Int32)]) (st1 := []) hC (Nat.le_of_ble_eq_true rfl) (kX6_take _ (59 : Int32) _) (Nat.le_of_ble_eq_true rfl) mc_yX6_take m_935 m_937 m_p33 mem_2 lay_2 rfl rfl rfl rfl (Nat.le_of_ble_eq_true rfl) dX6_readLine_119 (fun y_14 s_14 => ?_)
    exact zr_vret (pc := 122) hC hR dX6_readLine_122
  refine zr_tcase (pc := 4) (v := (308 : Int32)) (off := 100) (tgt := 104) hC dX6_readLine_4 (by decide) (by decide) (by decide) (by decide) ?_ (fun e7 => ?_)
  · refine zr_aload_n (pc := 104) (i := 0) 0 hC dX6_readLine_104 rfl rfl ?_
    refine zr_callVv (pc := 105) (As := fun ad => []) (st1 := []) hC (Nat.le_of_ble_eq_true rfl) (kX6_readLaw _  _) (Nat.le_of_ble_eq_true rfl) mc_yX6_readLaw m_903 m_905 m_p25 mem_2 lay_2 rfl rfl rfl rfl (Nat.le_of_ble_eq_true rfl) dX6_readLine_105 (fun y_15 s_15 => ?_)
    refine zr_goto (pc := 108) (tgt := 116) hC dX6_readLine_108 (by decide) ?_
    refine zr_aload_n (pc := 116) (i := 0) 0 hC dX6_readLine_116 rfl rfl ?_
    refine zr_bipush (pc := 117) (v := (59 : Int32)) hC dX6_readLine_117 bi_59 ?_
    refine zr_callVv (pc := 119) (As := fun ad => [.int (59 : Int32)]) (st1 := []) hC (Nat.le_of_ble_eq_true rfl) (kX6_take _ (59 : Int32) _) (Nat.le_of_ble_eq_true rfl) mc_yX6_take m_935 m_937 m_p33 mem_2 lay_2 rfl rfl rfl rfl (Nat.le_of_ble_eq_true rfl) dX6_readLine_119 (fun y_16 s_16 => ?_)
    exact zr_vret (pc := 122) hC hR dX6_readLine_122
  refine zr_tdef (pc := 4) (tgt := 111) [(301 : Int32), (302 : Int32), (303 : Int32), (304 : Int32), (305 : Int32), (306 : Int32), (307 : Int32), (308 : Int32)] hC dX6_readLine_4 (List.forall_mem_cons.mpr ⟨e0, List.forall_mem_cons.mpr ⟨e1, List.forall_mem_cons.mpr ⟨e2, List.forall_mem_cons.mpr ⟨e3, List.forall_mem_cons.mpr ⟨e4, List.forall_mem_cons.mpr ⟨e5, List.forall_mem_cons.mpr ⟨e6, List.forall_mem_cons.mpr ⟨e7, fun _ h => absurd h List.not_mem_nil⟩⟩⟩⟩⟩⟩⟩⟩) (by decide) (by decide) (by decide) ?_
  refine zr_aload_n (pc := 111) (i := 0) 0 hC dX6_readLine_111 rfl rfl ?_
  refine zr_iconst (pc := 112) (v := (1 : Int32)) hC dX6_readLine_112 ic_1 ?_
  refine zr_callVv (pc := 113) (As := fun ad => [.int (1 : Int32)]) (st1 := []) hC (Nat.le_of_ble_eq_true rfl) (kX6_refuse _ (1 : Int32) _) (Nat.le_of_ble_eq_true rfl) mc_yX6_refuse m_825 m_827 m_p15 mem_2 lay_2 rfl rfl rfl rfl (Nat.le_of_ble_eq_true rfl) dX6_readLine_113 (fun y_17 s_17 => ?_)
  refine zr_aload_n (pc := 116) (i := 0) 0 hC dX6_readLine_116 rfl rfl ?_
  refine zr_bipush (pc := 117) (v := (59 : Int32)) hC dX6_readLine_117 bi_59 ?_
  refine zr_callVv (pc := 119) (As := fun ad => [.int (59 : Int32)]) (st1 := []) hC (Nat.le_of_ble_eq_true rfl) (kX6_take _ (59 : Int32) _) (Nat.le_of_ble_eq_true rfl) mc_yX6_take m_935 m_937 m_p33 mem_2 lay_2 rfl rfl rfl rfl (Nat.le_of_ble_eq_true rfl) dX6_readLine_119 (fun y_18 s_18 => ?_)
  exact zr_vret (pc := 122) hC hR dX6_readLine_122
def fX6_read_L44 (k76 : St → Option (Int32 × St)) (r1 : Nat) : Nat → Int32 → St → Option (Int32 × St)
  | 0, _, _ => none
  | n + 1, v3, s =>
    if (700 : Int32) < v3 then
    (k76 s)
  else
    (if (s 2 6) = (-1 : Int32) then
    (k76 s)
  else
    (if (s 2 4) = 0 then
    (bd (fX6_readLine s) (fun y_8 s_8 =>
    fX6_read_L44 k76 r1 n (v3 + (1 : Int32)) s_8))
  else
    (k76 s)))
set_option maxRecDepth 100000 in
set_option maxHeartbeats 4000000 in
theorem tX6_read_L44 (r1 : Nat) (k76 : St → Option (Int32 × St)) (X : KX) (hC : Ctx X RX6 cX6_read FULL 76 0) (hR : RC X (some .int)) (hN : X_nL X = 4) (hr1 : isArrD FULL r1) (hk76 : ∀ (s : St), Zr X (QFN X (some .int)) 0 s 76 [(0, .ref (X_ad X 2))] [] (k76 s)) : ∀ (n : Nat) (v3 : Int32) (s : St), Zr X (QFN X (some .int)) 0 s 44 [(0, .ref (X_ad X 2)), (3, .int v3)] [] (fX6_read_L44 k76 r1 n v3 s) := by
  intro n
  induction n with
  | zero =>
    intro v3 s
    exact zr_none
  | succ n ih =>
    intro v3 s
    rw [fX6_read_L44]
    refine zr_iload_n (pc := 44) (i := 3) 1 hC dX6_read_44 rfl rfl ?_
    refine zr_sipush (pc := 45) (v := (700 : Int32)) hC dX6_read_45 si_700 ?_
    refine zr_icmp_gt (pc := 48) (tgt := 76) hC dX6_read_48 (by decide) (fun c_ => ?_) (fun c_ => ?_)
    · refine zr_sub (ls' := [(0, _)]) [0] rfl ?_
      exact hk76 s
    · refine zr_aload_n (pc := 51) (i := 0) 0 hC dX6_read_51 rfl rfl ?_
      refine zr_getI (pc := 52) (j := 6) hC mem_2 lay_2 rfl rfl (Nat.le_of_ble_eq_true rfl) iX6 m_181 dX6_read_52 ?_
      refine zr_iconst (pc := 55) (v := (-1 : Int32)) hC dX6_read_55 ic_m1 ?_
      refine zr_icmp_eq (pc := 56) (tgt := 76) hC dX6_read_56 (by decide) (fun c_ => ?_) (fun c_ => ?_)
      · refine zr_sub (ls' := [(0, _)]) [0] rfl ?_
        exact hk76 s
      · refine zr_aload_n (pc := 59) (i := 0) 0 hC dX6_read_59 rfl rfl ?_
        refine zr_getI (pc := 60) (j := 4) hC mem_2 lay_2 rfl rfl (Nat.le_of_ble_eq_true rfl) iX6 m_179 dX6_read_60 ?_
        refine zr_if_ne (pc := 63) (tgt := 76) hC dX6_read_63 (by decide) (fun c_ => ?_) (fun c_ => ?_)
        · refine zr_aload_n (pc := 66) (i := 0) 0 hC dX6_read_66 rfl rfl ?_
          refine zr_callVv (pc := 67) (As := fun ad => []) (st1 := []) hC (Nat.le_of_ble_eq_true rfl) (kX6_readLine _  _) (Nat.le_of_ble_eq_true rfl) mc_yX6_readLine m_813 m_815 m_p12 mem_2 lay_2 rfl rfl rfl rfl (Nat.le_of_ble_eq_true rfl) dX6_read_67 (fun y_8 s_8 => ?_)
          refine zr_iinc (pc := 70) (q := 1) (ls' := [(3, _), (0, _)]) hC dX6_read_70 rfl (inc_1 _) (nlt hN (Nat.le_of_ble_eq_true rfl)) rfl ?_
          refine zr_goto (pc := 73) (tgt := 44) hC dX6_read_73 (by decide) ?_
          refine zr_sub (ls' := [(0, _), (3, _)]) [1, 0] rfl ?_
          exact ih (v3 + (1 : Int32)) s_8
        · refine zr_sub (ls' := [(0, _)]) [0] rfl ?_
          exact hk76 s
def fX6_read_J76 (r1 : Nat) (s : St) : Option (Int32 × St) :=
  if (s 2 4) = 0 then
    (let s_12 := wr s 2 2 (-1 : Int32);
    some ((s_12 2 4), s_12))
  else
    (bd (fX11_at 18 (s 2 5) s) (fun y_10 s_10 =>
    let s_11 := wr s_10 2 2 y_10;
    some ((s_11 2 4), s_11)))
set_option maxRecDepth 100000 in
set_option maxHeartbeats 4000000 in
theorem tX6_read_J76 (r1 : Nat) (X : KX) (hC : Ctx X RX6 cX6_read FULL 76 0) (hR : RC X (some .int)) (hN : X_nL X = 4) (hr1 : isArrD FULL r1) (s : St) : Zr X (QFN X (some .int)) 0 s 76 [(0, .ref (X_ad X 2))] [] (fX6_read_J76 r1 s) := by
  rw [fX6_read_J76]
  refine zr_aload_n (pc := 76) (i := 0) 0 hC dX6_read_76 rfl rfl ?_
  refine zr_aload_n (pc := 77) (i := 0) 0 hC dX6_read_77 rfl rfl ?_
  refine zr_getI (pc := 78) (j := 4) hC mem_2 lay_2 rfl rfl (Nat.le_of_ble_eq_true rfl) iX6 m_179 dX6_read_78 ?_
  refine zr_if_ne (pc := 81) (tgt := 88) hC dX6_read_81 (by decide) (fun c_ => ?_) (fun c_ => ?_)
  · refine zr_iconst (pc := 84) (v := (-1 : Int32)) hC dX6_read_84 ic_m1 ?_
    refine zr_goto (pc := 85) (tgt := 102) hC dX6_read_85 (by decide) ?_
    refine zr_putInt (pc := 102) (j := 2) hC mem_2 lay_2 rfl rfl (Nat.le_of_ble_eq_true rfl) iX6 tyX6_ok nmX6 m_176 rfl (by decide +kernel) dX6_read_102 ?_
    refine zr_aload_n (pc := 105) (i := 0) 0 hC dX6_read_105 rfl rfl ?_
    refine zr_getI (pc := 106) (j := 4) hC mem_2 lay_2 rfl rfl (Nat.le_of_ble_eq_true rfl) iX6 m_179 dX6_read_106 ?_
    exact zr_iret (pc := 109) hC hR dX6_read_109
  · refine zr_aload_n (pc := 88) (i := 0) 0 hC dX6_read_88 rfl rfl ?_
    refine zr_getR (pc := 89) (j := 3) (k1 := 16) hC mem_2 lay_2 rfl rfl (Nat.le_of_ble_eq_true rfl) iX6 m_178 dX6_read_89 ?_
    refine zr_getR (pc := 92) (j := 1) (k1 := 18) hC mem_16 lay_16 rfl rfl (Nat.le_of_ble_eq_true rfl) iX9 m_156 dX6_read_92 ?_
    refine zr_aload_n (pc := 95) (i := 0) 0 hC dX6_read_95 rfl rfl ?_
    refine zr_getI (pc := 96) (j := 5) hC mem_2 lay_2 rfl rfl (Nat.le_of_ble_eq_true rfl) iX6 m_180 dX6_read_96 ?_
    refine zr_callSN (pc := 99) (As := fun ad => [.ref (ad 18), .int (s 2 5)]) (st1 := [.ref (X_ad X 2)]) hC (Nat.le_of_ble_eq_true rfl) (kX11_at _ ar_18 (s 2 5) _) (Nat.le_of_ble_eq_true rfl) mc_yX11_at m_812 m_453 rfl rfl (Nat.le_of_ble_eq_true rfl) dX6_read_99 (fun y_10 s_10 => ?_)
    refine zr_putInt (pc := 102) (j := 2) hC mem_2 lay_2 rfl rfl (Nat.le_of_ble_eq_true rfl) iX6 tyX6_ok nmX6 m_176 rfl (by decide +kernel) dX6_read_102 ?_
    refine zr_aload_n (pc := 105) (i := 0) 0 hC dX6_read_105 rfl rfl ?_
    refine zr_getI (pc := 106) (j := 4) hC mem_2 lay_2 rfl rfl (Nat.le_of_ble_eq_true rfl) iX6 m_179 dX6_read_106 ?_
    exact zr_iret (pc := 109) hC hR dX6_read_109
def fX6_read (r1 : Nat) (a2 : Int32) (s : St) : Option (Int32 × St) :=
  bd (fX9_cut r1 a2 s) (fun y_1 s_1 =>
    bd (fX4_clear 3 s_1) (fun y_2 s_2 =>
    bd (fX10_clear 14 s_2) (fun y_3 s_3 =>
    let s_4 := wr s_3 2 4 (0 : Int32);
    let s_5 := wr s_4 2 8 (0 : Int32);
    let s_6 := wr s_5 2 5 (-1 : Int32);
    bd (fX6_advance s_6) (fun y_7 s_7 =>
    fX6_read_L44 (fun s_9 => fX6_read_J76 r1 s_9) r1 FU (0 : Int32) s_7))))
set_option maxRecDepth 100000 in
set_option maxHeartbeats 4000000 in
theorem kX6_read (l : Launch)  {r1 : Nat} (hr1 : isArrD FULL r1) (a2 : Int32) (s : St) : CN l yX6_read cX6_read 4 (some .int) 76 FULL (fun ad => [.ref (ad 2), .ref (ad r1), .int a2]) s (fX6_read r1 a2 s) := by
  refine cn_of (by decide) (fun _ => (Nat.le_of_ble_eq_true rfl)) (fun X hC hR hl hN => ?_)
  subst hl
  show Zr X (QFN X (some .int)) 0 s 0 [(0, .ref (X_ad X 2)), (1, .ref (X_ad X r1)), (2, .int a2)] [] _
  rw [fX6_read]
  refine zr_aload_n (pc := 0) (i := 0) 0 hC dX6_read_0 rfl rfl ?_
  refine zr_getR (pc := 1) (j := 3) (k1 := 16) hC mem_2 lay_2 rfl rfl (Nat.le_of_ble_eq_true rfl) iX6 m_178 dX6_read_1 ?_
  refine zr_aload_n (pc := 4) (i := 1) 1 hC dX6_read_4 rfl rfl ?_
  refine zr_iload_n (pc := 5) (i := 2) 2 hC dX6_read_5 rfl rfl ?_
  refine zr_callVv (pc := 6) (As := fun ad => [.ref (ad r1), .int a2]) (st1 := []) hC (Nat.le_of_ble_eq_true rfl) (kX9_cut _ hr1 a2 _) (Nat.le_of_ble_eq_true rfl) mc_yX9_cut m_702 m_703 m_704 mem_16 lay_16 rfl rfl rfl rfl (Nat.le_of_ble_eq_true rfl) dX6_read_6 (fun y_1 s_1 => ?_)
  refine zr_aload_n (pc := 9) (i := 0) 0 hC dX6_read_9 rfl rfl ?_
  refine zr_getR (pc := 10) (j := 0) (k1 := 3) hC mem_2 lay_2 rfl rfl (Nat.le_of_ble_eq_true rfl) iX6 m_172 dX6_read_10 ?_
  refine zr_callVv (pc := 13) (As := fun ad => []) (st1 := []) hC (Nat.le_of_ble_eq_true rfl) (kX4_clear _ is_3 _) (Nat.le_of_ble_eq_true rfl) mc_yX4_clear m_795 m_796 m_797 mem_3 lay_3 rfl rfl rfl rfl (Nat.le_of_ble_eq_true rfl) dX6_read_13 (fun y_2 s_2 => ?_)
  refine zr_aload_n (pc := 16) (i := 0) 0 hC dX6_read_16 rfl rfl ?_
  refine zr_getR (pc := 17) (j := 1) (k1 := 14) hC mem_2 lay_2 rfl rfl (Nat.le_of_ble_eq_true rfl) iX6 m_174 dX6_read_17 ?_
  refine zr_callVv (pc := 20) (As := fun ad => []) (st1 := []) hC (Nat.le_of_ble_eq_true rfl) (kX10_clear _ is_14 _) (Nat.le_of_ble_eq_true rfl) mc_yX10_clear m_804 m_805 m_806 mem_14 lay_14 rfl rfl rfl rfl (Nat.le_of_ble_eq_true rfl) dX6_read_20 (fun y_3 s_3 => ?_)
  refine zr_aload_n (pc := 23) (i := 0) 0 hC dX6_read_23 rfl rfl ?_
  refine zr_iconst (pc := 24) (v := (0 : Int32)) hC dX6_read_24 ic_0 ?_
  refine zr_putInt (pc := 25) (j := 4) hC mem_2 lay_2 rfl rfl (Nat.le_of_ble_eq_true rfl) iX6 tyX6_ok nmX6 m_179 rfl (by decide +kernel) dX6_read_25 ?_
  refine zr_aload_n (pc := 28) (i := 0) 0 hC dX6_read_28 rfl rfl ?_
  refine zr_iconst (pc := 29) (v := (0 : Int32)) hC dX6_read_29 ic_0 ?_
  refine zr_putB (by decide) (pc := 30) (j := 8) hC mem_2 lay_2 rfl rfl (Nat.le_of_ble_eq_true rfl) iX6 tyX6_ok nmX6 m_183 rfl (by decide +kernel) dX6_read_30 ?_
  refine zr_aload_n (pc := 33) (i := 0) 0 hC dX6_read_33 rfl rfl ?_
  refine zr_iconst (pc := 34) (v := (-1 : Int32)) hC dX6_read_34 ic_m1 ?_
  refine zr_putInt (pc := 35) (j := 5) hC mem_2 lay_2 rfl rfl (Nat.le_of_ble_eq_true rfl) iX6 tyX6_ok nmX6 m_180 rfl (by decide +kernel) dX6_read_35 ?_
  refine zr_aload_n (pc := 38) (i := 0) 0 hC dX6_read_38 rfl rfl ?_
  refine zr_callVv (pc := 39) (As := fun ad => []) (st1 := []) hC (Nat.le_of_ble_eq_true rfl) (kX6_advance _  _) (Nat.le_of_ble_eq_true rfl) mc_yX6_advance m_808 m_810 m_p11 mem_2 lay_2 rfl rfl rfl rfl (Nat.le_of_ble_eq_true rfl) dX6_read_39 (fun y_7 s_7 => ?_)
  refine zr_iconst (pc := 42) (v := (0 : Int32)) hC dX6_read_42 ic_0 ?_
  refine zr_istore_n (pc := 43) (i := 3) (ls' := [(3, _), (0, _), (1, _), (2, _)]) hC dX6_read_43 rfl (nlt hN (Nat.le_of_ble_eq_true rfl)) rfl ?_
  refine zr_sub (ls' := [(0, _), (3, _)]) [1, 0] rfl ?_
  refine tX6_read_L44 r1 _ X hC hR hN hr1 (fun s_9 => ?_) FU (0 : Int32) _
  · exact tX6_read_J76 r1 X hC hR hN hr1  _
def fX5_copyFrom (w : Nat) (w1 : Nat) (s : St) : Option (Int32 × St) :=
  let s_1 := wr s w 2 (s w1 2);
    if (s_1 w1 3) = 0 ∨ (s_1 w1 3) = 1 then
    (let s_2 := wr s_1 w 3 (s_1 w1 3);
    bd (fX11_copyRow (w1 + 1) (w + 1) s_2) (fun y_3 s_3 =>
    some (0, s_3))) else none
set_option maxRecDepth 100000 in
set_option maxHeartbeats 4000000 in
theorem kX5_copyFrom (l : Launch)  {w : Nat} {w1 : Nat} (hw : isLaw w) (hw1 : isLaw w1) (s : St) : CN l yX5_copyFrom cX5_copyFrom 2 none 9 FULL (fun ad => [.ref (ad w), .ref (ad w1)]) s (fX5_copyFrom w w1 s) := by
  refine cn_of (by decide) (fun _ => (Nat.le_of_ble_eq_true rfl)) (fun X hC hR hl hN => ?_)
  subst hl
  show Zr X (QFN X none) 0 s 0 [(0, .ref (X_ad X w)), (1, .ref (X_ad X w1))] [] _
  rw [fX5_copyFrom]
  refine zr_aload_n (pc := 0) (i := 0) 0 hC dX5_copyFrom_0 rfl rfl ?_
  refine zr_aload_n (pc := 1) (i := 1) 1 hC dX5_copyFrom_1 rfl rfl ?_
  refine zr_getI (pc := 2) (j := 2) hC hw1.1.1 hw1.1.2 rfl rfl (Nat.le_of_ble_eq_true rfl) iX5 m_53 dX5_copyFrom_2 ?_
  refine zr_putInt (pc := 5) (j := 2) hC hw.1.1 hw.1.2 rfl rfl (Nat.le_of_ble_eq_true rfl) iX5 tyX5_ok nmX5 m_53 rfl (by decide +kernel) dX5_copyFrom_5 ?_
  refine zr_aload_n (pc := 8) (i := 0) 0 hC dX5_copyFrom_8 rfl rfl ?_
  refine zr_aload_n (pc := 9) (i := 1) 1 hC dX5_copyFrom_9 rfl rfl ?_
  refine zr_getI (pc := 10) (j := 3) hC hw1.1.1 hw1.1.2 rfl rfl (Nat.le_of_ble_eq_true rfl) iX5 m_54 dX5_copyFrom_10 ?_
  refine zr_putZ (pc := 13) (j := 3) hC hw.1.1 hw.1.2 rfl rfl (Nat.le_of_ble_eq_true rfl) iX5 tyX5_ok nmX5 m_54 rfl (by decide +kernel) dX5_copyFrom_13 ?_
  refine zr_aload_n (pc := 16) (i := 1) 1 hC dX5_copyFrom_16 rfl rfl ?_
  refine zr_getR (pc := 17) (j := 0) (k1 := (w1 + 1)) hC hw1.1.1 hw1.1.2 rfl rfl (Nat.le_of_ble_eq_true rfl) iX5 m_51 dX5_copyFrom_17 ?_
  refine zr_aload_n (pc := 20) (i := 0) 0 hC dX5_copyFrom_20 rfl rfl ?_
  refine zr_getR (pc := 21) (j := 0) (k1 := (w + 1)) hC hw.1.1 hw.1.2 rfl rfl (Nat.le_of_ble_eq_true rfl) iX5 m_51 dX5_copyFrom_21 ?_
  refine zr_callSNv (pc := 24) (As := fun ad => [.ref (ad (w1 + 1)), .ref (ad (w + 1))]) (st1 := []) hC (Nat.le_of_ble_eq_true rfl) (kX11_copyRow _ (isArr_of hw1.2.1) (isArr_of hw.2.1) _) (Nat.le_of_ble_eq_true rfl) mc_yX11_copyRow m_960 m_567 rfl rfl (Nat.le_of_ble_eq_true rfl) dX5_copyFrom_24 (fun y_3 s_3 => ?_)
  exact zr_vret (pc := 27) hC hR dX5_copyFrom_27
def fX4_copyFrom (g : Nat) (g1 : Nat) (s : St) : Option (Int32 × St) :=
  let s_1 := wr s g 0 (s g1 0);
    let s_2 := wr s_1 g 4 (s_1 g1 4);
    let s_3 := wr s_2 g 6 (s_2 g1 6);
    let s_4 := wr s_3 g 10 (s_3 g1 10);
    bd (fX11_copyRow (g1 + 1) (g + 1) s_4) (fun y_5 s_5 =>
    bd (fX11_copyRow (g1 + 2) (g + 2) s_5) (fun y_6 s_6 =>
    bd (fX11_copyRow (g1 + 3) (g + 3) s_6) (fun y_7 s_7 =>
    bd (fX11_copyRow (g1 + 4) (g + 4) s_7) (fun y_8 s_8 =>
    bd (fX11_copyRow (g1 + 5) (g + 5) s_8) (fun y_9 s_9 =>
    bd (fX11_copyRow (g1 + 6) (g + 6) s_9) (fun y_10 s_10 =>
    bd (fX11_copyRow (g1 + 7) (g + 7) s_10) (fun y_11 s_11 =>
    bd (fX5_copyFrom (g + 8) (g1 + 8) s_11) (fun y_12 s_12 =>
    some (0, s_12)))))))))
set_option maxRecDepth 100000 in
set_option maxHeartbeats 4000000 in
theorem kX4_copyFrom (l : Launch)  {g : Nat} {g1 : Nat} (hg : isLand g) (hg1 : isLand g1) (s : St) : CN l yX4_copyFrom cX4_copyFrom 2 none 10 FULL (fun ad => [.ref (ad g), .ref (ad g1)]) s (fX4_copyFrom g g1 s) := by
  refine cn_of (by decide) (fun _ => (Nat.le_of_ble_eq_true rfl)) (fun X hC hR hl hN => ?_)
  subst hl
  show Zr X (QFN X none) 0 s 0 [(0, .ref (X_ad X g)), (1, .ref (X_ad X g1))] [] _
  rw [fX4_copyFrom]
  refine zr_aload_n (pc := 0) (i := 0) 0 hC dX4_copyFrom_0 rfl rfl ?_
  refine zr_aload_n (pc := 1) (i := 1) 1 hC dX4_copyFrom_1 rfl rfl ?_
  refine zr_getI (pc := 2) (j := 0) hC hg1.1.1 hg1.1.2 rfl rfl (Nat.le_of_ble_eq_true rfl) iX4 m_66 dX4_copyFrom_2 ?_
  refine zr_putInt (pc := 5) (j := 0) hC hg.1.1 hg.1.2 rfl rfl (Nat.le_of_ble_eq_true rfl) iX4 tyX4_ok nmX4 m_66 rfl (by decide +kernel) dX4_copyFrom_5 ?_
  refine zr_aload_n (pc := 8) (i := 0) 0 hC dX4_copyFrom_8 rfl rfl ?_
  refine zr_aload_n (pc := 9) (i := 1) 1 hC dX4_copyFrom_9 rfl rfl ?_
  refine zr_getI (pc := 10) (j := 4) hC hg1.1.1 hg1.1.2 rfl rfl (Nat.le_of_ble_eq_true rfl) iX4 m_78 dX4_copyFrom_10 ?_
  refine zr_putInt (pc := 13) (j := 4) hC hg.1.1 hg.1.2 rfl rfl (Nat.le_of_ble_eq_true rfl) iX4 tyX4_ok nmX4 m_78 rfl (by decide +kernel) dX4_copyFrom_13 ?_
  refine zr_aload_n (pc := 16) (i := 0) 0 hC dX4_copyFrom_16 rfl rfl ?_
  refine zr_aload_n (pc := 17) (i := 1) 1 hC dX4_copyFrom_17 rfl rfl ?_
  refine zr_getI (pc := 18) (j := 6) hC hg1.1.1 hg1.1.2 rfl rfl (Nat.le_of_ble_eq_true rfl) iX4 m_82 dX4_copyFrom_18 ?_
  refine zr_putInt (pc := 21) (j := 6) hC hg.1.1 hg.1.2 rfl rfl (Nat.le_of_ble_eq_true rfl) iX4 tyX4_ok nmX4 m_82 rfl (by decide +kernel) dX4_copyFrom_21 ?_
  refine zr_aload_n (pc := 24) (i := 0) 0 hC dX4_copyFrom_24 rfl rfl ?_
  refine zr_aload_n (pc := 25) (i := 1) 1 hC dX4_copyFrom_25 rfl rfl ?_
  refine zr_getI (pc := 26) (j := 10) hC hg1.1.1 hg1.1.2 rfl rfl (Nat.le_of_ble_eq_true rfl) iX4 m_99 dX4_copyFrom_26 ?_
  refine zr_putInt (pc := 29) (j := 10) hC hg.1.1 hg.1.2 rfl rfl (Nat.le_of_ble_eq_true rfl) iX4 tyX4_ok nmX4 m_99 rfl (by decide +kernel) dX4_copyFrom_29 ?_
  refine zr_aload_n (pc := 32) (i := 1) 1 hC dX4_copyFrom_32 rfl rfl ?_
  refine zr_getR (pc := 33) (j := 1) (k1 := (g1 + 1)) hC hg1.1.1 hg1.1.2 rfl rfl (Nat.le_of_ble_eq_true rfl) iX4 m_72 dX4_copyFrom_33 ?_
  refine zr_aload_n (pc := 36) (i := 0) 0 hC dX4_copyFrom_36 rfl rfl ?_
  refine zr_getR (pc := 37) (j := 1) (k1 := (g + 1)) hC hg.1.1 hg.1.2 rfl rfl (Nat.le_of_ble_eq_true rfl) iX4 m_72 dX4_copyFrom_37 ?_
  refine zr_callSNv (pc := 40) (As := fun ad => [.ref (ad (g1 + 1)), .ref (ad (g + 1))]) (st1 := []) hC (Nat.le_of_ble_eq_true rfl) (kX11_copyRow _ (isArr_of hg1.2.1) (isArr_of hg.2.1) _) (Nat.le_of_ble_eq_true rfl) mc_yX11_copyRow m_955 m_567 rfl rfl (Nat.le_of_ble_eq_true rfl) dX4_copyFrom_40 (fun y_5 s_5 => ?_)
  refine zr_aload_n (pc := 43) (i := 1) 1 hC dX4_copyFrom_43 rfl rfl ?_
  refine zr_getR (pc := 44) (j := 2) (k1 := (g1 + 2)) hC hg1.1.1 hg1.1.2 rfl rfl (Nat.le_of_ble_eq_true rfl) iX4 m_74 dX4_copyFrom_44 ?_
  refine zr_aload_n (pc := 47) (i := 0) 0 hC dX4_copyFrom_47 rfl rfl ?_
  refine zr_getR (pc := 48) (j := 2) (k1 := (g + 2)) hC hg.1.1 hg.1.2 rfl rfl (Nat.le_of_ble_eq_true rfl) iX4 m_74 dX4_copyFrom_48 ?_
  refine zr_callSNv (pc := 51) (As := fun ad => [.ref (ad (g1 + 2)), .ref (ad (g + 2))]) (st1 := []) hC (Nat.le_of_ble_eq_true rfl) (kX11_copyRow _ (isArr_of hg1.2.2.1) (isArr_of hg.2.2.1) _) (Nat.le_of_ble_eq_true rfl) mc_yX11_copyRow m_955 m_567 rfl rfl (Nat.le_of_ble_eq_true rfl) dX4_copyFrom_51 (fun y_6 s_6 => ?_)
  refine zr_aload_n (pc := 54) (i := 1) 1 hC dX4_copyFrom_54 rfl rfl ?_
  refine zr_getR (pc := 55) (j := 3) (k1 := (g1 + 3)) hC hg1.1.1 hg1.1.2 rfl rfl (Nat.le_of_ble_eq_true rfl) iX4 m_76 dX4_copyFrom_55 ?_
  refine zr_aload_n (pc := 58) (i := 0) 0 hC dX4_copyFrom_58 rfl rfl ?_
  refine zr_getR (pc := 59) (j := 3) (k1 := (g + 3)) hC hg.1.1 hg.1.2 rfl rfl (Nat.le_of_ble_eq_true rfl) iX4 m_76 dX4_copyFrom_59 ?_
  refine zr_callSNv (pc := 62) (As := fun ad => [.ref (ad (g1 + 3)), .ref (ad (g + 3))]) (st1 := []) hC (Nat.le_of_ble_eq_true rfl) (kX11_copyRow _ (isArr_of hg1.2.2.2.1) (isArr_of hg.2.2.2.1) _) (Nat.le_of_ble_eq_true rfl) mc_yX11_copyRow m_955 m_567 rfl rfl (Nat.le_of_ble_eq_true rfl) dX4_copyFrom_62 (fun y_7 s_7 => ?_)
  refine zr_aload_n (pc := 65) (i := 1) 1 hC dX4_copyFrom_65 rfl rfl ?_
  refine zr_getR (pc := 66) (j := 5) (k1 := (g1 + 4)) hC hg1.1.1 hg1.1.2 rfl rfl (Nat.le_of_ble_eq_true rfl) iX4 m_81 dX4_copyFrom_66 ?_
  refine zr_aload_n (pc := 69) (i := 0) 0 hC dX4_copyFrom_69 rfl rfl ?_
  refine zr_getR (pc := 70) (j := 5) (k1 := (g + 4)) hC hg.1.1 hg.1.2 rfl rfl (Nat.le_of_ble_eq_true rfl) iX4 m_81 dX4_copyFrom_70 ?_
  refine zr_callSNv (pc := 73) (As := fun ad => [.ref (ad (g1 + 4)), .ref (ad (g + 4))]) (st1 := []) hC (Nat.le_of_ble_eq_true rfl) (kX11_copyRow _ (isArr_of hg1.2.2.2.2.1) (isArr_of hg.2.2.2.2.1) _) (Nat.le_of_ble_eq_true rfl) mc_yX11_copyRow m_955 m_567 rfl rfl (Nat.le_of_ble_eq_true rfl) dX4_copyFrom_73 (fun y_8 s_8 => ?_)
  refine zr_aload_n (pc := 76) (i := 1) 1 hC dX4_copyFrom_76 rfl rfl ?_
  refine zr_getR (pc := 77) (j := 7) (k1 := (g1 + 5)) hC hg1.1.1 hg1.1.2 rfl rfl (Nat.le_of_ble_eq_true rfl) iX4 m_87 dX4_copyFrom_77 ?_
  refine zr_aload_n (pc := 80) (i := 0) 0 hC dX4_copyFrom_80 rfl rfl ?_
  refine zr_getR (pc := 81) (j := 7) (k1 := (g + 5)) hC hg.1.1 hg.1.2 rfl rfl (Nat.le_of_ble_eq_true rfl) iX4 m_87 dX4_copyFrom_81 ?_
  refine zr_callSNv (pc := 84) (As := fun ad => [.ref (ad (g1 + 5)), .ref (ad (g + 5))]) (st1 := []) hC (Nat.le_of_ble_eq_true rfl) (kX11_copyRow _ (isArr_of hg1.2.2.2.2.2.1) (isArr_of hg.2.2.2.2.2.1) _) (Nat.le_of_ble_eq_true rfl) mc_yX11_copyRow m_955 m_567 rfl rfl (Nat.le_of_ble_eq_true rfl) dX4_copyFrom_84 (fun y_9 s_9 => ?_)
  refine zr_aload_n (pc := 87) (i := 1) 1 hC dX4_copyFrom_87 rfl rfl ?_
  refine zr_getR (pc := 88) (j := 8) (k1 := (g1 + 6)) hC hg1.1.1 hg1.1.2 rfl rfl (Nat.le_of_ble_eq_true rfl) iX4 m_91 dX4_copyFrom_88 ?_
  refine zr_aload_n (pc := 91) (i := 0) 0 hC dX4_copyFrom_91 rfl rfl ?_
  refine zr_getR (pc := 92) (j := 8) (k1 := (g + 6)) hC hg.1.1 hg.1.2 rfl rfl (Nat.le_of_ble_eq_true rfl) iX4 m_91 dX4_copyFrom_92 ?_
  refine zr_callSNv (pc := 95) (As := fun ad => [.ref (ad (g1 + 6)), .ref (ad (g + 6))]) (st1 := []) hC (Nat.le_of_ble_eq_true rfl) (kX11_copyRow _ (isArr_of hg1.2.2.2.2.2.2.1) (isArr_of hg.2.2.2.2.2.2.1) _) (Nat.le_of_ble_eq_true rfl) mc_yX11_copyRow m_955 m_567 rfl rfl (Nat.le_of_ble_eq_true rfl) dX4_copyFrom_95 (fun y_10 s_10 => ?_)
  refine zr_aload_n (pc := 98) (i := 1) 1 hC dX4_copyFrom_98 rfl rfl ?_
  refine zr_getR (pc := 99) (j := 9) (k1 := (g1 + 7)) hC hg1.1.1 hg1.1.2 rfl rfl (Nat.le_of_ble_eq_true rfl) iX4 m_95 dX4_copyFrom_99 ?_
  refine zr_aload_n (pc := 102) (i := 0) 0 hC dX4_copyFrom_102 rfl rfl ?_
  refine zr_getR (pc := 103) (j := 9) (k1 := (g + 7)) hC hg.1.1 hg.1.2 rfl rfl (Nat.le_of_ble_eq_true rfl) iX4 m_95 dX4_copyFrom_103 ?_
  refine zr_callSNv (pc := 106) (As := fun ad => [.ref (ad (g1 + 7)), .ref (ad (g + 7))]) (st1 := []) hC (Nat.le_of_ble_eq_true rfl) (kX11_copyRow _ (isArr_of hg1.2.2.2.2.2.2.2.1) (isArr_of hg.2.2.2.2.2.2.2.1) _) (Nat.le_of_ble_eq_true rfl) mc_yX11_copyRow m_955 m_567 rfl rfl (Nat.le_of_ble_eq_true rfl) dX4_copyFrom_106 (fun y_11 s_11 => ?_)
  refine zr_aload_n (pc := 109) (i := 0) 0 hC dX4_copyFrom_109 rfl rfl ?_
  refine zr_getR (pc := 110) (j := 11) (k1 := (g + 8)) hC hg.1.1 hg.1.2 rfl rfl (Nat.le_of_ble_eq_true rfl) iX4 m_103 dX4_copyFrom_110 ?_
  refine zr_aload_n (pc := 113) (i := 1) 1 hC dX4_copyFrom_113 rfl rfl ?_
  refine zr_getR (pc := 114) (j := 11) (k1 := (g1 + 8)) hC hg1.1.1 hg1.1.2 rfl rfl (Nat.le_of_ble_eq_true rfl) iX4 m_103 dX4_copyFrom_114 ?_
  refine zr_callVv (pc := 117) (As := fun ad => [.ref (ad (g1 + 8))]) (st1 := []) hC (Nat.le_of_ble_eq_true rfl) (kX5_copyFrom _ hg.2.2.2.2.2.2.2.2 hg1.2.2.2.2.2.2.2.2 _) (Nat.le_of_ble_eq_true rfl) mc_yX5_copyFrom m_956 m_957 m_958 hg.2.2.2.2.2.2.2.2.1.1 hg.2.2.2.2.2.2.2.2.1.2 rfl rfl rfl rfl (Nat.le_of_ble_eq_true rfl) dX4_copyFrom_117 (fun y_12 s_12 => ?_)
  exact zr_vret (pc := 120) hC hR dX4_copyFrom_120
def fX8_begin (o : Nat) (w : Nat) (s : St) : Option (Int32 × St) :=
  bd (fX10_copyFrom (o + 1) w s) (fun y_1 s_1 =>
    let s_2 := wr s_1 o 2 (0 : Int32);
    let s_3 := wr s_2 o 3 (0 : Int32);
    let s_4 := wr s_3 o 6 (0 : Int32);
    some (0, s_4))
set_option maxRecDepth 100000 in
set_option maxHeartbeats 4000000 in
theorem kX8_begin (l : Launch)  {o : Nat} {w : Nat} (ho : isStory o) (hw : isWd w) (s : St) : CN l yX8_begin cX8_begin 2 none 10 FULL (fun ad => [.ref (ad o), .ref (ad w)]) s (fX8_begin o w s) := by
  refine cn_of (by decide) (fun _ => (Nat.le_of_ble_eq_true rfl)) (fun X hC hR hl hN => ?_)
  subst hl
  show Zr X (QFN X none) 0 s 0 [(0, .ref (X_ad X o)), (1, .ref (X_ad X w))] [] _
  rw [fX8_begin]
  refine zr_aload_n (pc := 0) (i := 0) 0 hC dX8_begin_0 rfl rfl ?_
  refine zr_getR (pc := 1) (j := 0) (k1 := (o + 1)) hC ho.1.1 ho.1.2 rfl rfl (Nat.le_of_ble_eq_true rfl) iX8 m_213 dX8_begin_1 ?_
  refine zr_aload_n (pc := 4) (i := 1) 1 hC dX8_begin_4 rfl rfl ?_
  refine zr_callVv (pc := 5) (As := fun ad => [.ref (ad w)]) (st1 := []) hC (Nat.le_of_ble_eq_true rfl) (kX10_copyFrom _ ho.2.1 hw _) (Nat.le_of_ble_eq_true rfl) mc_yX10_copyFrom m_618 m_619 m_620 ho.2.1.1.1 ho.2.1.1.2 rfl rfl rfl rfl (Nat.le_of_ble_eq_true rfl) dX8_begin_5 (fun y_1 s_1 => ?_)
  refine zr_aload_n (pc := 8) (i := 0) 0 hC dX8_begin_8 rfl rfl ?_
  refine zr_iconst (pc := 9) (v := (0 : Int32)) hC dX8_begin_9 ic_0 ?_
  refine zr_putInt (pc := 10) (j := 2) hC ho.1.1 ho.1.2 rfl rfl (Nat.le_of_ble_eq_true rfl) iX8 tyX8_ok nmX8 m_217 rfl (by decide +kernel) dX8_begin_10 ?_
  refine zr_aload_n (pc := 13) (i := 0) 0 hC dX8_begin_13 rfl rfl ?_
  refine zr_iconst (pc := 14) (v := (0 : Int32)) hC dX8_begin_14 ic_0 ?_
  refine zr_putInt (pc := 15) (j := 3) hC ho.1.1 ho.1.2 rfl rfl (Nat.le_of_ble_eq_true rfl) iX8 tyX8_ok nmX8 m_218 rfl (by decide +kernel) dX8_begin_15 ?_
  refine zr_aload_n (pc := 18) (i := 0) 0 hC dX8_begin_18 rfl rfl ?_
  refine zr_iconst (pc := 19) (v := (0 : Int32)) hC dX8_begin_19 ic_0 ?_
  refine zr_putInt (pc := 20) (j := 6) hC ho.1.1 ho.1.2 rfl rfl (Nat.le_of_ble_eq_true rfl) iX8 tyX8_ok nmX8 m_224 rfl (by decide +kernel) dX8_begin_20 ?_
  exact zr_vret (pc := 23) hC hR dX8_begin_23
def fX1_forgetRow (s : St) : Option (Int32 × St) :=
  let s_1 := wr s 51 4 (0 : Int32);
    some (0, s_1)
set_option maxRecDepth 100000 in
set_option maxHeartbeats 4000000 in
theorem kX1_forgetRow (l : Launch)  (s : St) : CN l yX1_forgetRow cX1_forgetRow 1 none 1 FULL (fun ad => [.ref (ad 51)]) s (fX1_forgetRow s) := by
  refine cn_of (by decide) (fun _ => (Nat.le_of_ble_eq_true rfl)) (fun X hC hR hl hN => ?_)
  subst hl
  show Zr X (QFN X none) 0 s 0 [(0, .ref (X_ad X 51))] [] _
  rw [fX1_forgetRow]
  refine zr_aload_n (pc := 0) (i := 0) 0 hC dX1_forgetRow_0 rfl rfl ?_
  refine zr_iconst (pc := 1) (v := (0 : Int32)) hC dX1_forgetRow_1 ic_0 ?_
  refine zr_putInt (pc := 2) (j := 4) hC mem_51 lay_51 rfl rfl (Nat.le_of_ble_eq_true rfl) iX1 tyX1_ok nmX1 m_284 rfl (by decide +kernel) dX1_forgetRow_2 ?_
  exact zr_vret (pc := 5) hC hR dX1_forgetRow_5
def fX0_forgetRow (s : St) : Option (Int32 × St) :=
  let s_1 := wr s 57 2 (0 : Int32);
    some (0, s_1)
set_option maxRecDepth 100000 in
set_option maxHeartbeats 4000000 in
theorem kX0_forgetRow (l : Launch)  (s : St) : CN l yX0_forgetRow cX0_forgetRow 1 none 1 FULL (fun ad => [.ref (ad 57)]) s (fX0_forgetRow s) := by
  refine cn_of (by decide) (fun _ => (Nat.le_of_ble_eq_true rfl)) (fun X hC hR hl hN => ?_)
  subst hl
  show Zr X (QFN X none) 0 s 0 [(0, .ref (X_ad X 57))] [] _
  rw [fX0_forgetRow]
  refine zr_aload_n (pc := 0) (i := 0) 0 hC dX0_forgetRow_0 rfl rfl ?_
  refine zr_iconst (pc := 1) (v := (0 : Int32)) hC dX0_forgetRow_1 ic_0 ?_
  refine zr_putInt (pc := 2) (j := 2) hC mem_57 lay_57 rfl rfl (Nat.le_of_ble_eq_true rfl) iX0 tyX0_ok nmX0 m_315 rfl (by decide +kernel) dX0_forgetRow_2 ?_
  exact zr_vret (pc := 5) hC hR dX0_forgetRow_5
def fX7_forgetRow (s : St) : Option (Int32 × St) :=
  let s_1 := wr s 62 2 (0 : Int32);
    some (0, s_1)
set_option maxRecDepth 100000 in
set_option maxHeartbeats 4000000 in
theorem kX7_forgetRow (l : Launch)  (s : St) : CN l yX7_forgetRow cX7_forgetRow 1 none 1 FULL (fun ad => [.ref (ad 62)]) s (fX7_forgetRow s) := by
  refine cn_of (by decide) (fun _ => (Nat.le_of_ble_eq_true rfl)) (fun X hC hR hl hN => ?_)
  subst hl
  show Zr X (QFN X none) 0 s 0 [(0, .ref (X_ad X 62))] [] _
  rw [fX7_forgetRow]
  refine zr_aload_n (pc := 0) (i := 0) 0 hC dX7_forgetRow_0 rfl rfl ?_
  refine zr_iconst (pc := 1) (v := (0 : Int32)) hC dX7_forgetRow_1 ic_0 ?_
  refine zr_putInt (pc := 2) (j := 2) hC mem_62 lay_62 rfl rfl (Nat.le_of_ble_eq_true rfl) iX7 tyX7_ok nmX7 m_342 rfl (by decide +kernel) dX7_forgetRow_2 ?_
  exact zr_vret (pc := 5) hC hR dX7_forgetRow_5
def fX11_land (a1 : Int32) (s : St) : Option (RT × St) :=
  if a1 < 0 then
    (some (.inr 1, s))
  else
    (if a1 ≤ (s 0 1) then
    (let s_1 := wr s 0 1 (0 : Int32);
    bd (fX6_read 1 a1 s_1) (fun y_2 s_2 =>
    let s_3 := wr s_2 0 2 (s_2 2 2);
    if y_2 = 0 then
    (bd (fX4_copyFrom 21 3 s_3) (fun y_4 s_4 =>
    bd (fX8_begin 32 14 s_4) (fun y_5 s_5 =>
    let s_6 := wr s_5 0 7 (0 : Int32);
    bd (fX1_forgetRow s_6) (fun y_7 s_7 =>
    bd (fX0_forgetRow s_7) (fun y_8 s_8 =>
    bd (fX7_forgetRow s_8) (fun y_9 s_9 =>
    some (.inl (0 : Int32), s_9)))))))
  else
    (bd (fX8_refuse 32 (0 : Int32) s_3) (fun y_10 s_10 =>
    some (.inl y_2, s_10)))))
  else
    (some (.inr 1, s)))
set_option maxRecDepth 100000 in
set_option maxHeartbeats 4000000 in
theorem kX11_land (l : Launch) (hst : l.stackTraces = false)  (a1 : Int32) (s : St) : CX l yX11_land cX11_land 3 (some .int) 77 1 FULL (fun ad => [.ref (ad 0), .int a1]) s (fX11_land a1 s) := by
  refine cx_of hst (by decide) (fun _ => (Nat.le_of_ble_eq_true rfl)) (fun X hC hR hl hN => ?_)
  subst hl
  show Zr X (QFX X (some .int) 1) 0 s 0 [(0, .ref (X_ad X 0)), (1, .int a1)] [] _
  rw [fX11_land]
  refine zr_iload_n (pc := 0) (i := 1) 1 hC dX11_land_0 rfl rfl ?_
  refine zr_if_lt (pc := 1) (tgt := 12) hC dX11_land_1 (by decide) (fun c_ => ?_) (fun c_ => ?_)
  · exact zx_thr1 (pc := 12) hC (Nat.le_of_ble_eq_true rfl) hR (Nat.le_of_ble_eq_true rfl) (Nat.le_of_ble_eq_true rfl) dX11_land_12 dX11_land_15 dX11_land_16 dX11_land_19
  · refine zr_iload_n (pc := 4) (i := 1) 1 hC dX11_land_4 rfl rfl ?_
    refine zr_aload_n (pc := 5) (i := 0) 0 hC dX11_land_5 rfl rfl ?_
    refine zr_getI (pc := 6) (j := 1) hC mem_0 lay_0 rfl rfl (Nat.le_of_ble_eq_true rfl) iX11 m_383 dX11_land_6 ?_
    refine zr_icmp_le (pc := 9) (tgt := 20) hC dX11_land_9 (by decide) (fun c_ => ?_) (fun c_ => ?_)
    · refine zr_aload_n (pc := 20) (i := 0) 0 hC dX11_land_20 rfl rfl ?_
      refine zr_iconst (pc := 21) (v := (0 : Int32)) hC dX11_land_21 ic_0 ?_
      refine zr_putInt (pc := 22) (j := 1) hC mem_0 lay_0 rfl rfl (Nat.le_of_ble_eq_true rfl) iX11 tyX11_ok nmX11 m_383 rfl (by decide +kernel) dX11_land_22 ?_
      refine zr_aload_n (pc := 25) (i := 0) 0 hC dX11_land_25 rfl rfl ?_
      refine zr_getR (pc := 26) (j := 3) (k1 := 2) hC mem_0 lay_0 rfl rfl (Nat.le_of_ble_eq_true rfl) iX11 m_385 dX11_land_26 ?_
      refine zr_aload_n (pc := 29) (i := 0) 0 hC dX11_land_29 rfl rfl ?_
      refine zr_getR (pc := 30) (j := 0) (k1 := 1) hC mem_0 lay_0 rfl rfl (Nat.le_of_ble_eq_true rfl) iX11 m_382 dX11_land_30 ?_
      refine zr_iload_n (pc := 33) (i := 1) 1 hC dX11_land_33 rfl rfl ?_
      refine zr_callV (pc := 34) (As := fun ad => [.ref (ad 1), .int a1]) (st1 := []) hC (Nat.le_of_ble_eq_true rfl) (kX6_read _ ar_1 a1 _) (Nat.le_of_ble_eq_true rfl) mc_yX6_read m_698 m_699 m_700 mem_2 lay_2 rfl rfl rfl rfl (Nat.le_of_ble_eq_true rfl) dX11_land_34 (fun y_2 s_2 => ?_)
      refine zr_istore_n (pc := 37) (i := 2) (ls' := [(2, _), (0, _), (1, _)]) hC dX11_land_37 rfl (nlt hN (Nat.le_of_ble_eq_true rfl)) rfl ?_
      refine zr_aload_n (pc := 38) (i := 0) 1 hC dX11_land_38 rfl rfl ?_
      refine zr_aload_n (pc := 39) (i := 0) 1 hC dX11_land_39 rfl rfl ?_
      refine zr_getR (pc := 40) (j := 3) (k1 := 2) hC mem_0 lay_0 rfl rfl (Nat.le_of_ble_eq_true rfl) iX11 m_385 dX11_land_40 ?_
      refine zr_getI (pc := 43) (j := 2) hC mem_2 lay_2 rfl rfl (Nat.le_of_ble_eq_true rfl) iX6 m_177 dX11_land_43 ?_
      refine zr_putInt (pc := 46) (j := 2) hC mem_0 lay_0 rfl rfl (Nat.le_of_ble_eq_true rfl) iX11 tyX11_ok nmX11 m_384 rfl (by decide +kernel) dX11_land_46 ?_
      refine zr_iload_n (pc := 49) (i := 2) 0 hC dX11_land_49 rfl rfl ?_
      refine zr_if_eq (pc := 50) (tgt := 63) hC dX11_land_50 (by decide) (fun c_ => ?_) (fun c_ => ?_)
      · refine zr_aload_n (pc := 63) (i := 0) 1 hC dX11_land_63 rfl rfl ?_
        refine zr_getR (pc := 64) (j := 4) (k1 := 21) hC mem_0 lay_0 rfl rfl (Nat.le_of_ble_eq_true rfl) iX11 m_386 dX11_land_64 ?_
        refine zr_aload_n (pc := 67) (i := 0) 1 hC dX11_land_67 rfl rfl ?_
        refine zr_getR (pc := 68) (j := 3) (k1 := 2) hC mem_0 lay_0 rfl rfl (Nat.le_of_ble_eq_true rfl) iX11 m_385 dX11_land_68 ?_
        refine zr_getR (pc := 71) (j := 0) (k1 := 3) hC mem_2 lay_2 rfl rfl (Nat.le_of_ble_eq_true rfl) iX6 m_173 dX11_land_71 ?_
        refine zr_callVv (pc := 74) (As := fun ad => [.ref (ad 3)]) (st1 := []) hC (Nat.le_of_ble_eq_true rfl) (kX4_copyFrom _ is_21 is_3 _) (Nat.le_of_ble_eq_true rfl) mc_yX4_copyFrom m_951 m_952 m_953 mem_21 lay_21 rfl rfl rfl rfl (Nat.le_of_ble_eq_true rfl) dX11_land_74 (fun y_4 s_4 => ?_)
        refine zr_aload_n (pc := 77) (i := 0) 1 hC dX11_land_77 rfl rfl ?_
        refine zr_getR (pc := 78) (j := 5) (k1 := 32) hC mem_0 lay_0 rfl rfl (Nat.le_of_ble_eq_true rfl) iX11 m_387 dX11_land_78 ?_
        refine zr_aload_n (pc := 81) (i := 0) 1 hC dX11_land_81 rfl rfl ?_
        refine zr_getR (pc := 82) (j := 3) (k1 := 2) hC mem_0 lay_0 rfl rfl (Nat.le_of_ble_eq_true rfl) iX11 m_385 dX11_land_82 ?_
        refine zr_getR (pc := 85) (j := 1) (k1 := 14) hC mem_2 lay_2 rfl rfl (Nat.le_of_ble_eq_true rfl) iX6 m_175 dX11_land_85 ?_
        refine zr_callVv (pc := 88) (As := fun ad => [.ref (ad 14)]) (st1 := []) hC (Nat.le_of_ble_eq_true rfl) (kX8_begin _ is_32 is_14 _) (Nat.le_of_ble_eq_true rfl) mc_yX8_begin m_961 m_962 m_963 mem_32 lay_32 rfl rfl rfl rfl (Nat.le_of_ble_eq_true rfl) dX11_land_88 (fun y_5 s_5 => ?_)
        refine zr_aload_n (pc := 91) (i := 0) 1 hC dX11_land_91 rfl rfl ?_
        refine zr_iconst (pc := 92) (v := (0 : Int32)) hC dX11_land_92 ic_0 ?_
        refine zr_putB (by decide) (pc := 93) (j := 7) hC mem_0 lay_0 rfl rfl (Nat.le_of_ble_eq_true rfl) iX11 tyX11_ok nmX11 m_389 rfl (by decide +kernel) dX11_land_93 ?_
        refine zr_aload_n (pc := 96) (i := 0) 1 hC dX11_land_96 rfl rfl ?_
        refine zr_getR (pc := 97) (j := 10) (k1 := 51) hC mem_0 lay_0 rfl rfl (Nat.le_of_ble_eq_true rfl) iX11 m_392 dX11_land_97 ?_
        refine zr_callVv (pc := 100) (As := fun ad => []) (st1 := []) hC (Nat.le_of_ble_eq_true rfl) (kX1_forgetRow _  _) (Nat.le_of_ble_eq_true rfl) mc_yX1_forgetRow m_965 m_966 m_967 mem_51 lay_51 rfl rfl rfl rfl (Nat.le_of_ble_eq_true rfl) dX11_land_100 (fun y_7 s_7 => ?_)
        refine zr_aload_n (pc := 103) (i := 0) 1 hC dX11_land_103 rfl rfl ?_
        refine zr_getR (pc := 104) (j := 11) (k1 := 57) hC mem_0 lay_0 rfl rfl (Nat.le_of_ble_eq_true rfl) iX11 m_393 dX11_land_104 ?_
        refine zr_callVv (pc := 107) (As := fun ad => []) (st1 := []) hC (Nat.le_of_ble_eq_true rfl) (kX0_forgetRow _  _) (Nat.le_of_ble_eq_true rfl) mc_yX0_forgetRow m_969 m_970 m_971 mem_57 lay_57 rfl rfl rfl rfl (Nat.le_of_ble_eq_true rfl) dX11_land_107 (fun y_8 s_8 => ?_)
        refine zr_aload_n (pc := 110) (i := 0) 1 hC dX11_land_110 rfl rfl ?_
        refine zr_getR (pc := 111) (j := 12) (k1 := 62) hC mem_0 lay_0 rfl rfl (Nat.le_of_ble_eq_true rfl) iX11 m_394 dX11_land_111 ?_
        refine zr_callVv (pc := 114) (As := fun ad => []) (st1 := []) hC (Nat.le_of_ble_eq_true rfl) (kX7_forgetRow _  _) (Nat.le_of_ble_eq_true rfl) mc_yX7_forgetRow m_973 m_974 m_975 mem_62 lay_62 rfl rfl rfl rfl (Nat.le_of_ble_eq_true rfl) dX11_land_114 (fun y_9 s_9 => ?_)
        refine zr_iconst (pc := 117) (v := (0 : Int32)) hC dX11_land_117 ic_0 ?_
        exact zx_iret (pc := 118) hC (Nat.le_of_ble_eq_true rfl) hR dX11_land_118
      · refine zr_aload_n (pc := 53) (i := 0) 1 hC dX11_land_53 rfl rfl ?_
        refine zr_getR (pc := 54) (j := 5) (k1 := 32) hC mem_0 lay_0 rfl rfl (Nat.le_of_ble_eq_true rfl) iX11 m_387 dX11_land_54 ?_
        refine zr_iconst (pc := 57) (v := (0 : Int32)) hC dX11_land_57 ic_0 ?_
        refine zr_callVv (pc := 58) (As := fun ad => [.int (0 : Int32)]) (st1 := []) hC (Nat.le_of_ble_eq_true rfl) (kX8_refuse _ is_32 (0 : Int32) _) (Nat.le_of_ble_eq_true rfl) mc_yX8_refuse m_448 m_449 m_450 mem_32 lay_32 rfl rfl rfl rfl (Nat.le_of_ble_eq_true rfl) dX11_land_58 (fun y_10 s_10 => ?_)
        refine zr_iload_n (pc := 61) (i := 2) 0 hC dX11_land_61 rfl rfl ?_
        exact zx_iret (pc := 62) hC (Nat.le_of_ble_eq_true rfl) hR dX11_land_62
    · exact zx_thr1 (pc := 12) hC (Nat.le_of_ble_eq_true rfl) hR (Nat.le_of_ble_eq_true rfl) (Nat.le_of_ble_eq_true rfl) dX11_land_12 dX11_land_15 dX11_land_16 dX11_land_19
def fX10_allNoons_L4 (w : Nat) : Nat → Int32 → Int32 → St → Option (Int32 × St)
  | 0, _, _, _ => none
  | n + 1, v1, v2, s =>
    if (10 : Int32) ≤ v2 then
    (some (v1, s))
  else
    (bd (fX10_noons w v2 s) (fun y_1 s_1 =>
    fX10_allNoons_L4 w n (v1 + y_1) (v2 + (1 : Int32)) s_1))
set_option maxRecDepth 100000 in
set_option maxHeartbeats 4000000 in
theorem tX10_allNoons_L4 (w : Nat) (X : KX) (hC : Ctx X RX10 cX10_allNoons FULL 3 0) (hR : RC X (some .int)) (hN : X_nL X = 3) (hw : isWd w) : ∀ (n : Nat) (v1 : Int32) (v2 : Int32) (s : St), Zr X (QFN X (some .int)) 0 s 4 [(0, .ref (X_ad X w)), (1, .int v1), (2, .int v2)] [] (fX10_allNoons_L4 w n v1 v2 s) := by
  intro n
  induction n with
  | zero =>
    intro v1 v2 s
    exact zr_none
  | succ n ih =>
    intro v1 v2 s
    rw [fX10_allNoons_L4]
    refine zr_iload_n (pc := 4) (i := 2) 2 hC dX10_allNoons_4 rfl rfl ?_
    refine zr_bipush (pc := 5) (v := (10 : Int32)) hC dX10_allNoons_5 bi_10 ?_
    refine zr_icmp_ge (pc := 7) (tgt := 24) hC dX10_allNoons_7 (by decide) (fun c_ => ?_) (fun c_ => ?_)
    · refine zr_iload_n (pc := 24) (i := 1) 1 hC dX10_allNoons_24 rfl rfl ?_
      exact zr_iret (pc := 25) hC hR dX10_allNoons_25
    · refine zr_iload_n (pc := 10) (i := 1) 1 hC dX10_allNoons_10 rfl rfl ?_
      refine zr_aload_n (pc := 11) (i := 0) 0 hC dX10_allNoons_11 rfl rfl ?_
      refine zr_iload_n (pc := 12) (i := 2) 2 hC dX10_allNoons_12 rfl rfl ?_
      refine zr_callV (pc := 13) (As := fun ad => [.int v2]) (st1 := [.int v1]) hC (Nat.le_of_ble_eq_true rfl) (kX10_noons _ hw v2 _) (Nat.le_of_ble_eq_true rfl) mc_yX10_noons m_483 m_484 m_485 hw.1.1 hw.1.2 rfl rfl rfl rfl (Nat.le_of_ble_eq_true rfl) dX10_allNoons_13 (fun y_1 s_1 => ?_)
      refine zr_iadd (pc := 16) hC dX10_allNoons_16 ?_
      refine zr_istore_n (pc := 17) (i := 1) (ls' := [(1, _), (0, _), (2, _)]) hC dX10_allNoons_17 rfl (nlt hN (Nat.le_of_ble_eq_true rfl)) rfl ?_
      refine zr_iinc (pc := 18) (q := 2) (ls' := [(2, _), (1, _), (0, _)]) hC dX10_allNoons_18 rfl (inc_1 _) (nlt hN (Nat.le_of_ble_eq_true rfl)) rfl ?_
      refine zr_goto (pc := 21) (tgt := 4) hC dX10_allNoons_21 (by decide) ?_
      refine zr_sub (ls' := [(0, _), (1, _), (2, _)]) [2, 1, 0] rfl ?_
      exact ih (v1 + y_1) (v2 + (1 : Int32)) s_1
def fX10_allNoons (w : Nat) (s : St) : Option (Int32 × St) :=
  fX10_allNoons_L4 w FU (0 : Int32) (0 : Int32) s
set_option maxRecDepth 100000 in
set_option maxHeartbeats 4000000 in
theorem kX10_allNoons (l : Launch)  {w : Nat} (hw : isWd w) (s : St) : CN l yX10_allNoons cX10_allNoons 3 (some .int) 3 FULL (fun ad => [.ref (ad w)]) s (fX10_allNoons w s) := by
  refine cn_of (by decide) (fun _ => (Nat.le_of_ble_eq_true rfl)) (fun X hC hR hl hN => ?_)
  subst hl
  show Zr X (QFN X (some .int)) 0 s 0 [(0, .ref (X_ad X w))] [] _
  rw [fX10_allNoons]
  refine zr_iconst (pc := 0) (v := (0 : Int32)) hC dX10_allNoons_0 ic_0 ?_
  refine zr_istore_n (pc := 1) (i := 1) (ls' := [(1, _), (0, _)]) hC dX10_allNoons_1 rfl (nlt hN (Nat.le_of_ble_eq_true rfl)) rfl ?_
  refine zr_iconst (pc := 2) (v := (0 : Int32)) hC dX10_allNoons_2 ic_0 ?_
  refine zr_istore_n (pc := 3) (i := 2) (ls' := [(2, _), (1, _), (0, _)]) hC dX10_allNoons_3 rfl (nlt hN (Nat.le_of_ble_eq_true rfl)) rfl ?_
  refine zr_sub (ls' := [(0, _), (1, _), (2, _)]) [2, 1, 0] rfl ?_
  exact tX10_allNoons_L4 w X hC hR hN hw FU (0 : Int32) (0 : Int32) _
def fX11_count (a1 : Int32) (s : St) : Option (RT × St) :=
  if a1 = (0 : Int32) then
    (some (.inl (s 21 0), s))
  else
    (if a1 = (1 : Int32) then
    (bd (fX10_manyAlive 33 s) (fun y_1 s_1 =>
    some (.inl y_1, s_1)))
  else
    (if a1 = (2 : Int32) then
    (some (.inl (s 21 4), s))
  else
    (if a1 = (3 : Int32) then
    (some (.inl (s 21 6), s))
  else
    (if a1 = (4 : Int32) then
    (bd (fX10_manyRipe 33 21 s) (fun y_2 s_2 =>
    some (.inl y_2, s_2)))
  else
    (if a1 = (5 : Int32) then
    (some (.inl (s 21 10), s))
  else
    (if a1 = (6 : Int32) then
    (bd (fX10_allNoons 33 s) (fun y_3 s_3 =>
    some (.inl y_3, s_3)))
  else
    (if a1 = (7 : Int32) then
    (some (.inl (s 32 3), s))
  else
    (if a1 = (8 : Int32) then
    (some (.inl (s 32 6), s))
  else
    (if a1 = (9 : Int32) then
    (some (.inl (s 0 1), s))
  else
    (if a1 = (10 : Int32) then
    (bd (fX11_at 38 (0 : Int32) s) (fun y_4 s_4 =>
    some (.inl y_4, s_4)))
  else
    (if a1 = (11 : Int32) then
    (bd (fX11_at 38 (1 : Int32) s) (fun y_5 s_5 =>
    some (.inl y_5, s_5)))
  else
    (if a1 = (12 : Int32) then
    (bd (fX11_at 38 (2 : Int32) s) (fun y_6 s_6 =>
    some (.inl y_6, s_6)))
  else
    (some (.inr 0, s))))))))))))))
set_option maxRecDepth 100000 in
set_option maxHeartbeats 4000000 in
theorem kX11_count (l : Launch) (hst : l.stackTraces = false)  (a1 : Int32) (s : St) : CX l yX11_count cX11_count 2 (some .int) 7 1 FULL (fun ad => [.ref (ad 0), .int a1]) s (fX11_count a1 s) := by
  refine cx_of hst (by decide) (fun _ => (Nat.le_of_ble_eq_true rfl)) (fun X hC hR hl hN => ?_)
  subst hl
  show Zr X (QFX X (some .int) 1) 0 s 0 [(0, .ref (X_ad X 0)), (1, .int a1)] [] _
  rw [fX11_count]
  refine zr_iload_n (pc := 0) (i := 1) 1 hC dX11_count_0 rfl rfl ?_
  refine zr_tcase (pc := 1) (v := (0 : Int32)) (off := 67) (tgt := 68) hC dX11_count_1 (by decide) (by decide) (by decide) (by decide) ?_ (fun e0 => ?_)
  · refine zr_aload_n (pc := 68) (i := 0) 0 hC dX11_count_68 rfl rfl ?_
    refine zr_getR (pc := 69) (j := 4) (k1 := 21) hC mem_0 lay_0 rfl rfl (Nat.le_of_ble_eq_true rfl) iX11 m_386 dX11_count_69 ?_
    refine zr_getI (pc := 72) (j := 0) hC mem_21 lay_21 rfl rfl (Nat.le_of_ble_eq_true rfl) iX4 m_70 dX11_count_72 ?_
    exact zx_iret (pc := 75) hC (Nat.le_of_ble_eq_true rfl) hR dX11_count_75
  refine zr_tcase (pc := 1) (v := (1 : Int32)) (off := 75) (tgt := 76) hC dX11_count_1 (by decide) (by decide) (by decide) (by decide) ?_ (fun e1 => ?_)
  · refine zr_aload_n (pc := 76) (i := 0) 0 hC dX11_count_76 rfl rfl ?_
    refine zr_getR (pc := 77) (j := 5) (k1 := 32) hC mem_0 lay_0 rfl rfl (Nat.le_of_ble_eq_true rfl) iX11 m_387 dX11_count_77 ?_
    refine zr_getR (pc := 80) (j := 0) (k1 := 33) hC mem_32 lay_32 rfl rfl (Nat.le_of_ble_eq_true rfl) iX8 m_215 dX11_count_80 ?_
    refine zr_callV (pc := 83) (As := fun ad => []) (st1 := []) hC (Nat.le_of_ble_eq_true rfl) (kX10_manyAlive _ is_33 _) (Nat.le_of_ble_eq_true rfl) mc_yX10_manyAlive m_545 m_546 m_547 mem_33 lay_33 rfl rfl rfl rfl (Nat.le_of_ble_eq_true rfl) dX11_count_83 (fun y_1 s_1 => ?_)
    exact zx_iret (pc := 86) hC (Nat.le_of_ble_eq_true rfl) hR dX11_count_86
  refine zr_tcase (pc := 1) (v := (2 : Int32)) (off := 86) (tgt := 87) hC dX11_count_1 (by decide) (by decide) (by decide) (by decide) ?_ (fun e2 => ?_)
  · refine zr_aload_n (pc := 87) (i := 0) 0 hC dX11_count_87 rfl rfl ?_
    refine zr_getR (pc := 88) (j := 4) (k1 := 21) hC mem_0 lay_0 rfl rfl (Nat.le_of_ble_eq_true rfl) iX11 m_386 dX11_count_88 ?_
    refine zr_getI (pc := 91) (j := 4) hC mem_21 lay_21 rfl rfl (Nat.le_of_ble_eq_true rfl) iX4 m_79 dX11_count_91 ?_
    exact zx_iret (pc := 94) hC (Nat.le_of_ble_eq_true rfl) hR dX11_count_94
  refine zr_tcase (pc := 1) (v := (3 : Int32)) (off := 94) (tgt := 95) hC dX11_count_1 (by decide) (by decide) (by decide) (by decide) ?_ (fun e3 => ?_)
  · refine zr_aload_n (pc := 95) (i := 0) 0 hC dX11_count_95 rfl rfl ?_
    refine zr_getR (pc := 96) (j := 4) (k1 := 21) hC mem_0 lay_0 rfl rfl (Nat.le_of_ble_eq_true rfl) iX11 m_386 dX11_count_96 ?_
    refine zr_getI (pc := 99) (j := 6) hC mem_21 lay_21 rfl rfl (Nat.le_of_ble_eq_true rfl) iX4 m_84 dX11_count_99 ?_
    exact zx_iret (pc := 102) hC (Nat.le_of_ble_eq_true rfl) hR dX11_count_102
  refine zr_tcase (pc := 1) (v := (4 : Int32)) (off := 102) (tgt := 103) hC dX11_count_1 (by decide) (by decide) (by decide) (by decide) ?_ (fun e4 => ?_)
  · refine zr_aload_n (pc := 103) (i := 0) 0 hC dX11_count_103 rfl rfl ?_
    refine zr_getR (pc := 104) (j := 5) (k1 := 32) hC mem_0 lay_0 rfl rfl (Nat.le_of_ble_eq_true rfl) iX11 m_387 dX11_count_104 ?_
    refine zr_getR (pc := 107) (j := 0) (k1 := 33) hC mem_32 lay_32 rfl rfl (Nat.le_of_ble_eq_true rfl) iX8 m_215 dX11_count_107 ?_
    refine zr_aload_n (pc := 110) (i := 0) 0 hC dX11_count_110 rfl rfl ?_
    refine zr_getR (pc := 111) (j := 4) (k1 := 21) hC mem_0 lay_0 rfl rfl (Nat.le_of_ble_eq_true rfl) iX11 m_386 dX11_count_111 ?_
    refine zr_callV (pc := 114) (As := fun ad => [.ref (ad 21)]) (st1 := []) hC (Nat.le_of_ble_eq_true rfl) (kX10_manyRipe _ is_33 is_21 _) (Nat.le_of_ble_eq_true rfl) mc_yX10_manyRipe m_499 m_500 m_501 mem_33 lay_33 rfl rfl rfl rfl (Nat.le_of_ble_eq_true rfl) dX11_count_114 (fun y_2 s_2 => ?_)
    exact zx_iret (pc := 117) hC (Nat.le_of_ble_eq_true rfl) hR dX11_count_117
  refine zr_tcase (pc := 1) (v := (5 : Int32)) (off := 117) (tgt := 118) hC dX11_count_1 (by decide) (by decide) (by decide) (by decide) ?_ (fun e5 => ?_)
  · refine zr_aload_n (pc := 118) (i := 0) 0 hC dX11_count_118 rfl rfl ?_
    refine zr_getR (pc := 119) (j := 4) (k1 := 21) hC mem_0 lay_0 rfl rfl (Nat.le_of_ble_eq_true rfl) iX11 m_386 dX11_count_119 ?_
    refine zr_getI (pc := 122) (j := 10) hC mem_21 lay_21 rfl rfl (Nat.le_of_ble_eq_true rfl) iX4 m_101 dX11_count_122 ?_
    exact zx_iret (pc := 125) hC (Nat.le_of_ble_eq_true rfl) hR dX11_count_125
  refine zr_tcase (pc := 1) (v := (6 : Int32)) (off := 125) (tgt := 126) hC dX11_count_1 (by decide) (by decide) (by decide) (by decide) ?_ (fun e6 => ?_)
  · refine zr_aload_n (pc := 126) (i := 0) 0 hC dX11_count_126 rfl rfl ?_
    refine zr_getR (pc := 127) (j := 5) (k1 := 32) hC mem_0 lay_0 rfl rfl (Nat.le_of_ble_eq_true rfl) iX11 m_387 dX11_count_127 ?_
    refine zr_getR (pc := 130) (j := 0) (k1 := 33) hC mem_32 lay_32 rfl rfl (Nat.le_of_ble_eq_true rfl) iX8 m_215 dX11_count_130 ?_
    refine zr_callV (pc := 133) (As := fun ad => []) (st1 := []) hC (Nat.le_of_ble_eq_true rfl) (kX10_allNoons _ is_33 _) (Nat.le_of_ble_eq_true rfl) mc_yX10_allNoons m_986 m_987 m_988 mem_33 lay_33 rfl rfl rfl rfl (Nat.le_of_ble_eq_true rfl) dX11_count_133 (fun y_3 s_3 => ?_)
    exact zx_iret (pc := 136) hC (Nat.le_of_ble_eq_true rfl) hR dX11_count_136
  refine zr_tcase (pc := 1) (v := (7 : Int32)) (off := 136) (tgt := 137) hC dX11_count_1 (by decide) (by decide) (by decide) (by decide) ?_ (fun e7 => ?_)
  · refine zr_aload_n (pc := 137) (i := 0) 0 hC dX11_count_137 rfl rfl ?_
    refine zr_getR (pc := 138) (j := 5) (k1 := 32) hC mem_0 lay_0 rfl rfl (Nat.le_of_ble_eq_true rfl) iX11 m_387 dX11_count_138 ?_
    refine zr_getI (pc := 141) (j := 3) hC mem_32 lay_32 rfl rfl (Nat.le_of_ble_eq_true rfl) iX8 m_219 dX11_count_141 ?_
    exact zx_iret (pc := 144) hC (Nat.le_of_ble_eq_true rfl) hR dX11_count_144
  refine zr_tcase (pc := 1) (v := (8 : Int32)) (off := 144) (tgt := 145) hC dX11_count_1 (by decide) (by decide) (by decide) (by decide) ?_ (fun e8 => ?_)
  · refine zr_aload_n (pc := 145) (i := 0) 0 hC dX11_count_145 rfl rfl ?_
    refine zr_getR (pc := 146) (j := 5) (k1 := 32) hC mem_0 lay_0 rfl rfl (Nat.le_of_ble_eq_true rfl) iX11 m_387 dX11_count_146 ?_
    refine zr_getI (pc := 149) (j := 6) hC mem_32 lay_32 rfl rfl (Nat.le_of_ble_eq_true rfl) iX8 m_226 dX11_count_149 ?_
    exact zx_iret (pc := 152) hC (Nat.le_of_ble_eq_true rfl) hR dX11_count_152
  refine zr_tcase (pc := 1) (v := (9 : Int32)) (off := 152) (tgt := 153) hC dX11_count_1 (by decide) (by decide) (by decide) (by decide) ?_ (fun e9 => ?_)
  · refine zr_aload_n (pc := 153) (i := 0) 0 hC dX11_count_153 rfl rfl ?_
    refine zr_getI (pc := 154) (j := 1) hC mem_0 lay_0 rfl rfl (Nat.le_of_ble_eq_true rfl) iX11 m_383 dX11_count_154 ?_
    exact zx_iret (pc := 157) hC (Nat.le_of_ble_eq_true rfl) hR dX11_count_157
  refine zr_tcase (pc := 1) (v := (10 : Int32)) (off := 157) (tgt := 158) hC dX11_count_1 (by decide) (by decide) (by decide) (by decide) ?_ (fun e10 => ?_)
  · refine zr_aload_n (pc := 158) (i := 0) 0 hC dX11_count_158 rfl rfl ?_
    refine zr_getR (pc := 159) (j := 5) (k1 := 32) hC mem_0 lay_0 rfl rfl (Nat.le_of_ble_eq_true rfl) iX11 m_387 dX11_count_159 ?_
    refine zr_getR (pc := 162) (j := 7) (k1 := 38) hC mem_32 lay_32 rfl rfl (Nat.le_of_ble_eq_true rfl) iX8 m_228 dX11_count_162 ?_
    refine zr_iconst (pc := 165) (v := (0 : Int32)) hC dX11_count_165 ic_0 ?_
    refine zr_callS (pc := 166) (As := fun ad => [.ref (ad 38), .int (0 : Int32)]) (st1 := []) hC (Nat.le_of_ble_eq_true rfl) (kX11_at _ ar_38 (0 : Int32) _) (Nat.le_of_ble_eq_true rfl) mc_yX11_at m_990 m_453 rfl rfl rfl (Nat.le_of_ble_eq_true rfl) dX11_count_166 (fun y_4 s_4 => ?_)
    exact zx_iret (pc := 169) hC (Nat.le_of_ble_eq_true rfl) hR dX11_count_169
  refine zr_tcase (pc := 1) (v := (11 : Int32)) (off := 169) (tgt := 170) hC dX11_count_1 (by decide) (by decide) (by decide) (by decide) ?_ (fun e11 => ?_)
  · refine zr_aload_n (pc := 170) (i := 0) 0 hC dX11_count_170 rfl rfl ?_
    refine zr_getR (pc := 171) (j := 5) (k1 := 32) hC mem_0 lay_0 rfl rfl (Nat.le_of_ble_eq_true rfl) iX11 m_387 dX11_count_171 ?_
    refine zr_getR (pc := 174) (j := 7) (k1 := 38) hC mem_32 lay_32 rfl rfl (Nat.le_of_ble_eq_true rfl) iX8 m_228 dX11_count_174 ?_
    refine zr_iconst (pc := 177) (v := (1 : Int32)) hC dX11_count_177 ic_1 ?_
    refine zr_callS (pc := 178) (As := fun ad => [.ref (ad 38), .int (1 : Int32)]) (st1 := []) hC (Nat.le_of_ble_eq_true rfl) (kX11_at _ ar_38 (1 : Int32) _) (Nat.le_of_ble_eq_true rfl) mc_yX11_at m_990 m_453 rfl rfl rfl (Nat.le_of_ble_eq_true rfl) dX11_count_178 (fun y_5 s_5 => ?_)
    exact zx_iret (pc := 181) hC (Nat.le_of_ble_eq_true rfl) hR dX11_count_181
  refine zr_tcase (pc := 1) (v := (12 : Int32)) (off := 181) (tgt := 182) hC dX11_count_1 (by decide) (by decide) (by decide) (by decide) ?_ (fun e12 => ?_)
  · refine zr_aload_n (pc := 182) (i := 0) 0 hC dX11_count_182 rfl rfl ?_
    refine zr_getR (pc := 183) (j := 5) (k1 := 32) hC mem_0 lay_0 rfl rfl (Nat.le_of_ble_eq_true rfl) iX11 m_387 dX11_count_183 ?_
    refine zr_getR (pc := 186) (j := 7) (k1 := 38) hC mem_32 lay_32 rfl rfl (Nat.le_of_ble_eq_true rfl) iX8 m_228 dX11_count_186 ?_
    refine zr_iconst (pc := 189) (v := (2 : Int32)) hC dX11_count_189 ic_2 ?_
    refine zr_callS (pc := 190) (As := fun ad => [.ref (ad 38), .int (2 : Int32)]) (st1 := []) hC (Nat.le_of_ble_eq_true rfl) (kX11_at _ ar_38 (2 : Int32) _) (Nat.le_of_ble_eq_true rfl) mc_yX11_at m_990 m_453 rfl rfl rfl (Nat.le_of_ble_eq_true rfl) dX11_count_190 (fun y_6 s_6 => ?_)
    exact zx_iret (pc := 193) hC (Nat.le_of_ble_eq_true rfl) hR dX11_count_193
  refine zr_tdef (pc := 1) (tgt := 194) [(0 : Int32), (1 : Int32), (2 : Int32), (3 : Int32), (4 : Int32), (5 : Int32), (6 : Int32), (7 : Int32), (8 : Int32), (9 : Int32), (10 : Int32), (11 : Int32), (12 : Int32)] hC dX11_count_1 (List.forall_mem_cons.mpr ⟨e0, List.forall_mem_cons.mpr ⟨e1, List.forall_mem_cons.mpr ⟨e2, List.forall_mem_cons.mpr ⟨e3, List.forall_mem_cons.mpr ⟨e4, List.forall_mem_cons.mpr ⟨e5, List.forall_mem_cons.mpr ⟨e6, List.forall_mem_cons.mpr ⟨e7, List.forall_mem_cons.mpr ⟨e8, List.forall_mem_cons.mpr ⟨e9, List.forall_mem_cons.mpr ⟨e10, List.forall_mem_cons.mpr ⟨e11, List.forall_mem_cons.mpr ⟨e12, fun _ h => absurd h List.not_mem_nil⟩⟩⟩⟩⟩⟩⟩⟩⟩⟩⟩⟩⟩) (by decide) (by decide) (by decide) ?_
  exact zx_thr0 (pc := 194) hC (Nat.le_of_ble_eq_true rfl) hR (Nat.le_of_ble_eq_true rfl) (Nat.le_of_ble_eq_true rfl) dX11_count_194 dX11_count_197 dX11_count_198 dX11_count_201
def fX11_needPerson (a1 : Int32) (s : St) : Option (RT × St) :=
  if a1 < 0 then
    (some (.inr 0, s))
  else
    (if a1 < (s 21 0) then
    (some (.inl 0, s))
  else
    (some (.inr 0, s)))
set_option maxRecDepth 100000 in
set_option maxHeartbeats 4000000 in
theorem kX11_needPerson (l : Launch) (hst : l.stackTraces = false)  (a1 : Int32) (s : St) : CX l yX11_needPerson cX11_needPerson 2 none 7 1 FULL (fun ad => [.ref (ad 0), .int a1]) s (fX11_needPerson a1 s) := by
  refine cx_of hst (by decide) (fun _ => (Nat.le_of_ble_eq_true rfl)) (fun X hC hR hl hN => ?_)
  subst hl
  show Zr X (QFX X none 1) 0 s 0 [(0, .ref (X_ad X 0)), (1, .int a1)] [] _
  rw [fX11_needPerson]
  refine zr_iload_n (pc := 0) (i := 1) 1 hC dX11_needPerson_0 rfl rfl ?_
  refine zr_if_lt (pc := 1) (tgt := 15) hC dX11_needPerson_1 (by decide) (fun c_ => ?_) (fun c_ => ?_)
  · exact zx_thr0 (pc := 15) hC (Nat.le_of_ble_eq_true rfl) hR (Nat.le_of_ble_eq_true rfl) (Nat.le_of_ble_eq_true rfl) dX11_needPerson_15 dX11_needPerson_18 dX11_needPerson_19 dX11_needPerson_22
  · refine zr_iload_n (pc := 4) (i := 1) 1 hC dX11_needPerson_4 rfl rfl ?_
    refine zr_aload_n (pc := 5) (i := 0) 0 hC dX11_needPerson_5 rfl rfl ?_
    refine zr_getR (pc := 6) (j := 4) (k1 := 21) hC mem_0 lay_0 rfl rfl (Nat.le_of_ble_eq_true rfl) iX11 m_386 dX11_needPerson_6 ?_
    refine zr_getI (pc := 9) (j := 0) hC mem_21 lay_21 rfl rfl (Nat.le_of_ble_eq_true rfl) iX4 m_70 dX11_needPerson_9 ?_
    refine zr_icmp_lt (pc := 12) (tgt := 23) hC dX11_needPerson_12 (by decide) (fun c_ => ?_) (fun c_ => ?_)
    · exact zx_vret (pc := 23) hC (Nat.le_of_ble_eq_true rfl) hR dX11_needPerson_23
    · exact zx_thr0 (pc := 15) hC (Nat.le_of_ble_eq_true rfl) hR (Nat.le_of_ble_eq_true rfl) (Nat.le_of_ble_eq_true rfl) dX11_needPerson_15 dX11_needPerson_18 dX11_needPerson_19 dX11_needPerson_22
def fX4_manyParents_J17 (g : Nat) (v1 : Int32) (q0 : Int32) (s : St) : Option (Int32 × St) :=
  bd (fX11_at (g + 2) v1 s) (fun y_2 s_2 =>
    if y_2 = (-1 : Int32) then
    (some ((q0 + (0 : Int32)), s_2))
  else
    (some ((q0 + (1 : Int32)), s_2)))
set_option maxRecDepth 100000 in
set_option maxHeartbeats 4000000 in
theorem tX4_manyParents_J17 (g : Nat) (v1 : Int32) (q0 : Int32) (X : KX) (hC : Ctx X RX4 cX4_manyParents FULL 2 0) (hR : RC X (some .int)) (hN : X_nL X = 4) (hg : isLand g) (s : St) : Zr X (QFN X (some .int)) 0 s 17 [(0, .ref (X_ad X g)), (1, .int v1)] [.int q0] (fX4_manyParents_J17 g v1 q0 s) := by
  rw [fX4_manyParents_J17]
  refine zr_istore_n (pc := 17) (i := 2) (ls' := [(2, _), (0, _), (1, _)]) hC dX4_manyParents_17 rfl (nlt hN (Nat.le_of_ble_eq_true rfl)) rfl ?_
  refine zr_aload_n (pc := 18) (i := 0) 1 hC dX4_manyParents_18 rfl rfl ?_
  refine zr_getR (pc := 19) (j := 2) (k1 := (g + 2)) hC hg.1.1 hg.1.2 rfl rfl (Nat.le_of_ble_eq_true rfl) iX4 m_74 dX4_manyParents_19 ?_
  refine zr_iload_n (pc := 22) (i := 1) 2 hC dX4_manyParents_22 rfl rfl ?_
  refine zr_callSN (pc := 23) (As := fun ad => [.ref (ad (g + 2)), .int v1]) (st1 := []) hC (Nat.le_of_ble_eq_true rfl) (kX11_at _ (isArr_of hg.2.2.1) v1 _) (Nat.le_of_ble_eq_true rfl) mc_yX11_at m_535 m_453 rfl rfl (Nat.le_of_ble_eq_true rfl) dX4_manyParents_23 (fun y_2 s_2 => ?_)
  refine zr_iconst (pc := 26) (v := (-1 : Int32)) hC dX4_manyParents_26 ic_m1 ?_
  refine zr_icmp_ne (pc := 27) (tgt := 34) hC dX4_manyParents_27 (by decide) (fun c_ => ?_) (fun c_ => ?_)
  · refine zr_iconst (pc := 30) (v := (0 : Int32)) hC dX4_manyParents_30 ic_0 ?_
    refine zr_goto (pc := 31) (tgt := 35) hC dX4_manyParents_31 (by decide) ?_
    refine zr_istore_n (pc := 35) (i := 3) (ls' := [(3, _), (2, _), (0, _), (1, _)]) hC dX4_manyParents_35 rfl (nlt hN (Nat.le_of_ble_eq_true rfl)) rfl ?_
    refine zr_iload_n (pc := 36) (i := 2) 1 hC dX4_manyParents_36 rfl rfl ?_
    refine zr_iload_n (pc := 37) (i := 3) 0 hC dX4_manyParents_37 rfl rfl ?_
    refine zr_iadd (pc := 38) hC dX4_manyParents_38 ?_
    exact zr_iret (pc := 39) hC hR dX4_manyParents_39
  · refine zr_iconst (pc := 34) (v := (1 : Int32)) hC dX4_manyParents_34 ic_1 ?_
    refine zr_istore_n (pc := 35) (i := 3) (ls' := [(3, _), (2, _), (0, _), (1, _)]) hC dX4_manyParents_35 rfl (nlt hN (Nat.le_of_ble_eq_true rfl)) rfl ?_
    refine zr_iload_n (pc := 36) (i := 2) 1 hC dX4_manyParents_36 rfl rfl ?_
    refine zr_iload_n (pc := 37) (i := 3) 0 hC dX4_manyParents_37 rfl rfl ?_
    refine zr_iadd (pc := 38) hC dX4_manyParents_38 ?_
    exact zr_iret (pc := 39) hC hR dX4_manyParents_39
def fX4_manyParents (g : Nat) (a1 : Int32) (s : St) : Option (Int32 × St) :=
  bd (fX11_at (g + 1) a1 s) (fun y_1 s_1 =>
    if y_1 = (-1 : Int32) then
    (fX4_manyParents_J17 g a1 (0 : Int32) s_1)
  else
    (fX4_manyParents_J17 g a1 (1 : Int32) s_1))
set_option maxRecDepth 100000 in
set_option maxHeartbeats 4000000 in
theorem kX4_manyParents (l : Launch)  {g : Nat} (hg : isLand g) (a1 : Int32) (s : St) : CN l yX4_manyParents cX4_manyParents 4 (some .int) 2 FULL (fun ad => [.ref (ad g), .int a1]) s (fX4_manyParents g a1 s) := by
  refine cn_of (by decide) (fun _ => (Nat.le_of_ble_eq_true rfl)) (fun X hC hR hl hN => ?_)
  subst hl
  show Zr X (QFN X (some .int)) 0 s 0 [(0, .ref (X_ad X g)), (1, .int a1)] [] _
  rw [fX4_manyParents]
  refine zr_aload_n (pc := 0) (i := 0) 0 hC dX4_manyParents_0 rfl rfl ?_
  refine zr_getR (pc := 1) (j := 1) (k1 := (g + 1)) hC hg.1.1 hg.1.2 rfl rfl (Nat.le_of_ble_eq_true rfl) iX4 m_72 dX4_manyParents_1 ?_
  refine zr_iload_n (pc := 4) (i := 1) 1 hC dX4_manyParents_4 rfl rfl ?_
  refine zr_callSN (pc := 5) (As := fun ad => [.ref (ad (g + 1)), .int a1]) (st1 := []) hC (Nat.le_of_ble_eq_true rfl) (kX11_at _ (isArr_of hg.2.1) a1 _) (Nat.le_of_ble_eq_true rfl) mc_yX11_at m_535 m_453 rfl rfl (Nat.le_of_ble_eq_true rfl) dX4_manyParents_5 (fun y_1 s_1 => ?_)
  refine zr_iconst (pc := 8) (v := (-1 : Int32)) hC dX4_manyParents_8 ic_m1 ?_
  refine zr_icmp_ne (pc := 9) (tgt := 16) hC dX4_manyParents_9 (by decide) (fun c_ => ?_) (fun c_ => ?_)
  · refine zr_iconst (pc := 12) (v := (0 : Int32)) hC dX4_manyParents_12 ic_0 ?_
    refine zr_goto (pc := 13) (tgt := 17) hC dX4_manyParents_13 (by decide) ?_
    exact tX4_manyParents_J17 g a1 (0 : Int32) X hC hR hN hg  _
  · refine zr_iconst (pc := 16) (v := (1 : Int32)) hC dX4_manyParents_16 ic_1 ?_
    exact tX4_manyParents_J17 g a1 (1 : Int32) X hC hR hN hg  _
def fX11_person (a1 : Int32) (a2 : Int32) (s : St) : Option (RT × St) :=
  bx (fX11_needPerson a1 s) (fun y_1 s_1 =>
    if a2 = (0 : Int32) then
    (bd (fX10_alive 33 a1 s_1) (fun y_2 s_2 =>
    if y_2 = 0 then
    (some (.inl (0 : Int32), s_2))
  else
    (some (.inl (1 : Int32), s_2))))
  else
    (if a2 = (1 : Int32) then
    (bd (fX10_place 33 a1 s_1) (fun y_3 s_3 =>
    some (.inl y_3, s_3)))
  else
    (if a2 = (2 : Int32) then
    (bd (fX4_manyParents 21 a1 s_1) (fun y_4 s_4 =>
    some (.inl y_4, s_4)))
  else
    (if a2 = (3 : Int32) then
    (bd (fX11_at 22 a1 s_1) (fun y_5 s_5 =>
    some (.inl y_5, s_5)))
  else
    (if a2 = (4 : Int32) then
    (bd (fX11_at 23 a1 s_1) (fun y_6 s_6 =>
    some (.inl y_6, s_6)))
  else
    (if a2 = (5 : Int32) then
    (bd (fX11_at 24 a1 s_1) (fun y_7 s_7 =>
    some (.inl y_7, s_7)))
  else
    (if a2 = (6 : Int32) then
    (bd (fX10_spouse 33 a1 s_1) (fun y_8 s_8 =>
    some (.inl y_8, s_8)))
  else
    (some (.inr 0, s_1)))))))))
set_option maxRecDepth 100000 in
set_option maxHeartbeats 4000000 in
theorem kX11_person (l : Launch) (hst : l.stackTraces = false)  (a1 : Int32) (a2 : Int32) (s : St) : CX l yX11_person cX11_person 3 (some .int) 8 2 FULL (fun ad => [.ref (ad 0), .int a1, .int a2]) s (fX11_person a1 a2 s) := by
  refine cx_of hst (by decide) (fun _ => (Nat.le_of_ble_eq_true rfl)) (fun X hC hR hl hN => ?_)
  subst hl
  show Zr X (QFX X (some .int) 2) 0 s 0 [(0, .ref (X_ad X 0)), (1, .int a1), (2, .int a2)] [] _
  rw [fX11_person]
  refine zr_aload_n (pc := 0) (i := 0) 0 hC dX11_person_0 rfl rfl ?_
  refine zr_iload_n (pc := 1) (i := 1) 1 hC dX11_person_1 rfl rfl ?_
  refine zx_callV (pc := 2) (As := fun ad => [.int a1]) (st1 := []) hC hR (Nat.le_of_ble_eq_true rfl) (kX11_needPerson _ hR.2.2 a1 _) (Nat.le_of_ble_eq_true rfl) mc_yX11_needPerson m_1013 m_1015 m_p35 mem_0 lay_0 rfl rfl rfl rfl (Nat.le_of_ble_eq_true rfl) dX11_person_2 (fun y_1 s_1 => ?_)
  show Zr X (QFX X (some .int) 2) 1 s_1 5 _ [] _
  refine zr_iload_n (pc := 5) (i := 2) 2 hC dX11_person_5 rfl rfl ?_
  refine zr_tcase (pc := 6) (v := (0 : Int32)) (off := 42) (tgt := 48) hC dX11_person_6 (by decide) (by decide) (by decide) (by decide) ?_ (fun e0 => ?_)
  · refine zr_aload_n (pc := 48) (i := 0) 0 hC dX11_person_48 rfl rfl ?_
    refine zr_getR (pc := 49) (j := 5) (k1 := 32) hC mem_0 lay_0 rfl rfl (Nat.le_of_ble_eq_true rfl) iX11 m_387 dX11_person_49 ?_
    refine zr_getR (pc := 52) (j := 0) (k1 := 33) hC mem_32 lay_32 rfl rfl (Nat.le_of_ble_eq_true rfl) iX8 m_215 dX11_person_52 ?_
    refine zr_iload_n (pc := 55) (i := 1) 1 hC dX11_person_55 rfl rfl ?_
    refine zr_callV (pc := 56) (As := fun ad => [.int a1]) (st1 := []) hC (Nat.le_of_ble_eq_true rfl) (kX10_alive _ is_33 a1 _) (Nat.le_of_ble_eq_true rfl) mc_yX10_alive m_523 m_524 m_525 mem_33 lay_33 rfl rfl rfl rfl (Nat.le_of_ble_eq_true rfl) dX11_person_56 (fun y_2 s_2 => ?_)
    refine zr_if_eq (pc := 59) (tgt := 66) hC dX11_person_59 (by decide) (fun c_ => ?_) (fun c_ => ?_)
    · refine zr_iconst (pc := 66) (v := (0 : Int32)) hC dX11_person_66 ic_0 ?_
      exact zx_iret (pc := 67) hC (Nat.le_of_ble_eq_true rfl) hR dX11_person_67
    · refine zr_iconst (pc := 62) (v := (1 : Int32)) hC dX11_person_62 ic_1 ?_
      refine zr_goto (pc := 63) (tgt := 67) hC dX11_person_63 (by decide) ?_
      exact zx_iret (pc := 67) hC (Nat.le_of_ble_eq_true rfl) hR dX11_person_67
  refine zr_tcase (pc := 6) (v := (1 : Int32)) (off := 62) (tgt := 68) hC dX11_person_6 (by decide) (by decide) (by decide) (by decide) ?_ (fun e1 => ?_)
  · refine zr_aload_n (pc := 68) (i := 0) 0 hC dX11_person_68 rfl rfl ?_
    refine zr_getR (pc := 69) (j := 5) (k1 := 32) hC mem_0 lay_0 rfl rfl (Nat.le_of_ble_eq_true rfl) iX11 m_387 dX11_person_69 ?_
    refine zr_getR (pc := 72) (j := 0) (k1 := 33) hC mem_32 lay_32 rfl rfl (Nat.le_of_ble_eq_true rfl) iX8 m_215 dX11_person_72 ?_
    refine zr_iload_n (pc := 75) (i := 1) 1 hC dX11_person_75 rfl rfl ?_
    refine zr_callV (pc := 76) (As := fun ad => [.int a1]) (st1 := []) hC (Nat.le_of_ble_eq_true rfl) (kX10_place _ is_33 a1 _) (Nat.le_of_ble_eq_true rfl) mc_yX10_place m_1017 m_488 m_489 mem_33 lay_33 rfl rfl rfl rfl (Nat.le_of_ble_eq_true rfl) dX11_person_76 (fun y_3 s_3 => ?_)
    exact zx_iret (pc := 79) hC (Nat.le_of_ble_eq_true rfl) hR dX11_person_79
  refine zr_tcase (pc := 6) (v := (2 : Int32)) (off := 74) (tgt := 80) hC dX11_person_6 (by decide) (by decide) (by decide) (by decide) ?_ (fun e2 => ?_)
  · refine zr_aload_n (pc := 80) (i := 0) 0 hC dX11_person_80 rfl rfl ?_
    refine zr_getR (pc := 81) (j := 4) (k1 := 21) hC mem_0 lay_0 rfl rfl (Nat.le_of_ble_eq_true rfl) iX11 m_386 dX11_person_81 ?_
    refine zr_iload_n (pc := 84) (i := 1) 1 hC dX11_person_84 rfl rfl ?_
    refine zr_callV (pc := 85) (As := fun ad => [.int a1]) (st1 := []) hC (Nat.le_of_ble_eq_true rfl) (kX4_manyParents _ is_21 a1 _) (Nat.le_of_ble_eq_true rfl) mc_yX4_manyParents m_1018 m_1019 m_1020 mem_21 lay_21 rfl rfl rfl rfl (Nat.le_of_ble_eq_true rfl) dX11_person_85 (fun y_4 s_4 => ?_)
    exact zx_iret (pc := 88) hC (Nat.le_of_ble_eq_true rfl) hR dX11_person_88
  refine zr_tcase (pc := 6) (v := (3 : Int32)) (off := 83) (tgt := 89) hC dX11_person_6 (by decide) (by decide) (by decide) (by decide) ?_ (fun e3 => ?_)
  · refine zr_aload_n (pc := 89) (i := 0) 0 hC dX11_person_89 rfl rfl ?_
    refine zr_getR (pc := 90) (j := 4) (k1 := 21) hC mem_0 lay_0 rfl rfl (Nat.le_of_ble_eq_true rfl) iX11 m_386 dX11_person_90 ?_
    refine zr_getR (pc := 93) (j := 1) (k1 := 22) hC mem_21 lay_21 rfl rfl (Nat.le_of_ble_eq_true rfl) iX4 m_73 dX11_person_93 ?_
    refine zr_iload_n (pc := 96) (i := 1) 1 hC dX11_person_96 rfl rfl ?_
    refine zr_callS (pc := 97) (As := fun ad => [.ref (ad 22), .int a1]) (st1 := []) hC (Nat.le_of_ble_eq_true rfl) (kX11_at _ ar_22 a1 _) (Nat.le_of_ble_eq_true rfl) mc_yX11_at m_990 m_453 rfl rfl rfl (Nat.le_of_ble_eq_true rfl) dX11_person_97 (fun y_5 s_5 => ?_)
    exact zx_iret (pc := 100) hC (Nat.le_of_ble_eq_true rfl) hR dX11_person_100
  refine zr_tcase (pc := 6) (v := (4 : Int32)) (off := 95) (tgt := 101) hC dX11_person_6 (by decide) (by decide) (by decide) (by decide) ?_ (fun e4 => ?_)
  · refine zr_aload_n (pc := 101) (i := 0) 0 hC dX11_person_101 rfl rfl ?_
    refine zr_getR (pc := 102) (j := 4) (k1 := 21) hC mem_0 lay_0 rfl rfl (Nat.le_of_ble_eq_true rfl) iX11 m_386 dX11_person_102 ?_
    refine zr_getR (pc := 105) (j := 2) (k1 := 23) hC mem_21 lay_21 rfl rfl (Nat.le_of_ble_eq_true rfl) iX4 m_75 dX11_person_105 ?_
    refine zr_iload_n (pc := 108) (i := 1) 1 hC dX11_person_108 rfl rfl ?_
    refine zr_callS (pc := 109) (As := fun ad => [.ref (ad 23), .int a1]) (st1 := []) hC (Nat.le_of_ble_eq_true rfl) (kX11_at _ ar_23 a1 _) (Nat.le_of_ble_eq_true rfl) mc_yX11_at m_990 m_453 rfl rfl rfl (Nat.le_of_ble_eq_true rfl) dX11_person_109 (fun y_6 s_6 => ?_)
    exact zx_iret (pc := 112) hC (Nat.le_of_ble_eq_true rfl) hR dX11_person_112
  refine zr_tcase (pc := 6) (v := (5 : Int32)) (off := 107) (tgt := 113) hC dX11_person_6 (by decide) (by decide) (by decide) (by decide) ?_ (fun e5 => ?_)
  · refine zr_aload_n (pc := 113) (i := 0) 0 hC dX11_person_113 rfl rfl ?_
    refine zr_getR (pc := 114) (j := 4) (k1 := 21) hC mem_0 lay_0 rfl rfl (Nat.le_of_ble_eq_true rfl) iX11 m_386 dX11_person_114 ?_
    refine zr_getR (pc := 117) (j := 3) (k1 := 24) hC mem_21 lay_21 rfl rfl (Nat.le_of_ble_eq_true rfl) iX4 m_77 dX11_person_117 ?_
    refine zr_iload_n (pc := 120) (i := 1) 1 hC dX11_person_120 rfl rfl ?_
    refine zr_callS (pc := 121) (As := fun ad => [.ref (ad 24), .int a1]) (st1 := []) hC (Nat.le_of_ble_eq_true rfl) (kX11_at _ ar_24 a1 _) (Nat.le_of_ble_eq_true rfl) mc_yX11_at m_990 m_453 rfl rfl rfl (Nat.le_of_ble_eq_true rfl) dX11_person_121 (fun y_7 s_7 => ?_)
    exact zx_iret (pc := 124) hC (Nat.le_of_ble_eq_true rfl) hR dX11_person_124
  refine zr_tcase (pc := 6) (v := (6 : Int32)) (off := 119) (tgt := 125) hC dX11_person_6 (by decide) (by decide) (by decide) (by decide) ?_ (fun e6 => ?_)
  · refine zr_aload_n (pc := 125) (i := 0) 0 hC dX11_person_125 rfl rfl ?_
    refine zr_getR (pc := 126) (j := 5) (k1 := 32) hC mem_0 lay_0 rfl rfl (Nat.le_of_ble_eq_true rfl) iX11 m_387 dX11_person_126 ?_
    refine zr_getR (pc := 129) (j := 0) (k1 := 33) hC mem_32 lay_32 rfl rfl (Nat.le_of_ble_eq_true rfl) iX8 m_215 dX11_person_129 ?_
    refine zr_iload_n (pc := 132) (i := 1) 1 hC dX11_person_132 rfl rfl ?_
    refine zr_callV (pc := 133) (As := fun ad => [.int a1]) (st1 := []) hC (Nat.le_of_ble_eq_true rfl) (kX10_spouse _ is_33 a1 _) (Nat.le_of_ble_eq_true rfl) mc_yX10_spouse m_1022 m_867 m_868 mem_33 lay_33 rfl rfl rfl rfl (Nat.le_of_ble_eq_true rfl) dX11_person_133 (fun y_8 s_8 => ?_)
    exact zx_iret (pc := 136) hC (Nat.le_of_ble_eq_true rfl) hR dX11_person_136
  refine zr_tdef (pc := 6) (tgt := 137) [(0 : Int32), (1 : Int32), (2 : Int32), (3 : Int32), (4 : Int32), (5 : Int32), (6 : Int32)] hC dX11_person_6 (List.forall_mem_cons.mpr ⟨e0, List.forall_mem_cons.mpr ⟨e1, List.forall_mem_cons.mpr ⟨e2, List.forall_mem_cons.mpr ⟨e3, List.forall_mem_cons.mpr ⟨e4, List.forall_mem_cons.mpr ⟨e5, List.forall_mem_cons.mpr ⟨e6, fun _ h => absurd h List.not_mem_nil⟩⟩⟩⟩⟩⟩⟩) (by decide) (by decide) (by decide) ?_
  exact zx_thr0 (pc := 137) hC (Nat.le_of_ble_eq_true rfl) hR (Nat.le_of_ble_eq_true rfl) (Nat.le_of_ble_eq_true rfl) dX11_person_137 dX11_person_140 dX11_person_141 dX11_person_144
def fX11_needPart (a0 : Int32) (s : St) : Option (RT × St) :=
  if a0 < 0 then
    (some (.inr 0, s))
  else
    (if a0 < (4 : Int32) then
    (some (.inl 0, s))
  else
    (some (.inr 0, s)))
set_option maxRecDepth 100000 in
set_option maxHeartbeats 4000000 in
theorem kX11_needPart (l : Launch) (hst : l.stackTraces = false)  (a0 : Int32) (s : St) : CX l yX11_needPart cX11_needPart 1 none 7 1 FULL (fun ad => [.int a0]) s (fX11_needPart a0 s) := by
  refine cx_of hst (by decide) (fun _ => (Nat.le_of_ble_eq_true rfl)) (fun X hC hR hl hN => ?_)
  subst hl
  show Zr X (QFX X none 1) 0 s 0 [(0, .int a0)] [] _
  rw [fX11_needPart]
  refine zr_iload_n (pc := 0) (i := 0) 0 hC dX11_needPart_0 rfl rfl ?_
  refine zr_if_lt (pc := 1) (tgt := 9) hC dX11_needPart_1 (by decide) (fun c_ => ?_) (fun c_ => ?_)
  · exact zx_thr0 (pc := 9) hC (Nat.le_of_ble_eq_true rfl) hR (Nat.le_of_ble_eq_true rfl) (Nat.le_of_ble_eq_true rfl) dX11_needPart_9 dX11_needPart_12 dX11_needPart_13 dX11_needPart_16
  · refine zr_iload_n (pc := 4) (i := 0) 0 hC dX11_needPart_4 rfl rfl ?_
    refine zr_iconst (pc := 5) (v := (4 : Int32)) hC dX11_needPart_5 ic_4 ?_
    refine zr_icmp_lt (pc := 6) (tgt := 17) hC dX11_needPart_6 (by decide) (fun c_ => ?_) (fun c_ => ?_)
    · exact zx_vret (pc := 17) hC (Nat.le_of_ble_eq_true rfl) hR dX11_needPart_17
    · exact zx_thr0 (pc := 9) hC (Nat.le_of_ble_eq_true rfl) hR (Nat.le_of_ble_eq_true rfl) (Nat.le_of_ble_eq_true rfl) dX11_needPart_9 dX11_needPart_12 dX11_needPart_13 dX11_needPart_16
def fX11_sky (a1 : Int32) (a2 : Int32) (s : St) : Option (RT × St) :=
  bx (fX11_needPerson a1 s) (fun y_1 s_1 =>
    bx (fX11_needPart a2 s_1) (fun y_2 s_2 =>
    bd (fX10_part 33 a1 a2 s_2) (fun y_3 s_3 =>
    some (.inl y_3, s_3))))
set_option maxRecDepth 100000 in
set_option maxHeartbeats 4000000 in
theorem kX11_sky (l : Launch) (hst : l.stackTraces = false)  (a1 : Int32) (a2 : Int32) (s : St) : CX l yX11_sky cX11_sky 3 (some .int) 8 2 FULL (fun ad => [.ref (ad 0), .int a1, .int a2]) s (fX11_sky a1 a2 s) := by
  refine cx_of hst (by decide) (fun _ => (Nat.le_of_ble_eq_true rfl)) (fun X hC hR hl hN => ?_)
  subst hl
  show Zr X (QFX X (some .int) 2) 0 s 0 [(0, .ref (X_ad X 0)), (1, .int a1), (2, .int a2)] [] _
  rw [fX11_sky]
  refine zr_aload_n (pc := 0) (i := 0) 0 hC dX11_sky_0 rfl rfl ?_
  refine zr_iload_n (pc := 1) (i := 1) 1 hC dX11_sky_1 rfl rfl ?_
  refine zx_callV (pc := 2) (As := fun ad => [.int a1]) (st1 := []) hC hR (Nat.le_of_ble_eq_true rfl) (kX11_needPerson _ hR.2.2 a1 _) (Nat.le_of_ble_eq_true rfl) mc_yX11_needPerson m_1013 m_1015 m_p35 mem_0 lay_0 rfl rfl rfl rfl (Nat.le_of_ble_eq_true rfl) dX11_sky_2 (fun y_1 s_1 => ?_)
  show Zr X (QFX X (some .int) 2) 1 s_1 5 _ [] _
  refine zr_iload_n (pc := 5) (i := 2) 2 hC dX11_sky_5 rfl rfl ?_
  refine zx_callS (pc := 6) (As := fun ad => [.int a2]) (st1 := []) hC hR (Nat.le_of_ble_eq_true rfl) (kX11_needPart _ hR.2.2 a2 _) (Nat.le_of_ble_eq_true rfl) mc_yX11_needPart m_1030 m_1031 rfl rfl rfl (Nat.le_of_ble_eq_true rfl) dX11_sky_6 (fun y_2 s_2 => ?_)
  show Zr X (QFX X (some .int) 2) 2 s_2 9 _ [] _
  refine zr_aload_n (pc := 9) (i := 0) 0 hC dX11_sky_9 rfl rfl ?_
  refine zr_getR (pc := 10) (j := 5) (k1 := 32) hC mem_0 lay_0 rfl rfl (Nat.le_of_ble_eq_true rfl) iX11 m_387 dX11_sky_10 ?_
  refine zr_getR (pc := 13) (j := 0) (k1 := 33) hC mem_32 lay_32 rfl rfl (Nat.le_of_ble_eq_true rfl) iX8 m_215 dX11_sky_13 ?_
  refine zr_iload_n (pc := 16) (i := 1) 1 hC dX11_sky_16 rfl rfl ?_
  refine zr_iload_n (pc := 17) (i := 2) 2 hC dX11_sky_17 rfl rfl ?_
  refine zr_callV (pc := 18) (As := fun ad => [.int a1, .int a2]) (st1 := []) hC (Nat.le_of_ble_eq_true rfl) (kX10_part _ is_33 a1 a2 _) (Nat.le_of_ble_eq_true rfl) mc_yX10_part m_1033 m_492 m_493 mem_33 lay_33 rfl rfl rfl rfl (Nat.le_of_ble_eq_true rfl) dX11_sky_18 (fun y_3 s_3 => ?_)
  exact zx_iret (pc := 21) hC (Nat.le_of_ble_eq_true rfl) hR dX11_sky_21
def fX11_isPlace (a0 : Int32) (s : St) : Option (Int32 × St) :=
  if a0 < 0 then
    (some ((0 : Int32), s))
  else
    (if (10 : Int32) ≤ a0 then
    (some ((0 : Int32), s))
  else
    (some ((1 : Int32), s)))
set_option maxRecDepth 100000 in
set_option maxHeartbeats 4000000 in
theorem kX11_isPlace (l : Launch)  (a0 : Int32) (s : St) : CN l yX11_isPlace cX11_isPlace 1 (some .boolean) 1 FULL (fun ad => [.int a0]) s (fX11_isPlace a0 s) := by
  refine cn_of (by decide) (fun _ => (Nat.le_of_ble_eq_true rfl)) (fun X hC hR hl hN => ?_)
  subst hl
  show Zr X (QFN X (some .boolean)) 0 s 0 [(0, .int a0)] [] _
  rw [fX11_isPlace]
  refine zr_iload_n (pc := 0) (i := 0) 0 hC dX11_isPlace_0 rfl rfl ?_
  refine zr_if_lt (pc := 1) (tgt := 14) hC dX11_isPlace_1 (by decide) (fun c_ => ?_) (fun c_ => ?_)
  · refine zr_iconst (pc := 14) (v := (0 : Int32)) hC dX11_isPlace_14 ic_0 ?_
    exact zr_zret (pc := 15) (by decide) hC hR dX11_isPlace_15
  · refine zr_iload_n (pc := 4) (i := 0) 0 hC dX11_isPlace_4 rfl rfl ?_
    refine zr_bipush (pc := 5) (v := (10 : Int32)) hC dX11_isPlace_5 bi_10 ?_
    refine zr_icmp_ge (pc := 7) (tgt := 14) hC dX11_isPlace_7 (by decide) (fun c_ => ?_) (fun c_ => ?_)
    · refine zr_iconst (pc := 14) (v := (0 : Int32)) hC dX11_isPlace_14 ic_0 ?_
      exact zr_zret (pc := 15) (by decide) hC hR dX11_isPlace_15
    · refine zr_iconst (pc := 10) (v := (1 : Int32)) hC dX11_isPlace_10 ic_1 ?_
      refine zr_goto (pc := 11) (tgt := 15) hC dX11_isPlace_11 (by decide) ?_
      exact zr_zret (pc := 15) (by decide) hC hR dX11_isPlace_15
def fX11_greatest (a0 : Int32) (a1 : Int32) (a2 : Int32) (a3 : Int32) (s : St) : Option (Int32 × St) :=
  if 0 < (jmax (jmax a0 a1) (jmax a2 a3)) then
    (if a0 = (jmax (jmax a0 a1) (jmax a2 a3)) then
    (some ((0 : Int32), s))
  else
    (if a1 = (jmax (jmax a0 a1) (jmax a2 a3)) then
    (some ((1 : Int32), s))
  else
    (if a2 = (jmax (jmax a0 a1) (jmax a2 a3)) then
    (some ((2 : Int32), s))
  else
    (some ((3 : Int32), s)))))
  else
    (some ((4 : Int32), s))
set_option maxRecDepth 100000 in
set_option maxHeartbeats 4000000 in
theorem kX11_greatest (l : Launch)  (a0 : Int32) (a1 : Int32) (a2 : Int32) (a3 : Int32) (s : St) : CN l yX11_greatest cX11_greatest 5 (some .int) 7 FULL (fun ad => [.int a0, .int a1, .int a2, .int a3]) s (fX11_greatest a0 a1 a2 a3 s) := by
  refine cn_of (by decide) (fun _ => (Nat.le_of_ble_eq_true rfl)) (fun X hC hR hl hN => ?_)
  subst hl
  show Zr X (QFN X (some .int)) 0 s 0 [(0, .int a0), (1, .int a1), (2, .int a2), (3, .int a3)] [] _
  rw [fX11_greatest]
  refine zr_iload_n (pc := 0) (i := 0) 0 hC dX11_greatest_0 rfl rfl ?_
  refine zr_iload_n (pc := 1) (i := 1) 1 hC dX11_greatest_1 rfl rfl ?_
  refine zr_mmax (pc := 2) hC (Nat.le_of_ble_eq_true rfl) (Nat.le_of_ble_eq_true rfl) m_1052 m_1053 m_23 m_1054 (Nat.le_of_ble_eq_true rfl) dX11_greatest_2 ?_
  refine zr_iload_n (pc := 5) (i := 2) 2 hC dX11_greatest_5 rfl rfl ?_
  refine zr_iload_n (pc := 6) (i := 3) 3 hC dX11_greatest_6 rfl rfl ?_
  refine zr_mmax (pc := 7) hC (Nat.le_of_ble_eq_true rfl) (Nat.le_of_ble_eq_true rfl) m_1052 m_1053 m_23 m_1054 (Nat.le_of_ble_eq_true rfl) dX11_greatest_7 ?_
  refine zr_mmax (pc := 10) hC (Nat.le_of_ble_eq_true rfl) (Nat.le_of_ble_eq_true rfl) m_1052 m_1053 m_23 m_1054 (Nat.le_of_ble_eq_true rfl) dX11_greatest_10 ?_
  refine zr_istore (pc := 13) (ls' := [(4, _), (0, _), (1, _), (2, _), (3, _)]) hC dX11_greatest_13 (nlt hN (Nat.le_of_ble_eq_true rfl)) rfl ?_
  refine zr_iload (pc := 15) 0 hC dX11_greatest_15 rfl ?_
  refine zr_if_gt (pc := 17) (tgt := 22) hC dX11_greatest_17 (by decide) (fun c_ => ?_) (fun c_ => ?_)
  · refine zr_iload_n (pc := 22) (i := 0) 1 hC dX11_greatest_22 rfl rfl ?_
    refine zr_iload (pc := 23) 0 hC dX11_greatest_23 rfl ?_
    refine zr_icmp_ne (pc := 25) (tgt := 30) hC dX11_greatest_25 (by decide) (fun c_ => ?_) (fun c_ => ?_)
    · refine zr_iconst (pc := 28) (v := (0 : Int32)) hC dX11_greatest_28 ic_0 ?_
      exact zr_iret (pc := 29) hC hR dX11_greatest_29
    · refine zr_iload_n (pc := 30) (i := 1) 2 hC dX11_greatest_30 rfl rfl ?_
      refine zr_iload (pc := 31) 0 hC dX11_greatest_31 rfl ?_
      refine zr_icmp_ne (pc := 33) (tgt := 38) hC dX11_greatest_33 (by decide) (fun c_ => ?_) (fun c_ => ?_)
      · refine zr_iconst (pc := 36) (v := (1 : Int32)) hC dX11_greatest_36 ic_1 ?_
        exact zr_iret (pc := 37) hC hR dX11_greatest_37
      · refine zr_iload_n (pc := 38) (i := 2) 3 hC dX11_greatest_38 rfl rfl ?_
        refine zr_iload (pc := 39) 0 hC dX11_greatest_39 rfl ?_
        refine zr_icmp_ne (pc := 41) (tgt := 48) hC dX11_greatest_41 (by decide) (fun c_ => ?_) (fun c_ => ?_)
        · refine zr_iconst (pc := 44) (v := (2 : Int32)) hC dX11_greatest_44 ic_2 ?_
          refine zr_goto (pc := 45) (tgt := 49) hC dX11_greatest_45 (by decide) ?_
          exact zr_iret (pc := 49) hC hR dX11_greatest_49
        · refine zr_iconst (pc := 48) (v := (3 : Int32)) hC dX11_greatest_48 ic_3 ?_
          exact zr_iret (pc := 49) hC hR dX11_greatest_49
  · refine zr_iconst (pc := 20) (v := (4 : Int32)) hC dX11_greatest_20 ic_4 ?_
    exact zr_iret (pc := 21) hC hR dX11_greatest_21
def fX10_kind_L4 (k57 : Int32 → St → Option (Int32 × St)) (w : Nat) (c1 : Int32) : Nat → Int32 → Int32 → St → Option (Int32 × St)
  | 0, _, _, _ => none
  | n + 1, v2, v3, s =>
    if (12 : Int32) ≤ v3 then
    (k57 v2 s)
  else
    (bd (fX10_place w v3 s) (fun y_1 s_1 =>
    if y_1 = c1 then
    (bd (fX10_part w v3 (0 : Int32) s_1) (fun y_2 s_2 =>
    bd (fX10_part w v3 (1 : Int32) s_2) (fun y_3 s_3 =>
    bd (fX10_part w v3 (2 : Int32) s_3) (fun y_4 s_4 =>
    bd (fX10_part w v3 (3 : Int32) s_4) (fun y_5 s_5 =>
    bd (fX11_greatest y_2 y_3 y_4 y_5 s_5) (fun y_6 s_6 =>
    fX10_kind_L4 k57 w c1 n (v2 ||| (jshl (1 : Int32) y_6)) (v3 + (1 : Int32)) s_6))))))
  else
    (fX10_kind_L4 k57 w c1 n v2 (v3 + (1 : Int32)) s_1)))
set_option maxRecDepth 100000 in
set_option maxHeartbeats 4000000 in
theorem tX10_kind_L4 (w : Nat) (c1 : Int32) (k57 : Int32 → St → Option (Int32 × St)) (X : KX) (hC : Ctx X RX10 cX10_kind FULL 8 0) (hR : RC X (some .int)) (hN : X_nL X = 4) (hw : isWd w) (hk57 : ∀ (v2 : Int32) (s : St), Zr X (QFN X (some .int)) 0 s 57 [(0, .ref (X_ad X w)), (1, .int c1), (2, .int v2)] [] (k57 v2 s)) : ∀ (n : Nat) (v2 : Int32) (v3 : Int32) (s : St), Zr X (QFN X (some .int)) 0 s 4 [(0, .ref (X_ad X w)), (1, .int c1), (2, .int v2), (3, .int v3)] [] (fX10_kind_L4 k57 w c1 n v2 v3 s) := by
  intro n
  induction n with
  | zero =>
    intro v2 v3 s
    exact zr_none
  | succ n ih =>
    intro v2 v3 s
    rw [fX10_kind_L4]
    refine zr_iload_n (pc := 4) (i := 3) 3 hC dX10_kind_4 rfl rfl ?_
    refine zr_bipush (pc := 5) (v := (12 : Int32)) hC dX10_kind_5 bi_12 ?_
    refine zr_icmp_ge (pc := 7) (tgt := 57) hC dX10_kind_7 (by decide) (fun c_ => ?_) (fun c_ => ?_)
    · refine zr_sub (ls' := [(0, _), (1, _), (2, _)]) [0, 1, 2] rfl ?_
      exact hk57 v2 s
    · refine zr_aload_n (pc := 10) (i := 0) 0 hC dX10_kind_10 rfl rfl ?_
      refine zr_iload_n (pc := 11) (i := 3) 3 hC dX10_kind_11 rfl rfl ?_
      refine zr_callV (pc := 12) (As := fun ad => [.int v3]) (st1 := []) hC (Nat.le_of_ble_eq_true rfl) (kX10_place _ hw v3 _) (Nat.le_of_ble_eq_true rfl) mc_yX10_place m_487 m_488 m_489 hw.1.1 hw.1.2 rfl rfl rfl rfl (Nat.le_of_ble_eq_true rfl) dX10_kind_12 (fun y_1 s_1 => ?_)
      refine zr_iload_n (pc := 15) (i := 1) 1 hC dX10_kind_15 rfl rfl ?_
      refine zr_icmp_ne (pc := 16) (tgt := 51) hC dX10_kind_16 (by decide) (fun c_ => ?_) (fun c_ => ?_)
      · refine zr_iload_n (pc := 19) (i := 2) 2 hC dX10_kind_19 rfl rfl ?_
        refine zr_iconst (pc := 20) (v := (1 : Int32)) hC dX10_kind_20 ic_1 ?_
        refine zr_aload_n (pc := 21) (i := 0) 0 hC dX10_kind_21 rfl rfl ?_
        refine zr_iload_n (pc := 22) (i := 3) 3 hC dX10_kind_22 rfl rfl ?_
        refine zr_iconst (pc := 23) (v := (0 : Int32)) hC dX10_kind_23 ic_0 ?_
        refine zr_callV (pc := 24) (As := fun ad => [.int v3, .int (0 : Int32)]) (st1 := [.int (1 : Int32), .int v2]) hC (Nat.le_of_ble_eq_true rfl) (kX10_part _ hw v3 (0 : Int32) _) (Nat.le_of_ble_eq_true rfl) mc_yX10_part m_491 m_492 m_493 hw.1.1 hw.1.2 rfl rfl rfl rfl (Nat.le_of_ble_eq_true rfl) dX10_kind_24 (fun y_2 s_2 => ?_)
        refine zr_aload_n (pc := 27) (i := 0) 0 hC dX10_kind_27 rfl rfl ?_
        refine zr_iload_n (pc := 28) (i := 3) 3 hC dX10_kind_28 rfl rfl ?_
        refine zr_iconst (pc := 29) (v := (1 : Int32)) hC dX10_kind_29 ic_1 ?_
        refine zr_callV (pc := 30) (As := fun ad => [.int v3, .int (1 : Int32)]) (st1 := [.int y_2, .int (1 : Int32), .int v2]) hC (Nat.le_of_ble_eq_true rfl) (kX10_part _ hw v3 (1 : Int32) _) (Nat.le_of_ble_eq_true rfl) mc_yX10_part m_491 m_492 m_493 hw.1.1 hw.1.2 rfl rfl rfl rfl (Nat.le_of_ble_eq_true rfl) dX10_kind_30 (fun y_3 s_3 => ?_)
        refine zr_aload_n (pc := 33) (i := 0) 0 hC dX10_kind_33 rfl rfl ?_
        refine zr_iload_n (pc := 34) (i := 3) 3 hC dX10_kind_34 rfl rfl ?_
        refine zr_iconst (pc := 35) (v := (2 : Int32)) hC dX10_kind_35 ic_2 ?_
        refine zr_callV (pc := 36) (As := fun ad => [.int v3, .int (2 : Int32)]) (st1 := [.int y_3, .int y_2, .int (1 : Int32), .int v2]) hC (Nat.le_of_ble_eq_true rfl) (kX10_part _ hw v3 (2 : Int32) _) (Nat.le_of_ble_eq_true rfl) mc_yX10_part m_491 m_492 m_493 hw.1.1 hw.1.2 rfl rfl rfl rfl (Nat.le_of_ble_eq_true rfl) dX10_kind_36 (fun y_4 s_4 => ?_)
        refine zr_aload_n (pc := 39) (i := 0) 0 hC dX10_kind_39 rfl rfl ?_
        refine zr_iload_n (pc := 40) (i := 3) 3 hC dX10_kind_40 rfl rfl ?_
        refine zr_iconst (pc := 41) (v := (3 : Int32)) hC dX10_kind_41 ic_3 ?_
        refine zr_callV (pc := 42) (As := fun ad => [.int v3, .int (3 : Int32)]) (st1 := [.int y_4, .int y_3, .int y_2, .int (1 : Int32), .int v2]) hC (Nat.le_of_ble_eq_true rfl) (kX10_part _ hw v3 (3 : Int32) _) (Nat.le_of_ble_eq_true rfl) mc_yX10_part m_491 m_492 m_493 hw.1.1 hw.1.2 rfl rfl rfl rfl (Nat.le_of_ble_eq_true rfl) dX10_kind_42 (fun y_5 s_5 => ?_)
        refine zr_callSN (pc := 45) (As := fun ad => [.int y_2, .int y_3, .int y_4, .int y_5]) (st1 := [.int (1 : Int32), .int v2]) hC (Nat.le_of_ble_eq_true rfl) (kX11_greatest _ y_2 y_3 y_4 y_5 _) (Nat.le_of_ble_eq_true rfl) mc_yX11_greatest m_1049 m_1050 rfl rfl (Nat.le_of_ble_eq_true rfl) dX10_kind_45 (fun y_6 s_6 => ?_)
        refine zr_ishl (pc := 48) hC dX10_kind_48 ?_
        refine zr_ior (pc := 49) hC dX10_kind_49 ?_
        refine zr_istore_n (pc := 50) (i := 2) (ls' := [(2, _), (0, _), (1, _), (3, _)]) hC dX10_kind_50 rfl (nlt hN (Nat.le_of_ble_eq_true rfl)) rfl ?_
        refine zr_iinc (pc := 51) (q := 3) (ls' := [(3, _), (2, _), (0, _), (1, _)]) hC dX10_kind_51 rfl (inc_1 _) (nlt hN (Nat.le_of_ble_eq_true rfl)) rfl ?_
        refine zr_goto (pc := 54) (tgt := 4) hC dX10_kind_54 (by decide) ?_
        refine zr_sub (ls' := [(0, _), (1, _), (2, _), (3, _)]) [2, 3, 1, 0] rfl ?_
        exact ih (v2 ||| (jshl (1 : Int32) y_6)) (v3 + (1 : Int32)) s_6
      · refine zr_iinc (pc := 51) (q := 3) (ls' := [(3, _), (0, _), (1, _), (2, _)]) hC dX10_kind_51 rfl (inc_1 _) (nlt hN (Nat.le_of_ble_eq_true rfl)) rfl ?_
        refine zr_goto (pc := 54) (tgt := 4) hC dX10_kind_54 (by decide) ?_
        refine zr_sub (ls' := [(0, _), (1, _), (2, _), (3, _)]) [1, 2, 3, 0] rfl ?_
        exact ih v2 (v3 + (1 : Int32)) s_1
def fX10_kind (w : Nat) (a1 : Int32) (s : St) : Option (Int32 × St) :=
  fX10_kind_L4 (fun v2_7 s_7 => if (v2_7 &&& (10 : Int32)) = (10 : Int32) then
    (some ((5 : Int32), s_7))
  else
    (bd (fX10_falls w a1 (0 : Int32) s_7) (fun y_8 s_8 =>
    bd (fX10_falls w a1 (1 : Int32) s_8) (fun y_9 s_9 =>
    bd (fX10_falls w a1 (2 : Int32) s_9) (fun y_10 s_10 =>
    bd (fX10_falls w a1 (3 : Int32) s_10) (fun y_11 s_11 =>
    bd (fX11_greatest y_8 y_9 y_10 y_11 s_11) (fun y_12 s_12 =>
    some (y_12, s_12)))))))) w a1 FU (0 : Int32) (0 : Int32) s
set_option maxRecDepth 100000 in
set_option maxHeartbeats 4000000 in
theorem kX10_kind (l : Launch)  {w : Nat} (hw : isWd w) (a1 : Int32) (s : St) : CN l yX10_kind cX10_kind 4 (some .int) 8 FULL (fun ad => [.ref (ad w), .int a1]) s (fX10_kind w a1 s) := by
  refine cn_of (by decide) (fun _ => (Nat.le_of_ble_eq_true rfl)) (fun X hC hR hl hN => ?_)
  subst hl
  show Zr X (QFN X (some .int)) 0 s 0 [(0, .ref (X_ad X w)), (1, .int a1)] [] _
  rw [fX10_kind]
  refine zr_iconst (pc := 0) (v := (0 : Int32)) hC dX10_kind_0 ic_0 ?_
  refine zr_istore_n (pc := 1) (i := 2) (ls' := [(2, _), (0, _), (1, _)]) hC dX10_kind_1 rfl (nlt hN (Nat.le_of_ble_eq_true rfl)) rfl ?_
  refine zr_iconst (pc := 2) (v := (0 : Int32)) hC dX10_kind_2 ic_0 ?_
  refine zr_istore_n (pc := 3) (i := 3) (ls' := [(3, _), (2, _), (0, _), (1, _)]) hC dX10_kind_3 rfl (nlt hN (Nat.le_of_ble_eq_true rfl)) rfl ?_
  refine zr_sub (ls' := [(0, _), (1, _), (2, _), (3, _)]) [2, 3, 1, 0] rfl ?_
  refine tX10_kind_L4 w a1 _ X hC hR hN hw (fun v2_7 s_7 => ?_) FU (0 : Int32) (0 : Int32) _
  · refine zr_bipush (pc := 57) (v := (10 : Int32)) hC dX10_kind_57 bi_10 ?_
    refine zr_istore_n (pc := 59) (i := 3) (ls' := [(3, _), (0, _), (1, _), (2, _)]) hC dX10_kind_59 rfl (nlt hN (Nat.le_of_ble_eq_true rfl)) rfl ?_
    refine zr_iload_n (pc := 60) (i := 2) 3 hC dX10_kind_60 rfl rfl ?_
    refine zr_iload_n (pc := 61) (i := 3) 0 hC dX10_kind_61 rfl rfl ?_
    refine zr_iand (pc := 62) hC dX10_kind_62 ?_
    refine zr_iload_n (pc := 63) (i := 3) 0 hC dX10_kind_63 rfl rfl ?_
    refine zr_icmp_ne (pc := 64) (tgt := 69) hC dX10_kind_64 (by decide) (fun c_ => ?_) (fun c_ => ?_)
    · refine zr_iconst (pc := 67) (v := (5 : Int32)) hC dX10_kind_67 ic_5 ?_
      exact zr_iret (pc := 68) hC hR dX10_kind_68
    · refine zr_aload_n (pc := 69) (i := 0) 1 hC dX10_kind_69 rfl rfl ?_
      refine zr_iload_n (pc := 70) (i := 1) 2 hC dX10_kind_70 rfl rfl ?_
      refine zr_iconst (pc := 71) (v := (0 : Int32)) hC dX10_kind_71 ic_0 ?_
      refine zr_callV (pc := 72) (As := fun ad => [.int a1, .int (0 : Int32)]) (st1 := []) hC (Nat.le_of_ble_eq_true rfl) (kX10_falls _ hw a1 (0 : Int32) _) (Nat.le_of_ble_eq_true rfl) mc_yX10_falls m_479 m_480 m_481 hw.1.1 hw.1.2 rfl rfl rfl rfl (Nat.le_of_ble_eq_true rfl) dX10_kind_72 (fun y_8 s_8 => ?_)
      refine zr_aload_n (pc := 75) (i := 0) 1 hC dX10_kind_75 rfl rfl ?_
      refine zr_iload_n (pc := 76) (i := 1) 2 hC dX10_kind_76 rfl rfl ?_
      refine zr_iconst (pc := 77) (v := (1 : Int32)) hC dX10_kind_77 ic_1 ?_
      refine zr_callV (pc := 78) (As := fun ad => [.int a1, .int (1 : Int32)]) (st1 := [.int y_8]) hC (Nat.le_of_ble_eq_true rfl) (kX10_falls _ hw a1 (1 : Int32) _) (Nat.le_of_ble_eq_true rfl) mc_yX10_falls m_479 m_480 m_481 hw.1.1 hw.1.2 rfl rfl rfl rfl (Nat.le_of_ble_eq_true rfl) dX10_kind_78 (fun y_9 s_9 => ?_)
      refine zr_aload_n (pc := 81) (i := 0) 1 hC dX10_kind_81 rfl rfl ?_
      refine zr_iload_n (pc := 82) (i := 1) 2 hC dX10_kind_82 rfl rfl ?_
      refine zr_iconst (pc := 83) (v := (2 : Int32)) hC dX10_kind_83 ic_2 ?_
      refine zr_callV (pc := 84) (As := fun ad => [.int a1, .int (2 : Int32)]) (st1 := [.int y_9, .int y_8]) hC (Nat.le_of_ble_eq_true rfl) (kX10_falls _ hw a1 (2 : Int32) _) (Nat.le_of_ble_eq_true rfl) mc_yX10_falls m_479 m_480 m_481 hw.1.1 hw.1.2 rfl rfl rfl rfl (Nat.le_of_ble_eq_true rfl) dX10_kind_84 (fun y_10 s_10 => ?_)
      refine zr_aload_n (pc := 87) (i := 0) 1 hC dX10_kind_87 rfl rfl ?_
      refine zr_iload_n (pc := 88) (i := 1) 2 hC dX10_kind_88 rfl rfl ?_
      refine zr_iconst (pc := 89) (v := (3 : Int32)) hC dX10_kind_89 ic_3 ?_
      refine zr_callV (pc := 90) (As := fun ad => [.int a1, .int (3 : Int32)]) (st1 := [.int y_10, .int y_9, .int y_8]) hC (Nat.le_of_ble_eq_true rfl) (kX10_falls _ hw a1 (3 : Int32) _) (Nat.le_of_ble_eq_true rfl) mc_yX10_falls m_479 m_480 m_481 hw.1.1 hw.1.2 rfl rfl rfl rfl (Nat.le_of_ble_eq_true rfl) dX10_kind_90 (fun y_11 s_11 => ?_)
      refine zr_callSN (pc := 93) (As := fun ad => [.int y_8, .int y_9, .int y_10, .int y_11]) (st1 := []) hC (Nat.le_of_ble_eq_true rfl) (kX11_greatest _ y_8 y_9 y_10 y_11 _) (Nat.le_of_ble_eq_true rfl) mc_yX11_greatest m_1049 m_1050 rfl rfl (Nat.le_of_ble_eq_true rfl) dX10_kind_93 (fun y_12 s_12 => ?_)
      exact zr_iret (pc := 96) hC hR dX10_kind_96
def fX10_manyThere_L4 (w : Nat) (c1 : Int32) : Nat → Int32 → Int32 → St → Option (Int32 × St)
  | 0, _, _, _ => none
  | n + 1, v2, v3, s =>
    if (12 : Int32) ≤ v3 then
    (some (v2, s))
  else
    (bd (fX10_place w v3 s) (fun y_1 s_1 =>
    if y_1 = c1 then
    (fX10_manyThere_L4 w c1 n (v2 + (1 : Int32)) (v3 + (1 : Int32)) s_1)
  else
    (fX10_manyThere_L4 w c1 n (v2 + (0 : Int32)) (v3 + (1 : Int32)) s_1)))
set_option maxRecDepth 100000 in
set_option maxHeartbeats 4000000 in
theorem tX10_manyThere_L4 (w : Nat) (c1 : Int32) (X : KX) (hC : Ctx X RX10 cX10_manyThere FULL 3 0) (hR : RC X (some .int)) (hN : X_nL X = 4) (hw : isWd w) : ∀ (n : Nat) (v2 : Int32) (v3 : Int32) (s : St), Zr X (QFN X (some .int)) 0 s 4 [(0, .ref (X_ad X w)), (1, .int c1), (2, .int v2), (3, .int v3)] [] (fX10_manyThere_L4 w c1 n v2 v3 s) := by
  intro n
  induction n with
  | zero =>
    intro v2 v3 s
    exact zr_none
  | succ n ih =>
    intro v2 v3 s
    rw [fX10_manyThere_L4]
    refine zr_iload_n (pc := 4) (i := 3) 3 hC dX10_manyThere_4 rfl rfl ?_
    refine zr_bipush (pc := 5) (v := (12 : Int32)) hC dX10_manyThere_5 bi_12 ?_
    refine zr_icmp_ge (pc := 7) (tgt := 33) hC dX10_manyThere_7 (by decide) (fun c_ => ?_) (fun c_ => ?_)
    · refine zr_iload_n (pc := 33) (i := 2) 2 hC dX10_manyThere_33 rfl rfl ?_
      exact zr_iret (pc := 34) hC hR dX10_manyThere_34
    · refine zr_iload_n (pc := 10) (i := 2) 2 hC dX10_manyThere_10 rfl rfl ?_
      refine zr_aload_n (pc := 11) (i := 0) 0 hC dX10_manyThere_11 rfl rfl ?_
      refine zr_iload_n (pc := 12) (i := 3) 3 hC dX10_manyThere_12 rfl rfl ?_
      refine zr_callV (pc := 13) (As := fun ad => [.int v3]) (st1 := [.int v2]) hC (Nat.le_of_ble_eq_true rfl) (kX10_place _ hw v3 _) (Nat.le_of_ble_eq_true rfl) mc_yX10_place m_487 m_488 m_489 hw.1.1 hw.1.2 rfl rfl rfl rfl (Nat.le_of_ble_eq_true rfl) dX10_manyThere_13 (fun y_1 s_1 => ?_)
      refine zr_iload_n (pc := 16) (i := 1) 1 hC dX10_manyThere_16 rfl rfl ?_
      refine zr_icmp_ne (pc := 17) (tgt := 24) hC dX10_manyThere_17 (by decide) (fun c_ => ?_) (fun c_ => ?_)
      · refine zr_iconst (pc := 20) (v := (1 : Int32)) hC dX10_manyThere_20 ic_1 ?_
        refine zr_goto (pc := 21) (tgt := 25) hC dX10_manyThere_21 (by decide) ?_
        refine zr_iadd (pc := 25) hC dX10_manyThere_25 ?_
        refine zr_istore_n (pc := 26) (i := 2) (ls' := [(2, _), (0, _), (1, _), (3, _)]) hC dX10_manyThere_26 rfl (nlt hN (Nat.le_of_ble_eq_true rfl)) rfl ?_
        refine zr_iinc (pc := 27) (q := 3) (ls' := [(3, _), (2, _), (0, _), (1, _)]) hC dX10_manyThere_27 rfl (inc_1 _) (nlt hN (Nat.le_of_ble_eq_true rfl)) rfl ?_
        refine zr_goto (pc := 30) (tgt := 4) hC dX10_manyThere_30 (by decide) ?_
        refine zr_sub (ls' := [(0, _), (1, _), (2, _), (3, _)]) [2, 3, 1, 0] rfl ?_
        exact ih (v2 + (1 : Int32)) (v3 + (1 : Int32)) s_1
      · refine zr_iconst (pc := 24) (v := (0 : Int32)) hC dX10_manyThere_24 ic_0 ?_
        refine zr_iadd (pc := 25) hC dX10_manyThere_25 ?_
        refine zr_istore_n (pc := 26) (i := 2) (ls' := [(2, _), (0, _), (1, _), (3, _)]) hC dX10_manyThere_26 rfl (nlt hN (Nat.le_of_ble_eq_true rfl)) rfl ?_
        refine zr_iinc (pc := 27) (q := 3) (ls' := [(3, _), (2, _), (0, _), (1, _)]) hC dX10_manyThere_27 rfl (inc_1 _) (nlt hN (Nat.le_of_ble_eq_true rfl)) rfl ?_
        refine zr_goto (pc := 30) (tgt := 4) hC dX10_manyThere_30 (by decide) ?_
        refine zr_sub (ls' := [(0, _), (1, _), (2, _), (3, _)]) [2, 3, 1, 0] rfl ?_
        exact ih (v2 + (0 : Int32)) (v3 + (1 : Int32)) s_1
def fX10_manyThere (w : Nat) (a1 : Int32) (s : St) : Option (Int32 × St) :=
  fX10_manyThere_L4 w a1 FU (0 : Int32) (0 : Int32) s
set_option maxRecDepth 100000 in
set_option maxHeartbeats 4000000 in
theorem kX10_manyThere (l : Launch)  {w : Nat} (hw : isWd w) (a1 : Int32) (s : St) : CN l yX10_manyThere cX10_manyThere 4 (some .int) 3 FULL (fun ad => [.ref (ad w), .int a1]) s (fX10_manyThere w a1 s) := by
  refine cn_of (by decide) (fun _ => (Nat.le_of_ble_eq_true rfl)) (fun X hC hR hl hN => ?_)
  subst hl
  show Zr X (QFN X (some .int)) 0 s 0 [(0, .ref (X_ad X w)), (1, .int a1)] [] _
  rw [fX10_manyThere]
  refine zr_iconst (pc := 0) (v := (0 : Int32)) hC dX10_manyThere_0 ic_0 ?_
  refine zr_istore_n (pc := 1) (i := 2) (ls' := [(2, _), (0, _), (1, _)]) hC dX10_manyThere_1 rfl (nlt hN (Nat.le_of_ble_eq_true rfl)) rfl ?_
  refine zr_iconst (pc := 2) (v := (0 : Int32)) hC dX10_manyThere_2 ic_0 ?_
  refine zr_istore_n (pc := 3) (i := 3) (ls' := [(3, _), (2, _), (0, _), (1, _)]) hC dX10_manyThere_3 rfl (nlt hN (Nat.le_of_ble_eq_true rfl)) rfl ?_
  refine zr_sub (ls' := [(0, _), (1, _), (2, _), (3, _)]) [2, 3, 1, 0] rfl ?_
  exact tX10_manyThere_L4 w a1 X hC hR hN hw FU (0 : Int32) (0 : Int32) _
def fX11_weather (a1 : Int32) (a2 : Int32) (s : St) : Option (RT × St) :=
  bd (fX11_isPlace a1 s) (fun y_1 s_1 =>
    if y_1 = 0 then
    (some (.inr 0, s_1))
  else
    (if a2 = (0 : Int32) then
    (bd (fX10_falls 33 a1 a2 s_1) (fun y_2 s_2 =>
    some (.inl y_2, s_2)))
  else
    (if a2 = (1 : Int32) then
    (bd (fX10_falls 33 a1 a2 s_1) (fun y_3 s_3 =>
    some (.inl y_3, s_3)))
  else
    (if a2 = (2 : Int32) then
    (bd (fX10_falls 33 a1 a2 s_1) (fun y_4 s_4 =>
    some (.inl y_4, s_4)))
  else
    (if a2 = (3 : Int32) then
    (bd (fX10_falls 33 a1 a2 s_1) (fun y_5 s_5 =>
    some (.inl y_5, s_5)))
  else
    (if a2 = (4 : Int32) then
    (bd (fX10_kind 33 a1 s_1) (fun y_6 s_6 =>
    some (.inl y_6, s_6)))
  else
    (if a2 = (5 : Int32) then
    (bd (fX10_manyThere 33 a1 s_1) (fun y_7 s_7 =>
    some (.inl y_7, s_7)))
  else
    (if a2 = (6 : Int32) then
    (bd (fX10_noons 33 a1 s_1) (fun y_8 s_8 =>
    some (.inl y_8, s_8)))
  else
    (some (.inr 0, s_1))))))))))
set_option maxRecDepth 100000 in
set_option maxHeartbeats 4000000 in
theorem kX11_weather (l : Launch) (hst : l.stackTraces = false)  (a1 : Int32) (a2 : Int32) (s : St) : CX l yX11_weather cX11_weather 3 (some .int) 9 1 FULL (fun ad => [.ref (ad 0), .int a1, .int a2]) s (fX11_weather a1 a2 s) := by
  refine cx_of hst (by decide) (fun _ => (Nat.le_of_ble_eq_true rfl)) (fun X hC hR hl hN => ?_)
  subst hl
  show Zr X (QFX X (some .int) 1) 0 s 0 [(0, .ref (X_ad X 0)), (1, .int a1), (2, .int a2)] [] _
  rw [fX11_weather]
  refine zr_iload_n (pc := 0) (i := 1) 1 hC dX11_weather_0 rfl rfl ?_
  refine zr_callS (pc := 1) (As := fun ad => [.int a1]) (st1 := []) hC (Nat.le_of_ble_eq_true rfl) (kX11_isPlace _ a1 _) (Nat.le_of_ble_eq_true rfl) mc_yX11_isPlace m_1041 m_1042 rfl rfl rfl (Nat.le_of_ble_eq_true rfl) dX11_weather_1 (fun y_1 s_1 => ?_)
  refine zr_if_ne (pc := 4) (tgt := 15) hC dX11_weather_4 (by decide) (fun c_ => ?_) (fun c_ => ?_)
  · exact zx_thr0 (pc := 7) hC (Nat.le_of_ble_eq_true rfl) hR (Nat.le_of_ble_eq_true rfl) (Nat.le_of_ble_eq_true rfl) dX11_weather_7 dX11_weather_10 dX11_weather_11 dX11_weather_14
  · refine zr_iload_n (pc := 15) (i := 2) 2 hC dX11_weather_15 rfl rfl ?_
    refine zr_tcase (pc := 16) (v := (0 : Int32)) (off := 44) (tgt := 60) hC dX11_weather_16 (by decide) (by decide) (by decide) (by decide) ?_ (fun e0 => ?_)
    · refine zr_aload_n (pc := 60) (i := 0) 0 hC dX11_weather_60 rfl rfl ?_
      refine zr_getR (pc := 61) (j := 5) (k1 := 32) hC mem_0 lay_0 rfl rfl (Nat.le_of_ble_eq_true rfl) iX11 m_387 dX11_weather_61 ?_
      refine zr_getR (pc := 64) (j := 0) (k1 := 33) hC mem_32 lay_32 rfl rfl (Nat.le_of_ble_eq_true rfl) iX8 m_215 dX11_weather_64 ?_
      refine zr_iload_n (pc := 67) (i := 1) 1 hC dX11_weather_67 rfl rfl ?_
      refine zr_iload_n (pc := 68) (i := 2) 2 hC dX11_weather_68 rfl rfl ?_
      refine zr_callV (pc := 69) (As := fun ad => [.int a1, .int a2]) (st1 := []) hC (Nat.le_of_ble_eq_true rfl) (kX10_falls _ is_33 a1 a2 _) (Nat.le_of_ble_eq_true rfl) mc_yX10_falls m_1044 m_480 m_481 mem_33 lay_33 rfl rfl rfl rfl (Nat.le_of_ble_eq_true rfl) dX11_weather_69 (fun y_2 s_2 => ?_)
      exact zx_iret (pc := 72) hC (Nat.le_of_ble_eq_true rfl) hR dX11_weather_72
    refine zr_tcase (pc := 16) (v := (1 : Int32)) (off := 44) (tgt := 60) hC dX11_weather_16 (by decide) (by decide) (by decide) (by decide) ?_ (fun e1 => ?_)
    · refine zr_aload_n (pc := 60) (i := 0) 0 hC dX11_weather_60 rfl rfl ?_
      refine zr_getR (pc := 61) (j := 5) (k1 := 32) hC mem_0 lay_0 rfl rfl (Nat.le_of_ble_eq_true rfl) iX11 m_387 dX11_weather_61 ?_
      refine zr_getR (pc := 64) (j := 0) (k1 := 33) hC mem_32 lay_32 rfl rfl (Nat.le_of_ble_eq_true rfl) iX8 m_215 dX11_weather_64 ?_
      refine zr_iload_n (pc := 67) (i := 1) 1 hC dX11_weather_67 rfl rfl ?_
      refine zr_iload_n (pc := 68) (i := 2) 2 hC dX11_weather_68 rfl rfl ?_
      refine zr_callV (pc := 69) (As := fun ad => [.int a1, .int a2]) (st1 := []) hC (Nat.le_of_ble_eq_true rfl) (kX10_falls _ is_33 a1 a2 _) (Nat.le_of_ble_eq_true rfl) mc_yX10_falls m_1044 m_480 m_481 mem_33 lay_33 rfl rfl rfl rfl (Nat.le_of_ble_eq_true rfl) dX11_weather_69 (fun y_3 s_3 => ?_)
      exact zx_iret (pc := 72) hC (Nat.le_of_ble_eq_true rfl) hR dX11_weather_72
    refine zr_tcase (pc := 16) (v := (2 : Int32)) (off := 44) (tgt := 60) hC dX11_weather_16 (by decide) (by decide) (by decide) (by decide) ?_ (fun e2 => ?_)
    · refine zr_aload_n (pc := 60) (i := 0) 0 hC dX11_weather_60 rfl rfl ?_
      refine zr_getR (pc := 61) (j := 5) (k1 := 32) hC mem_0 lay_0 rfl rfl (Nat.le_of_ble_eq_true rfl) iX11 m_387 dX11_weather_61 ?_
      refine zr_getR (pc := 64) (j := 0) (k1 := 33) hC mem_32 lay_32 rfl rfl (Nat.le_of_ble_eq_true rfl) iX8 m_215 dX11_weather_64 ?_
      refine zr_iload_n (pc := 67) (i := 1) 1 hC dX11_weather_67 rfl rfl ?_
      refine zr_iload_n (pc := 68) (i := 2) 2 hC dX11_weather_68 rfl rfl ?_
      refine zr_callV (pc := 69) (As := fun ad => [.int a1, .int a2]) (st1 := []) hC (Nat.le_of_ble_eq_true rfl) (kX10_falls _ is_33 a1 a2 _) (Nat.le_of_ble_eq_true rfl) mc_yX10_falls m_1044 m_480 m_481 mem_33 lay_33 rfl rfl rfl rfl (Nat.le_of_ble_eq_true rfl) dX11_weather_69 (fun y_4 s_4 => ?_)
      exact zx_iret (pc := 72) hC (Nat.le_of_ble_eq_true rfl) hR dX11_weather_72
    refine zr_tcase (pc := 16) (v := (3 : Int32)) (off := 44) (tgt := 60) hC dX11_weather_16 (by decide) (by decide) (by decide) (by decide) ?_ (fun e3 => ?_)
    · refine zr_aload_n (pc := 60) (i := 0) 0 hC dX11_weather_60 rfl rfl ?_
      refine zr_getR (pc := 61) (j := 5) (k1 := 32) hC mem_0 lay_0 rfl rfl (Nat.le_of_ble_eq_true rfl) iX11 m_387 dX11_weather_61 ?_
      refine zr_getR (pc := 64) (j := 0) (k1 := 33) hC mem_32 lay_32 rfl rfl (Nat.le_of_ble_eq_true rfl) iX8 m_215 dX11_weather_64 ?_
      refine zr_iload_n (pc := 67) (i := 1) 1 hC dX11_weather_67 rfl rfl ?_
      refine zr_iload_n (pc := 68) (i := 2) 2 hC dX11_weather_68 rfl rfl ?_
      refine zr_callV (pc := 69) (As := fun ad => [.int a1, .int a2]) (st1 := []) hC (Nat.le_of_ble_eq_true rfl) (kX10_falls _ is_33 a1 a2 _) (Nat.le_of_ble_eq_true rfl) mc_yX10_falls m_1044 m_480 m_481 mem_33 lay_33 rfl rfl rfl rfl (Nat.le_of_ble_eq_true rfl) dX11_weather_69 (fun y_5 s_5 => ?_)
      exact zx_iret (pc := 72) hC (Nat.le_of_ble_eq_true rfl) hR dX11_weather_72
    refine zr_tcase (pc := 16) (v := (4 : Int32)) (off := 57) (tgt := 73) hC dX11_weather_16 (by decide) (by decide) (by decide) (by decide) ?_ (fun e4 => ?_)
    · refine zr_aload_n (pc := 73) (i := 0) 0 hC dX11_weather_73 rfl rfl ?_
      refine zr_getR (pc := 74) (j := 5) (k1 := 32) hC mem_0 lay_0 rfl rfl (Nat.le_of_ble_eq_true rfl) iX11 m_387 dX11_weather_74 ?_
      refine zr_getR (pc := 77) (j := 0) (k1 := 33) hC mem_32 lay_32 rfl rfl (Nat.le_of_ble_eq_true rfl) iX8 m_215 dX11_weather_77 ?_
      refine zr_iload_n (pc := 80) (i := 1) 1 hC dX11_weather_80 rfl rfl ?_
      refine zr_callV (pc := 81) (As := fun ad => [.int a1]) (st1 := []) hC (Nat.le_of_ble_eq_true rfl) (kX10_kind _ is_33 a1 _) (Nat.le_of_ble_eq_true rfl) mc_yX10_kind m_1045 m_1046 m_1047 mem_33 lay_33 rfl rfl rfl rfl (Nat.le_of_ble_eq_true rfl) dX11_weather_81 (fun y_6 s_6 => ?_)
      exact zx_iret (pc := 84) hC (Nat.le_of_ble_eq_true rfl) hR dX11_weather_84
    refine zr_tcase (pc := 16) (v := (5 : Int32)) (off := 69) (tgt := 85) hC dX11_weather_16 (by decide) (by decide) (by decide) (by decide) ?_ (fun e5 => ?_)
    · refine zr_aload_n (pc := 85) (i := 0) 0 hC dX11_weather_85 rfl rfl ?_
      refine zr_getR (pc := 86) (j := 5) (k1 := 32) hC mem_0 lay_0 rfl rfl (Nat.le_of_ble_eq_true rfl) iX11 m_387 dX11_weather_86 ?_
      refine zr_getR (pc := 89) (j := 0) (k1 := 33) hC mem_32 lay_32 rfl rfl (Nat.le_of_ble_eq_true rfl) iX8 m_215 dX11_weather_89 ?_
      refine zr_iload_n (pc := 92) (i := 1) 1 hC dX11_weather_92 rfl rfl ?_
      refine zr_callV (pc := 93) (As := fun ad => [.int a1]) (st1 := []) hC (Nat.le_of_ble_eq_true rfl) (kX10_manyThere _ is_33 a1 _) (Nat.le_of_ble_eq_true rfl) mc_yX10_manyThere m_1055 m_1056 m_1057 mem_33 lay_33 rfl rfl rfl rfl (Nat.le_of_ble_eq_true rfl) dX11_weather_93 (fun y_7 s_7 => ?_)
      exact zx_iret (pc := 96) hC (Nat.le_of_ble_eq_true rfl) hR dX11_weather_96
    refine zr_tcase (pc := 16) (v := (6 : Int32)) (off := 81) (tgt := 97) hC dX11_weather_16 (by decide) (by decide) (by decide) (by decide) ?_ (fun e6 => ?_)
    · refine zr_aload_n (pc := 97) (i := 0) 0 hC dX11_weather_97 rfl rfl ?_
      refine zr_getR (pc := 98) (j := 5) (k1 := 32) hC mem_0 lay_0 rfl rfl (Nat.le_of_ble_eq_true rfl) iX11 m_387 dX11_weather_98 ?_
      refine zr_getR (pc := 101) (j := 0) (k1 := 33) hC mem_32 lay_32 rfl rfl (Nat.le_of_ble_eq_true rfl) iX8 m_215 dX11_weather_101 ?_
      refine zr_iload_n (pc := 104) (i := 1) 1 hC dX11_weather_104 rfl rfl ?_
      refine zr_callV (pc := 105) (As := fun ad => [.int a1]) (st1 := []) hC (Nat.le_of_ble_eq_true rfl) (kX10_noons _ is_33 a1 _) (Nat.le_of_ble_eq_true rfl) mc_yX10_noons m_1059 m_484 m_485 mem_33 lay_33 rfl rfl rfl rfl (Nat.le_of_ble_eq_true rfl) dX11_weather_105 (fun y_8 s_8 => ?_)
      exact zx_iret (pc := 108) hC (Nat.le_of_ble_eq_true rfl) hR dX11_weather_108
    refine zr_tdef (pc := 16) (tgt := 109) [(0 : Int32), (1 : Int32), (2 : Int32), (3 : Int32), (4 : Int32), (5 : Int32), (6 : Int32)] hC dX11_weather_16 (List.forall_mem_cons.mpr ⟨e0, List.forall_mem_cons.mpr ⟨e1, List.forall_mem_cons.mpr ⟨e2, List.forall_mem_cons.mpr ⟨e3, List.forall_mem_cons.mpr ⟨e4, List.forall_mem_cons.mpr ⟨e5, List.forall_mem_cons.mpr ⟨e6, fun _ h => absurd h List.not_mem_nil⟩⟩⟩⟩⟩⟩⟩) (by decide) (by decide) (by decide) ?_
    exact zx_thr0 (pc := 109) hC (Nat.le_of_ble_eq_true rfl) hR (Nat.le_of_ble_eq_true rfl) (Nat.le_of_ble_eq_true rfl) dX11_weather_109 dX11_weather_112 dX11_weather_113 dX11_weather_116
def fX11_field (a1 : Int32) (a2 : Int32) (s : St) : Option (RT × St) :=
  if a1 < 0 then
    (some (.inr 0, s))
  else
    (if a1 < (s 21 6) then
    (if a2 = (0 : Int32) then
    (bd (fX11_at 26 a1 s) (fun y_1 s_1 =>
    some (.inl y_1, s_1)))
  else
    (if a2 = (1 : Int32) then
    (bd (fX11_at 27 a1 s) (fun y_2 s_2 =>
    some (.inl y_2, s_2)))
  else
    (if a2 = (2 : Int32) then
    (bd (fX11_at 28 a1 s) (fun y_3 s_3 =>
    some (.inl y_3, s_3)))
  else
    (if a2 = (3 : Int32) then
    (bd (fX10_got 33 a1 (0 : Int32) s) (fun y_4 s_4 =>
    some (.inl y_4, s_4)))
  else
    (if a2 = (4 : Int32) then
    (bd (fX10_got 33 a1 (1 : Int32) s) (fun y_5 s_5 =>
    some (.inl y_5, s_5)))
  else
    (if a2 = (5 : Int32) then
    (bd (fX10_ripe 33 21 a1 s) (fun y_6 s_6 =>
    if y_6 = 0 then
    (some (.inl (0 : Int32), s_6))
  else
    (some (.inl (1 : Int32), s_6))))
  else
    (some (.inr 0, s))))))))
  else
    (some (.inr 0, s)))
set_option maxRecDepth 100000 in
set_option maxHeartbeats 4000000 in
theorem kX11_field (l : Launch) (hst : l.stackTraces = false)  (a1 : Int32) (a2 : Int32) (s : St) : CX l yX11_field cX11_field 3 (some .int) 7 1 FULL (fun ad => [.ref (ad 0), .int a1, .int a2]) s (fX11_field a1 a2 s) := by
  refine cx_of hst (by decide) (fun _ => (Nat.le_of_ble_eq_true rfl)) (fun X hC hR hl hN => ?_)
  subst hl
  show Zr X (QFX X (some .int) 1) 0 s 0 [(0, .ref (X_ad X 0)), (1, .int a1), (2, .int a2)] [] _
  rw [fX11_field]
  refine zr_iload_n (pc := 0) (i := 1) 1 hC dX11_field_0 rfl rfl ?_
  refine zr_if_lt (pc := 1) (tgt := 15) hC dX11_field_1 (by decide) (fun c_ => ?_) (fun c_ => ?_)
  · exact zx_thr0 (pc := 15) hC (Nat.le_of_ble_eq_true rfl) hR (Nat.le_of_ble_eq_true rfl) (Nat.le_of_ble_eq_true rfl) dX11_field_15 dX11_field_18 dX11_field_19 dX11_field_22
  · refine zr_iload_n (pc := 4) (i := 1) 1 hC dX11_field_4 rfl rfl ?_
    refine zr_aload_n (pc := 5) (i := 0) 0 hC dX11_field_5 rfl rfl ?_
    refine zr_getR (pc := 6) (j := 4) (k1 := 21) hC mem_0 lay_0 rfl rfl (Nat.le_of_ble_eq_true rfl) iX11 m_386 dX11_field_6 ?_
    refine zr_getI (pc := 9) (j := 6) hC mem_21 lay_21 rfl rfl (Nat.le_of_ble_eq_true rfl) iX4 m_84 dX11_field_9 ?_
    refine zr_icmp_lt (pc := 12) (tgt := 23) hC dX11_field_12 (by decide) (fun c_ => ?_) (fun c_ => ?_)
    · refine zr_iload_n (pc := 23) (i := 2) 2 hC dX11_field_23 rfl rfl ?_
      refine zr_tcase (pc := 24) (v := (0 : Int32)) (off := 40) (tgt := 64) hC dX11_field_24 (by decide) (by decide) (by decide) (by decide) ?_ (fun e0 => ?_)
      · refine zr_aload_n (pc := 64) (i := 0) 0 hC dX11_field_64 rfl rfl ?_
        refine zr_getR (pc := 65) (j := 4) (k1 := 21) hC mem_0 lay_0 rfl rfl (Nat.le_of_ble_eq_true rfl) iX11 m_386 dX11_field_65 ?_
        refine zr_getR (pc := 68) (j := 7) (k1 := 26) hC mem_21 lay_21 rfl rfl (Nat.le_of_ble_eq_true rfl) iX4 m_89 dX11_field_68 ?_
        refine zr_iload_n (pc := 71) (i := 1) 1 hC dX11_field_71 rfl rfl ?_
        refine zr_callS (pc := 72) (As := fun ad => [.ref (ad 26), .int a1]) (st1 := []) hC (Nat.le_of_ble_eq_true rfl) (kX11_at _ ar_26 a1 _) (Nat.le_of_ble_eq_true rfl) mc_yX11_at m_990 m_453 rfl rfl rfl (Nat.le_of_ble_eq_true rfl) dX11_field_72 (fun y_1 s_1 => ?_)
        exact zx_iret (pc := 75) hC (Nat.le_of_ble_eq_true rfl) hR dX11_field_75
      refine zr_tcase (pc := 24) (v := (1 : Int32)) (off := 52) (tgt := 76) hC dX11_field_24 (by decide) (by decide) (by decide) (by decide) ?_ (fun e1 => ?_)
      · refine zr_aload_n (pc := 76) (i := 0) 0 hC dX11_field_76 rfl rfl ?_
        refine zr_getR (pc := 77) (j := 4) (k1 := 21) hC mem_0 lay_0 rfl rfl (Nat.le_of_ble_eq_true rfl) iX11 m_386 dX11_field_77 ?_
        refine zr_getR (pc := 80) (j := 8) (k1 := 27) hC mem_21 lay_21 rfl rfl (Nat.le_of_ble_eq_true rfl) iX4 m_93 dX11_field_80 ?_
        refine zr_iload_n (pc := 83) (i := 1) 1 hC dX11_field_83 rfl rfl ?_
        refine zr_callS (pc := 84) (As := fun ad => [.ref (ad 27), .int a1]) (st1 := []) hC (Nat.le_of_ble_eq_true rfl) (kX11_at _ ar_27 a1 _) (Nat.le_of_ble_eq_true rfl) mc_yX11_at m_990 m_453 rfl rfl rfl (Nat.le_of_ble_eq_true rfl) dX11_field_84 (fun y_2 s_2 => ?_)
        exact zx_iret (pc := 87) hC (Nat.le_of_ble_eq_true rfl) hR dX11_field_87
      refine zr_tcase (pc := 24) (v := (2 : Int32)) (off := 64) (tgt := 88) hC dX11_field_24 (by decide) (by decide) (by decide) (by decide) ?_ (fun e2 => ?_)
      · refine zr_aload_n (pc := 88) (i := 0) 0 hC dX11_field_88 rfl rfl ?_
        refine zr_getR (pc := 89) (j := 4) (k1 := 21) hC mem_0 lay_0 rfl rfl (Nat.le_of_ble_eq_true rfl) iX11 m_386 dX11_field_89 ?_
        refine zr_getR (pc := 92) (j := 9) (k1 := 28) hC mem_21 lay_21 rfl rfl (Nat.le_of_ble_eq_true rfl) iX4 m_97 dX11_field_92 ?_
        refine zr_iload_n (pc := 95) (i := 1) 1 hC dX11_field_95 rfl rfl ?_
        refine zr_callS (pc := 96) (As := fun ad => [.ref (ad 28), .int a1]) (st1 := []) hC (Nat.le_of_ble_eq_true rfl) (kX11_at _ ar_28 a1 _) (Nat.le_of_ble_eq_true rfl) mc_yX11_at m_990 m_453 rfl rfl rfl (Nat.le_of_ble_eq_true rfl) dX11_field_96 (fun y_3 s_3 => ?_)
        exact zx_iret (pc := 99) hC (Nat.le_of_ble_eq_true rfl) hR dX11_field_99
      refine zr_tcase (pc := 24) (v := (3 : Int32)) (off := 76) (tgt := 100) hC dX11_field_24 (by decide) (by decide) (by decide) (by decide) ?_ (fun e3 => ?_)
      · refine zr_aload_n (pc := 100) (i := 0) 0 hC dX11_field_100 rfl rfl ?_
        refine zr_getR (pc := 101) (j := 5) (k1 := 32) hC mem_0 lay_0 rfl rfl (Nat.le_of_ble_eq_true rfl) iX11 m_387 dX11_field_101 ?_
        refine zr_getR (pc := 104) (j := 0) (k1 := 33) hC mem_32 lay_32 rfl rfl (Nat.le_of_ble_eq_true rfl) iX8 m_215 dX11_field_104 ?_
        refine zr_iload_n (pc := 107) (i := 1) 1 hC dX11_field_107 rfl rfl ?_
        refine zr_iconst (pc := 108) (v := (0 : Int32)) hC dX11_field_108 ic_0 ?_
        refine zr_callV (pc := 109) (As := fun ad => [.int a1, .int (0 : Int32)]) (st1 := []) hC (Nat.le_of_ble_eq_true rfl) (kX10_got _ is_33 a1 (0 : Int32) _) (Nat.le_of_ble_eq_true rfl) mc_yX10_got m_1067 m_475 m_476 mem_33 lay_33 rfl rfl rfl rfl (Nat.le_of_ble_eq_true rfl) dX11_field_109 (fun y_4 s_4 => ?_)
        exact zx_iret (pc := 112) hC (Nat.le_of_ble_eq_true rfl) hR dX11_field_112
      refine zr_tcase (pc := 24) (v := (4 : Int32)) (off := 89) (tgt := 113) hC dX11_field_24 (by decide) (by decide) (by decide) (by decide) ?_ (fun e4 => ?_)
      · refine zr_aload_n (pc := 113) (i := 0) 0 hC dX11_field_113 rfl rfl ?_
        refine zr_getR (pc := 114) (j := 5) (k1 := 32) hC mem_0 lay_0 rfl rfl (Nat.le_of_ble_eq_true rfl) iX11 m_387 dX11_field_114 ?_
        refine zr_getR (pc := 117) (j := 0) (k1 := 33) hC mem_32 lay_32 rfl rfl (Nat.le_of_ble_eq_true rfl) iX8 m_215 dX11_field_117 ?_
        refine zr_iload_n (pc := 120) (i := 1) 1 hC dX11_field_120 rfl rfl ?_
        refine zr_iconst (pc := 121) (v := (1 : Int32)) hC dX11_field_121 ic_1 ?_
        refine zr_callV (pc := 122) (As := fun ad => [.int a1, .int (1 : Int32)]) (st1 := []) hC (Nat.le_of_ble_eq_true rfl) (kX10_got _ is_33 a1 (1 : Int32) _) (Nat.le_of_ble_eq_true rfl) mc_yX10_got m_1067 m_475 m_476 mem_33 lay_33 rfl rfl rfl rfl (Nat.le_of_ble_eq_true rfl) dX11_field_122 (fun y_5 s_5 => ?_)
        exact zx_iret (pc := 125) hC (Nat.le_of_ble_eq_true rfl) hR dX11_field_125
      refine zr_tcase (pc := 24) (v := (5 : Int32)) (off := 102) (tgt := 126) hC dX11_field_24 (by decide) (by decide) (by decide) (by decide) ?_ (fun e5 => ?_)
      · refine zr_aload_n (pc := 126) (i := 0) 0 hC dX11_field_126 rfl rfl ?_
        refine zr_getR (pc := 127) (j := 5) (k1 := 32) hC mem_0 lay_0 rfl rfl (Nat.le_of_ble_eq_true rfl) iX11 m_387 dX11_field_127 ?_
        refine zr_getR (pc := 130) (j := 0) (k1 := 33) hC mem_32 lay_32 rfl rfl (Nat.le_of_ble_eq_true rfl) iX8 m_215 dX11_field_130 ?_
        refine zr_aload_n (pc := 133) (i := 0) 0 hC dX11_field_133 rfl rfl ?_
        refine zr_getR (pc := 134) (j := 4) (k1 := 21) hC mem_0 lay_0 rfl rfl (Nat.le_of_ble_eq_true rfl) iX11 m_386 dX11_field_134 ?_
        refine zr_iload_n (pc := 137) (i := 1) 1 hC dX11_field_137 rfl rfl ?_
        refine zr_callV (pc := 138) (As := fun ad => [.ref (ad 21), .int a1]) (st1 := []) hC (Nat.le_of_ble_eq_true rfl) (kX10_ripe _ is_33 is_21 a1 _) (Nat.le_of_ble_eq_true rfl) mc_yX10_ripe m_1068 m_504 m_505 mem_33 lay_33 rfl rfl rfl rfl (Nat.le_of_ble_eq_true rfl) dX11_field_138 (fun y_6 s_6 => ?_)
        refine zr_if_eq (pc := 141) (tgt := 148) hC dX11_field_141 (by decide) (fun c_ => ?_) (fun c_ => ?_)
        · refine zr_iconst (pc := 148) (v := (0 : Int32)) hC dX11_field_148 ic_0 ?_
          exact zx_iret (pc := 149) hC (Nat.le_of_ble_eq_true rfl) hR dX11_field_149
        · refine zr_iconst (pc := 144) (v := (1 : Int32)) hC dX11_field_144 ic_1 ?_
          refine zr_goto (pc := 145) (tgt := 149) hC dX11_field_145 (by decide) ?_
          exact zx_iret (pc := 149) hC (Nat.le_of_ble_eq_true rfl) hR dX11_field_149
      refine zr_tdef (pc := 24) (tgt := 150) [(0 : Int32), (1 : Int32), (2 : Int32), (3 : Int32), (4 : Int32), (5 : Int32)] hC dX11_field_24 (List.forall_mem_cons.mpr ⟨e0, List.forall_mem_cons.mpr ⟨e1, List.forall_mem_cons.mpr ⟨e2, List.forall_mem_cons.mpr ⟨e3, List.forall_mem_cons.mpr ⟨e4, List.forall_mem_cons.mpr ⟨e5, fun _ h => absurd h List.not_mem_nil⟩⟩⟩⟩⟩⟩) (by decide) (by decide) (by decide) ?_
      exact zx_thr0 (pc := 150) hC (Nat.le_of_ble_eq_true rfl) hR (Nat.le_of_ble_eq_true rfl) (Nat.le_of_ble_eq_true rfl) dX11_field_150 dX11_field_153 dX11_field_154 dX11_field_157
    · exact zx_thr0 (pc := 15) hC (Nat.le_of_ble_eq_true rfl) hR (Nat.le_of_ble_eq_true rfl) (Nat.le_of_ble_eq_true rfl) dX11_field_15 dX11_field_18 dX11_field_19 dX11_field_22
def fX11_needTwoAlive (a1 : Int32) (a2 : Int32) (s : St) : Option (RT × St) :=
  if a1 = a2 then
    (some (.inr 1, s))
  else
    (bd (fX10_alive 33 a1 s) (fun y_1 s_1 =>
    if y_1 = 0 then
    (some (.inr 1, s_1))
  else
    (bd (fX10_alive 33 a2 s_1) (fun y_2 s_2 =>
    if y_2 = 0 then
    (some (.inr 1, s_2))
  else
    (some (.inl 0, s_2))))))
set_option maxRecDepth 100000 in
set_option maxHeartbeats 4000000 in
theorem kX11_needTwoAlive (l : Launch) (hst : l.stackTraces = false)  (a1 : Int32) (a2 : Int32) (s : St) : CX l yX11_needTwoAlive cX11_needTwoAlive 3 none 7 1 FULL (fun ad => [.ref (ad 0), .int a1, .int a2]) s (fX11_needTwoAlive a1 a2 s) := by
  refine cx_of hst (by decide) (fun _ => (Nat.le_of_ble_eq_true rfl)) (fun X hC hR hl hN => ?_)
  subst hl
  show Zr X (QFX X none 1) 0 s 0 [(0, .ref (X_ad X 0)), (1, .int a1), (2, .int a2)] [] _
  rw [fX11_needTwoAlive]
  refine zr_iload_n (pc := 0) (i := 1) 1 hC dX11_needTwoAlive_0 rfl rfl ?_
  refine zr_iload_n (pc := 1) (i := 2) 2 hC dX11_needTwoAlive_1 rfl rfl ?_
  refine zr_icmp_eq (pc := 2) (tgt := 33) hC dX11_needTwoAlive_2 (by decide) (fun c_ => ?_) (fun c_ => ?_)
  · exact zx_thr1 (pc := 33) hC (Nat.le_of_ble_eq_true rfl) hR (Nat.le_of_ble_eq_true rfl) (Nat.le_of_ble_eq_true rfl) dX11_needTwoAlive_33 dX11_needTwoAlive_36 dX11_needTwoAlive_37 dX11_needTwoAlive_40
  · refine zr_aload_n (pc := 5) (i := 0) 0 hC dX11_needTwoAlive_5 rfl rfl ?_
    refine zr_getR (pc := 6) (j := 5) (k1 := 32) hC mem_0 lay_0 rfl rfl (Nat.le_of_ble_eq_true rfl) iX11 m_387 dX11_needTwoAlive_6 ?_
    refine zr_getR (pc := 9) (j := 0) (k1 := 33) hC mem_32 lay_32 rfl rfl (Nat.le_of_ble_eq_true rfl) iX8 m_215 dX11_needTwoAlive_9 ?_
    refine zr_iload_n (pc := 12) (i := 1) 1 hC dX11_needTwoAlive_12 rfl rfl ?_
    refine zr_callV (pc := 13) (As := fun ad => [.int a1]) (st1 := []) hC (Nat.le_of_ble_eq_true rfl) (kX10_alive _ is_33 a1 _) (Nat.le_of_ble_eq_true rfl) mc_yX10_alive m_523 m_524 m_525 mem_33 lay_33 rfl rfl rfl rfl (Nat.le_of_ble_eq_true rfl) dX11_needTwoAlive_13 (fun y_1 s_1 => ?_)
    refine zr_if_eq (pc := 16) (tgt := 33) hC dX11_needTwoAlive_16 (by decide) (fun c_ => ?_) (fun c_ => ?_)
    · exact zx_thr1 (pc := 33) hC (Nat.le_of_ble_eq_true rfl) hR (Nat.le_of_ble_eq_true rfl) (Nat.le_of_ble_eq_true rfl) dX11_needTwoAlive_33 dX11_needTwoAlive_36 dX11_needTwoAlive_37 dX11_needTwoAlive_40
    · refine zr_aload_n (pc := 19) (i := 0) 0 hC dX11_needTwoAlive_19 rfl rfl ?_
      refine zr_getR (pc := 20) (j := 5) (k1 := 32) hC mem_0 lay_0 rfl rfl (Nat.le_of_ble_eq_true rfl) iX11 m_387 dX11_needTwoAlive_20 ?_
      refine zr_getR (pc := 23) (j := 0) (k1 := 33) hC mem_32 lay_32 rfl rfl (Nat.le_of_ble_eq_true rfl) iX8 m_215 dX11_needTwoAlive_23 ?_
      refine zr_iload_n (pc := 26) (i := 2) 2 hC dX11_needTwoAlive_26 rfl rfl ?_
      refine zr_callV (pc := 27) (As := fun ad => [.int a2]) (st1 := []) hC (Nat.le_of_ble_eq_true rfl) (kX10_alive _ is_33 a2 _) (Nat.le_of_ble_eq_true rfl) mc_yX10_alive m_523 m_524 m_525 mem_33 lay_33 rfl rfl rfl rfl (Nat.le_of_ble_eq_true rfl) dX11_needTwoAlive_27 (fun y_2 s_2 => ?_)
      refine zr_if_ne (pc := 30) (tgt := 41) hC dX11_needTwoAlive_30 (by decide) (fun c_ => ?_) (fun c_ => ?_)
      · exact zx_thr1 (pc := 33) hC (Nat.le_of_ble_eq_true rfl) hR (Nat.le_of_ble_eq_true rfl) (Nat.le_of_ble_eq_true rfl) dX11_needTwoAlive_33 dX11_needTwoAlive_36 dX11_needTwoAlive_37 dX11_needTwoAlive_40
      · exact zx_vret (pc := 41) hC (Nat.le_of_ble_eq_true rfl) hR dX11_needTwoAlive_41
def fX11_front (a1 : Int32) (a2 : Int32) (s : St) : Option (RT × St) :=
  bx (fX11_needPerson a1 s) (fun y_1 s_1 =>
    bx (fX11_needPerson a2 s_1) (fun y_2 s_2 =>
    bx (fX11_needTwoAlive a1 a2 s_2) (fun y_3 s_3 =>
    bd (fX10_apart 33 a1 a2 s_3) (fun y_4 s_4 =>
    if y_4 < (s_4 21 10) then
    (some (.inl y_4, s_4))
  else
    (some (.inl ((-1 : Int32) - y_4), s_4))))))
set_option maxRecDepth 100000 in
set_option maxHeartbeats 4000000 in
theorem kX11_front (l : Launch) (hst : l.stackTraces = false)  (a1 : Int32) (a2 : Int32) (s : St) : CX l yX11_front cX11_front 4 (some .int) 8 3 FULL (fun ad => [.ref (ad 0), .int a1, .int a2]) s (fX11_front a1 a2 s) := by
  refine cx_of hst (by decide) (fun _ => (Nat.le_of_ble_eq_true rfl)) (fun X hC hR hl hN => ?_)
  subst hl
  show Zr X (QFX X (some .int) 3) 0 s 0 [(0, .ref (X_ad X 0)), (1, .int a1), (2, .int a2)] [] _
  rw [fX11_front]
  refine zr_aload_n (pc := 0) (i := 0) 0 hC dX11_front_0 rfl rfl ?_
  refine zr_iload_n (pc := 1) (i := 1) 1 hC dX11_front_1 rfl rfl ?_
  refine zx_callV (pc := 2) (As := fun ad => [.int a1]) (st1 := []) hC hR (Nat.le_of_ble_eq_true rfl) (kX11_needPerson _ hR.2.2 a1 _) (Nat.le_of_ble_eq_true rfl) mc_yX11_needPerson m_1013 m_1015 m_p35 mem_0 lay_0 rfl rfl rfl rfl (Nat.le_of_ble_eq_true rfl) dX11_front_2 (fun y_1 s_1 => ?_)
  show Zr X (QFX X (some .int) 3) 1 s_1 5 _ [] _
  refine zr_aload_n (pc := 5) (i := 0) 0 hC dX11_front_5 rfl rfl ?_
  refine zr_iload_n (pc := 6) (i := 2) 2 hC dX11_front_6 rfl rfl ?_
  refine zx_callV (pc := 7) (As := fun ad => [.int a2]) (st1 := []) hC hR (Nat.le_of_ble_eq_true rfl) (kX11_needPerson _ hR.2.2 a2 _) (Nat.le_of_ble_eq_true rfl) mc_yX11_needPerson m_1013 m_1015 m_p35 mem_0 lay_0 rfl rfl rfl rfl (Nat.le_of_ble_eq_true rfl) dX11_front_7 (fun y_2 s_2 => ?_)
  show Zr X (QFX X (some .int) 3) 2 s_2 10 _ [] _
  refine zr_aload_n (pc := 10) (i := 0) 0 hC dX11_front_10 rfl rfl ?_
  refine zr_iload_n (pc := 11) (i := 1) 1 hC dX11_front_11 rfl rfl ?_
  refine zr_iload_n (pc := 12) (i := 2) 2 hC dX11_front_12 rfl rfl ?_
  refine zx_callV (pc := 13) (As := fun ad => [.int a1, .int a2]) (st1 := []) hC hR (Nat.le_of_ble_eq_true rfl) (kX11_needTwoAlive _ hR.2.2 a1 a2 _) (Nat.le_of_ble_eq_true rfl) mc_yX11_needTwoAlive m_1076 m_1078 m_p36 mem_0 lay_0 rfl rfl rfl rfl (Nat.le_of_ble_eq_true rfl) dX11_front_13 (fun y_3 s_3 => ?_)
  show Zr X (QFX X (some .int) 3) 3 s_3 16 _ [] _
  refine zr_aload_n (pc := 16) (i := 0) 0 hC dX11_front_16 rfl rfl ?_
  refine zr_getR (pc := 17) (j := 5) (k1 := 32) hC mem_0 lay_0 rfl rfl (Nat.le_of_ble_eq_true rfl) iX11 m_387 dX11_front_17 ?_
  refine zr_getR (pc := 20) (j := 0) (k1 := 33) hC mem_32 lay_32 rfl rfl (Nat.le_of_ble_eq_true rfl) iX8 m_215 dX11_front_20 ?_
  refine zr_iload_n (pc := 23) (i := 1) 1 hC dX11_front_23 rfl rfl ?_
  refine zr_iload_n (pc := 24) (i := 2) 2 hC dX11_front_24 rfl rfl ?_
  refine zr_callV (pc := 25) (As := fun ad => [.int a1, .int a2]) (st1 := []) hC (Nat.le_of_ble_eq_true rfl) (kX10_apart _ is_33 a1 a2 _) (Nat.le_of_ble_eq_true rfl) mc_yX10_apart m_1080 m_595 m_596 mem_33 lay_33 rfl rfl rfl rfl (Nat.le_of_ble_eq_true rfl) dX11_front_25 (fun y_4 s_4 => ?_)
  refine zr_istore_n (pc := 28) (i := 3) (ls' := [(3, _), (0, _), (1, _), (2, _)]) hC dX11_front_28 rfl (nlt hN (Nat.le_of_ble_eq_true rfl)) rfl ?_
  refine zr_iload_n (pc := 29) (i := 3) 0 hC dX11_front_29 rfl rfl ?_
  refine zr_aload_n (pc := 30) (i := 0) 1 hC dX11_front_30 rfl rfl ?_
  refine zr_getR (pc := 31) (j := 4) (k1 := 21) hC mem_0 lay_0 rfl rfl (Nat.le_of_ble_eq_true rfl) iX11 m_386 dX11_front_31 ?_
  refine zr_getI (pc := 34) (j := 10) hC mem_21 lay_21 rfl rfl (Nat.le_of_ble_eq_true rfl) iX4 m_101 dX11_front_34 ?_
  refine zr_icmp_lt (pc := 37) (tgt := 46) hC dX11_front_37 (by decide) (fun c_ => ?_) (fun c_ => ?_)
  · refine zr_iload_n (pc := 46) (i := 3) 0 hC dX11_front_46 rfl rfl ?_
    exact zx_iret (pc := 47) hC (Nat.le_of_ble_eq_true rfl) hR dX11_front_47
  · refine zr_iconst (pc := 40) (v := (-1 : Int32)) hC dX11_front_40 ic_m1 ?_
    refine zr_iload_n (pc := 41) (i := 3) 0 hC dX11_front_41 rfl rfl ?_
    refine zr_isub (pc := 42) hC dX11_front_42 ?_
    refine zr_goto (pc := 43) (tgt := 47) hC dX11_front_43 (by decide) ?_
    exact zx_iret (pc := 47) hC (Nat.le_of_ble_eq_true rfl) hR dX11_front_47
def fX4_isParent (g : Nat) (a1 : Int32) (a2 : Int32) (s : St) : Option (Int32 × St) :=
  bd (fX11_at (g + 1) a2 s) (fun y_1 s_1 =>
    if y_1 = a1 then
    (some ((1 : Int32), s_1))
  else
    (bd (fX11_at (g + 2) a2 s_1) (fun y_2 s_2 =>
    if y_2 = a1 then
    (some ((1 : Int32), s_2))
  else
    (some ((0 : Int32), s_2)))))
set_option maxRecDepth 100000 in
set_option maxHeartbeats 4000000 in
theorem kX4_isParent (l : Launch)  {g : Nat} (hg : isLand g) (a1 : Int32) (a2 : Int32) (s : St) : CN l yX4_isParent cX4_isParent 3 (some .boolean) 2 FULL (fun ad => [.ref (ad g), .int a1, .int a2]) s (fX4_isParent g a1 a2 s) := by
  refine cn_of (by decide) (fun _ => (Nat.le_of_ble_eq_true rfl)) (fun X hC hR hl hN => ?_)
  subst hl
  show Zr X (QFN X (some .boolean)) 0 s 0 [(0, .ref (X_ad X g)), (1, .int a1), (2, .int a2)] [] _
  rw [fX4_isParent]
  refine zr_aload_n (pc := 0) (i := 0) 0 hC dX4_isParent_0 rfl rfl ?_
  refine zr_getR (pc := 1) (j := 1) (k1 := (g + 1)) hC hg.1.1 hg.1.2 rfl rfl (Nat.le_of_ble_eq_true rfl) iX4 m_72 dX4_isParent_1 ?_
  refine zr_iload_n (pc := 4) (i := 2) 2 hC dX4_isParent_4 rfl rfl ?_
  refine zr_callSN (pc := 5) (As := fun ad => [.ref (ad (g + 1)), .int a2]) (st1 := []) hC (Nat.le_of_ble_eq_true rfl) (kX11_at _ (isArr_of hg.2.1) a2 _) (Nat.le_of_ble_eq_true rfl) mc_yX11_at m_535 m_453 rfl rfl (Nat.le_of_ble_eq_true rfl) dX4_isParent_5 (fun y_1 s_1 => ?_)
  refine zr_iload_n (pc := 8) (i := 1) 1 hC dX4_isParent_8 rfl rfl ?_
  refine zr_icmp_eq (pc := 9) (tgt := 24) hC dX4_isParent_9 (by decide) (fun c_ => ?_) (fun c_ => ?_)
  · refine zr_iconst (pc := 24) (v := (1 : Int32)) hC dX4_isParent_24 ic_1 ?_
    refine zr_goto (pc := 25) (tgt := 29) hC dX4_isParent_25 (by decide) ?_
    exact zr_zret (pc := 29) (by decide) hC hR dX4_isParent_29
  · refine zr_aload_n (pc := 12) (i := 0) 0 hC dX4_isParent_12 rfl rfl ?_
    refine zr_getR (pc := 13) (j := 2) (k1 := (g + 2)) hC hg.1.1 hg.1.2 rfl rfl (Nat.le_of_ble_eq_true rfl) iX4 m_74 dX4_isParent_13 ?_
    refine zr_iload_n (pc := 16) (i := 2) 2 hC dX4_isParent_16 rfl rfl ?_
    refine zr_callSN (pc := 17) (As := fun ad => [.ref (ad (g + 2)), .int a2]) (st1 := []) hC (Nat.le_of_ble_eq_true rfl) (kX11_at _ (isArr_of hg.2.2.1) a2 _) (Nat.le_of_ble_eq_true rfl) mc_yX11_at m_535 m_453 rfl rfl (Nat.le_of_ble_eq_true rfl) dX4_isParent_17 (fun y_2 s_2 => ?_)
    refine zr_iload_n (pc := 20) (i := 1) 1 hC dX4_isParent_20 rfl rfl ?_
    refine zr_icmp_ne (pc := 21) (tgt := 28) hC dX4_isParent_21 (by decide) (fun c_ => ?_) (fun c_ => ?_)
    · refine zr_iconst (pc := 24) (v := (1 : Int32)) hC dX4_isParent_24 ic_1 ?_
      refine zr_goto (pc := 25) (tgt := 29) hC dX4_isParent_25 (by decide) ?_
      exact zr_zret (pc := 29) (by decide) hC hR dX4_isParent_29
    · refine zr_iconst (pc := 28) (v := (0 : Int32)) hC dX4_isParent_28 ic_0 ?_
      exact zr_zret (pc := 29) (by decide) hC hR dX4_isParent_29
