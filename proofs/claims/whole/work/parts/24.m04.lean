def fX11_nextOfKin_L4 (c1 : Int32) : Nat → Int32 → Int32 → St → Option (Int32 × St)
  | 0, _, _, _ => none
  | n + 1, v2, v3, s =>
    if (s 21 0) ≤ v3 then
    (some (v2, s))
  else
    (bd (fX4_isParent 21 c1 v3 s) (fun y_1 s_1 =>
    if y_1 = 0 then
    (bd (fX4_isParent 21 v3 c1 s_1) (fun y_2 s_2 =>
    if y_2 = 0 then
    (bd (fX10_spouse 33 c1 s_2) (fun y_3 s_3 =>
    if y_3 = v3 then
    (fX11_nextOfKin_L4 c1 n (v2 ||| (jshl (1 : Int32) v3)) (v3 + (1 : Int32)) s_3)
  else
    (fX11_nextOfKin_L4 c1 n v2 (v3 + (1 : Int32)) s_3)))
  else
    (fX11_nextOfKin_L4 c1 n (v2 ||| (jshl (1 : Int32) v3)) (v3 + (1 : Int32)) s_2)))
  else
    (fX11_nextOfKin_L4 c1 n (v2 ||| (jshl (1 : Int32) v3)) (v3 + (1 : Int32)) s_1)))
set_option maxRecDepth 100000 in
set_option maxHeartbeats 4000000 in
theorem tX11_nextOfKin_L4 (c1 : Int32) (X : KX) (hC : Ctx X RX11 cX11_nextOfKin FULL 3 0) (hR : RC X (some .int)) (hN : X_nL X = 4) : ∀ (n : Nat) (v2 : Int32) (v3 : Int32) (s : St), Zr X (QFN X (some .int)) 0 s 4 [(0, .ref (X_ad X 0)), (1, .int c1), (2, .int v2), (3, .int v3)] [] (fX11_nextOfKin_L4 c1 n v2 v3 s) := by
  intro n
  induction n with
  | zero =>
    intro v2 v3 s
    exact zr_none
  | succ n ih =>
    intro v2 v3 s
    rw [fX11_nextOfKin_L4]
    refine zr_iload_n (pc := 4) (i := 3) 3 hC dX11_nextOfKin_4 rfl rfl ?_
    refine zr_aload_n (pc := 5) (i := 0) 0 hC dX11_nextOfKin_5 rfl rfl ?_
    refine zr_getR (pc := 6) (j := 4) (k1 := 21) hC mem_0 lay_0 rfl rfl (Nat.le_of_ble_eq_true rfl) iX11 m_386 dX11_nextOfKin_6 ?_
    refine zr_getI (pc := 9) (j := 0) hC mem_21 lay_21 rfl rfl (Nat.le_of_ble_eq_true rfl) iX4 m_70 dX11_nextOfKin_9 ?_
    refine zr_icmp_ge (pc := 12) (tgt := 66) hC dX11_nextOfKin_12 (by decide) (fun c_ => ?_) (fun c_ => ?_)
    · refine zr_iload_n (pc := 66) (i := 2) 2 hC dX11_nextOfKin_66 rfl rfl ?_
      exact zr_iret (pc := 67) hC hR dX11_nextOfKin_67
    · refine zr_aload_n (pc := 15) (i := 0) 0 hC dX11_nextOfKin_15 rfl rfl ?_
      refine zr_getR (pc := 16) (j := 4) (k1 := 21) hC mem_0 lay_0 rfl rfl (Nat.le_of_ble_eq_true rfl) iX11 m_386 dX11_nextOfKin_16 ?_
      refine zr_iload_n (pc := 19) (i := 1) 1 hC dX11_nextOfKin_19 rfl rfl ?_
      refine zr_iload_n (pc := 20) (i := 3) 3 hC dX11_nextOfKin_20 rfl rfl ?_
      refine zr_callV (pc := 21) (As := fun ad => [.int c1, .int v3]) (st1 := []) hC (Nat.le_of_ble_eq_true rfl) (kX4_isParent _ is_21 c1 v3 _) (Nat.le_of_ble_eq_true rfl) mc_yX4_isParent m_1096 m_1097 m_1098 mem_21 lay_21 rfl rfl rfl rfl (Nat.le_of_ble_eq_true rfl) dX11_nextOfKin_21 (fun y_1 s_1 => ?_)
      refine zr_if_ne (pc := 24) (tgt := 54) hC dX11_nextOfKin_24 (by decide) (fun c_ => ?_) (fun c_ => ?_)
      · refine zr_aload_n (pc := 27) (i := 0) 0 hC dX11_nextOfKin_27 rfl rfl ?_
        refine zr_getR (pc := 28) (j := 4) (k1 := 21) hC mem_0 lay_0 rfl rfl (Nat.le_of_ble_eq_true rfl) iX11 m_386 dX11_nextOfKin_28 ?_
        refine zr_iload_n (pc := 31) (i := 3) 3 hC dX11_nextOfKin_31 rfl rfl ?_
        refine zr_iload_n (pc := 32) (i := 1) 1 hC dX11_nextOfKin_32 rfl rfl ?_
        refine zr_callV (pc := 33) (As := fun ad => [.int v3, .int c1]) (st1 := []) hC (Nat.le_of_ble_eq_true rfl) (kX4_isParent _ is_21 v3 c1 _) (Nat.le_of_ble_eq_true rfl) mc_yX4_isParent m_1096 m_1097 m_1098 mem_21 lay_21 rfl rfl rfl rfl (Nat.le_of_ble_eq_true rfl) dX11_nextOfKin_33 (fun y_2 s_2 => ?_)
        refine zr_if_ne (pc := 36) (tgt := 54) hC dX11_nextOfKin_36 (by decide) (fun c_ => ?_) (fun c_ => ?_)
        · refine zr_aload_n (pc := 39) (i := 0) 0 hC dX11_nextOfKin_39 rfl rfl ?_
          refine zr_getR (pc := 40) (j := 5) (k1 := 32) hC mem_0 lay_0 rfl rfl (Nat.le_of_ble_eq_true rfl) iX11 m_387 dX11_nextOfKin_40 ?_
          refine zr_getR (pc := 43) (j := 0) (k1 := 33) hC mem_32 lay_32 rfl rfl (Nat.le_of_ble_eq_true rfl) iX8 m_215 dX11_nextOfKin_43 ?_
          refine zr_iload_n (pc := 46) (i := 1) 1 hC dX11_nextOfKin_46 rfl rfl ?_
          refine zr_callV (pc := 47) (As := fun ad => [.int c1]) (st1 := []) hC (Nat.le_of_ble_eq_true rfl) (kX10_spouse _ is_33 c1 _) (Nat.le_of_ble_eq_true rfl) mc_yX10_spouse m_1022 m_867 m_868 mem_33 lay_33 rfl rfl rfl rfl (Nat.le_of_ble_eq_true rfl) dX11_nextOfKin_47 (fun y_3 s_3 => ?_)
          refine zr_iload_n (pc := 50) (i := 3) 3 hC dX11_nextOfKin_50 rfl rfl ?_
          refine zr_icmp_ne (pc := 51) (tgt := 60) hC dX11_nextOfKin_51 (by decide) (fun c_ => ?_) (fun c_ => ?_)
          · refine zr_iload_n (pc := 54) (i := 2) 2 hC dX11_nextOfKin_54 rfl rfl ?_
            refine zr_iconst (pc := 55) (v := (1 : Int32)) hC dX11_nextOfKin_55 ic_1 ?_
            refine zr_iload_n (pc := 56) (i := 3) 3 hC dX11_nextOfKin_56 rfl rfl ?_
            refine zr_ishl (pc := 57) hC dX11_nextOfKin_57 ?_
            refine zr_ior (pc := 58) hC dX11_nextOfKin_58 ?_
            refine zr_istore_n (pc := 59) (i := 2) (ls' := [(2, _), (0, _), (1, _), (3, _)]) hC dX11_nextOfKin_59 rfl (nlt hN (Nat.le_of_ble_eq_true rfl)) rfl ?_
            refine zr_iinc (pc := 60) (q := 3) (ls' := [(3, _), (2, _), (0, _), (1, _)]) hC dX11_nextOfKin_60 rfl (inc_1 _) (nlt hN (Nat.le_of_ble_eq_true rfl)) rfl ?_
            refine zr_goto (pc := 63) (tgt := 4) hC dX11_nextOfKin_63 (by decide) ?_
            refine zr_sub (ls' := [(0, _), (1, _), (2, _), (3, _)]) [2, 3, 1, 0] rfl ?_
            exact ih (v2 ||| (jshl (1 : Int32) v3)) (v3 + (1 : Int32)) s_3
          · refine zr_iinc (pc := 60) (q := 3) (ls' := [(3, _), (0, _), (1, _), (2, _)]) hC dX11_nextOfKin_60 rfl (inc_1 _) (nlt hN (Nat.le_of_ble_eq_true rfl)) rfl ?_
            refine zr_goto (pc := 63) (tgt := 4) hC dX11_nextOfKin_63 (by decide) ?_
            refine zr_sub (ls' := [(0, _), (1, _), (2, _), (3, _)]) [1, 2, 3, 0] rfl ?_
            exact ih v2 (v3 + (1 : Int32)) s_3
        · refine zr_iload_n (pc := 54) (i := 2) 2 hC dX11_nextOfKin_54 rfl rfl ?_
          refine zr_iconst (pc := 55) (v := (1 : Int32)) hC dX11_nextOfKin_55 ic_1 ?_
          refine zr_iload_n (pc := 56) (i := 3) 3 hC dX11_nextOfKin_56 rfl rfl ?_
          refine zr_ishl (pc := 57) hC dX11_nextOfKin_57 ?_
          refine zr_ior (pc := 58) hC dX11_nextOfKin_58 ?_
          refine zr_istore_n (pc := 59) (i := 2) (ls' := [(2, _), (0, _), (1, _), (3, _)]) hC dX11_nextOfKin_59 rfl (nlt hN (Nat.le_of_ble_eq_true rfl)) rfl ?_
          refine zr_iinc (pc := 60) (q := 3) (ls' := [(3, _), (2, _), (0, _), (1, _)]) hC dX11_nextOfKin_60 rfl (inc_1 _) (nlt hN (Nat.le_of_ble_eq_true rfl)) rfl ?_
          refine zr_goto (pc := 63) (tgt := 4) hC dX11_nextOfKin_63 (by decide) ?_
          refine zr_sub (ls' := [(0, _), (1, _), (2, _), (3, _)]) [2, 3, 1, 0] rfl ?_
          exact ih (v2 ||| (jshl (1 : Int32) v3)) (v3 + (1 : Int32)) s_2
      · refine zr_iload_n (pc := 54) (i := 2) 2 hC dX11_nextOfKin_54 rfl rfl ?_
        refine zr_iconst (pc := 55) (v := (1 : Int32)) hC dX11_nextOfKin_55 ic_1 ?_
        refine zr_iload_n (pc := 56) (i := 3) 3 hC dX11_nextOfKin_56 rfl rfl ?_
        refine zr_ishl (pc := 57) hC dX11_nextOfKin_57 ?_
        refine zr_ior (pc := 58) hC dX11_nextOfKin_58 ?_
        refine zr_istore_n (pc := 59) (i := 2) (ls' := [(2, _), (0, _), (1, _), (3, _)]) hC dX11_nextOfKin_59 rfl (nlt hN (Nat.le_of_ble_eq_true rfl)) rfl ?_
        refine zr_iinc (pc := 60) (q := 3) (ls' := [(3, _), (2, _), (0, _), (1, _)]) hC dX11_nextOfKin_60 rfl (inc_1 _) (nlt hN (Nat.le_of_ble_eq_true rfl)) rfl ?_
        refine zr_goto (pc := 63) (tgt := 4) hC dX11_nextOfKin_63 (by decide) ?_
        refine zr_sub (ls' := [(0, _), (1, _), (2, _), (3, _)]) [2, 3, 1, 0] rfl ?_
        exact ih (v2 ||| (jshl (1 : Int32) v3)) (v3 + (1 : Int32)) s_1
def fX11_nextOfKin (a1 : Int32) (s : St) : Option (Int32 × St) :=
  fX11_nextOfKin_L4 a1 FU (0 : Int32) (0 : Int32) s
set_option maxRecDepth 100000 in
set_option maxHeartbeats 4000000 in
theorem kX11_nextOfKin (l : Launch)  (a1 : Int32) (s : St) : CN l yX11_nextOfKin cX11_nextOfKin 4 (some .int) 3 FULL (fun ad => [.ref (ad 0), .int a1]) s (fX11_nextOfKin a1 s) := by
  refine cn_of (by decide) (fun _ => (Nat.le_of_ble_eq_true rfl)) (fun X hC hR hl hN => ?_)
  subst hl
  show Zr X (QFN X (some .int)) 0 s 0 [(0, .ref (X_ad X 0)), (1, .int a1)] [] _
  rw [fX11_nextOfKin]
  refine zr_iconst (pc := 0) (v := (0 : Int32)) hC dX11_nextOfKin_0 ic_0 ?_
  refine zr_istore_n (pc := 1) (i := 2) (ls' := [(2, _), (0, _), (1, _)]) hC dX11_nextOfKin_1 rfl (nlt hN (Nat.le_of_ble_eq_true rfl)) rfl ?_
  refine zr_iconst (pc := 2) (v := (0 : Int32)) hC dX11_nextOfKin_2 ic_0 ?_
  refine zr_istore_n (pc := 3) (i := 3) (ls' := [(3, _), (2, _), (0, _), (1, _)]) hC dX11_nextOfKin_3 rfl (nlt hN (Nat.le_of_ble_eq_true rfl)) rfl ?_
  refine zr_sub (ls' := [(0, _), (1, _), (2, _), (3, _)]) [2, 3, 1, 0] rfl ?_
  exact tX11_nextOfKin_L4 a1 X hC hR hN FU (0 : Int32) (0 : Int32) _
def fX11_stepFurther_L4 (c1 : Int32) : Nat → Int32 → Int32 → St → Option (Int32 × St)
  | 0, _, _, _ => none
  | n + 1, v2, v3, s =>
    if (s 21 0) ≤ v3 then
    (some (v2, s))
  else
    (if ((jshr c1 v3) &&& (1 : Int32)) = (1 : Int32) then
    (bd (fX11_nextOfKin v3 s) (fun y_1 s_1 =>
    fX11_stepFurther_L4 c1 n (v2 ||| y_1) (v3 + (1 : Int32)) s_1))
  else
    (fX11_stepFurther_L4 c1 n v2 (v3 + (1 : Int32)) s))
set_option maxRecDepth 100000 in
set_option maxHeartbeats 4000000 in
theorem tX11_stepFurther_L4 (c1 : Int32) (X : KX) (hC : Ctx X RX11 cX11_stepFurther FULL 4 0) (hR : RC X (some .int)) (hN : X_nL X = 4) : ∀ (n : Nat) (v2 : Int32) (v3 : Int32) (s : St), Zr X (QFN X (some .int)) 0 s 4 [(0, .ref (X_ad X 0)), (1, .int c1), (2, .int v2), (3, .int v3)] [] (fX11_stepFurther_L4 c1 n v2 v3 s) := by
  intro n
  induction n with
  | zero =>
    intro v2 v3 s
    exact zr_none
  | succ n ih =>
    intro v2 v3 s
    rw [fX11_stepFurther_L4]
    refine zr_iload_n (pc := 4) (i := 3) 3 hC dX11_stepFurther_4 rfl rfl ?_
    refine zr_aload_n (pc := 5) (i := 0) 0 hC dX11_stepFurther_5 rfl rfl ?_
    refine zr_getR (pc := 6) (j := 4) (k1 := 21) hC mem_0 lay_0 rfl rfl (Nat.le_of_ble_eq_true rfl) iX11 m_386 dX11_stepFurther_6 ?_
    refine zr_getI (pc := 9) (j := 0) hC mem_21 lay_21 rfl rfl (Nat.le_of_ble_eq_true rfl) iX4 m_70 dX11_stepFurther_9 ?_
    refine zr_icmp_ge (pc := 12) (tgt := 38) hC dX11_stepFurther_12 (by decide) (fun c_ => ?_) (fun c_ => ?_)
    · refine zr_iload_n (pc := 38) (i := 2) 2 hC dX11_stepFurther_38 rfl rfl ?_
      exact zr_iret (pc := 39) hC hR dX11_stepFurther_39
    · refine zr_iload_n (pc := 15) (i := 1) 1 hC dX11_stepFurther_15 rfl rfl ?_
      refine zr_iload_n (pc := 16) (i := 3) 3 hC dX11_stepFurther_16 rfl rfl ?_
      refine zr_ishr (pc := 17) hC dX11_stepFurther_17 ?_
      refine zr_iconst (pc := 18) (v := (1 : Int32)) hC dX11_stepFurther_18 ic_1 ?_
      refine zr_iand (pc := 19) hC dX11_stepFurther_19 ?_
      refine zr_iconst (pc := 20) (v := (1 : Int32)) hC dX11_stepFurther_20 ic_1 ?_
      refine zr_icmp_ne (pc := 21) (tgt := 32) hC dX11_stepFurther_21 (by decide) (fun c_ => ?_) (fun c_ => ?_)
      · refine zr_iload_n (pc := 24) (i := 2) 2 hC dX11_stepFurther_24 rfl rfl ?_
        refine zr_aload_n (pc := 25) (i := 0) 0 hC dX11_stepFurther_25 rfl rfl ?_
        refine zr_iload_n (pc := 26) (i := 3) 3 hC dX11_stepFurther_26 rfl rfl ?_
        refine zr_callV (pc := 27) (As := fun ad => [.int v3]) (st1 := [.int v2]) hC (Nat.le_of_ble_eq_true rfl) (kX11_nextOfKin _ v3 _) (Nat.le_of_ble_eq_true rfl) mc_yX11_nextOfKin m_1092 m_1094 m_p38 mem_0 lay_0 rfl rfl rfl rfl (Nat.le_of_ble_eq_true rfl) dX11_stepFurther_27 (fun y_1 s_1 => ?_)
        refine zr_ior (pc := 30) hC dX11_stepFurther_30 ?_
        refine zr_istore_n (pc := 31) (i := 2) (ls' := [(2, _), (0, _), (1, _), (3, _)]) hC dX11_stepFurther_31 rfl (nlt hN (Nat.le_of_ble_eq_true rfl)) rfl ?_
        refine zr_iinc (pc := 32) (q := 3) (ls' := [(3, _), (2, _), (0, _), (1, _)]) hC dX11_stepFurther_32 rfl (inc_1 _) (nlt hN (Nat.le_of_ble_eq_true rfl)) rfl ?_
        refine zr_goto (pc := 35) (tgt := 4) hC dX11_stepFurther_35 (by decide) ?_
        refine zr_sub (ls' := [(0, _), (1, _), (2, _), (3, _)]) [2, 3, 1, 0] rfl ?_
        exact ih (v2 ||| y_1) (v3 + (1 : Int32)) s_1
      · refine zr_iinc (pc := 32) (q := 3) (ls' := [(3, _), (0, _), (1, _), (2, _)]) hC dX11_stepFurther_32 rfl (inc_1 _) (nlt hN (Nat.le_of_ble_eq_true rfl)) rfl ?_
        refine zr_goto (pc := 35) (tgt := 4) hC dX11_stepFurther_35 (by decide) ?_
        refine zr_sub (ls' := [(0, _), (1, _), (2, _), (3, _)]) [1, 2, 3, 0] rfl ?_
        exact ih v2 (v3 + (1 : Int32)) s
def fX11_stepFurther (a1 : Int32) (s : St) : Option (Int32 × St) :=
  fX11_stepFurther_L4 a1 FU a1 (0 : Int32) s
set_option maxRecDepth 100000 in
set_option maxHeartbeats 4000000 in
theorem kX11_stepFurther (l : Launch)  (a1 : Int32) (s : St) : CN l yX11_stepFurther cX11_stepFurther 4 (some .int) 4 FULL (fun ad => [.ref (ad 0), .int a1]) s (fX11_stepFurther a1 s) := by
  refine cn_of (by decide) (fun _ => (Nat.le_of_ble_eq_true rfl)) (fun X hC hR hl hN => ?_)
  subst hl
  show Zr X (QFN X (some .int)) 0 s 0 [(0, .ref (X_ad X 0)), (1, .int a1)] [] _
  rw [fX11_stepFurther]
  refine zr_iload_n (pc := 0) (i := 1) 1 hC dX11_stepFurther_0 rfl rfl ?_
  refine zr_istore_n (pc := 1) (i := 2) (ls' := [(2, _), (0, _), (1, _)]) hC dX11_stepFurther_1 rfl (nlt hN (Nat.le_of_ble_eq_true rfl)) rfl ?_
  refine zr_iconst (pc := 2) (v := (0 : Int32)) hC dX11_stepFurther_2 ic_0 ?_
  refine zr_istore_n (pc := 3) (i := 3) (ls' := [(3, _), (2, _), (0, _), (1, _)]) hC dX11_stepFurther_3 rfl (nlt hN (Nat.le_of_ble_eq_true rfl)) rfl ?_
  refine zr_sub (ls' := [(0, _), (1, _), (2, _), (3, _)]) [2, 3, 1, 0] rfl ?_
  exact tX11_stepFurther_L4 a1 X hC hR hN FU a1 (0 : Int32) _
def fX11_kin_L17 (c2 : Int32) : Nat → Int32 → Int32 → St → Option (RT × St)
  | 0, _, _, _ => none
  | n + 1, v3, v4, s =>
    if (12 : Int32) < v4 then
    (some (.inl (-1 : Int32), s))
  else
    (if ((jshr v3 c2) &&& (1 : Int32)) = (1 : Int32) then
    (some (.inl v4, s))
  else
    (bd (fX11_stepFurther v3 s) (fun y_3 s_3 =>
    fX11_kin_L17 c2 n y_3 (v4 + (1 : Int32)) s_3)))
set_option maxRecDepth 100000 in
set_option maxHeartbeats 4000000 in
theorem tX11_kin_L17 (c2 : Int32) (X : KX) (hC : Ctx X RX11 cX11_kin FULL 8 2) (hR : RX X (some .int)) (hN : X_nL X = 5) : ∀ (n : Nat) (v3 : Int32) (v4 : Int32) (s : St), Zr X (QFX X (some .int) 2) 2 s 17 [(0, .ref (X_ad X 0)), (2, .int c2), (3, .int v3), (4, .int v4)] [] (fX11_kin_L17 c2 n v3 v4 s) := by
  intro n
  induction n with
  | zero =>
    intro v3 v4 s
    exact zr_none
  | succ n ih =>
    intro v3 v4 s
    rw [fX11_kin_L17]
    refine zr_iload (pc := 17) 3 hC dX11_kin_17 rfl ?_
    refine zr_bipush (pc := 19) (v := (12 : Int32)) hC dX11_kin_19 bi_12 ?_
    refine zr_icmp_gt (pc := 21) (tgt := 48) hC dX11_kin_21 (by decide) (fun c_ => ?_) (fun c_ => ?_)
    · refine zr_iconst (pc := 48) (v := (-1 : Int32)) hC dX11_kin_48 ic_m1 ?_
      exact zx_iret (pc := 49) hC (Nat.le_of_ble_eq_true rfl) hR dX11_kin_49
    · refine zr_iload_n (pc := 24) (i := 3) 2 hC dX11_kin_24 rfl rfl ?_
      refine zr_iload_n (pc := 25) (i := 2) 1 hC dX11_kin_25 rfl rfl ?_
      refine zr_ishr (pc := 26) hC dX11_kin_26 ?_
      refine zr_iconst (pc := 27) (v := (1 : Int32)) hC dX11_kin_27 ic_1 ?_
      refine zr_iand (pc := 28) hC dX11_kin_28 ?_
      refine zr_iconst (pc := 29) (v := (1 : Int32)) hC dX11_kin_29 ic_1 ?_
      refine zr_icmp_ne (pc := 30) (tgt := 36) hC dX11_kin_30 (by decide) (fun c_ => ?_) (fun c_ => ?_)
      · refine zr_iload (pc := 33) 3 hC dX11_kin_33 rfl ?_
        exact zx_iret (pc := 35) hC (Nat.le_of_ble_eq_true rfl) hR dX11_kin_35
      · refine zr_aload_n (pc := 36) (i := 0) 0 hC dX11_kin_36 rfl rfl ?_
        refine zr_iload_n (pc := 37) (i := 3) 2 hC dX11_kin_37 rfl rfl ?_
        refine zr_callV (pc := 38) (As := fun ad => [.int v3]) (st1 := []) hC (Nat.le_of_ble_eq_true rfl) (kX11_stepFurther _ v3 _) (Nat.le_of_ble_eq_true rfl) mc_yX11_stepFurther m_1088 m_1090 m_p37 mem_0 lay_0 rfl rfl rfl rfl (Nat.le_of_ble_eq_true rfl) dX11_kin_38 (fun y_3 s_3 => ?_)
        refine zr_istore_n (pc := 41) (i := 3) (ls' := [(3, _), (0, _), (2, _), (4, _)]) hC dX11_kin_41 rfl (nlt hN (Nat.le_of_ble_eq_true rfl)) rfl ?_
        refine zr_iinc (pc := 42) (q := 3) (ls' := [(4, _), (3, _), (0, _), (2, _)]) hC dX11_kin_42 rfl (inc_1 _) (nlt hN (Nat.le_of_ble_eq_true rfl)) rfl ?_
        refine zr_goto (pc := 45) (tgt := 17) hC dX11_kin_45 (by decide) ?_
        refine zr_sub (ls' := [(0, _), (2, _), (3, _), (4, _)]) [2, 3, 1, 0] rfl ?_
        exact ih y_3 (v4 + (1 : Int32)) s_3
def fX11_kin (a1 : Int32) (a2 : Int32) (s : St) : Option (RT × St) :=
  bx (fX11_needPerson a1 s) (fun y_1 s_1 =>
    bx (fX11_needPerson a2 s_1) (fun y_2 s_2 =>
    fX11_kin_L17 a2 FU (jshl (1 : Int32) a1) (0 : Int32) s_2))
set_option maxRecDepth 100000 in
set_option maxHeartbeats 4000000 in
theorem kX11_kin (l : Launch) (hst : l.stackTraces = false)  (a1 : Int32) (a2 : Int32) (s : St) : CX l yX11_kin cX11_kin 5 (some .int) 8 2 FULL (fun ad => [.ref (ad 0), .int a1, .int a2]) s (fX11_kin a1 a2 s) := by
  refine cx_of hst (by decide) (fun _ => (Nat.le_of_ble_eq_true rfl)) (fun X hC hR hl hN => ?_)
  subst hl
  show Zr X (QFX X (some .int) 2) 0 s 0 [(0, .ref (X_ad X 0)), (1, .int a1), (2, .int a2)] [] _
  rw [fX11_kin]
  refine zr_aload_n (pc := 0) (i := 0) 0 hC dX11_kin_0 rfl rfl ?_
  refine zr_iload_n (pc := 1) (i := 1) 1 hC dX11_kin_1 rfl rfl ?_
  refine zx_callV (pc := 2) (As := fun ad => [.int a1]) (st1 := []) hC hR (Nat.le_of_ble_eq_true rfl) (kX11_needPerson _ hR.2.2 a1 _) (Nat.le_of_ble_eq_true rfl) mc_yX11_needPerson m_1013 m_1015 m_p35 mem_0 lay_0 rfl rfl rfl rfl (Nat.le_of_ble_eq_true rfl) dX11_kin_2 (fun y_1 s_1 => ?_)
  show Zr X (QFX X (some .int) 2) 1 s_1 5 _ [] _
  refine zr_aload_n (pc := 5) (i := 0) 0 hC dX11_kin_5 rfl rfl ?_
  refine zr_iload_n (pc := 6) (i := 2) 2 hC dX11_kin_6 rfl rfl ?_
  refine zx_callV (pc := 7) (As := fun ad => [.int a2]) (st1 := []) hC hR (Nat.le_of_ble_eq_true rfl) (kX11_needPerson _ hR.2.2 a2 _) (Nat.le_of_ble_eq_true rfl) mc_yX11_needPerson m_1013 m_1015 m_p35 mem_0 lay_0 rfl rfl rfl rfl (Nat.le_of_ble_eq_true rfl) dX11_kin_7 (fun y_2 s_2 => ?_)
  show Zr X (QFX X (some .int) 2) 2 s_2 10 _ [] _
  refine zr_iconst (pc := 10) (v := (1 : Int32)) hC dX11_kin_10 ic_1 ?_
  refine zr_iload_n (pc := 11) (i := 1) 1 hC dX11_kin_11 rfl rfl ?_
  refine zr_ishl (pc := 12) hC dX11_kin_12 ?_
  refine zr_istore_n (pc := 13) (i := 3) (ls' := [(3, _), (0, _), (1, _), (2, _)]) hC dX11_kin_13 rfl (nlt hN (Nat.le_of_ble_eq_true rfl)) rfl ?_
  refine zr_iconst (pc := 14) (v := (0 : Int32)) hC dX11_kin_14 ic_0 ?_
  refine zr_istore (pc := 15) (ls' := [(4, _), (3, _), (0, _), (1, _), (2, _)]) hC dX11_kin_15 (nlt hN (Nat.le_of_ble_eq_true rfl)) rfl ?_
  refine zr_sub (ls' := [(0, _), (2, _), (3, _), (4, _)]) [2, 4, 1, 0] rfl ?_
  exact tX11_kin_L17 a2 X hC hR hN FU (jshl (1 : Int32) a1) (0 : Int32) _
def fX11_go (a1 : Int32) (a2 : Int32) (s : St) : Option (RT × St) :=
  bx (fX11_needPerson a1 s) (fun y_1 s_1 =>
    bd (fX10_alive 33 a1 s_1) (fun y_2 s_2 =>
    if y_2 = 0 then
    (bd (fX11_refusedAct s_2) (fun y_3 s_3 =>
    some (.inl y_3, s_3)))
  else
    (bd (fX11_isPlace a2 s_2) (fun y_4 s_4 =>
    if y_4 = 0 then
    (bd (fX11_refusedAct s_4) (fun y_8 s_8 =>
    some (.inl y_8, s_8)))
  else
    (bd (fX10_place 33 a1 s_4) (fun y_5 s_5 =>
    bd (fX8_keepAct 32 s_5) (fun y_6 s_6 =>
    bd (fX10_setPlace 33 a1 a2 s_6) (fun y_7 s_7 =>
    some (.inl y_5, s_7)))))))))
set_option maxRecDepth 100000 in
set_option maxHeartbeats 4000000 in
theorem kX11_go (l : Launch) (hst : l.stackTraces = false)  (a1 : Int32) (a2 : Int32) (s : St) : CX l yX11_go cX11_go 4 (some .int) 10 1 FULL (fun ad => [.ref (ad 0), .int a1, .int a2]) s (fX11_go a1 a2 s) := by
  refine cx_of hst (by decide) (fun _ => (Nat.le_of_ble_eq_true rfl)) (fun X hC hR hl hN => ?_)
  subst hl
  show Zr X (QFX X (some .int) 1) 0 s 0 [(0, .ref (X_ad X 0)), (1, .int a1), (2, .int a2)] [] _
  rw [fX11_go]
  refine zr_aload_n (pc := 0) (i := 0) 0 hC dX11_go_0 rfl rfl ?_
  refine zr_iload_n (pc := 1) (i := 1) 1 hC dX11_go_1 rfl rfl ?_
  refine zx_callV (pc := 2) (As := fun ad => [.int a1]) (st1 := []) hC hR (Nat.le_of_ble_eq_true rfl) (kX11_needPerson _ hR.2.2 a1 _) (Nat.le_of_ble_eq_true rfl) mc_yX11_needPerson m_1013 m_1015 m_p35 mem_0 lay_0 rfl rfl rfl rfl (Nat.le_of_ble_eq_true rfl) dX11_go_2 (fun y_1 s_1 => ?_)
  show Zr X (QFX X (some .int) 1) 1 s_1 5 _ [] _
  refine zr_aload_n (pc := 5) (i := 0) 0 hC dX11_go_5 rfl rfl ?_
  refine zr_getR (pc := 6) (j := 5) (k1 := 32) hC mem_0 lay_0 rfl rfl (Nat.le_of_ble_eq_true rfl) iX11 m_387 dX11_go_6 ?_
  refine zr_getR (pc := 9) (j := 0) (k1 := 33) hC mem_32 lay_32 rfl rfl (Nat.le_of_ble_eq_true rfl) iX8 m_215 dX11_go_9 ?_
  refine zr_iload_n (pc := 12) (i := 1) 1 hC dX11_go_12 rfl rfl ?_
  refine zr_callV (pc := 13) (As := fun ad => [.int a1]) (st1 := []) hC (Nat.le_of_ble_eq_true rfl) (kX10_alive _ is_33 a1 _) (Nat.le_of_ble_eq_true rfl) mc_yX10_alive m_523 m_524 m_525 mem_33 lay_33 rfl rfl rfl rfl (Nat.le_of_ble_eq_true rfl) dX11_go_13 (fun y_2 s_2 => ?_)
  refine zr_if_eq (pc := 16) (tgt := 26) hC dX11_go_16 (by decide) (fun c_ => ?_) (fun c_ => ?_)
  · refine zr_aload_n (pc := 26) (i := 0) 0 hC dX11_go_26 rfl rfl ?_
    refine zr_callV (pc := 27) (As := fun ad => []) (st1 := []) hC (Nat.le_of_ble_eq_true rfl) (kX11_refusedAct _  _) (Nat.le_of_ble_eq_true rfl) mc_yX11_refusedAct m_444 m_446 m_p1 mem_0 lay_0 rfl rfl rfl rfl (Nat.le_of_ble_eq_true rfl) dX11_go_27 (fun y_3 s_3 => ?_)
    exact zx_iret (pc := 30) hC (Nat.le_of_ble_eq_true rfl) hR dX11_go_30
  · refine zr_iload_n (pc := 19) (i := 2) 2 hC dX11_go_19 rfl rfl ?_
    refine zr_callS (pc := 20) (As := fun ad => [.int a2]) (st1 := []) hC (Nat.le_of_ble_eq_true rfl) (kX11_isPlace _ a2 _) (Nat.le_of_ble_eq_true rfl) mc_yX11_isPlace m_1041 m_1042 rfl rfl rfl (Nat.le_of_ble_eq_true rfl) dX11_go_20 (fun y_4 s_4 => ?_)
    refine zr_if_ne (pc := 23) (tgt := 31) hC dX11_go_23 (by decide) (fun c_ => ?_) (fun c_ => ?_)
    · refine zr_aload_n (pc := 26) (i := 0) 0 hC dX11_go_26 rfl rfl ?_
      refine zr_callV (pc := 27) (As := fun ad => []) (st1 := []) hC (Nat.le_of_ble_eq_true rfl) (kX11_refusedAct _  _) (Nat.le_of_ble_eq_true rfl) mc_yX11_refusedAct m_444 m_446 m_p1 mem_0 lay_0 rfl rfl rfl rfl (Nat.le_of_ble_eq_true rfl) dX11_go_27 (fun y_8 s_8 => ?_)
      exact zx_iret (pc := 30) hC (Nat.le_of_ble_eq_true rfl) hR dX11_go_30
    · refine zr_aload_n (pc := 31) (i := 0) 0 hC dX11_go_31 rfl rfl ?_
      refine zr_getR (pc := 32) (j := 5) (k1 := 32) hC mem_0 lay_0 rfl rfl (Nat.le_of_ble_eq_true rfl) iX11 m_387 dX11_go_32 ?_
      refine zr_getR (pc := 35) (j := 0) (k1 := 33) hC mem_32 lay_32 rfl rfl (Nat.le_of_ble_eq_true rfl) iX8 m_215 dX11_go_35 ?_
      refine zr_iload_n (pc := 38) (i := 1) 1 hC dX11_go_38 rfl rfl ?_
      refine zr_callV (pc := 39) (As := fun ad => [.int a1]) (st1 := []) hC (Nat.le_of_ble_eq_true rfl) (kX10_place _ is_33 a1 _) (Nat.le_of_ble_eq_true rfl) mc_yX10_place m_1017 m_488 m_489 mem_33 lay_33 rfl rfl rfl rfl (Nat.le_of_ble_eq_true rfl) dX11_go_39 (fun y_5 s_5 => ?_)
      refine zr_istore_n (pc := 42) (i := 3) (ls' := [(3, _), (0, _), (1, _), (2, _)]) hC dX11_go_42 rfl (nlt hN (Nat.le_of_ble_eq_true rfl)) rfl ?_
      refine zr_aload_n (pc := 43) (i := 0) 1 hC dX11_go_43 rfl rfl ?_
      refine zr_getR (pc := 44) (j := 5) (k1 := 32) hC mem_0 lay_0 rfl rfl (Nat.le_of_ble_eq_true rfl) iX11 m_387 dX11_go_44 ?_
      refine zr_callVv (pc := 47) (As := fun ad => []) (st1 := []) hC (Nat.le_of_ble_eq_true rfl) (kX8_keepAct _ is_32 _) (Nat.le_of_ble_eq_true rfl) mc_yX8_keepAct m_456 m_457 m_458 mem_32 lay_32 rfl rfl rfl rfl (Nat.le_of_ble_eq_true rfl) dX11_go_47 (fun y_6 s_6 => ?_)
      refine zr_aload_n (pc := 50) (i := 0) 1 hC dX11_go_50 rfl rfl ?_
      refine zr_getR (pc := 51) (j := 5) (k1 := 32) hC mem_0 lay_0 rfl rfl (Nat.le_of_ble_eq_true rfl) iX11 m_387 dX11_go_51 ?_
      refine zr_getR (pc := 54) (j := 0) (k1 := 33) hC mem_32 lay_32 rfl rfl (Nat.le_of_ble_eq_true rfl) iX8 m_215 dX11_go_54 ?_
      refine zr_iload_n (pc := 57) (i := 1) 2 hC dX11_go_57 rfl rfl ?_
      refine zr_iload_n (pc := 58) (i := 2) 3 hC dX11_go_58 rfl rfl ?_
      refine zr_callVv (pc := 59) (As := fun ad => [.int a1, .int a2]) (st1 := []) hC (Nat.le_of_ble_eq_true rfl) (kX10_setPlace _ is_33 a1 a2 _) (Nat.le_of_ble_eq_true rfl) mc_yX10_setPlace m_1107 m_850 m_851 mem_33 lay_33 rfl rfl rfl rfl (Nat.le_of_ble_eq_true rfl) dX11_go_59 (fun y_7 s_7 => ?_)
      refine zr_iload_n (pc := 62) (i := 3) 0 hC dX11_go_62 rfl rfl ?_
      exact zx_iret (pc := 63) hC (Nat.le_of_ble_eq_true rfl) hR dX11_go_63
def fX10_free (w : Nat) (a1 : Int32) (s : St) : Option (Int32 × St) :=
  bd (fX10_spouse w a1 s) (fun y_1 s_1 =>
    bd (fX10_alive w a1 s_1) (fun y_2 s_2 =>
    if y_2 = 0 then
    (some ((0 : Int32), s_2))
  else
    (if y_1 = (-1 : Int32) then
    (some ((1 : Int32), s_2))
  else
    (bd (fX10_alive w y_1 s_2) (fun y_3 s_3 =>
    if y_3 = 0 then
    (some ((1 : Int32), s_3))
  else
    (some ((0 : Int32), s_3)))))))
set_option maxRecDepth 100000 in
set_option maxHeartbeats 4000000 in
theorem kX10_free (l : Launch)  {w : Nat} (hw : isWd w) (a1 : Int32) (s : St) : CN l yX10_free cX10_free 3 (some .boolean) 3 FULL (fun ad => [.ref (ad w), .int a1]) s (fX10_free w a1 s) := by
  refine cn_of (by decide) (fun _ => (Nat.le_of_ble_eq_true rfl)) (fun X hC hR hl hN => ?_)
  subst hl
  show Zr X (QFN X (some .boolean)) 0 s 0 [(0, .ref (X_ad X w)), (1, .int a1)] [] _
  rw [fX10_free]
  refine zr_aload_n (pc := 0) (i := 0) 0 hC dX10_free_0 rfl rfl ?_
  refine zr_iload_n (pc := 1) (i := 1) 1 hC dX10_free_1 rfl rfl ?_
  refine zr_callV (pc := 2) (As := fun ad => [.int a1]) (st1 := []) hC (Nat.le_of_ble_eq_true rfl) (kX10_spouse _ hw a1 _) (Nat.le_of_ble_eq_true rfl) mc_yX10_spouse m_1119 m_867 m_868 hw.1.1 hw.1.2 rfl rfl rfl rfl (Nat.le_of_ble_eq_true rfl) dX10_free_2 (fun y_1 s_1 => ?_)
  refine zr_istore_n (pc := 5) (i := 2) (ls' := [(2, _), (0, _), (1, _)]) hC dX10_free_5 rfl (nlt hN (Nat.le_of_ble_eq_true rfl)) rfl ?_
  refine zr_aload_n (pc := 6) (i := 0) 1 hC dX10_free_6 rfl rfl ?_
  refine zr_iload_n (pc := 7) (i := 1) 2 hC dX10_free_7 rfl rfl ?_
  refine zr_callV (pc := 8) (As := fun ad => [.int a1]) (st1 := []) hC (Nat.le_of_ble_eq_true rfl) (kX10_alive _ hw a1 _) (Nat.le_of_ble_eq_true rfl) mc_yX10_alive m_549 m_524 m_525 hw.1.1 hw.1.2 rfl rfl rfl rfl (Nat.le_of_ble_eq_true rfl) dX10_free_8 (fun y_2 s_2 => ?_)
  refine zr_if_eq (pc := 11) (tgt := 31) hC dX10_free_11 (by decide) (fun c_ => ?_) (fun c_ => ?_)
  · refine zr_iconst (pc := 31) (v := (0 : Int32)) hC dX10_free_31 ic_0 ?_
    exact zr_zret (pc := 32) (by decide) hC hR dX10_free_32
  · refine zr_iload_n (pc := 14) (i := 2) 0 hC dX10_free_14 rfl rfl ?_
    refine zr_iconst (pc := 15) (v := (-1 : Int32)) hC dX10_free_15 ic_m1 ?_
    refine zr_icmp_eq (pc := 16) (tgt := 27) hC dX10_free_16 (by decide) (fun c_ => ?_) (fun c_ => ?_)
    · refine zr_iconst (pc := 27) (v := (1 : Int32)) hC dX10_free_27 ic_1 ?_
      refine zr_goto (pc := 28) (tgt := 32) hC dX10_free_28 (by decide) ?_
      exact zr_zret (pc := 32) (by decide) hC hR dX10_free_32
    · refine zr_aload_n (pc := 19) (i := 0) 1 hC dX10_free_19 rfl rfl ?_
      refine zr_iload_n (pc := 20) (i := 2) 0 hC dX10_free_20 rfl rfl ?_
      refine zr_callV (pc := 21) (As := fun ad => [.int y_1]) (st1 := []) hC (Nat.le_of_ble_eq_true rfl) (kX10_alive _ hw y_1 _) (Nat.le_of_ble_eq_true rfl) mc_yX10_alive m_549 m_524 m_525 hw.1.1 hw.1.2 rfl rfl rfl rfl (Nat.le_of_ble_eq_true rfl) dX10_free_21 (fun y_3 s_3 => ?_)
      refine zr_if_ne (pc := 24) (tgt := 31) hC dX10_free_24 (by decide) (fun c_ => ?_) (fun c_ => ?_)
      · refine zr_iconst (pc := 27) (v := (1 : Int32)) hC dX10_free_27 ic_1 ?_
        refine zr_goto (pc := 28) (tgt := 32) hC dX10_free_28 (by decide) ?_
        exact zr_zret (pc := 32) (by decide) hC hR dX10_free_32
      · refine zr_iconst (pc := 31) (v := (0 : Int32)) hC dX10_free_31 ic_0 ?_
        exact zr_zret (pc := 32) (by decide) hC hR dX10_free_32
def fX10_leaveSpouse (w : Nat) (a1 : Int32) (s : St) : Option (Int32 × St) :=
  bd (fX10_spouse w a1 s) (fun y_1 s_1 =>
    if y_1 = (-1 : Int32) then
    (some (0, s_1))
  else
    (bd (fX10_setSpouse w y_1 (-1 : Int32) s_1) (fun y_2 s_2 =>
    bd (fX10_setSpouse w a1 (-1 : Int32) s_2) (fun y_3 s_3 =>
    some (0, s_3)))))
set_option maxRecDepth 100000 in
set_option maxHeartbeats 4000000 in
theorem kX10_leaveSpouse (l : Launch)  {w : Nat} (hw : isWd w) (a1 : Int32) (s : St) : CN l yX10_leaveSpouse cX10_leaveSpouse 3 none 3 FULL (fun ad => [.ref (ad w), .int a1]) s (fX10_leaveSpouse w a1 s) := by
  refine cn_of (by decide) (fun _ => (Nat.le_of_ble_eq_true rfl)) (fun X hC hR hl hN => ?_)
  subst hl
  show Zr X (QFN X none) 0 s 0 [(0, .ref (X_ad X w)), (1, .int a1)] [] _
  rw [fX10_leaveSpouse]
  refine zr_aload_n (pc := 0) (i := 0) 0 hC dX10_leaveSpouse_0 rfl rfl ?_
  refine zr_iload_n (pc := 1) (i := 1) 1 hC dX10_leaveSpouse_1 rfl rfl ?_
  refine zr_callV (pc := 2) (As := fun ad => [.int a1]) (st1 := []) hC (Nat.le_of_ble_eq_true rfl) (kX10_spouse _ hw a1 _) (Nat.le_of_ble_eq_true rfl) mc_yX10_spouse m_1119 m_867 m_868 hw.1.1 hw.1.2 rfl rfl rfl rfl (Nat.le_of_ble_eq_true rfl) dX10_leaveSpouse_2 (fun y_1 s_1 => ?_)
  refine zr_istore_n (pc := 5) (i := 2) (ls' := [(2, _), (0, _), (1, _)]) hC dX10_leaveSpouse_5 rfl (nlt hN (Nat.le_of_ble_eq_true rfl)) rfl ?_
  refine zr_iload_n (pc := 6) (i := 2) 0 hC dX10_leaveSpouse_6 rfl rfl ?_
  refine zr_iconst (pc := 7) (v := (-1 : Int32)) hC dX10_leaveSpouse_7 ic_m1 ?_
  refine zr_icmp_eq (pc := 8) (tgt := 23) hC dX10_leaveSpouse_8 (by decide) (fun c_ => ?_) (fun c_ => ?_)
  · exact zr_vret (pc := 23) hC hR dX10_leaveSpouse_23
  · refine zr_aload_n (pc := 11) (i := 0) 1 hC dX10_leaveSpouse_11 rfl rfl ?_
    refine zr_iload_n (pc := 12) (i := 2) 0 hC dX10_leaveSpouse_12 rfl rfl ?_
    refine zr_iconst (pc := 13) (v := (-1 : Int32)) hC dX10_leaveSpouse_13 ic_m1 ?_
    refine zr_callVv (pc := 14) (As := fun ad => [.int y_1, .int (-1 : Int32)]) (st1 := []) hC (Nat.le_of_ble_eq_true rfl) (kX10_setSpouse _ hw y_1 (-1 : Int32) _) (Nat.le_of_ble_eq_true rfl) mc_yX10_setSpouse m_874 m_875 m_876 hw.1.1 hw.1.2 rfl rfl rfl rfl (Nat.le_of_ble_eq_true rfl) dX10_leaveSpouse_14 (fun y_2 s_2 => ?_)
    refine zr_aload_n (pc := 17) (i := 0) 1 hC dX10_leaveSpouse_17 rfl rfl ?_
    refine zr_iload_n (pc := 18) (i := 1) 2 hC dX10_leaveSpouse_18 rfl rfl ?_
    refine zr_iconst (pc := 19) (v := (-1 : Int32)) hC dX10_leaveSpouse_19 ic_m1 ?_
    refine zr_callVv (pc := 20) (As := fun ad => [.int a1, .int (-1 : Int32)]) (st1 := []) hC (Nat.le_of_ble_eq_true rfl) (kX10_setSpouse _ hw a1 (-1 : Int32) _) (Nat.le_of_ble_eq_true rfl) mc_yX10_setSpouse m_874 m_875 m_876 hw.1.1 hw.1.2 rfl rfl rfl rfl (Nat.le_of_ble_eq_true rfl) dX10_leaveSpouse_20 (fun y_3 s_3 => ?_)
    exact zr_vret (pc := 23) hC hR dX10_leaveSpouse_23
def fX11_wed (a1 : Int32) (a2 : Int32) (s : St) : Option (RT × St) :=
  bx (fX11_needPerson a1 s) (fun y_1 s_1 =>
    bx (fX11_needPerson a2 s_1) (fun y_2 s_2 =>
    if a1 = a2 then
    (bd (fX8_refuse 32 (1 : Int32) s_2) (fun y_3 s_3 =>
    some (.inl (0 : Int32), s_3)))
  else
    (bd (fX10_free 33 a1 s_2) (fun y_4 s_4 =>
    if y_4 = 0 then
    (bd (fX8_refuse 32 (1 : Int32) s_4) (fun y_5 s_5 =>
    some (.inl (0 : Int32), s_5)))
  else
    (bd (fX10_free 33 a2 s_4) (fun y_6 s_6 =>
    if y_6 = 0 then
    (bd (fX8_refuse 32 (1 : Int32) s_6) (fun y_11 s_11 =>
    some (.inl (0 : Int32), s_11)))
  else
    (bd (fX8_keepAct 32 s_6) (fun y_7 s_7 =>
    bd (fX10_leaveSpouse 33 a1 s_7) (fun y_8 s_8 =>
    bd (fX10_leaveSpouse 33 a2 s_8) (fun y_9 s_9 =>
    bd (fX10_join 33 a1 a2 s_9) (fun y_10 s_10 =>
    some (.inl (1 : Int32), s_10))))))))))))
set_option maxRecDepth 100000 in
set_option maxHeartbeats 4000000 in
theorem kX11_wed (l : Launch) (hst : l.stackTraces = false)  (a1 : Int32) (a2 : Int32) (s : St) : CX l yX11_wed cX11_wed 3 (some .boolean) 10 2 FULL (fun ad => [.ref (ad 0), .int a1, .int a2]) s (fX11_wed a1 a2 s) := by
  refine cx_of hst (by decide) (fun _ => (Nat.le_of_ble_eq_true rfl)) (fun X hC hR hl hN => ?_)
  subst hl
  show Zr X (QFX X (some .boolean) 2) 0 s 0 [(0, .ref (X_ad X 0)), (1, .int a1), (2, .int a2)] [] _
  rw [fX11_wed]
  refine zr_aload_n (pc := 0) (i := 0) 0 hC dX11_wed_0 rfl rfl ?_
  refine zr_iload_n (pc := 1) (i := 1) 1 hC dX11_wed_1 rfl rfl ?_
  refine zx_callV (pc := 2) (As := fun ad => [.int a1]) (st1 := []) hC hR (Nat.le_of_ble_eq_true rfl) (kX11_needPerson _ hR.2.2 a1 _) (Nat.le_of_ble_eq_true rfl) mc_yX11_needPerson m_1013 m_1015 m_p35 mem_0 lay_0 rfl rfl rfl rfl (Nat.le_of_ble_eq_true rfl) dX11_wed_2 (fun y_1 s_1 => ?_)
  show Zr X (QFX X (some .boolean) 2) 1 s_1 5 _ [] _
  refine zr_aload_n (pc := 5) (i := 0) 0 hC dX11_wed_5 rfl rfl ?_
  refine zr_iload_n (pc := 6) (i := 2) 2 hC dX11_wed_6 rfl rfl ?_
  refine zx_callV (pc := 7) (As := fun ad => [.int a2]) (st1 := []) hC hR (Nat.le_of_ble_eq_true rfl) (kX11_needPerson _ hR.2.2 a2 _) (Nat.le_of_ble_eq_true rfl) mc_yX11_needPerson m_1013 m_1015 m_p35 mem_0 lay_0 rfl rfl rfl rfl (Nat.le_of_ble_eq_true rfl) dX11_wed_7 (fun y_2 s_2 => ?_)
  show Zr X (QFX X (some .boolean) 2) 2 s_2 10 _ [] _
  refine zr_iload_n (pc := 10) (i := 1) 1 hC dX11_wed_10 rfl rfl ?_
  refine zr_iload_n (pc := 11) (i := 2) 2 hC dX11_wed_11 rfl rfl ?_
  refine zr_icmp_eq (pc := 12) (tgt := 43) hC dX11_wed_12 (by decide) (fun c_ => ?_) (fun c_ => ?_)
  · refine zr_aload_n (pc := 43) (i := 0) 0 hC dX11_wed_43 rfl rfl ?_
    refine zr_getR (pc := 44) (j := 5) (k1 := 32) hC mem_0 lay_0 rfl rfl (Nat.le_of_ble_eq_true rfl) iX11 m_387 dX11_wed_44 ?_
    refine zr_iconst (pc := 47) (v := (1 : Int32)) hC dX11_wed_47 ic_1 ?_
    refine zr_callVv (pc := 48) (As := fun ad => [.int (1 : Int32)]) (st1 := []) hC (Nat.le_of_ble_eq_true rfl) (kX8_refuse _ is_32 (1 : Int32) _) (Nat.le_of_ble_eq_true rfl) mc_yX8_refuse m_448 m_449 m_450 mem_32 lay_32 rfl rfl rfl rfl (Nat.le_of_ble_eq_true rfl) dX11_wed_48 (fun y_3 s_3 => ?_)
    refine zr_iconst (pc := 51) (v := (0 : Int32)) hC dX11_wed_51 ic_0 ?_
    exact zx_zret (pc := 52) (by decide) hC (Nat.le_of_ble_eq_true rfl) hR dX11_wed_52
  · refine zr_aload_n (pc := 15) (i := 0) 0 hC dX11_wed_15 rfl rfl ?_
    refine zr_getR (pc := 16) (j := 5) (k1 := 32) hC mem_0 lay_0 rfl rfl (Nat.le_of_ble_eq_true rfl) iX11 m_387 dX11_wed_16 ?_
    refine zr_getR (pc := 19) (j := 0) (k1 := 33) hC mem_32 lay_32 rfl rfl (Nat.le_of_ble_eq_true rfl) iX8 m_215 dX11_wed_19 ?_
    refine zr_iload_n (pc := 22) (i := 1) 1 hC dX11_wed_22 rfl rfl ?_
    refine zr_callV (pc := 23) (As := fun ad => [.int a1]) (st1 := []) hC (Nat.le_of_ble_eq_true rfl) (kX10_free _ is_33 a1 _) (Nat.le_of_ble_eq_true rfl) mc_yX10_free m_1115 m_1116 m_1117 mem_33 lay_33 rfl rfl rfl rfl (Nat.le_of_ble_eq_true rfl) dX11_wed_23 (fun y_4 s_4 => ?_)
    refine zr_if_eq (pc := 26) (tgt := 43) hC dX11_wed_26 (by decide) (fun c_ => ?_) (fun c_ => ?_)
    · refine zr_aload_n (pc := 43) (i := 0) 0 hC dX11_wed_43 rfl rfl ?_
      refine zr_getR (pc := 44) (j := 5) (k1 := 32) hC mem_0 lay_0 rfl rfl (Nat.le_of_ble_eq_true rfl) iX11 m_387 dX11_wed_44 ?_
      refine zr_iconst (pc := 47) (v := (1 : Int32)) hC dX11_wed_47 ic_1 ?_
      refine zr_callVv (pc := 48) (As := fun ad => [.int (1 : Int32)]) (st1 := []) hC (Nat.le_of_ble_eq_true rfl) (kX8_refuse _ is_32 (1 : Int32) _) (Nat.le_of_ble_eq_true rfl) mc_yX8_refuse m_448 m_449 m_450 mem_32 lay_32 rfl rfl rfl rfl (Nat.le_of_ble_eq_true rfl) dX11_wed_48 (fun y_5 s_5 => ?_)
      refine zr_iconst (pc := 51) (v := (0 : Int32)) hC dX11_wed_51 ic_0 ?_
      exact zx_zret (pc := 52) (by decide) hC (Nat.le_of_ble_eq_true rfl) hR dX11_wed_52
    · refine zr_aload_n (pc := 29) (i := 0) 0 hC dX11_wed_29 rfl rfl ?_
      refine zr_getR (pc := 30) (j := 5) (k1 := 32) hC mem_0 lay_0 rfl rfl (Nat.le_of_ble_eq_true rfl) iX11 m_387 dX11_wed_30 ?_
      refine zr_getR (pc := 33) (j := 0) (k1 := 33) hC mem_32 lay_32 rfl rfl (Nat.le_of_ble_eq_true rfl) iX8 m_215 dX11_wed_33 ?_
      refine zr_iload_n (pc := 36) (i := 2) 2 hC dX11_wed_36 rfl rfl ?_
      refine zr_callV (pc := 37) (As := fun ad => [.int a2]) (st1 := []) hC (Nat.le_of_ble_eq_true rfl) (kX10_free _ is_33 a2 _) (Nat.le_of_ble_eq_true rfl) mc_yX10_free m_1115 m_1116 m_1117 mem_33 lay_33 rfl rfl rfl rfl (Nat.le_of_ble_eq_true rfl) dX11_wed_37 (fun y_6 s_6 => ?_)
      refine zr_if_ne (pc := 40) (tgt := 53) hC dX11_wed_40 (by decide) (fun c_ => ?_) (fun c_ => ?_)
      · refine zr_aload_n (pc := 43) (i := 0) 0 hC dX11_wed_43 rfl rfl ?_
        refine zr_getR (pc := 44) (j := 5) (k1 := 32) hC mem_0 lay_0 rfl rfl (Nat.le_of_ble_eq_true rfl) iX11 m_387 dX11_wed_44 ?_
        refine zr_iconst (pc := 47) (v := (1 : Int32)) hC dX11_wed_47 ic_1 ?_
        refine zr_callVv (pc := 48) (As := fun ad => [.int (1 : Int32)]) (st1 := []) hC (Nat.le_of_ble_eq_true rfl) (kX8_refuse _ is_32 (1 : Int32) _) (Nat.le_of_ble_eq_true rfl) mc_yX8_refuse m_448 m_449 m_450 mem_32 lay_32 rfl rfl rfl rfl (Nat.le_of_ble_eq_true rfl) dX11_wed_48 (fun y_11 s_11 => ?_)
        refine zr_iconst (pc := 51) (v := (0 : Int32)) hC dX11_wed_51 ic_0 ?_
        exact zx_zret (pc := 52) (by decide) hC (Nat.le_of_ble_eq_true rfl) hR dX11_wed_52
      · refine zr_aload_n (pc := 53) (i := 0) 0 hC dX11_wed_53 rfl rfl ?_
        refine zr_getR (pc := 54) (j := 5) (k1 := 32) hC mem_0 lay_0 rfl rfl (Nat.le_of_ble_eq_true rfl) iX11 m_387 dX11_wed_54 ?_
        refine zr_callVv (pc := 57) (As := fun ad => []) (st1 := []) hC (Nat.le_of_ble_eq_true rfl) (kX8_keepAct _ is_32 _) (Nat.le_of_ble_eq_true rfl) mc_yX8_keepAct m_456 m_457 m_458 mem_32 lay_32 rfl rfl rfl rfl (Nat.le_of_ble_eq_true rfl) dX11_wed_57 (fun y_7 s_7 => ?_)
        refine zr_aload_n (pc := 60) (i := 0) 0 hC dX11_wed_60 rfl rfl ?_
        refine zr_getR (pc := 61) (j := 5) (k1 := 32) hC mem_0 lay_0 rfl rfl (Nat.le_of_ble_eq_true rfl) iX11 m_387 dX11_wed_61 ?_
        refine zr_getR (pc := 64) (j := 0) (k1 := 33) hC mem_32 lay_32 rfl rfl (Nat.le_of_ble_eq_true rfl) iX8 m_215 dX11_wed_64 ?_
        refine zr_iload_n (pc := 67) (i := 1) 1 hC dX11_wed_67 rfl rfl ?_
        refine zr_callVv (pc := 68) (As := fun ad => [.int a1]) (st1 := []) hC (Nat.le_of_ble_eq_true rfl) (kX10_leaveSpouse _ is_33 a1 _) (Nat.le_of_ble_eq_true rfl) mc_yX10_leaveSpouse m_1120 m_1121 m_1122 mem_33 lay_33 rfl rfl rfl rfl (Nat.le_of_ble_eq_true rfl) dX11_wed_68 (fun y_8 s_8 => ?_)
        refine zr_aload_n (pc := 71) (i := 0) 0 hC dX11_wed_71 rfl rfl ?_
        refine zr_getR (pc := 72) (j := 5) (k1 := 32) hC mem_0 lay_0 rfl rfl (Nat.le_of_ble_eq_true rfl) iX11 m_387 dX11_wed_72 ?_
        refine zr_getR (pc := 75) (j := 0) (k1 := 33) hC mem_32 lay_32 rfl rfl (Nat.le_of_ble_eq_true rfl) iX8 m_215 dX11_wed_75 ?_
        refine zr_iload_n (pc := 78) (i := 2) 2 hC dX11_wed_78 rfl rfl ?_
        refine zr_callVv (pc := 79) (As := fun ad => [.int a2]) (st1 := []) hC (Nat.le_of_ble_eq_true rfl) (kX10_leaveSpouse _ is_33 a2 _) (Nat.le_of_ble_eq_true rfl) mc_yX10_leaveSpouse m_1120 m_1121 m_1122 mem_33 lay_33 rfl rfl rfl rfl (Nat.le_of_ble_eq_true rfl) dX11_wed_79 (fun y_9 s_9 => ?_)
        refine zr_aload_n (pc := 82) (i := 0) 0 hC dX11_wed_82 rfl rfl ?_
        refine zr_getR (pc := 83) (j := 5) (k1 := 32) hC mem_0 lay_0 rfl rfl (Nat.le_of_ble_eq_true rfl) iX11 m_387 dX11_wed_83 ?_
        refine zr_getR (pc := 86) (j := 0) (k1 := 33) hC mem_32 lay_32 rfl rfl (Nat.le_of_ble_eq_true rfl) iX8 m_215 dX11_wed_86 ?_
        refine zr_iload_n (pc := 89) (i := 1) 1 hC dX11_wed_89 rfl rfl ?_
        refine zr_iload_n (pc := 90) (i := 2) 2 hC dX11_wed_90 rfl rfl ?_
        refine zr_callVv (pc := 91) (As := fun ad => [.int a1, .int a2]) (st1 := []) hC (Nat.le_of_ble_eq_true rfl) (kX10_join _ is_33 a1 a2 _) (Nat.le_of_ble_eq_true rfl) mc_yX10_join m_1124 m_871 m_872 mem_33 lay_33 rfl rfl rfl rfl (Nat.le_of_ble_eq_true rfl) dX11_wed_91 (fun y_10 s_10 => ?_)
        refine zr_iconst (pc := 94) (v := (1 : Int32)) hC dX11_wed_94 ic_1 ?_
        exact zx_zret (pc := 95) (by decide) hC (Nat.le_of_ble_eq_true rfl) hR dX11_wed_95
def fX4_isAdopted (g : Nat) (a1 : Int32) (s : St) : Option (Int32 × St) :=
  bd (fX11_at (g + 3) a1 s) (fun y_1 s_1 =>
    if y_1 = (1 : Int32) then
    (some ((1 : Int32), s_1))
  else
    (some ((0 : Int32), s_1)))
set_option maxRecDepth 100000 in
set_option maxHeartbeats 4000000 in
theorem kX4_isAdopted (l : Launch)  {g : Nat} (hg : isLand g) (a1 : Int32) (s : St) : CN l yX4_isAdopted cX4_isAdopted 2 (some .boolean) 2 FULL (fun ad => [.ref (ad g), .int a1]) s (fX4_isAdopted g a1 s) := by
  refine cn_of (by decide) (fun _ => (Nat.le_of_ble_eq_true rfl)) (fun X hC hR hl hN => ?_)
  subst hl
  show Zr X (QFN X (some .boolean)) 0 s 0 [(0, .ref (X_ad X g)), (1, .int a1)] [] _
  rw [fX4_isAdopted]
  refine zr_aload_n (pc := 0) (i := 0) 0 hC dX4_isAdopted_0 rfl rfl ?_
  refine zr_getR (pc := 1) (j := 3) (k1 := (g + 3)) hC hg.1.1 hg.1.2 rfl rfl (Nat.le_of_ble_eq_true rfl) iX4 m_76 dX4_isAdopted_1 ?_
  refine zr_iload_n (pc := 4) (i := 1) 1 hC dX4_isAdopted_4 rfl rfl ?_
  refine zr_callSN (pc := 5) (As := fun ad => [.ref (ad (g + 3)), .int a1]) (st1 := []) hC (Nat.le_of_ble_eq_true rfl) (kX11_at _ (isArr_of hg.2.2.2.1) a1 _) (Nat.le_of_ble_eq_true rfl) mc_yX11_at m_535 m_453 rfl rfl (Nat.le_of_ble_eq_true rfl) dX4_isAdopted_5 (fun y_1 s_1 => ?_)
  refine zr_iconst (pc := 8) (v := (1 : Int32)) hC dX4_isAdopted_8 ic_1 ?_
  refine zr_icmp_ne (pc := 9) (tgt := 16) hC dX4_isAdopted_9 (by decide) (fun c_ => ?_) (fun c_ => ?_)
  · refine zr_iconst (pc := 12) (v := (1 : Int32)) hC dX4_isAdopted_12 ic_1 ?_
    refine zr_goto (pc := 13) (tgt := 17) hC dX4_isAdopted_13 (by decide) ?_
    exact zr_zret (pc := 17) (by decide) hC hR dX4_isAdopted_17
  · refine zr_iconst (pc := 16) (v := (0 : Int32)) hC dX4_isAdopted_16 ic_0 ?_
    exact zr_zret (pc := 17) (by decide) hC hR dX4_isAdopted_17
def fX4_isOneOf (a0 : Int32) (a1 : Int32) (a2 : Int32) (s : St) : Option (Int32 × St) :=
  if a0 = (-1 : Int32) then
    (some ((0 : Int32), s))
  else
    (if a0 = a1 then
    (some ((1 : Int32), s))
  else
    (if a0 = a2 then
    (some ((1 : Int32), s))
  else
    (some ((0 : Int32), s))))
set_option maxRecDepth 100000 in
set_option maxHeartbeats 4000000 in
theorem kX4_isOneOf (l : Launch)  (a0 : Int32) (a1 : Int32) (a2 : Int32) (s : St) : CN l yX4_isOneOf cX4_isOneOf 3 (some .boolean) 1 FULL (fun ad => [.int a0, .int a1, .int a2]) s (fX4_isOneOf a0 a1 a2 s) := by
  refine cn_of (by decide) (fun _ => (Nat.le_of_ble_eq_true rfl)) (fun X hC hR hl hN => ?_)
  subst hl
  show Zr X (QFN X (some .boolean)) 0 s 0 [(0, .int a0), (1, .int a1), (2, .int a2)] [] _
  rw [fX4_isOneOf]
  refine zr_iload_n (pc := 0) (i := 0) 0 hC dX4_isOneOf_0 rfl rfl ?_
  refine zr_iconst (pc := 1) (v := (-1 : Int32)) hC dX4_isOneOf_1 ic_m1 ?_
  refine zr_icmp_eq (pc := 2) (tgt := 19) hC dX4_isOneOf_2 (by decide) (fun c_ => ?_) (fun c_ => ?_)
  · refine zr_iconst (pc := 19) (v := (0 : Int32)) hC dX4_isOneOf_19 ic_0 ?_
    exact zr_zret (pc := 20) (by decide) hC hR dX4_isOneOf_20
  · refine zr_iload_n (pc := 5) (i := 0) 0 hC dX4_isOneOf_5 rfl rfl ?_
    refine zr_iload_n (pc := 6) (i := 1) 1 hC dX4_isOneOf_6 rfl rfl ?_
    refine zr_icmp_eq (pc := 7) (tgt := 15) hC dX4_isOneOf_7 (by decide) (fun c_ => ?_) (fun c_ => ?_)
    · refine zr_iconst (pc := 15) (v := (1 : Int32)) hC dX4_isOneOf_15 ic_1 ?_
      refine zr_goto (pc := 16) (tgt := 20) hC dX4_isOneOf_16 (by decide) ?_
      exact zr_zret (pc := 20) (by decide) hC hR dX4_isOneOf_20
    · refine zr_iload_n (pc := 10) (i := 0) 0 hC dX4_isOneOf_10 rfl rfl ?_
      refine zr_iload_n (pc := 11) (i := 2) 2 hC dX4_isOneOf_11 rfl rfl ?_
      refine zr_icmp_ne (pc := 12) (tgt := 19) hC dX4_isOneOf_12 (by decide) (fun c_ => ?_) (fun c_ => ?_)
      · refine zr_iconst (pc := 15) (v := (1 : Int32)) hC dX4_isOneOf_15 ic_1 ?_
        refine zr_goto (pc := 16) (tgt := 20) hC dX4_isOneOf_16 (by decide) ?_
        exact zr_zret (pc := 20) (by decide) hC hR dX4_isOneOf_20
      · refine zr_iconst (pc := 19) (v := (0 : Int32)) hC dX4_isOneOf_19 ic_0 ?_
        exact zr_zret (pc := 20) (by decide) hC hR dX4_isOneOf_20
def fX4_areSiblings (g : Nat) (a1 : Int32) (a2 : Int32) (s : St) : Option (Int32 × St) :=
  bd (fX11_at (g + 1) a2 s) (fun y_1 s_1 =>
    bd (fX11_at (g + 2) a2 s_1) (fun y_2 s_2 =>
    bd (fX11_at (g + 1) a1 s_2) (fun y_3 s_3 =>
    bd (fX4_isOneOf y_3 y_1 y_2 s_3) (fun y_4 s_4 =>
    if y_4 = 0 then
    (bd (fX11_at (g + 2) a1 s_4) (fun y_5 s_5 =>
    bd (fX4_isOneOf y_5 y_1 y_2 s_5) (fun y_6 s_6 =>
    if y_6 = 0 then
    (some ((0 : Int32), s_6))
  else
    (some ((1 : Int32), s_6)))))
  else
    (some ((1 : Int32), s_4))))))
set_option maxRecDepth 100000 in
set_option maxHeartbeats 4000000 in
theorem kX4_areSiblings (l : Launch)  {g : Nat} (hg : isLand g) (a1 : Int32) (a2 : Int32) (s : St) : CN l yX4_areSiblings cX4_areSiblings 5 (some .boolean) 2 FULL (fun ad => [.ref (ad g), .int a1, .int a2]) s (fX4_areSiblings g a1 a2 s) := by
  refine cn_of (by decide) (fun _ => (Nat.le_of_ble_eq_true rfl)) (fun X hC hR hl hN => ?_)
  subst hl
  show Zr X (QFN X (some .boolean)) 0 s 0 [(0, .ref (X_ad X g)), (1, .int a1), (2, .int a2)] [] _
  rw [fX4_areSiblings]
  refine zr_aload_n (pc := 0) (i := 0) 0 hC dX4_areSiblings_0 rfl rfl ?_
  refine zr_getR (pc := 1) (j := 1) (k1 := (g + 1)) hC hg.1.1 hg.1.2 rfl rfl (Nat.le_of_ble_eq_true rfl) iX4 m_72 dX4_areSiblings_1 ?_
  refine zr_iload_n (pc := 4) (i := 2) 2 hC dX4_areSiblings_4 rfl rfl ?_
  refine zr_callSN (pc := 5) (As := fun ad => [.ref (ad (g + 1)), .int a2]) (st1 := []) hC (Nat.le_of_ble_eq_true rfl) (kX11_at _ (isArr_of hg.2.1) a2 _) (Nat.le_of_ble_eq_true rfl) mc_yX11_at m_535 m_453 rfl rfl (Nat.le_of_ble_eq_true rfl) dX4_areSiblings_5 (fun y_1 s_1 => ?_)
  refine zr_istore_n (pc := 8) (i := 3) (ls' := [(3, _), (0, _), (1, _), (2, _)]) hC dX4_areSiblings_8 rfl (nlt hN (Nat.le_of_ble_eq_true rfl)) rfl ?_
  refine zr_aload_n (pc := 9) (i := 0) 1 hC dX4_areSiblings_9 rfl rfl ?_
  refine zr_getR (pc := 10) (j := 2) (k1 := (g + 2)) hC hg.1.1 hg.1.2 rfl rfl (Nat.le_of_ble_eq_true rfl) iX4 m_74 dX4_areSiblings_10 ?_
  refine zr_iload_n (pc := 13) (i := 2) 3 hC dX4_areSiblings_13 rfl rfl ?_
  refine zr_callSN (pc := 14) (As := fun ad => [.ref (ad (g + 2)), .int a2]) (st1 := []) hC (Nat.le_of_ble_eq_true rfl) (kX11_at _ (isArr_of hg.2.2.1) a2 _) (Nat.le_of_ble_eq_true rfl) mc_yX11_at m_535 m_453 rfl rfl (Nat.le_of_ble_eq_true rfl) dX4_areSiblings_14 (fun y_2 s_2 => ?_)
  refine zr_istore (pc := 17) (ls' := [(4, _), (3, _), (0, _), (1, _), (2, _)]) hC dX4_areSiblings_17 (nlt hN (Nat.le_of_ble_eq_true rfl)) rfl ?_
  refine zr_aload_n (pc := 19) (i := 0) 2 hC dX4_areSiblings_19 rfl rfl ?_
  refine zr_getR (pc := 20) (j := 1) (k1 := (g + 1)) hC hg.1.1 hg.1.2 rfl rfl (Nat.le_of_ble_eq_true rfl) iX4 m_72 dX4_areSiblings_20 ?_
  refine zr_iload_n (pc := 23) (i := 1) 3 hC dX4_areSiblings_23 rfl rfl ?_
  refine zr_callSN (pc := 24) (As := fun ad => [.ref (ad (g + 1)), .int a1]) (st1 := []) hC (Nat.le_of_ble_eq_true rfl) (kX11_at _ (isArr_of hg.2.1) a1 _) (Nat.le_of_ble_eq_true rfl) mc_yX11_at m_535 m_453 rfl rfl (Nat.le_of_ble_eq_true rfl) dX4_areSiblings_24 (fun y_3 s_3 => ?_)
  refine zr_iload_n (pc := 27) (i := 3) 1 hC dX4_areSiblings_27 rfl rfl ?_
  refine zr_iload (pc := 28) 0 hC dX4_areSiblings_28 rfl ?_
  refine zr_callS (pc := 30) (As := fun ad => [.int y_3, .int y_1, .int y_2]) (st1 := []) hC (Nat.le_of_ble_eq_true rfl) (kX4_isOneOf _ y_3 y_1 y_2 _) (Nat.le_of_ble_eq_true rfl) mc_yX4_isOneOf m_1159 m_1160 rfl rfl rfl (Nat.le_of_ble_eq_true rfl) dX4_areSiblings_30 (fun y_4 s_4 => ?_)
  refine zr_if_ne (pc := 33) (tgt := 53) hC dX4_areSiblings_33 (by decide) (fun c_ => ?_) (fun c_ => ?_)
  · refine zr_aload_n (pc := 36) (i := 0) 2 hC dX4_areSiblings_36 rfl rfl ?_
    refine zr_getR (pc := 37) (j := 2) (k1 := (g + 2)) hC hg.1.1 hg.1.2 rfl rfl (Nat.le_of_ble_eq_true rfl) iX4 m_74 dX4_areSiblings_37 ?_
    refine zr_iload_n (pc := 40) (i := 1) 3 hC dX4_areSiblings_40 rfl rfl ?_
    refine zr_callSN (pc := 41) (As := fun ad => [.ref (ad (g + 2)), .int a1]) (st1 := []) hC (Nat.le_of_ble_eq_true rfl) (kX11_at _ (isArr_of hg.2.2.1) a1 _) (Nat.le_of_ble_eq_true rfl) mc_yX11_at m_535 m_453 rfl rfl (Nat.le_of_ble_eq_true rfl) dX4_areSiblings_41 (fun y_5 s_5 => ?_)
    refine zr_iload_n (pc := 44) (i := 3) 1 hC dX4_areSiblings_44 rfl rfl ?_
    refine zr_iload (pc := 45) 0 hC dX4_areSiblings_45 rfl ?_
    refine zr_callS (pc := 47) (As := fun ad => [.int y_5, .int y_1, .int y_2]) (st1 := []) hC (Nat.le_of_ble_eq_true rfl) (kX4_isOneOf _ y_5 y_1 y_2 _) (Nat.le_of_ble_eq_true rfl) mc_yX4_isOneOf m_1159 m_1160 rfl rfl rfl (Nat.le_of_ble_eq_true rfl) dX4_areSiblings_47 (fun y_6 s_6 => ?_)
    refine zr_if_eq (pc := 50) (tgt := 57) hC dX4_areSiblings_50 (by decide) (fun c_ => ?_) (fun c_ => ?_)
    · refine zr_iconst (pc := 57) (v := (0 : Int32)) hC dX4_areSiblings_57 ic_0 ?_
      exact zr_zret (pc := 58) (by decide) hC hR dX4_areSiblings_58
    · refine zr_iconst (pc := 53) (v := (1 : Int32)) hC dX4_areSiblings_53 ic_1 ?_
      refine zr_goto (pc := 54) (tgt := 58) hC dX4_areSiblings_54 (by decide) ?_
      exact zr_zret (pc := 58) (by decide) hC hR dX4_areSiblings_58
  · refine zr_iconst (pc := 53) (v := (1 : Int32)) hC dX4_areSiblings_53 ic_1 ?_
    refine zr_goto (pc := 54) (tgt := 58) hC dX4_areSiblings_54 (by decide) ?_
    exact zr_zret (pc := 58) (by decide) hC hR dX4_areSiblings_58
def fX5_valueOf (a0 : Int32) (g : Nat) (w : Nat) (a3 : Int32) (a4 : Int32) (s : St) : Option (Int32 × St) :=
  if a0 = (-6 : Int32) then
    (some (a4, s))
  else
    (if a0 = (-5 : Int32) then
    (bd (fX4_areSiblings g a3 a4 s) (fun y_1 s_1 =>
    if y_1 = 0 then
    (some ((0 : Int32), s_1))
  else
    (some ((1 : Int32), s_1))))
  else
    (if a0 = (-4 : Int32) then
    (bd (fX4_isParent g a4 a3 s) (fun y_2 s_2 =>
    if y_2 = 0 then
    (some ((0 : Int32), s_2))
  else
    (some ((1 : Int32), s_2))))
  else
    (if a0 = (-3 : Int32) then
    (bd (fX10_spouse w a3 s) (fun y_3 s_3 =>
    if y_3 = a4 then
    (some ((1 : Int32), s_3))
  else
    (some ((0 : Int32), s_3))))
  else
    (if a0 = (-2 : Int32) then
    (bd (fX4_isParent g a3 a4 s) (fun y_4 s_4 =>
    if y_4 = 0 then
    (some ((0 : Int32), s_4))
  else
    (bd (fX4_isAdopted g a4 s_4) (fun y_5 s_5 =>
    if y_5 = 0 then
    (some ((0 : Int32), s_5))
  else
    (some ((1 : Int32), s_5))))))
  else
    (if a0 = (-1 : Int32) then
    (bd (fX4_isParent g a3 a4 s) (fun y_6 s_6 =>
    if y_6 = 0 then
    (some ((0 : Int32), s_6))
  else
    (bd (fX4_isAdopted g a4 s_6) (fun y_7 s_7 =>
    if y_7 = 0 then
    (some ((1 : Int32), s_7))
  else
    (some ((0 : Int32), s_7))))))
  else
    (bd (fX10_place w a3 s) (fun y_8 s_8 =>
    bd (fX10_place w a4 s_8) (fun y_9 s_9 =>
    if y_8 = y_9 then
    (some ((1 : Int32), s_9))
  else
    (some ((0 : Int32), s_9))))))))))
set_option maxRecDepth 100000 in
set_option maxHeartbeats 4000000 in
theorem kX5_valueOf (l : Launch)  {g : Nat} {w : Nat} (hg : isLand g) (hw : isWd w) (a0 : Int32) (a3 : Int32) (a4 : Int32) (s : St) : CN l yX5_valueOf cX5_valueOf 5 (some .int) 3 FULL (fun ad => [.int a0, .ref (ad g), .ref (ad w), .int a3, .int a4]) s (fX5_valueOf a0 g w a3 a4 s) := by
  refine cn_of (by decide) (fun _ => (Nat.le_of_ble_eq_true rfl)) (fun X hC hR hl hN => ?_)
  subst hl
  show Zr X (QFN X (some .int)) 0 s 0 [(0, .int a0), (1, .ref (X_ad X g)), (2, .ref (X_ad X w)), (3, .int a3), (4, .int a4)] [] _
  rw [fX5_valueOf]
  refine zr_iload_n (pc := 0) (i := 0) 0 hC dX5_valueOf_0 rfl rfl ?_
  refine zr_tcase (pc := 1) (v := (-6 : Int32)) (off := 137) (tgt := 138) hC dX5_valueOf_1 (by decide) (by decide) (by decide) (by decide) ?_ (fun e0 => ?_)
  · refine zr_iload (pc := 138) 4 hC dX5_valueOf_138 rfl ?_
    exact zr_iret (pc := 140) hC hR dX5_valueOf_140
  refine zr_tcase (pc := 1) (v := (-5 : Int32)) (off := 121) (tgt := 122) hC dX5_valueOf_1 (by decide) (by decide) (by decide) (by decide) ?_ (fun e1 => ?_)
  · refine zr_aload_n (pc := 122) (i := 1) 1 hC dX5_valueOf_122 rfl rfl ?_
    refine zr_iload_n (pc := 123) (i := 3) 3 hC dX5_valueOf_123 rfl rfl ?_
    refine zr_iload (pc := 124) 4 hC dX5_valueOf_124 rfl ?_
    refine zr_callV (pc := 126) (As := fun ad => [.int a3, .int a4]) (st1 := []) hC (Nat.le_of_ble_eq_true rfl) (kX4_areSiblings _ hg a3 a4 _) (Nat.le_of_ble_eq_true rfl) mc_yX4_areSiblings m_1155 m_1156 m_1157 hg.1.1 hg.1.2 rfl rfl rfl rfl (Nat.le_of_ble_eq_true rfl) dX5_valueOf_126 (fun y_1 s_1 => ?_)
    refine zr_if_eq (pc := 129) (tgt := 136) hC dX5_valueOf_129 (by decide) (fun c_ => ?_) (fun c_ => ?_)
    · refine zr_iconst (pc := 136) (v := (0 : Int32)) hC dX5_valueOf_136 ic_0 ?_
      exact zr_iret (pc := 137) hC hR dX5_valueOf_137
    · refine zr_iconst (pc := 132) (v := (1 : Int32)) hC dX5_valueOf_132 ic_1 ?_
      refine zr_goto (pc := 133) (tgt := 137) hC dX5_valueOf_133 (by decide) ?_
      exact zr_iret (pc := 137) hC hR dX5_valueOf_137
  refine zr_tcase (pc := 1) (v := (-4 : Int32)) (off := 105) (tgt := 106) hC dX5_valueOf_1 (by decide) (by decide) (by decide) (by decide) ?_ (fun e2 => ?_)
  · refine zr_aload_n (pc := 106) (i := 1) 1 hC dX5_valueOf_106 rfl rfl ?_
    refine zr_iload (pc := 107) 4 hC dX5_valueOf_107 rfl ?_
    refine zr_iload_n (pc := 109) (i := 3) 3 hC dX5_valueOf_109 rfl rfl ?_
    refine zr_callV (pc := 110) (As := fun ad => [.int a4, .int a3]) (st1 := []) hC (Nat.le_of_ble_eq_true rfl) (kX4_isParent _ hg a4 a3 _) (Nat.le_of_ble_eq_true rfl) mc_yX4_isParent m_1145 m_1097 m_1098 hg.1.1 hg.1.2 rfl rfl rfl rfl (Nat.le_of_ble_eq_true rfl) dX5_valueOf_110 (fun y_2 s_2 => ?_)
    refine zr_if_eq (pc := 113) (tgt := 120) hC dX5_valueOf_113 (by decide) (fun c_ => ?_) (fun c_ => ?_)
    · refine zr_iconst (pc := 120) (v := (0 : Int32)) hC dX5_valueOf_120 ic_0 ?_
      exact zr_iret (pc := 121) hC hR dX5_valueOf_121
    · refine zr_iconst (pc := 116) (v := (1 : Int32)) hC dX5_valueOf_116 ic_1 ?_
      refine zr_goto (pc := 117) (tgt := 121) hC dX5_valueOf_117 (by decide) ?_
      exact zr_iret (pc := 121) hC hR dX5_valueOf_121
  refine zr_tcase (pc := 1) (v := (-3 : Int32)) (off := 89) (tgt := 90) hC dX5_valueOf_1 (by decide) (by decide) (by decide) (by decide) ?_ (fun e3 => ?_)
  · refine zr_aload_n (pc := 90) (i := 2) 2 hC dX5_valueOf_90 rfl rfl ?_
    refine zr_iload_n (pc := 91) (i := 3) 3 hC dX5_valueOf_91 rfl rfl ?_
    refine zr_callV (pc := 92) (As := fun ad => [.int a3]) (st1 := []) hC (Nat.le_of_ble_eq_true rfl) (kX10_spouse _ hw a3 _) (Nat.le_of_ble_eq_true rfl) mc_yX10_spouse m_1154 m_867 m_868 hw.1.1 hw.1.2 rfl rfl rfl rfl (Nat.le_of_ble_eq_true rfl) dX5_valueOf_92 (fun y_3 s_3 => ?_)
    refine zr_iload (pc := 95) 4 hC dX5_valueOf_95 rfl ?_
    refine zr_icmp_ne (pc := 97) (tgt := 104) hC dX5_valueOf_97 (by decide) (fun c_ => ?_) (fun c_ => ?_)
    · refine zr_iconst (pc := 100) (v := (1 : Int32)) hC dX5_valueOf_100 ic_1 ?_
      refine zr_goto (pc := 101) (tgt := 105) hC dX5_valueOf_101 (by decide) ?_
      exact zr_iret (pc := 105) hC hR dX5_valueOf_105
    · refine zr_iconst (pc := 104) (v := (0 : Int32)) hC dX5_valueOf_104 ic_0 ?_
      exact zr_iret (pc := 105) hC hR dX5_valueOf_105
  refine zr_tcase (pc := 1) (v := (-2 : Int32)) (off := 64) (tgt := 65) hC dX5_valueOf_1 (by decide) (by decide) (by decide) (by decide) ?_ (fun e4 => ?_)
  · refine zr_aload_n (pc := 65) (i := 1) 1 hC dX5_valueOf_65 rfl rfl ?_
    refine zr_iload_n (pc := 66) (i := 3) 3 hC dX5_valueOf_66 rfl rfl ?_
    refine zr_iload (pc := 67) 4 hC dX5_valueOf_67 rfl ?_
    refine zr_callV (pc := 69) (As := fun ad => [.int a3, .int a4]) (st1 := []) hC (Nat.le_of_ble_eq_true rfl) (kX4_isParent _ hg a3 a4 _) (Nat.le_of_ble_eq_true rfl) mc_yX4_isParent m_1145 m_1097 m_1098 hg.1.1 hg.1.2 rfl rfl rfl rfl (Nat.le_of_ble_eq_true rfl) dX5_valueOf_69 (fun y_4 s_4 => ?_)
    refine zr_if_eq (pc := 72) (tgt := 88) hC dX5_valueOf_72 (by decide) (fun c_ => ?_) (fun c_ => ?_)
    · refine zr_iconst (pc := 88) (v := (0 : Int32)) hC dX5_valueOf_88 ic_0 ?_
      exact zr_iret (pc := 89) hC hR dX5_valueOf_89
    · refine zr_aload_n (pc := 75) (i := 1) 1 hC dX5_valueOf_75 rfl rfl ?_
      refine zr_iload (pc := 76) 4 hC dX5_valueOf_76 rfl ?_
      refine zr_callV (pc := 78) (As := fun ad => [.int a4]) (st1 := []) hC (Nat.le_of_ble_eq_true rfl) (kX4_isAdopted _ hg a4 _) (Nat.le_of_ble_eq_true rfl) mc_yX4_isAdopted m_1150 m_1151 m_1152 hg.1.1 hg.1.2 rfl rfl rfl rfl (Nat.le_of_ble_eq_true rfl) dX5_valueOf_78 (fun y_5 s_5 => ?_)
      refine zr_if_eq (pc := 81) (tgt := 88) hC dX5_valueOf_81 (by decide) (fun c_ => ?_) (fun c_ => ?_)
      · refine zr_iconst (pc := 88) (v := (0 : Int32)) hC dX5_valueOf_88 ic_0 ?_
        exact zr_iret (pc := 89) hC hR dX5_valueOf_89
      · refine zr_iconst (pc := 84) (v := (1 : Int32)) hC dX5_valueOf_84 ic_1 ?_
        refine zr_goto (pc := 85) (tgt := 89) hC dX5_valueOf_85 (by decide) ?_
        exact zr_iret (pc := 89) hC hR dX5_valueOf_89
  refine zr_tcase (pc := 1) (v := (-1 : Int32)) (off := 39) (tgt := 40) hC dX5_valueOf_1 (by decide) (by decide) (by decide) (by decide) ?_ (fun e5 => ?_)
  · refine zr_aload_n (pc := 40) (i := 1) 1 hC dX5_valueOf_40 rfl rfl ?_
    refine zr_iload_n (pc := 41) (i := 3) 3 hC dX5_valueOf_41 rfl rfl ?_
    refine zr_iload (pc := 42) 4 hC dX5_valueOf_42 rfl ?_
    refine zr_callV (pc := 44) (As := fun ad => [.int a3, .int a4]) (st1 := []) hC (Nat.le_of_ble_eq_true rfl) (kX4_isParent _ hg a3 a4 _) (Nat.le_of_ble_eq_true rfl) mc_yX4_isParent m_1145 m_1097 m_1098 hg.1.1 hg.1.2 rfl rfl rfl rfl (Nat.le_of_ble_eq_true rfl) dX5_valueOf_44 (fun y_6 s_6 => ?_)
    refine zr_if_eq (pc := 47) (tgt := 63) hC dX5_valueOf_47 (by decide) (fun c_ => ?_) (fun c_ => ?_)
    · refine zr_iconst (pc := 63) (v := (0 : Int32)) hC dX5_valueOf_63 ic_0 ?_
      exact zr_iret (pc := 64) hC hR dX5_valueOf_64
    · refine zr_aload_n (pc := 50) (i := 1) 1 hC dX5_valueOf_50 rfl rfl ?_
      refine zr_iload (pc := 51) 4 hC dX5_valueOf_51 rfl ?_
      refine zr_callV (pc := 53) (As := fun ad => [.int a4]) (st1 := []) hC (Nat.le_of_ble_eq_true rfl) (kX4_isAdopted _ hg a4 _) (Nat.le_of_ble_eq_true rfl) mc_yX4_isAdopted m_1150 m_1151 m_1152 hg.1.1 hg.1.2 rfl rfl rfl rfl (Nat.le_of_ble_eq_true rfl) dX5_valueOf_53 (fun y_7 s_7 => ?_)
      refine zr_if_ne (pc := 56) (tgt := 63) hC dX5_valueOf_56 (by decide) (fun c_ => ?_) (fun c_ => ?_)
      · refine zr_iconst (pc := 59) (v := (1 : Int32)) hC dX5_valueOf_59 ic_1 ?_
        refine zr_goto (pc := 60) (tgt := 64) hC dX5_valueOf_60 (by decide) ?_
        exact zr_iret (pc := 64) hC hR dX5_valueOf_64
      · refine zr_iconst (pc := 63) (v := (0 : Int32)) hC dX5_valueOf_63 ic_0 ?_
        exact zr_iret (pc := 64) hC hR dX5_valueOf_64
  refine zr_tdef (pc := 1) (tgt := 141) [(-6 : Int32), (-5 : Int32), (-4 : Int32), (-3 : Int32), (-2 : Int32), (-1 : Int32)] hC dX5_valueOf_1 (List.forall_mem_cons.mpr ⟨e0, List.forall_mem_cons.mpr ⟨e1, List.forall_mem_cons.mpr ⟨e2, List.forall_mem_cons.mpr ⟨e3, List.forall_mem_cons.mpr ⟨e4, List.forall_mem_cons.mpr ⟨e5, fun _ h => absurd h List.not_mem_nil⟩⟩⟩⟩⟩⟩) (by decide) (by decide) (by decide) ?_
  refine zr_aload_n (pc := 141) (i := 2) 2 hC dX5_valueOf_141 rfl rfl ?_
  refine zr_iload_n (pc := 142) (i := 3) 3 hC dX5_valueOf_142 rfl rfl ?_
  refine zr_callV (pc := 143) (As := fun ad => [.int a3]) (st1 := []) hC (Nat.le_of_ble_eq_true rfl) (kX10_place _ hw a3 _) (Nat.le_of_ble_eq_true rfl) mc_yX10_place m_1162 m_488 m_489 hw.1.1 hw.1.2 rfl rfl rfl rfl (Nat.le_of_ble_eq_true rfl) dX5_valueOf_143 (fun y_8 s_8 => ?_)
  refine zr_aload_n (pc := 146) (i := 2) 2 hC dX5_valueOf_146 rfl rfl ?_
  refine zr_iload (pc := 147) 4 hC dX5_valueOf_147 rfl ?_
  refine zr_callV (pc := 149) (As := fun ad => [.int a4]) (st1 := [.int y_8]) hC (Nat.le_of_ble_eq_true rfl) (kX10_place _ hw a4 _) (Nat.le_of_ble_eq_true rfl) mc_yX10_place m_1162 m_488 m_489 hw.1.1 hw.1.2 rfl rfl rfl rfl (Nat.le_of_ble_eq_true rfl) dX5_valueOf_149 (fun y_9 s_9 => ?_)
  refine zr_icmp_ne (pc := 152) (tgt := 159) hC dX5_valueOf_152 (by decide) (fun c_ => ?_) (fun c_ => ?_)
  · refine zr_iconst (pc := 155) (v := (1 : Int32)) hC dX5_valueOf_155 ic_1 ?_
    refine zr_goto (pc := 156) (tgt := 160) hC dX5_valueOf_156 (by decide) ?_
    exact zr_iret (pc := 160) hC hR dX5_valueOf_160
  · refine zr_iconst (pc := 159) (v := (0 : Int32)) hC dX5_valueOf_159 ic_0 ?_
    exact zr_iret (pc := 160) hC hR dX5_valueOf_160
def fX5_joined (a0 : Int32) (a1 : Int32) (a2 : Int32) (s : St) : Option (Int32 × St) :=
  if a0 = (-18 : Int32) then
    (some ((a1 * a2), s))
  else
    (if a0 = (-17 : Int32) then
    (some ((a1 - a2), s))
  else
    (if a0 = (-16 : Int32) then
    (some ((a1 + a2), s))
  else
    (if a0 = (-15 : Int32) then
    (if a1 = a2 then
    (some ((1 : Int32), s))
  else
    (some ((0 : Int32), s)))
  else
    (if a0 = (-14 : Int32) then
    (if a2 ≤ a1 then
    (some ((0 : Int32), s))
  else
    (some ((1 : Int32), s)))
  else
    (if a0 = (-13 : Int32) then
    (if a1 = 0 then
    (some ((0 : Int32), s))
  else
    (if a2 = 0 then
    (some ((0 : Int32), s))
  else
    (some ((1 : Int32), s))))
  else
    (if a0 = (-12 : Int32) then
    (if a1 = 0 then
    (if a2 = 0 then
    (some ((0 : Int32), s))
  else
    (some ((1 : Int32), s)))
  else
    (some ((1 : Int32), s)))
  else
    (if a2 = 0 then
    (some ((0 : Int32), s))
  else
    (if a2 = 0 then none else
    some ((a1 / a2), s)))))))))
set_option maxRecDepth 100000 in
set_option maxHeartbeats 4000000 in
theorem kX5_joined (l : Launch)  (a0 : Int32) (a1 : Int32) (a2 : Int32) (s : St) : CN l yX5_joined cX5_joined 3 (some .int) 1 FULL (fun ad => [.int a0, .int a1, .int a2]) s (fX5_joined a0 a1 a2 s) := by
  refine cn_of (by decide) (fun _ => (Nat.le_of_ble_eq_true rfl)) (fun X hC hR hl hN => ?_)
  subst hl
  show Zr X (QFN X (some .int)) 0 s 0 [(0, .int a0), (1, .int a1), (2, .int a2)] [] _
  rw [fX5_joined]
  refine zr_iload_n (pc := 0) (i := 0) 0 hC dX5_joined_0 rfl rfl ?_
  refine zr_tcase (pc := 1) (v := (-18 : Int32)) (off := 101) (tgt := 102) hC dX5_joined_1 (by decide) (by decide) (by decide) (by decide) ?_ (fun e0 => ?_)
  · refine zr_iload_n (pc := 102) (i := 1) 1 hC dX5_joined_102 rfl rfl ?_
    refine zr_iload_n (pc := 103) (i := 2) 2 hC dX5_joined_103 rfl rfl ?_
    refine zr_imul (pc := 104) hC dX5_joined_104 ?_
    exact zr_iret (pc := 105) hC hR dX5_joined_105
  refine zr_tcase (pc := 1) (v := (-17 : Int32)) (off := 97) (tgt := 98) hC dX5_joined_1 (by decide) (by decide) (by decide) (by decide) ?_ (fun e1 => ?_)
  · refine zr_iload_n (pc := 98) (i := 1) 1 hC dX5_joined_98 rfl rfl ?_
    refine zr_iload_n (pc := 99) (i := 2) 2 hC dX5_joined_99 rfl rfl ?_
    refine zr_isub (pc := 100) hC dX5_joined_100 ?_
    exact zr_iret (pc := 101) hC hR dX5_joined_101
  refine zr_tcase (pc := 1) (v := (-16 : Int32)) (off := 93) (tgt := 94) hC dX5_joined_1 (by decide) (by decide) (by decide) (by decide) ?_ (fun e2 => ?_)
  · refine zr_iload_n (pc := 94) (i := 1) 1 hC dX5_joined_94 rfl rfl ?_
    refine zr_iload_n (pc := 95) (i := 2) 2 hC dX5_joined_95 rfl rfl ?_
    refine zr_iadd (pc := 96) hC dX5_joined_96 ?_
    exact zr_iret (pc := 97) hC hR dX5_joined_97
  refine zr_tcase (pc := 1) (v := (-15 : Int32)) (off := 82) (tgt := 83) hC dX5_joined_1 (by decide) (by decide) (by decide) (by decide) ?_ (fun e3 => ?_)
  · refine zr_iload_n (pc := 83) (i := 1) 1 hC dX5_joined_83 rfl rfl ?_
    refine zr_iload_n (pc := 84) (i := 2) 2 hC dX5_joined_84 rfl rfl ?_
    refine zr_icmp_ne (pc := 85) (tgt := 92) hC dX5_joined_85 (by decide) (fun c_ => ?_) (fun c_ => ?_)
    · refine zr_iconst (pc := 88) (v := (1 : Int32)) hC dX5_joined_88 ic_1 ?_
      refine zr_goto (pc := 89) (tgt := 93) hC dX5_joined_89 (by decide) ?_
      exact zr_iret (pc := 93) hC hR dX5_joined_93
    · refine zr_iconst (pc := 92) (v := (0 : Int32)) hC dX5_joined_92 ic_0 ?_
      exact zr_iret (pc := 93) hC hR dX5_joined_93
  refine zr_tcase (pc := 1) (v := (-14 : Int32)) (off := 71) (tgt := 72) hC dX5_joined_1 (by decide) (by decide) (by decide) (by decide) ?_ (fun e4 => ?_)
  · refine zr_iload_n (pc := 72) (i := 1) 1 hC dX5_joined_72 rfl rfl ?_
    refine zr_iload_n (pc := 73) (i := 2) 2 hC dX5_joined_73 rfl rfl ?_
    refine zr_icmp_ge (pc := 74) (tgt := 81) hC dX5_joined_74 (by decide) (fun c_ => ?_) (fun c_ => ?_)
    · refine zr_iconst (pc := 81) (v := (0 : Int32)) hC dX5_joined_81 ic_0 ?_
      exact zr_iret (pc := 82) hC hR dX5_joined_82
    · refine zr_iconst (pc := 77) (v := (1 : Int32)) hC dX5_joined_77 ic_1 ?_
      refine zr_goto (pc := 78) (tgt := 82) hC dX5_joined_78 (by decide) ?_
      exact zr_iret (pc := 82) hC hR dX5_joined_82
  refine zr_tcase (pc := 1) (v := (-13 : Int32)) (off := 57) (tgt := 58) hC dX5_joined_1 (by decide) (by decide) (by decide) (by decide) ?_ (fun e5 => ?_)
  · refine zr_iload_n (pc := 58) (i := 1) 1 hC dX5_joined_58 rfl rfl ?_
    refine zr_if_eq (pc := 59) (tgt := 70) hC dX5_joined_59 (by decide) (fun c_ => ?_) (fun c_ => ?_)
    · refine zr_iconst (pc := 70) (v := (0 : Int32)) hC dX5_joined_70 ic_0 ?_
      exact zr_iret (pc := 71) hC hR dX5_joined_71
    · refine zr_iload_n (pc := 62) (i := 2) 2 hC dX5_joined_62 rfl rfl ?_
      refine zr_if_eq (pc := 63) (tgt := 70) hC dX5_joined_63 (by decide) (fun c_ => ?_) (fun c_ => ?_)
      · refine zr_iconst (pc := 70) (v := (0 : Int32)) hC dX5_joined_70 ic_0 ?_
        exact zr_iret (pc := 71) hC hR dX5_joined_71
      · refine zr_iconst (pc := 66) (v := (1 : Int32)) hC dX5_joined_66 ic_1 ?_
        refine zr_goto (pc := 67) (tgt := 71) hC dX5_joined_67 (by decide) ?_
        exact zr_iret (pc := 71) hC hR dX5_joined_71
  refine zr_tcase (pc := 1) (v := (-12 : Int32)) (off := 43) (tgt := 44) hC dX5_joined_1 (by decide) (by decide) (by decide) (by decide) ?_ (fun e6 => ?_)
  · refine zr_iload_n (pc := 44) (i := 1) 1 hC dX5_joined_44 rfl rfl ?_
    refine zr_if_ne (pc := 45) (tgt := 52) hC dX5_joined_45 (by decide) (fun c_ => ?_) (fun c_ => ?_)
    · refine zr_iload_n (pc := 48) (i := 2) 2 hC dX5_joined_48 rfl rfl ?_
      refine zr_if_eq (pc := 49) (tgt := 56) hC dX5_joined_49 (by decide) (fun c_ => ?_) (fun c_ => ?_)
      · refine zr_iconst (pc := 56) (v := (0 : Int32)) hC dX5_joined_56 ic_0 ?_
        exact zr_iret (pc := 57) hC hR dX5_joined_57
      · refine zr_iconst (pc := 52) (v := (1 : Int32)) hC dX5_joined_52 ic_1 ?_
        refine zr_goto (pc := 53) (tgt := 57) hC dX5_joined_53 (by decide) ?_
        exact zr_iret (pc := 57) hC hR dX5_joined_57
    · refine zr_iconst (pc := 52) (v := (1 : Int32)) hC dX5_joined_52 ic_1 ?_
      refine zr_goto (pc := 53) (tgt := 57) hC dX5_joined_53 (by decide) ?_
      exact zr_iret (pc := 57) hC hR dX5_joined_57
  refine zr_tdef (pc := 1) (tgt := 106) [(-18 : Int32), (-17 : Int32), (-16 : Int32), (-15 : Int32), (-14 : Int32), (-13 : Int32), (-12 : Int32)] hC dX5_joined_1 (List.forall_mem_cons.mpr ⟨e0, List.forall_mem_cons.mpr ⟨e1, List.forall_mem_cons.mpr ⟨e2, List.forall_mem_cons.mpr ⟨e3, List.forall_mem_cons.mpr ⟨e4, List.forall_mem_cons.mpr ⟨e5, List.forall_mem_cons.mpr ⟨e6, fun _ h => absurd h List.not_mem_nil⟩⟩⟩⟩⟩⟩⟩) (by decide) (by decide) (by decide) ?_
  refine zr_iload_n (pc := 106) (i := 2) 2 hC dX5_joined_106 rfl rfl ?_
  refine zr_if_ne (pc := 107) (tgt := 114) hC dX5_joined_107 (by decide) (fun c_ => ?_) (fun c_ => ?_)
  · refine zr_iconst (pc := 110) (v := (0 : Int32)) hC dX5_joined_110 ic_0 ?_
    refine zr_goto (pc := 111) (tgt := 117) hC dX5_joined_111 (by decide) ?_
    exact zr_iret (pc := 117) hC hR dX5_joined_117
  · refine zr_iload_n (pc := 114) (i := 1) 1 hC dX5_joined_114 rfl rfl ?_
    refine zr_iload_n (pc := 115) (i := 2) 2 hC dX5_joined_115 rfl rfl ?_
    refine zr_idiv (pc := 116) hC dX5_joined_116 ?_
    exact zr_iret (pc := 117) hC hR dX5_joined_117
def fX5_gives_L29 (k176 : St → Option (Int32 × St)) (w : Nat) (g : Nat) (w1 : Nat) (c3 : Int32) (c4 : Int32) : Nat → Int32 → Int32 → St → Option (Int32 × St)
  | 0, _, _, _ => none
  | n + 1, v5, v6, s =>
    if (s w 2) ≤ v6 then
    (k176 s)
  else
    (bd (fX11_at (w + 1) v6 s) (fun y_1 s_1 =>
    if y_1 ≤ (-11 : Int32) then
    (if y_1 = (-11 : Int32) then
    (bd (fX11_at (w + 2) (v5 - (1 : Int32)) s_1) (fun y_6 s_6 =>
    if y_6 = 0 then
    (bd (fX11_put (w + 2) (v5 - (1 : Int32)) (1 : Int32) s_6) (fun y_8 s_8 =>
    fX5_gives_L29 k176 w g w1 c3 c4 n v5 (v6 + (1 : Int32)) s_8))
  else
    (bd (fX11_put (w + 2) (v5 - (1 : Int32)) (0 : Int32) s_6) (fun y_7 s_7 =>
    fX5_gives_L29 k176 w g w1 c3 c4 n v5 (v6 + (1 : Int32)) s_7))))
  else
    (bd (fX11_at (w + 2) ((v5 + (-1 : Int32)) - (1 : Int32)) s_1) (fun y_2 s_2 =>
    bd (fX11_at (w + 2) (v5 + (-1 : Int32)) s_2) (fun y_3 s_3 =>
    bd (fX5_joined y_1 y_2 y_3 s_3) (fun y_4 s_4 =>
    bd (fX11_put (w + 2) ((v5 + (-1 : Int32)) - (1 : Int32)) y_4 s_4) (fun y_5 s_5 =>
    fX5_gives_L29 k176 w g w1 c3 c4 n (v5 + (-1 : Int32)) (v6 + (1 : Int32)) s_5))))))
  else
    (if y_1 < 0 then
    (bd (fX5_valueOf y_1 g w1 c3 c4 s_1) (fun y_9 s_9 =>
    bd (fX11_put (w + 2) v5 y_9 s_9) (fun y_10 s_10 =>
    fX5_gives_L29 k176 w g w1 c3 c4 n (v5 + (1 : Int32)) (v6 + (1 : Int32)) s_10)))
  else
    (bd (fX11_put (w + 2) v5 y_1 s_1) (fun y_11 s_11 =>
    fX5_gives_L29 k176 w g w1 c3 c4 n (v5 + (1 : Int32)) (v6 + (1 : Int32)) s_11)))))
set_option maxRecDepth 100000 in
set_option maxHeartbeats 4000000 in
theorem tX5_gives_L29 (w : Nat) (g : Nat) (w1 : Nat) (c3 : Int32) (c4 : Int32) (k176 : St → Option (Int32 × St)) (X : KX) (hC : Ctx X RX5 cX5_gives FULL 7 0) (hR : RC X (some .int)) (hN : X_nL X = 8) (hw : isLaw w) (hg : isLand g) (hw1 : isWd w1) (hk176 : ∀ (s : St), Zr X (QFN X (some .int)) 0 s 176 [(0, .ref (X_ad X w))] [] (k176 s)) : ∀ (n : Nat) (v5 : Int32) (v6 : Int32) (s : St), Zr X (QFN X (some .int)) 0 s 29 [(0, .ref (X_ad X w)), (1, .ref (X_ad X g)), (2, .ref (X_ad X w1)), (3, .int c3), (4, .int c4), (5, .int v5), (6, .int v6)] [] (fX5_gives_L29 k176 w g w1 c3 c4 n v5 v6 s) := by
  intro n
  induction n with
  | zero =>
    intro v5 v6 s
    exact zr_none
  | succ n ih =>
    intro v5 v6 s
    rw [fX5_gives_L29]
    refine zr_iload (pc := 29) 6 hC dX5_gives_29 rfl ?_
    refine zr_aload_n (pc := 31) (i := 0) 0 hC dX5_gives_31 rfl rfl ?_
    refine zr_getI (pc := 32) (j := 2) hC hw.1.1 hw.1.2 rfl rfl (Nat.le_of_ble_eq_true rfl) iX5 m_53 dX5_gives_32 ?_
    refine zr_icmp_ge (pc := 35) (tgt := 176) hC dX5_gives_35 (by decide) (fun c_ => ?_) (fun c_ => ?_)
    · refine zr_sub (ls' := [(0, _)]) [0] rfl ?_
      exact hk176 s
    · refine zr_aload_n (pc := 38) (i := 0) 0 hC dX5_gives_38 rfl rfl ?_
      refine zr_getR (pc := 39) (j := 0) (k1 := (w + 1)) hC hw.1.1 hw.1.2 rfl rfl (Nat.le_of_ble_eq_true rfl) iX5 m_51 dX5_gives_39 ?_
      refine zr_iload (pc := 42) 6 hC dX5_gives_42 rfl ?_
      refine zr_callSN (pc := 44) (As := fun ad => [.ref (ad (w + 1)), .int v6]) (st1 := []) hC (Nat.le_of_ble_eq_true rfl) (kX11_at _ (isArr_of hw.2.1) v6 _) (Nat.le_of_ble_eq_true rfl) mc_yX11_at m_1146 m_453 rfl rfl (Nat.le_of_ble_eq_true rfl) dX5_gives_44 (fun y_1 s_1 => ?_)
      refine zr_istore (pc := 47) (ls' := [(7, _), (0, _), (1, _), (2, _), (3, _), (4, _), (5, _), (6, _)]) hC dX5_gives_47 (nlt hN (Nat.le_of_ble_eq_true rfl)) rfl ?_
      refine zr_iload (pc := 49) 0 hC dX5_gives_49 rfl ?_
      refine zr_bipush (pc := 51) (v := (-11 : Int32)) hC dX5_gives_51 bi_m11 ?_
      refine zr_icmp_le (pc := 53) (tgt := 91) hC dX5_gives_53 (by decide) (fun c_ => ?_) (fun c_ => ?_)
      · refine zr_iload (pc := 91) 0 hC dX5_gives_91 rfl ?_
        refine zr_bipush (pc := 93) (v := (-11 : Int32)) hC dX5_gives_93 bi_m11 ?_
        refine zr_icmp_ne (pc := 95) (tgt := 131) hC dX5_gives_95 (by decide) (fun c_ => ?_) (fun c_ => ?_)
        · refine zr_aload_n (pc := 98) (i := 0) 1 hC dX5_gives_98 rfl rfl ?_
          refine zr_getR (pc := 99) (j := 1) (k1 := (w + 2)) hC hw.1.1 hw.1.2 rfl rfl (Nat.le_of_ble_eq_true rfl) iX5 m_52 dX5_gives_99 ?_
          refine zr_iload (pc := 102) 6 hC dX5_gives_102 rfl ?_
          refine zr_iconst (pc := 104) (v := (1 : Int32)) hC dX5_gives_104 ic_1 ?_
          refine zr_isub (pc := 105) hC dX5_gives_105 ?_
          refine zr_aload_n (pc := 106) (i := 0) 1 hC dX5_gives_106 rfl rfl ?_
          refine zr_getR (pc := 107) (j := 1) (k1 := (w + 2)) hC hw.1.1 hw.1.2 rfl rfl (Nat.le_of_ble_eq_true rfl) iX5 m_52 dX5_gives_107 ?_
          refine zr_iload (pc := 110) 6 hC dX5_gives_110 rfl ?_
          refine zr_iconst (pc := 112) (v := (1 : Int32)) hC dX5_gives_112 ic_1 ?_
          refine zr_isub (pc := 113) hC dX5_gives_113 ?_
          refine zr_callSN (pc := 114) (As := fun ad => [.ref (ad (w + 2)), .int (v5 - (1 : Int32))]) (st1 := [.int (v5 - (1 : Int32)), .ref (X_ad X (w + 2))]) hC (Nat.le_of_ble_eq_true rfl) (kX11_at _ (isArr_of hw.2.2) (v5 - (1 : Int32)) _) (Nat.le_of_ble_eq_true rfl) mc_yX11_at m_1146 m_453 rfl rfl (Nat.le_of_ble_eq_true rfl) dX5_gives_114 (fun y_6 s_6 => ?_)
          refine zr_if_ne (pc := 117) (tgt := 124) hC dX5_gives_117 (by decide) (fun c_ => ?_) (fun c_ => ?_)
          · refine zr_iconst (pc := 120) (v := (1 : Int32)) hC dX5_gives_120 ic_1 ?_
            refine zr_goto (pc := 121) (tgt := 125) hC dX5_gives_121 (by decide) ?_
            refine zr_callSNv (pc := 125) (As := fun ad => [.ref (ad (w + 2)), .int (v5 - (1 : Int32)), .int (1 : Int32)]) (st1 := []) hC (Nat.le_of_ble_eq_true rfl) (kX11_put _ (isArr_of hw.2.2) (v5 - (1 : Int32)) (1 : Int32) _) (Nat.le_of_ble_eq_true rfl) mc_yX11_put m_950 m_141 rfl rfl (Nat.le_of_ble_eq_true rfl) dX5_gives_125 (fun y_8 s_8 => ?_)
            refine zr_goto (pc := 128) (tgt := 170) hC dX5_gives_128 (by decide) ?_
            refine zr_iinc (pc := 170) (q := 7) (ls' := [(6, _), (7, _), (0, _), (1, _), (2, _), (3, _), (4, _), (5, _)]) hC dX5_gives_170 rfl (inc_1 _) (nlt hN (Nat.le_of_ble_eq_true rfl)) rfl ?_
            refine zr_goto (pc := 173) (tgt := 29) hC dX5_gives_173 (by decide) ?_
            refine zr_sub (ls' := [(0, _), (1, _), (2, _), (3, _), (4, _), (5, _), (6, _)]) [2, 3, 4, 5, 6, 7, 0] rfl ?_
            exact ih v5 (v6 + (1 : Int32)) s_8
          · refine zr_iconst (pc := 124) (v := (0 : Int32)) hC dX5_gives_124 ic_0 ?_
            refine zr_callSNv (pc := 125) (As := fun ad => [.ref (ad (w + 2)), .int (v5 - (1 : Int32)), .int (0 : Int32)]) (st1 := []) hC (Nat.le_of_ble_eq_true rfl) (kX11_put _ (isArr_of hw.2.2) (v5 - (1 : Int32)) (0 : Int32) _) (Nat.le_of_ble_eq_true rfl) mc_yX11_put m_950 m_141 rfl rfl (Nat.le_of_ble_eq_true rfl) dX5_gives_125 (fun y_7 s_7 => ?_)
            refine zr_goto (pc := 128) (tgt := 170) hC dX5_gives_128 (by decide) ?_
            refine zr_iinc (pc := 170) (q := 7) (ls' := [(6, _), (7, _), (0, _), (1, _), (2, _), (3, _), (4, _), (5, _)]) hC dX5_gives_170 rfl (inc_1 _) (nlt hN (Nat.le_of_ble_eq_true rfl)) rfl ?_
            refine zr_goto (pc := 173) (tgt := 29) hC dX5_gives_173 (by decide) ?_
            refine zr_sub (ls' := [(0, _), (1, _), (2, _), (3, _), (4, _), (5, _), (6, _)]) [2, 3, 4, 5, 6, 7, 0] rfl ?_
            exact ih v5 (v6 + (1 : Int32)) s_7
        · refine zr_iinc (pc := 131) (q := 6) (ls' := [(5, _), (7, _), (0, _), (1, _), (2, _), (3, _), (4, _), (6, _)]) hC dX5_gives_131 rfl (inc_m1 _) (nlt hN (Nat.le_of_ble_eq_true rfl)) rfl ?_
          refine zr_aload_n (pc := 134) (i := 0) 2 hC dX5_gives_134 rfl rfl ?_
          refine zr_getR (pc := 135) (j := 1) (k1 := (w + 2)) hC hw.1.1 hw.1.2 rfl rfl (Nat.le_of_ble_eq_true rfl) iX5 m_52 dX5_gives_135 ?_
          refine zr_iload (pc := 138) 0 hC dX5_gives_138 rfl ?_
          refine zr_iconst (pc := 140) (v := (1 : Int32)) hC dX5_gives_140 ic_1 ?_
          refine zr_isub (pc := 141) hC dX5_gives_141 ?_
          refine zr_iload (pc := 142) 1 hC dX5_gives_142 rfl ?_
          refine zr_aload_n (pc := 144) (i := 0) 2 hC dX5_gives_144 rfl rfl ?_
          refine zr_getR (pc := 145) (j := 1) (k1 := (w + 2)) hC hw.1.1 hw.1.2 rfl rfl (Nat.le_of_ble_eq_true rfl) iX5 m_52 dX5_gives_145 ?_
          refine zr_iload (pc := 148) 0 hC dX5_gives_148 rfl ?_
          refine zr_iconst (pc := 150) (v := (1 : Int32)) hC dX5_gives_150 ic_1 ?_
          refine zr_isub (pc := 151) hC dX5_gives_151 ?_
          refine zr_callSN (pc := 152) (As := fun ad => [.ref (ad (w + 2)), .int ((v5 + (-1 : Int32)) - (1 : Int32))]) (st1 := [.int y_1, .int ((v5 + (-1 : Int32)) - (1 : Int32)), .ref (X_ad X (w + 2))]) hC (Nat.le_of_ble_eq_true rfl) (kX11_at _ (isArr_of hw.2.2) ((v5 + (-1 : Int32)) - (1 : Int32)) _) (Nat.le_of_ble_eq_true rfl) mc_yX11_at m_1146 m_453 rfl rfl (Nat.le_of_ble_eq_true rfl) dX5_gives_152 (fun y_2 s_2 => ?_)
          refine zr_aload_n (pc := 155) (i := 0) 2 hC dX5_gives_155 rfl rfl ?_
          refine zr_getR (pc := 156) (j := 1) (k1 := (w + 2)) hC hw.1.1 hw.1.2 rfl rfl (Nat.le_of_ble_eq_true rfl) iX5 m_52 dX5_gives_156 ?_
          refine zr_iload (pc := 159) 0 hC dX5_gives_159 rfl ?_
          refine zr_callSN (pc := 161) (As := fun ad => [.ref (ad (w + 2)), .int (v5 + (-1 : Int32))]) (st1 := [.int y_2, .int y_1, .int ((v5 + (-1 : Int32)) - (1 : Int32)), .ref (X_ad X (w + 2))]) hC (Nat.le_of_ble_eq_true rfl) (kX11_at _ (isArr_of hw.2.2) (v5 + (-1 : Int32)) _) (Nat.le_of_ble_eq_true rfl) mc_yX11_at m_1146 m_453 rfl rfl (Nat.le_of_ble_eq_true rfl) dX5_gives_161 (fun y_3 s_3 => ?_)
          refine zr_callS (pc := 164) (As := fun ad => [.int y_1, .int y_2, .int y_3]) (st1 := [.int ((v5 + (-1 : Int32)) - (1 : Int32)), .ref (X_ad X (w + 2))]) hC (Nat.le_of_ble_eq_true rfl) (kX5_joined _ y_1 y_2 y_3 _) (Nat.le_of_ble_eq_true rfl) mc_yX5_joined m_1163 m_1164 rfl rfl rfl (Nat.le_of_ble_eq_true rfl) dX5_gives_164 (fun y_4 s_4 => ?_)
          refine zr_callSNv (pc := 167) (As := fun ad => [.ref (ad (w + 2)), .int ((v5 + (-1 : Int32)) - (1 : Int32)), .int y_4]) (st1 := []) hC (Nat.le_of_ble_eq_true rfl) (kX11_put _ (isArr_of hw.2.2) ((v5 + (-1 : Int32)) - (1 : Int32)) y_4 _) (Nat.le_of_ble_eq_true rfl) mc_yX11_put m_950 m_141 rfl rfl (Nat.le_of_ble_eq_true rfl) dX5_gives_167 (fun y_5 s_5 => ?_)
          refine zr_iinc (pc := 170) (q := 7) (ls' := [(6, _), (5, _), (7, _), (0, _), (1, _), (2, _), (3, _), (4, _)]) hC dX5_gives_170 rfl (inc_1 _) (nlt hN (Nat.le_of_ble_eq_true rfl)) rfl ?_
          refine zr_goto (pc := 173) (tgt := 29) hC dX5_gives_173 (by decide) ?_
          refine zr_sub (ls' := [(0, _), (1, _), (2, _), (3, _), (4, _), (5, _), (6, _)]) [3, 4, 5, 6, 7, 1, 0] rfl ?_
          exact ih (v5 + (-1 : Int32)) (v6 + (1 : Int32)) s_5
      · refine zr_aload_n (pc := 56) (i := 0) 1 hC dX5_gives_56 rfl rfl ?_
        refine zr_getR (pc := 57) (j := 1) (k1 := (w + 2)) hC hw.1.1 hw.1.2 rfl rfl (Nat.le_of_ble_eq_true rfl) iX5 m_52 dX5_gives_57 ?_
        refine zr_iload (pc := 60) 6 hC dX5_gives_60 rfl ?_
        refine zr_iload (pc := 62) 0 hC dX5_gives_62 rfl ?_
        refine zr_if_lt (pc := 64) (tgt := 72) hC dX5_gives_64 (by decide) (fun c_ => ?_) (fun c_ => ?_)
        · refine zr_iload (pc := 72) 0 hC dX5_gives_72 rfl ?_
          refine zr_aload_n (pc := 74) (i := 1) 2 hC dX5_gives_74 rfl rfl ?_
          refine zr_aload_n (pc := 75) (i := 2) 3 hC dX5_gives_75 rfl rfl ?_
          refine zr_iload_n (pc := 76) (i := 3) 4 hC dX5_gives_76 rfl rfl ?_
          refine zr_iload (pc := 77) 5 hC dX5_gives_77 rfl ?_
          refine zr_callS (pc := 79) (As := fun ad => [.int y_1, .ref (ad g), .ref (ad w1), .int c3, .int c4]) (st1 := [.int v5, .ref (X_ad X (w + 2))]) hC (Nat.le_of_ble_eq_true rfl) (kX5_valueOf _ hg hw1 y_1 c3 c4 _) (Nat.le_of_ble_eq_true rfl) mc_yX5_valueOf m_1147 m_1148 rfl rfl rfl (Nat.le_of_ble_eq_true rfl) dX5_gives_79 (fun y_9 s_9 => ?_)
          refine zr_callSNv (pc := 82) (As := fun ad => [.ref (ad (w + 2)), .int v5, .int y_9]) (st1 := []) hC (Nat.le_of_ble_eq_true rfl) (kX11_put _ (isArr_of hw.2.2) v5 y_9 _) (Nat.le_of_ble_eq_true rfl) mc_yX11_put m_950 m_141 rfl rfl (Nat.le_of_ble_eq_true rfl) dX5_gives_82 (fun y_10 s_10 => ?_)
          refine zr_iinc (pc := 85) (q := 6) (ls' := [(5, _), (7, _), (0, _), (1, _), (2, _), (3, _), (4, _), (6, _)]) hC dX5_gives_85 rfl (inc_1 _) (nlt hN (Nat.le_of_ble_eq_true rfl)) rfl ?_
          refine zr_goto (pc := 88) (tgt := 170) hC dX5_gives_88 (by decide) ?_
          refine zr_iinc (pc := 170) (q := 7) (ls' := [(6, _), (5, _), (7, _), (0, _), (1, _), (2, _), (3, _), (4, _)]) hC dX5_gives_170 rfl (inc_1 _) (nlt hN (Nat.le_of_ble_eq_true rfl)) rfl ?_
          refine zr_goto (pc := 173) (tgt := 29) hC dX5_gives_173 (by decide) ?_
          refine zr_sub (ls' := [(0, _), (1, _), (2, _), (3, _), (4, _), (5, _), (6, _)]) [3, 4, 5, 6, 7, 1, 0] rfl ?_
          exact ih (v5 + (1 : Int32)) (v6 + (1 : Int32)) s_10
        · refine zr_iload (pc := 67) 0 hC dX5_gives_67 rfl ?_
          refine zr_goto (pc := 69) (tgt := 82) hC dX5_gives_69 (by decide) ?_
          refine zr_callSNv (pc := 82) (As := fun ad => [.ref (ad (w + 2)), .int v5, .int y_1]) (st1 := []) hC (Nat.le_of_ble_eq_true rfl) (kX11_put _ (isArr_of hw.2.2) v5 y_1 _) (Nat.le_of_ble_eq_true rfl) mc_yX11_put m_950 m_141 rfl rfl (Nat.le_of_ble_eq_true rfl) dX5_gives_82 (fun y_11 s_11 => ?_)
          refine zr_iinc (pc := 85) (q := 6) (ls' := [(5, _), (7, _), (0, _), (1, _), (2, _), (3, _), (4, _), (6, _)]) hC dX5_gives_85 rfl (inc_1 _) (nlt hN (Nat.le_of_ble_eq_true rfl)) rfl ?_
          refine zr_goto (pc := 88) (tgt := 170) hC dX5_gives_88 (by decide) ?_
          refine zr_iinc (pc := 170) (q := 7) (ls' := [(6, _), (5, _), (7, _), (0, _), (1, _), (2, _), (3, _), (4, _)]) hC dX5_gives_170 rfl (inc_1 _) (nlt hN (Nat.le_of_ble_eq_true rfl)) rfl ?_
          refine zr_goto (pc := 173) (tgt := 29) hC dX5_gives_173 (by decide) ?_
          refine zr_sub (ls' := [(0, _), (1, _), (2, _), (3, _), (4, _), (5, _), (6, _)]) [3, 4, 5, 6, 7, 1, 0] rfl ?_
          exact ih (v5 + (1 : Int32)) (v6 + (1 : Int32)) s_11
def fX5_gives (w : Nat) (g : Nat) (w1 : Nat) (a3 : Int32) (a4 : Int32) (s : St) : Option (Int32 × St) :=
  if (s w 3) = 0 then
    (bd (fX4_isParent g a3 a4 s) (fun y_14 s_14 =>
    if y_14 = 0 then
    (some ((0 : Int32), s_14))
  else
    (some ((1 : Int32), s_14))))
  else
    (fX5_gives_L29 (fun s_12 => bd (fX11_at (w + 2) (0 : Int32) s_12) (fun y_13 s_13 =>
    some ((jmax (0 : Int32) (jmin (999 : Int32) y_13)), s_13))) w g w1 a3 a4 FU (0 : Int32) (0 : Int32) s)
set_option maxRecDepth 100000 in
set_option maxHeartbeats 4000000 in
theorem kX5_gives (l : Launch)  {w : Nat} {g : Nat} {w1 : Nat} (hw : isLaw w) (hg : isLand g) (hw1 : isWd w1) (a3 : Int32) (a4 : Int32) (s : St) : CN l yX5_gives cX5_gives 8 (some .int) 7 FULL (fun ad => [.ref (ad w), .ref (ad g), .ref (ad w1), .int a3, .int a4]) s (fX5_gives w g w1 a3 a4 s) := by
  refine cn_of (by decide) (fun _ => (Nat.le_of_ble_eq_true rfl)) (fun X hC hR hl hN => ?_)
  subst hl
  show Zr X (QFN X (some .int)) 0 s 0 [(0, .ref (X_ad X w)), (1, .ref (X_ad X g)), (2, .ref (X_ad X w1)), (3, .int a3), (4, .int a4)] [] _
  rw [fX5_gives]
  refine zr_aload_n (pc := 0) (i := 0) 0 hC dX5_gives_0 rfl rfl ?_
  refine zr_getI (pc := 1) (j := 3) hC hw.1.1 hw.1.2 rfl rfl (Nat.le_of_ble_eq_true rfl) iX5 m_54 dX5_gives_1 ?_
  refine zr_if_ne (pc := 4) (tgt := 23) hC dX5_gives_4 (by decide) (fun c_ => ?_) (fun c_ => ?_)
  · refine zr_aload_n (pc := 7) (i := 1) 1 hC dX5_gives_7 rfl rfl ?_
    refine zr_iload_n (pc := 8) (i := 3) 3 hC dX5_gives_8 rfl rfl ?_
    refine zr_iload (pc := 9) 4 hC dX5_gives_9 rfl ?_
    refine zr_callV (pc := 11) (As := fun ad => [.int a3, .int a4]) (st1 := []) hC (Nat.le_of_ble_eq_true rfl) (kX4_isParent _ hg a3 a4 _) (Nat.le_of_ble_eq_true rfl) mc_yX4_isParent m_1145 m_1097 m_1098 hg.1.1 hg.1.2 rfl rfl rfl rfl (Nat.le_of_ble_eq_true rfl) dX5_gives_11 (fun y_14 s_14 => ?_)
    refine zr_if_eq (pc := 14) (tgt := 21) hC dX5_gives_14 (by decide) (fun c_ => ?_) (fun c_ => ?_)
    · refine zr_iconst (pc := 21) (v := (0 : Int32)) hC dX5_gives_21 ic_0 ?_
      exact zr_iret (pc := 22) hC hR dX5_gives_22
    · refine zr_iconst (pc := 17) (v := (1 : Int32)) hC dX5_gives_17 ic_1 ?_
      refine zr_goto (pc := 18) (tgt := 22) hC dX5_gives_18 (by decide) ?_
      exact zr_iret (pc := 22) hC hR dX5_gives_22
  · refine zr_iconst (pc := 23) (v := (0 : Int32)) hC dX5_gives_23 ic_0 ?_
    refine zr_istore (pc := 24) (ls' := [(5, _), (0, _), (1, _), (2, _), (3, _), (4, _)]) hC dX5_gives_24 (nlt hN (Nat.le_of_ble_eq_true rfl)) rfl ?_
    refine zr_iconst (pc := 26) (v := (0 : Int32)) hC dX5_gives_26 ic_0 ?_
    refine zr_istore (pc := 27) (ls' := [(6, _), (5, _), (0, _), (1, _), (2, _), (3, _), (4, _)]) hC dX5_gives_27 (nlt hN (Nat.le_of_ble_eq_true rfl)) rfl ?_
    refine zr_sub (ls' := [(0, _), (1, _), (2, _), (3, _), (4, _), (5, _), (6, _)]) [2, 3, 4, 5, 6, 1, 0] rfl ?_
    refine tX5_gives_L29 w g w1 a3 a4 _ X hC hR hN hw hg hw1 (fun s_12 => ?_) FU (0 : Int32) (0 : Int32) _
    · refine zr_iconst (pc := 176) (v := (0 : Int32)) hC dX5_gives_176 ic_0 ?_
      refine zr_sipush (pc := 177) (v := (999 : Int32)) hC dX5_gives_177 si_999 ?_
      refine zr_aload_n (pc := 180) (i := 0) 0 hC dX5_gives_180 rfl rfl ?_
      refine zr_getR (pc := 181) (j := 1) (k1 := (w + 2)) hC hw.1.1 hw.1.2 rfl rfl (Nat.le_of_ble_eq_true rfl) iX5 m_52 dX5_gives_181 ?_
      refine zr_iconst (pc := 184) (v := (0 : Int32)) hC dX5_gives_184 ic_0 ?_
      refine zr_callSN (pc := 185) (As := fun ad => [.ref (ad (w + 2)), .int (0 : Int32)]) (st1 := [.int (999 : Int32), .int (0 : Int32)]) hC (Nat.le_of_ble_eq_true rfl) (kX11_at _ (isArr_of hw.2.2) (0 : Int32) _) (Nat.le_of_ble_eq_true rfl) mc_yX11_at m_1146 m_453 rfl rfl (Nat.le_of_ble_eq_true rfl) dX5_gives_185 (fun y_13 s_13 => ?_)
      refine zr_mmin (pc := 188) hC (Nat.le_of_ble_eq_true rfl) (Nat.le_of_ble_eq_true rfl) m_1166 m_496 m_23 m_497 (Nat.le_of_ble_eq_true rfl) dX5_gives_188 ?_
      refine zr_mmax (pc := 191) hC (Nat.le_of_ble_eq_true rfl) (Nat.le_of_ble_eq_true rfl) m_1167 m_1053 m_23 m_1054 (Nat.le_of_ble_eq_true rfl) dX5_gives_191 ?_
      exact zr_iret (pc := 194) hC hR dX5_gives_194
def fX2_learn_J30 (lp : Int32 → St → Option (Int32 × St)) (g : Nat) (w : Nat) (v3 : Int32) (v4 : Int32) (q0 : Int32) (s : St) : Option (Int32 × St) :=
  if q0 = 0 then
    (bd (fX11_put 49 ((v3 * (12 : Int32)) + v4) (0 : Int32) s) (fun y_1 s_1 =>
    lp (v4 + (1 : Int32)) s_1))
  else
    (bd (fX5_gives (g + 8) g w v3 v4 s) (fun y_2 s_2 =>
    bd (fX11_put 49 ((v3 * (12 : Int32)) + v4) y_2 s_2) (fun y_3 s_3 =>
    lp (v4 + (1 : Int32)) s_3)))
set_option maxRecDepth 100000 in
set_option maxHeartbeats 4000000 in
theorem tX2_learn_J30 (g : Nat) (w : Nat) (v3 : Int32) (v4 : Int32) (q0 : Int32) (lp : Int32 → St → Option (Int32 × St)) (X : KX) (hC : Ctx X RX2 cX2_learn FULL 8 0) (hR : RC X none) (hN : X_nL X = 6) (hg : isLand g) (hw : isWd w) (ih : ∀ (u4 : Int32) (s : St), Zr X (QFN X none) 0 s 3 [(0, .ref (X_ad X 48)), (1, .ref (X_ad X g)), (2, .ref (X_ad X w)), (3, .int v3), (4, .int u4)] [] (lp u4 s)) (s : St) : Zr X (QFN X none) 0 s 30 [(0, .ref (X_ad X 48)), (1, .ref (X_ad X g)), (2, .ref (X_ad X w)), (3, .int v3), (4, .int v4)] [.int q0] (fX2_learn_J30 lp g w v3 v4 q0 s) := by
  rw [fX2_learn_J30]
  refine zr_istore (pc := 30) (ls' := [(5, _), (0, _), (1, _), (2, _), (3, _), (4, _)]) hC dX2_learn_30 (nlt hN (Nat.le_of_ble_eq_true rfl)) rfl ?_
  refine zr_aload_n (pc := 32) (i := 0) 1 hC dX2_learn_32 rfl rfl ?_
  refine zr_getR (pc := 33) (j := 0) (k1 := 49) hC mem_48 lay_48 rfl rfl (Nat.le_of_ble_eq_true rfl) iX2 m_254 dX2_learn_33 ?_
  refine zr_iload_n (pc := 36) (i := 3) 4 hC dX2_learn_36 rfl rfl ?_
  refine zr_bipush (pc := 37) (v := (12 : Int32)) hC dX2_learn_37 bi_12 ?_
  refine zr_imul (pc := 39) hC dX2_learn_39 ?_
  refine zr_iload (pc := 40) 5 hC dX2_learn_40 rfl ?_
  refine zr_iadd (pc := 42) hC dX2_learn_42 ?_
  refine zr_iload (pc := 43) 0 hC dX2_learn_43 rfl ?_
  refine zr_if_eq (pc := 45) (tgt := 63) hC dX2_learn_45 (by decide) (fun c_ => ?_) (fun c_ => ?_)
  · refine zr_iconst (pc := 63) (v := (0 : Int32)) hC dX2_learn_63 ic_0 ?_
    refine zr_callSNv (pc := 64) (As := fun ad => [.ref (ad 49), .int ((v3 * (12 : Int32)) + v4), .int (0 : Int32)]) (st1 := []) hC (Nat.le_of_ble_eq_true rfl) (kX11_put _ ar_49 ((v3 * (12 : Int32)) + v4) (0 : Int32) _) (Nat.le_of_ble_eq_true rfl) mc_yX11_put m_1168 m_141 rfl rfl (Nat.le_of_ble_eq_true rfl) dX2_learn_64 (fun y_1 s_1 => ?_)
    refine zr_iinc (pc := 67) (q := 5) (ls' := [(4, _), (5, _), (0, _), (1, _), (2, _), (3, _)]) hC dX2_learn_67 rfl (inc_1 _) (nlt hN (Nat.le_of_ble_eq_true rfl)) rfl ?_
    refine zr_goto (pc := 70) (tgt := 3) hC dX2_learn_70 (by decide) ?_
    refine zr_sub (ls' := [(0, _), (1, _), (2, _), (3, _), (4, _)]) [2, 3, 4, 5, 0] rfl ?_
    exact ih (v4 + (1 : Int32)) s_1
  · refine zr_aload_n (pc := 48) (i := 1) 2 hC dX2_learn_48 rfl rfl ?_
    refine zr_getR (pc := 49) (j := 11) (k1 := (g + 8)) hC hg.1.1 hg.1.2 rfl rfl (Nat.le_of_ble_eq_true rfl) iX4 m_104 dX2_learn_49 ?_
    refine zr_aload_n (pc := 52) (i := 1) 2 hC dX2_learn_52 rfl rfl ?_
    refine zr_aload_n (pc := 53) (i := 2) 3 hC dX2_learn_53 rfl rfl ?_
    refine zr_iload_n (pc := 54) (i := 3) 4 hC dX2_learn_54 rfl rfl ?_
    refine zr_iload (pc := 55) 5 hC dX2_learn_55 rfl ?_
    refine zr_callV (pc := 57) (As := fun ad => [.ref (ad g), .ref (ad w), .int v3, .int v4]) (st1 := [.int ((v3 * (12 : Int32)) + v4), .ref (X_ad X 49)]) hC (Nat.le_of_ble_eq_true rfl) (kX5_gives _ hg.2.2.2.2.2.2.2.2 hg hw v3 v4 _) (Nat.le_of_ble_eq_true rfl) mc_yX5_gives m_1141 m_1142 m_1143 hg.2.2.2.2.2.2.2.2.1.1 hg.2.2.2.2.2.2.2.2.1.2 rfl rfl rfl rfl (Nat.le_of_ble_eq_true rfl) dX2_learn_57 (fun y_2 s_2 => ?_)
    refine zr_goto (pc := 60) (tgt := 64) hC dX2_learn_60 (by decide) ?_
    refine zr_callSNv (pc := 64) (As := fun ad => [.ref (ad 49), .int ((v3 * (12 : Int32)) + v4), .int y_2]) (st1 := []) hC (Nat.le_of_ble_eq_true rfl) (kX11_put _ ar_49 ((v3 * (12 : Int32)) + v4) y_2 _) (Nat.le_of_ble_eq_true rfl) mc_yX11_put m_1168 m_141 rfl rfl (Nat.le_of_ble_eq_true rfl) dX2_learn_64 (fun y_3 s_3 => ?_)
    refine zr_iinc (pc := 67) (q := 5) (ls' := [(4, _), (5, _), (0, _), (1, _), (2, _), (3, _)]) hC dX2_learn_67 rfl (inc_1 _) (nlt hN (Nat.le_of_ble_eq_true rfl)) rfl ?_
    refine zr_goto (pc := 70) (tgt := 3) hC dX2_learn_70 (by decide) ?_
    refine zr_sub (ls' := [(0, _), (1, _), (2, _), (3, _), (4, _)]) [2, 3, 4, 5, 0] rfl ?_
    exact ih (v4 + (1 : Int32)) s_3
def fX2_learn_J29 (lp : Int32 → St → Option (Int32 × St)) (g : Nat) (w : Nat) (v3 : Int32) (v4 : Int32) (s : St) : Option (Int32 × St) :=
  fX2_learn_J30 (lp) g w v3 v4 (0 : Int32) s
set_option maxRecDepth 100000 in
set_option maxHeartbeats 4000000 in
theorem tX2_learn_J29 (g : Nat) (w : Nat) (v3 : Int32) (v4 : Int32) (lp : Int32 → St → Option (Int32 × St)) (X : KX) (hC : Ctx X RX2 cX2_learn FULL 8 0) (hR : RC X none) (hN : X_nL X = 6) (hg : isLand g) (hw : isWd w) (ih : ∀ (u4 : Int32) (s : St), Zr X (QFN X none) 0 s 3 [(0, .ref (X_ad X 48)), (1, .ref (X_ad X g)), (2, .ref (X_ad X w)), (3, .int v3), (4, .int u4)] [] (lp u4 s)) (s : St) : Zr X (QFN X none) 0 s 29 [(0, .ref (X_ad X 48)), (1, .ref (X_ad X g)), (2, .ref (X_ad X w)), (3, .int v3), (4, .int v4)] [] (fX2_learn_J29 lp g w v3 v4 s) := by
  rw [fX2_learn_J29]
  refine zr_iconst (pc := 29) (v := (0 : Int32)) hC dX2_learn_29 ic_0 ?_
  exact tX2_learn_J30 g w v3 v4 (0 : Int32) _ X hC hR hN hg hw  ih _
def fX2_learn_L3 (g : Nat) (w : Nat) (c3 : Int32) : Nat → Int32 → St → Option (Int32 × St)
  | 0, _, _ => none
  | n + 1, v4, s =>
    if (12 : Int32) ≤ v4 then
    (some (0, s))
  else
    (if v4 = c3 then
    (fX2_learn_J29 (fX2_learn_L3 g w c3 n) g w c3 v4 s)
  else
    (bd (fX10_alive w v4 s) (fun y_4 s_4 =>
    if y_4 = 0 then
    (fX2_learn_J29 (fX2_learn_L3 g w c3 n) g w c3 v4 s_4)
  else
    (fX2_learn_J30 (fX2_learn_L3 g w c3 n) g w c3 v4 (1 : Int32) s_4))))
set_option maxRecDepth 100000 in
set_option maxHeartbeats 4000000 in
theorem tX2_learn_L3 (g : Nat) (w : Nat) (c3 : Int32) (X : KX) (hC : Ctx X RX2 cX2_learn FULL 8 0) (hR : RC X none) (hN : X_nL X = 6) (hg : isLand g) (hw : isWd w) : ∀ (n : Nat) (v4 : Int32) (s : St), Zr X (QFN X none) 0 s 3 [(0, .ref (X_ad X 48)), (1, .ref (X_ad X g)), (2, .ref (X_ad X w)), (3, .int c3), (4, .int v4)] [] (fX2_learn_L3 g w c3 n v4 s) := by
  intro n
  induction n with
  | zero =>
    intro v4 s
    exact zr_none
  | succ n ih =>
    intro v4 s
    rw [fX2_learn_L3]
    refine zr_iload (pc := 3) 4 hC dX2_learn_3 rfl ?_
    refine zr_bipush (pc := 5) (v := (12 : Int32)) hC dX2_learn_5 bi_12 ?_
    refine zr_icmp_ge (pc := 7) (tgt := 73) hC dX2_learn_7 (by decide) (fun c_ => ?_) (fun c_ => ?_)
    · exact zr_vret (pc := 73) hC hR dX2_learn_73
    · refine zr_iload (pc := 10) 4 hC dX2_learn_10 rfl ?_
      refine zr_iload_n (pc := 12) (i := 3) 3 hC dX2_learn_12 rfl rfl ?_
      refine zr_icmp_eq (pc := 13) (tgt := 29) hC dX2_learn_13 (by decide) (fun c_ => ?_) (fun c_ => ?_)
      · exact tX2_learn_J29 g w c3 v4 _ X hC hR hN hg hw  ih _
      · refine zr_aload_n (pc := 16) (i := 2) 2 hC dX2_learn_16 rfl rfl ?_
        refine zr_iload (pc := 17) 4 hC dX2_learn_17 rfl ?_
        refine zr_callV (pc := 19) (As := fun ad => [.int v4]) (st1 := []) hC (Nat.le_of_ble_eq_true rfl) (kX10_alive _ hw v4 _) (Nat.le_of_ble_eq_true rfl) mc_yX10_alive m_1140 m_524 m_525 hw.1.1 hw.1.2 rfl rfl rfl rfl (Nat.le_of_ble_eq_true rfl) dX2_learn_19 (fun y_4 s_4 => ?_)
        refine zr_if_eq (pc := 22) (tgt := 29) hC dX2_learn_22 (by decide) (fun c_ => ?_) (fun c_ => ?_)
        · exact tX2_learn_J29 g w c3 v4 _ X hC hR hN hg hw  ih _
        · refine zr_iconst (pc := 25) (v := (1 : Int32)) hC dX2_learn_25 ic_1 ?_
          refine zr_goto (pc := 26) (tgt := 30) hC dX2_learn_26 (by decide) ?_
          exact tX2_learn_J30 g w c3 v4 (1 : Int32) _ X hC hR hN hg hw  ih _
def fX2_learn (g : Nat) (w : Nat) (a3 : Int32) (s : St) : Option (Int32 × St) :=
  fX2_learn_L3 g w a3 FU (0 : Int32) s
set_option maxRecDepth 100000 in
set_option maxHeartbeats 4000000 in
theorem kX2_learn (l : Launch)  {g : Nat} {w : Nat} (hg : isLand g) (hw : isWd w) (a3 : Int32) (s : St) : CN l yX2_learn cX2_learn 6 none 8 FULL (fun ad => [.ref (ad 48), .ref (ad g), .ref (ad w), .int a3]) s (fX2_learn g w a3 s) := by
  refine cn_of (by decide) (fun _ => (Nat.le_of_ble_eq_true rfl)) (fun X hC hR hl hN => ?_)
  subst hl
  show Zr X (QFN X none) 0 s 0 [(0, .ref (X_ad X 48)), (1, .ref (X_ad X g)), (2, .ref (X_ad X w)), (3, .int a3)] [] _
  rw [fX2_learn]
  refine zr_iconst (pc := 0) (v := (0 : Int32)) hC dX2_learn_0 ic_0 ?_
  refine zr_istore (pc := 1) (ls' := [(4, _), (0, _), (1, _), (2, _), (3, _)]) hC dX2_learn_1 (nlt hN (Nat.le_of_ble_eq_true rfl)) rfl ?_
  refine zr_sub (ls' := [(0, _), (1, _), (2, _), (3, _), (4, _)]) [1, 2, 3, 4, 0] rfl ?_
  exact tX2_learn_L3 g w a3 X hC hR hN hg hw FU (0 : Int32) _
def fX2_begin (s : St) : Option (Int32 × St) :=
  let s_1 := wr s 48 2 (0 : Int32);
    let s_2 := wr s_1 48 3 (0 : Int32);
    let s_3 := wr s_2 48 4 (-1 : Int32);
    some (0, s_3)
set_option maxRecDepth 100000 in
set_option maxHeartbeats 4000000 in
theorem kX2_begin (l : Launch)  (s : St) : CN l yX2_begin cX2_begin 1 none 1 FULL (fun ad => [.ref (ad 48)]) s (fX2_begin s) := by
  refine cn_of (by decide) (fun _ => (Nat.le_of_ble_eq_true rfl)) (fun X hC hR hl hN => ?_)
  subst hl
  show Zr X (QFN X none) 0 s 0 [(0, .ref (X_ad X 48))] [] _
  rw [fX2_begin]
  refine zr_aload_n (pc := 0) (i := 0) 0 hC dX2_begin_0 rfl rfl ?_
  refine zr_iconst (pc := 1) (v := (0 : Int32)) hC dX2_begin_1 ic_0 ?_
  refine zr_putInt (pc := 2) (j := 2) hC mem_48 lay_48 rfl rfl (Nat.le_of_ble_eq_true rfl) iX2 tyX2_ok nmX2 m_256 rfl (by decide +kernel) dX2_begin_2 ?_
  refine zr_aload_n (pc := 5) (i := 0) 0 hC dX2_begin_5 rfl rfl ?_
  refine zr_iconst (pc := 6) (v := (0 : Int32)) hC dX2_begin_6 ic_0 ?_
  refine zr_putInt (pc := 7) (j := 3) hC mem_48 lay_48 rfl rfl (Nat.le_of_ble_eq_true rfl) iX2 tyX2_ok nmX2 m_258 rfl (by decide +kernel) dX2_begin_7 ?_
  refine zr_aload_n (pc := 10) (i := 0) 0 hC dX2_begin_10 rfl rfl ?_
  refine zr_iconst (pc := 11) (v := (-1 : Int32)) hC dX2_begin_11 ic_m1 ?_
  refine zr_putInt (pc := 12) (j := 4) hC mem_48 lay_48 rfl rfl (Nat.le_of_ble_eq_true rfl) iX2 tyX2_ok nmX2 m_259 rfl (by decide +kernel) dX2_begin_12 ?_
  exact zr_vret (pc := 15) hC hR dX2_begin_15
def fX2_addShare_J13 (w : Nat) (v2 : Int32) (q0 : Int32) (s : St) : Option (Int32 × St) :=
  bd (fX11_put 50 v2 q0 s) (fun y_2 s_2 =>
    if q0 ≤ 0 then
    (some (0, s_2))
  else
    (let s_3 := wr s_2 48 2 ((s_2 48 2) + (1 : Int32));
    let s_4 := wr s_3 48 3 ((s_3 48 3) + q0);
    if (s_4 48 4) = (-1 : Int32) then
    (let s_6 := wr s_4 48 4 v2;
    some (0, s_6))
  else
    (let s_5 := wr s_4 48 4 (s_4 48 4);
    some (0, s_5))))
set_option maxRecDepth 100000 in
set_option maxHeartbeats 4000000 in
theorem tX2_addShare_J13 (w : Nat) (v2 : Int32) (q0 : Int32) (X : KX) (hC : Ctx X RX2 cX2_addShare FULL 3 0) (hR : RC X none) (hN : X_nL X = 5) (hw : isWd w) (s : St) : Zr X (QFN X none) 0 s 13 [(0, .ref (X_ad X 48)), (2, .int v2)] [.int q0] (fX2_addShare_J13 w v2 q0 s) := by
  rw [fX2_addShare_J13]
  refine zr_istore (pc := 13) (ls' := [(4, _), (0, _), (2, _)]) hC dX2_addShare_13 (nlt hN (Nat.le_of_ble_eq_true rfl)) rfl ?_
  refine zr_aload_n (pc := 15) (i := 0) 1 hC dX2_addShare_15 rfl rfl ?_
  refine zr_getR (pc := 16) (j := 1) (k1 := 50) hC mem_48 lay_48 rfl rfl (Nat.le_of_ble_eq_true rfl) iX2 m_255 dX2_addShare_16 ?_
  refine zr_iload_n (pc := 19) (i := 2) 2 hC dX2_addShare_19 rfl rfl ?_
  refine zr_iload (pc := 20) 0 hC dX2_addShare_20 rfl ?_
  refine zr_callSNv (pc := 22) (As := fun ad => [.ref (ad 50), .int v2, .int q0]) (st1 := []) hC (Nat.le_of_ble_eq_true rfl) (kX11_put _ ar_50 v2 q0 _) (Nat.le_of_ble_eq_true rfl) mc_yX11_put m_1168 m_141 rfl rfl (Nat.le_of_ble_eq_true rfl) dX2_addShare_22 (fun y_2 s_2 => ?_)
  refine zr_iload (pc := 25) 0 hC dX2_addShare_25 rfl ?_
  refine zr_if_le (pc := 27) (tgt := 71) hC dX2_addShare_27 (by decide) (fun c_ => ?_) (fun c_ => ?_)
  · exact zr_vret (pc := 71) hC hR dX2_addShare_71
  · refine zr_aload_n (pc := 30) (i := 0) 1 hC dX2_addShare_30 rfl rfl ?_
    refine zr_dup (pc := 31) hC dX2_addShare_31 rfl ?_
    refine zr_getI (pc := 32) (j := 2) hC mem_48 lay_48 rfl rfl (Nat.le_of_ble_eq_true rfl) iX2 m_256 dX2_addShare_32 ?_
    refine zr_iconst (pc := 35) (v := (1 : Int32)) hC dX2_addShare_35 ic_1 ?_
    refine zr_iadd (pc := 36) hC dX2_addShare_36 ?_
    refine zr_putInt (pc := 37) (j := 2) hC mem_48 lay_48 rfl rfl (Nat.le_of_ble_eq_true rfl) iX2 tyX2_ok nmX2 m_256 rfl (by decide +kernel) dX2_addShare_37 ?_
    refine zr_aload_n (pc := 40) (i := 0) 1 hC dX2_addShare_40 rfl rfl ?_
    refine zr_dup (pc := 41) hC dX2_addShare_41 rfl ?_
    refine zr_getI (pc := 42) (j := 3) hC mem_48 lay_48 rfl rfl (Nat.le_of_ble_eq_true rfl) iX2 m_258 dX2_addShare_42 ?_
    refine zr_iload (pc := 45) 0 hC dX2_addShare_45 rfl ?_
    refine zr_iadd (pc := 47) hC dX2_addShare_47 ?_
    refine zr_putInt (pc := 48) (j := 3) hC mem_48 lay_48 rfl rfl (Nat.le_of_ble_eq_true rfl) iX2 tyX2_ok nmX2 m_258 rfl (by decide +kernel) dX2_addShare_48 ?_
    refine zr_aload_n (pc := 51) (i := 0) 1 hC dX2_addShare_51 rfl rfl ?_
    refine zr_aload_n (pc := 52) (i := 0) 1 hC dX2_addShare_52 rfl rfl ?_
    refine zr_getI (pc := 53) (j := 4) hC mem_48 lay_48 rfl rfl (Nat.le_of_ble_eq_true rfl) iX2 m_259 dX2_addShare_53 ?_
    refine zr_iconst (pc := 56) (v := (-1 : Int32)) hC dX2_addShare_56 ic_m1 ?_
    refine zr_icmp_ne (pc := 57) (tgt := 64) hC dX2_addShare_57 (by decide) (fun c_ => ?_) (fun c_ => ?_)
    · refine zr_iload_n (pc := 60) (i := 2) 2 hC dX2_addShare_60 rfl rfl ?_
      refine zr_goto (pc := 61) (tgt := 68) hC dX2_addShare_61 (by decide) ?_
      refine zr_putInt (pc := 68) (j := 4) hC mem_48 lay_48 rfl rfl (Nat.le_of_ble_eq_true rfl) iX2 tyX2_ok nmX2 m_259 rfl (by decide +kernel) dX2_addShare_68 ?_
      exact zr_vret (pc := 71) hC hR dX2_addShare_71
    · refine zr_aload_n (pc := 64) (i := 0) 1 hC dX2_addShare_64 rfl rfl ?_
      refine zr_getI (pc := 65) (j := 4) hC mem_48 lay_48 rfl rfl (Nat.le_of_ble_eq_true rfl) iX2 m_259 dX2_addShare_65 ?_
      refine zr_putInt (pc := 68) (j := 4) hC mem_48 lay_48 rfl rfl (Nat.le_of_ble_eq_true rfl) iX2 tyX2_ok nmX2 m_259 rfl (by decide +kernel) dX2_addShare_68 ?_
      exact zr_vret (pc := 71) hC hR dX2_addShare_71
def fX2_addShare (w : Nat) (a2 : Int32) (a3 : Int32) (s : St) : Option (Int32 × St) :=
  bd (fX10_alive w a2 s) (fun y_1 s_1 =>
    if y_1 = 0 then
    (fX2_addShare_J13 w a2 (0 : Int32) s_1)
  else
    (fX2_addShare_J13 w a2 a3 s_1))
set_option maxRecDepth 100000 in
set_option maxHeartbeats 4000000 in
theorem kX2_addShare (l : Launch)  {w : Nat} (hw : isWd w) (a2 : Int32) (a3 : Int32) (s : St) : CN l yX2_addShare cX2_addShare 5 none 3 FULL (fun ad => [.ref (ad 48), .ref (ad w), .int a2, .int a3]) s (fX2_addShare w a2 a3 s) := by
  refine cn_of (by decide) (fun _ => (Nat.le_of_ble_eq_true rfl)) (fun X hC hR hl hN => ?_)
  subst hl
  show Zr X (QFN X none) 0 s 0 [(0, .ref (X_ad X 48)), (1, .ref (X_ad X w)), (2, .int a2), (3, .int a3)] [] _
  rw [fX2_addShare]
  refine zr_aload_n (pc := 0) (i := 1) 1 hC dX2_addShare_0 rfl rfl ?_
  refine zr_iload_n (pc := 1) (i := 2) 2 hC dX2_addShare_1 rfl rfl ?_
  refine zr_callV (pc := 2) (As := fun ad => [.int a2]) (st1 := []) hC (Nat.le_of_ble_eq_true rfl) (kX10_alive _ hw a2 _) (Nat.le_of_ble_eq_true rfl) mc_yX10_alive m_1140 m_524 m_525 hw.1.1 hw.1.2 rfl rfl rfl rfl (Nat.le_of_ble_eq_true rfl) dX2_addShare_2 (fun y_1 s_1 => ?_)
  refine zr_if_eq (pc := 5) (tgt := 12) hC dX2_addShare_5 (by decide) (fun c_ => ?_) (fun c_ => ?_)
  · refine zr_iconst (pc := 12) (v := (0 : Int32)) hC dX2_addShare_12 ic_0 ?_
    refine zr_sub (ls' := [(0, _), (2, _)]) [0, 2] rfl ?_
    exact tX2_addShare_J13 w a2 (0 : Int32) X hC hR hN hw  _
  · refine zr_iload_n (pc := 8) (i := 3) 3 hC dX2_addShare_8 rfl rfl ?_
    refine zr_goto (pc := 9) (tgt := 13) hC dX2_addShare_9 (by decide) ?_
    refine zr_sub (ls' := [(0, _), (2, _)]) [0, 2] rfl ?_
    exact tX2_addShare_J13 w a2 a3 X hC hR hN hw  _
def fX2_settleByLaw_L6 (w : Nat) (c2 : Int32) : Nat → Int32 → St → Option (Int32 × St)
  | 0, _, _ => none
  | n + 1, v3, s =>
    if (12 : Int32) ≤ v3 then
    (some (0, s))
  else
    (if v3 = c2 then
    (bd (fX2_addShare w v3 (0 : Int32) s) (fun y_4 s_4 =>
    fX2_settleByLaw_L6 w c2 n (v3 + (1 : Int32)) s_4))
  else
    (bd (fX11_at 49 ((c2 * (12 : Int32)) + v3) s) (fun y_2 s_2 =>
    bd (fX2_addShare w v3 y_2 s_2) (fun y_3 s_3 =>
    fX2_settleByLaw_L6 w c2 n (v3 + (1 : Int32)) s_3))))
set_option maxRecDepth 100000 in
set_option maxHeartbeats 4000000 in
theorem tX2_settleByLaw_L6 (w : Nat) (c2 : Int32) (X : KX) (hC : Ctx X RX2 cX2_settleByLaw FULL 4 0) (hR : RC X none) (hN : X_nL X = 4) (hw : isWd w) : ∀ (n : Nat) (v3 : Int32) (s : St), Zr X (QFN X none) 0 s 6 [(0, .ref (X_ad X 48)), (1, .ref (X_ad X w)), (2, .int c2), (3, .int v3)] [] (fX2_settleByLaw_L6 w c2 n v3 s) := by
  intro n
  induction n with
  | zero =>
    intro v3 s
    exact zr_none
  | succ n ih =>
    intro v3 s
    rw [fX2_settleByLaw_L6]
    refine zr_iload_n (pc := 6) (i := 3) 3 hC dX2_settleByLaw_6 rfl rfl ?_
    refine zr_bipush (pc := 7) (v := (12 : Int32)) hC dX2_settleByLaw_7 bi_12 ?_
    refine zr_icmp_ge (pc := 9) (tgt := 46) hC dX2_settleByLaw_9 (by decide) (fun c_ => ?_) (fun c_ => ?_)
    · exact zr_vret (pc := 46) hC hR dX2_settleByLaw_46
    · refine zr_aload_n (pc := 12) (i := 0) 0 hC dX2_settleByLaw_12 rfl rfl ?_
      refine zr_aload_n (pc := 13) (i := 1) 1 hC dX2_settleByLaw_13 rfl rfl ?_
      refine zr_iload_n (pc := 14) (i := 3) 3 hC dX2_settleByLaw_14 rfl rfl ?_
      refine zr_iload_n (pc := 15) (i := 3) 3 hC dX2_settleByLaw_15 rfl rfl ?_
      refine zr_iload_n (pc := 16) (i := 2) 2 hC dX2_settleByLaw_16 rfl rfl ?_
      refine zr_icmp_ne (pc := 17) (tgt := 24) hC dX2_settleByLaw_17 (by decide) (fun c_ => ?_) (fun c_ => ?_)
      · refine zr_iconst (pc := 20) (v := (0 : Int32)) hC dX2_settleByLaw_20 ic_0 ?_
        refine zr_goto (pc := 21) (tgt := 37) hC dX2_settleByLaw_21 (by decide) ?_
        refine zr_callVv (pc := 37) (As := fun ad => [.ref (ad w), .int v3, .int (0 : Int32)]) (st1 := []) hC (Nat.le_of_ble_eq_true rfl) (kX2_addShare _ hw v3 (0 : Int32) _) (Nat.le_of_ble_eq_true rfl) mc_yX2_addShare m_1178 m_1180 m_p41 mem_48 lay_48 rfl rfl rfl rfl (Nat.le_of_ble_eq_true rfl) dX2_settleByLaw_37 (fun y_4 s_4 => ?_)
        refine zr_iinc (pc := 40) (q := 3) (ls' := [(3, _), (0, _), (1, _), (2, _)]) hC dX2_settleByLaw_40 rfl (inc_1 _) (nlt hN (Nat.le_of_ble_eq_true rfl)) rfl ?_
        refine zr_goto (pc := 43) (tgt := 6) hC dX2_settleByLaw_43 (by decide) ?_
        refine zr_sub (ls' := [(0, _), (1, _), (2, _), (3, _)]) [1, 2, 3, 0] rfl ?_
        exact ih (v3 + (1 : Int32)) s_4
      · refine zr_aload_n (pc := 24) (i := 0) 0 hC dX2_settleByLaw_24 rfl rfl ?_
        refine zr_getR (pc := 25) (j := 0) (k1 := 49) hC mem_48 lay_48 rfl rfl (Nat.le_of_ble_eq_true rfl) iX2 m_254 dX2_settleByLaw_25 ?_
        refine zr_iload_n (pc := 28) (i := 2) 2 hC dX2_settleByLaw_28 rfl rfl ?_
        refine zr_bipush (pc := 29) (v := (12 : Int32)) hC dX2_settleByLaw_29 bi_12 ?_
        refine zr_imul (pc := 31) hC dX2_settleByLaw_31 ?_
        refine zr_iload_n (pc := 32) (i := 3) 3 hC dX2_settleByLaw_32 rfl rfl ?_
        refine zr_iadd (pc := 33) hC dX2_settleByLaw_33 ?_
        refine zr_callSN (pc := 34) (As := fun ad => [.ref (ad 49), .int ((c2 * (12 : Int32)) + v3)]) (st1 := [.int v3, .ref (X_ad X w), .ref (X_ad X 48)]) hC (Nat.le_of_ble_eq_true rfl) (kX11_at _ ar_49 ((c2 * (12 : Int32)) + v3) _) (Nat.le_of_ble_eq_true rfl) mc_yX11_at m_1186 m_453 rfl rfl (Nat.le_of_ble_eq_true rfl) dX2_settleByLaw_34 (fun y_2 s_2 => ?_)
        refine zr_callVv (pc := 37) (As := fun ad => [.ref (ad w), .int v3, .int y_2]) (st1 := []) hC (Nat.le_of_ble_eq_true rfl) (kX2_addShare _ hw v3 y_2 _) (Nat.le_of_ble_eq_true rfl) mc_yX2_addShare m_1178 m_1180 m_p41 mem_48 lay_48 rfl rfl rfl rfl (Nat.le_of_ble_eq_true rfl) dX2_settleByLaw_37 (fun y_3 s_3 => ?_)
        refine zr_iinc (pc := 40) (q := 3) (ls' := [(3, _), (0, _), (1, _), (2, _)]) hC dX2_settleByLaw_40 rfl (inc_1 _) (nlt hN (Nat.le_of_ble_eq_true rfl)) rfl ?_
        refine zr_goto (pc := 43) (tgt := 6) hC dX2_settleByLaw_43 (by decide) ?_
        refine zr_sub (ls' := [(0, _), (1, _), (2, _), (3, _)]) [1, 2, 3, 0] rfl ?_
        exact ih (v3 + (1 : Int32)) s_3
def fX2_settleByLaw (w : Nat) (a2 : Int32) (s : St) : Option (Int32 × St) :=
  bd (fX2_begin s) (fun y_1 s_1 =>
    fX2_settleByLaw_L6 w a2 FU (0 : Int32) s_1)
set_option maxRecDepth 100000 in
set_option maxHeartbeats 4000000 in
theorem kX2_settleByLaw (l : Launch)  {w : Nat} (hw : isWd w) (a2 : Int32) (s : St) : CN l yX2_settleByLaw cX2_settleByLaw 4 none 4 FULL (fun ad => [.ref (ad 48), .ref (ad w), .int a2]) s (fX2_settleByLaw w a2 s) := by
  refine cn_of (by decide) (fun _ => (Nat.le_of_ble_eq_true rfl)) (fun X hC hR hl hN => ?_)
  subst hl
  show Zr X (QFN X none) 0 s 0 [(0, .ref (X_ad X 48)), (1, .ref (X_ad X w)), (2, .int a2)] [] _
  rw [fX2_settleByLaw]
  refine zr_aload_n (pc := 0) (i := 0) 0 hC dX2_settleByLaw_0 rfl rfl ?_
  refine zr_callVv (pc := 1) (As := fun ad => []) (st1 := []) hC (Nat.le_of_ble_eq_true rfl) (kX2_begin _  _) (Nat.le_of_ble_eq_true rfl) mc_yX2_begin m_1173 m_1175 m_p40 mem_48 lay_48 rfl rfl rfl rfl (Nat.le_of_ble_eq_true rfl) dX2_settleByLaw_1 (fun y_1 s_1 => ?_)
  refine zr_iconst (pc := 4) (v := (0 : Int32)) hC dX2_settleByLaw_4 ic_0 ?_
  refine zr_istore_n (pc := 5) (i := 3) (ls' := [(3, _), (0, _), (1, _), (2, _)]) hC dX2_settleByLaw_5 rfl (nlt hN (Nat.le_of_ble_eq_true rfl)) rfl ?_
  refine zr_sub (ls' := [(0, _), (1, _), (2, _), (3, _)]) [1, 2, 3, 0] rfl ?_
  exact tX2_settleByLaw_L6 w a2 X hC hR hN hw FU (0 : Int32) _
def fX2_settle_L7 (k34 : St → Option (Int32 × St)) (g : Nat) (w : Nat) (c3 : Int32) : Nat → Int32 → St → Option (Int32 × St)
  | 0, _, _ => none
  | n + 1, v4, s =>
    if (12 : Int32) ≤ v4 then
    (k34 s)
  else
    (bd (fX4_left g c3 v4 s) (fun y_2 s_2 =>
    bd (fX2_addShare w v4 y_2 s_2) (fun y_3 s_3 =>
    fX2_settle_L7 k34 g w c3 n (v4 + (1 : Int32)) s_3)))
set_option maxRecDepth 100000 in
set_option maxHeartbeats 4000000 in
theorem tX2_settle_L7 (g : Nat) (w : Nat) (c3 : Int32) (k34 : St → Option (Int32 × St)) (X : KX) (hC : Ctx X RX2 cX2_settle FULL 5 0) (hR : RC X none) (hN : X_nL X = 5) (hg : isLand g) (hw : isWd w) (hk34 : ∀ (s : St), Zr X (QFN X none) 0 s 34 [(0, .ref (X_ad X 48)), (2, .ref (X_ad X w)), (3, .int c3)] [] (k34 s)) : ∀ (n : Nat) (v4 : Int32) (s : St), Zr X (QFN X none) 0 s 7 [(0, .ref (X_ad X 48)), (1, .ref (X_ad X g)), (2, .ref (X_ad X w)), (3, .int c3), (4, .int v4)] [] (fX2_settle_L7 k34 g w c3 n v4 s) := by
  intro n
  induction n with
  | zero =>
    intro v4 s
    exact zr_none
  | succ n ih =>
    intro v4 s
    rw [fX2_settle_L7]
    refine zr_iload (pc := 7) 4 hC dX2_settle_7 rfl ?_
    refine zr_bipush (pc := 9) (v := (12 : Int32)) hC dX2_settle_9 bi_12 ?_
    refine zr_icmp_ge (pc := 11) (tgt := 34) hC dX2_settle_11 (by decide) (fun c_ => ?_) (fun c_ => ?_)
    · refine zr_sub (ls' := [(0, _), (2, _), (3, _)]) [0, 2, 3] rfl ?_
      exact hk34 s
    · refine zr_aload_n (pc := 14) (i := 0) 0 hC dX2_settle_14 rfl rfl ?_
      refine zr_aload_n (pc := 15) (i := 2) 2 hC dX2_settle_15 rfl rfl ?_
      refine zr_iload (pc := 16) 4 hC dX2_settle_16 rfl ?_
      refine zr_aload_n (pc := 18) (i := 1) 1 hC dX2_settle_18 rfl rfl ?_
      refine zr_iload_n (pc := 19) (i := 3) 3 hC dX2_settle_19 rfl rfl ?_
      refine zr_iload (pc := 20) 4 hC dX2_settle_20 rfl ?_
      refine zr_callV (pc := 22) (As := fun ad => [.int c3, .int v4]) (st1 := [.int v4, .ref (X_ad X w), .ref (X_ad X 48)]) hC (Nat.le_of_ble_eq_true rfl) (kX4_left _ hg c3 v4 _) (Nat.le_of_ble_eq_true rfl) mc_yX4_left m_1177 m_532 m_533 hg.1.1 hg.1.2 rfl rfl rfl rfl (Nat.le_of_ble_eq_true rfl) dX2_settle_22 (fun y_2 s_2 => ?_)
      refine zr_callVv (pc := 25) (As := fun ad => [.ref (ad w), .int v4, .int y_2]) (st1 := []) hC (Nat.le_of_ble_eq_true rfl) (kX2_addShare _ hw v4 y_2 _) (Nat.le_of_ble_eq_true rfl) mc_yX2_addShare m_1178 m_1180 m_p41 mem_48 lay_48 rfl rfl rfl rfl (Nat.le_of_ble_eq_true rfl) dX2_settle_25 (fun y_3 s_3 => ?_)
      refine zr_iinc (pc := 28) (q := 4) (ls' := [(4, _), (0, _), (1, _), (2, _), (3, _)]) hC dX2_settle_28 rfl (inc_1 _) (nlt hN (Nat.le_of_ble_eq_true rfl)) rfl ?_
      refine zr_goto (pc := 31) (tgt := 7) hC dX2_settle_31 (by decide) ?_
      refine zr_sub (ls' := [(0, _), (1, _), (2, _), (3, _), (4, _)]) [1, 2, 3, 4, 0] rfl ?_
      exact ih (v4 + (1 : Int32)) s_3
def fX2_settle (g : Nat) (w : Nat) (a3 : Int32) (s : St) : Option (Int32 × St) :=
  bd (fX2_begin s) (fun y_1 s_1 =>
    fX2_settle_L7 (fun s_4 => if (s_4 48 2) = 0 then
    (bd (fX2_settleByLaw w a3 s_4) (fun y_5 s_5 =>
    some (0, s_5)))
  else
    (some (0, s_4))) g w a3 FU (0 : Int32) s_1)
set_option maxRecDepth 100000 in
set_option maxHeartbeats 4000000 in
theorem kX2_settle (l : Launch)  {g : Nat} {w : Nat} (hg : isLand g) (hw : isWd w) (a3 : Int32) (s : St) : CN l yX2_settle cX2_settle 5 none 5 FULL (fun ad => [.ref (ad 48), .ref (ad g), .ref (ad w), .int a3]) s (fX2_settle g w a3 s) := by
  refine cn_of (by decide) (fun _ => (Nat.le_of_ble_eq_true rfl)) (fun X hC hR hl hN => ?_)
  subst hl
  show Zr X (QFN X none) 0 s 0 [(0, .ref (X_ad X 48)), (1, .ref (X_ad X g)), (2, .ref (X_ad X w)), (3, .int a3)] [] _
  rw [fX2_settle]
  refine zr_aload_n (pc := 0) (i := 0) 0 hC dX2_settle_0 rfl rfl ?_
  refine zr_callVv (pc := 1) (As := fun ad => []) (st1 := []) hC (Nat.le_of_ble_eq_true rfl) (kX2_begin _  _) (Nat.le_of_ble_eq_true rfl) mc_yX2_begin m_1173 m_1175 m_p40 mem_48 lay_48 rfl rfl rfl rfl (Nat.le_of_ble_eq_true rfl) dX2_settle_1 (fun y_1 s_1 => ?_)
  refine zr_iconst (pc := 4) (v := (0 : Int32)) hC dX2_settle_4 ic_0 ?_
  refine zr_istore (pc := 5) (ls' := [(4, _), (0, _), (1, _), (2, _), (3, _)]) hC dX2_settle_5 (nlt hN (Nat.le_of_ble_eq_true rfl)) rfl ?_
  refine zr_sub (ls' := [(0, _), (1, _), (2, _), (3, _), (4, _)]) [1, 2, 3, 4, 0] rfl ?_
  refine tX2_settle_L7 g w a3 _ X hC hR hN hg hw (fun s_4 => ?_) FU (0 : Int32) _
  · refine zr_aload_n (pc := 34) (i := 0) 0 hC dX2_settle_34 rfl rfl ?_
    refine zr_getI (pc := 35) (j := 2) hC mem_48 lay_48 rfl rfl (Nat.le_of_ble_eq_true rfl) iX2 m_256 dX2_settle_35 ?_
    refine zr_if_ne (pc := 38) (tgt := 47) hC dX2_settle_38 (by decide) (fun c_ => ?_) (fun c_ => ?_)
    · refine zr_aload_n (pc := 41) (i := 0) 0 hC dX2_settle_41 rfl rfl ?_
      refine zr_aload_n (pc := 42) (i := 2) 1 hC dX2_settle_42 rfl rfl ?_
      refine zr_iload_n (pc := 43) (i := 3) 2 hC dX2_settle_43 rfl rfl ?_
      refine zr_callVv (pc := 44) (As := fun ad => [.ref (ad w), .int a3]) (st1 := []) hC (Nat.le_of_ble_eq_true rfl) (kX2_settleByLaw _ hw a3 _) (Nat.le_of_ble_eq_true rfl) mc_yX2_settleByLaw m_1182 m_1183 m_1184 mem_48 lay_48 rfl rfl rfl rfl (Nat.le_of_ble_eq_true rfl) dX2_settle_44 (fun y_5 s_5 => ?_)
      exact zr_vret (pc := 47) hC hR dX2_settle_47
    · exact zr_vret (pc := 47) hC hR dX2_settle_47
def fX2_cut (a1 : Int32) (a2 : Int32) (s : St) : Option (Int32 × St) :=
  if (1 : Int32) ≤ (s 48 3) then
    (bd (fX11_at 50 a1 s) (fun y_1 s_1 =>
    if (s_1 48 3) = 0 then none else
    some (((a2 * y_1) / (s_1 48 3)), s_1)))
  else
    (some ((0 : Int32), s))
set_option maxRecDepth 100000 in
set_option maxHeartbeats 4000000 in
theorem kX2_cut (l : Launch)  (a1 : Int32) (a2 : Int32) (s : St) : CN l yX2_cut cX2_cut 3 (some .int) 2 FULL (fun ad => [.ref (ad 48), .int a1, .int a2]) s (fX2_cut a1 a2 s) := by
  refine cn_of (by decide) (fun _ => (Nat.le_of_ble_eq_true rfl)) (fun X hC hR hl hN => ?_)
  subst hl
  show Zr X (QFN X (some .int)) 0 s 0 [(0, .ref (X_ad X 48)), (1, .int a1), (2, .int a2)] [] _
  rw [fX2_cut]
  refine zr_aload_n (pc := 0) (i := 0) 0 hC dX2_cut_0 rfl rfl ?_
  refine zr_getI (pc := 1) (j := 3) hC mem_48 lay_48 rfl rfl (Nat.le_of_ble_eq_true rfl) iX2 m_258 dX2_cut_1 ?_
  refine zr_iconst (pc := 4) (v := (1 : Int32)) hC dX2_cut_4 ic_1 ?_
  refine zr_icmp_ge (pc := 5) (tgt := 12) hC dX2_cut_5 (by decide) (fun c_ => ?_) (fun c_ => ?_)
  · refine zr_iload_n (pc := 12) (i := 2) 2 hC dX2_cut_12 rfl rfl ?_
    refine zr_aload_n (pc := 13) (i := 0) 0 hC dX2_cut_13 rfl rfl ?_
    refine zr_getR (pc := 14) (j := 1) (k1 := 50) hC mem_48 lay_48 rfl rfl (Nat.le_of_ble_eq_true rfl) iX2 m_255 dX2_cut_14 ?_
    refine zr_iload_n (pc := 17) (i := 1) 1 hC dX2_cut_17 rfl rfl ?_
    refine zr_callSN (pc := 18) (As := fun ad => [.ref (ad 50), .int a1]) (st1 := [.int a2]) hC (Nat.le_of_ble_eq_true rfl) (kX11_at _ ar_50 a1 _) (Nat.le_of_ble_eq_true rfl) mc_yX11_at m_1186 m_453 rfl rfl (Nat.le_of_ble_eq_true rfl) dX2_cut_18 (fun y_1 s_1 => ?_)
    refine zr_imul (pc := 21) hC dX2_cut_21 ?_
    refine zr_aload_n (pc := 22) (i := 0) 0 hC dX2_cut_22 rfl rfl ?_
    refine zr_getI (pc := 23) (j := 3) hC mem_48 lay_48 rfl rfl (Nat.le_of_ble_eq_true rfl) iX2 m_258 dX2_cut_23 ?_
    refine zr_idiv (pc := 26) hC dX2_cut_26 ?_
    exact zr_iret (pc := 27) hC hR dX2_cut_27
  · refine zr_iconst (pc := 8) (v := (0 : Int32)) hC dX2_cut_8 ic_0 ?_
    refine zr_goto (pc := 9) (tgt := 27) hC dX2_cut_9 (by decide) ?_
    exact zr_iret (pc := 27) hC hR dX2_cut_27
def fX10_addPart (w : Nat) (a1 : Int32) (a2 : Int32) (a3 : Int32) (s : St) : Option (Int32 × St) :=
  bd (fX10_part w a1 a2 s) (fun y_1 s_1 =>
    bd (fX10_setPart w a1 a2 (y_1 + a3) s_1) (fun y_2 s_2 =>
    some (0, s_2)))
set_option maxRecDepth 100000 in
set_option maxHeartbeats 4000000 in
theorem kX10_addPart (l : Launch)  {w : Nat} (hw : isWd w) (a1 : Int32) (a2 : Int32) (a3 : Int32) (s : St) : CN l yX10_addPart cX10_addPart 4 none 3 FULL (fun ad => [.ref (ad w), .int a1, .int a2, .int a3]) s (fX10_addPart w a1 a2 a3 s) := by
  refine cn_of (by decide) (fun _ => (Nat.le_of_ble_eq_true rfl)) (fun X hC hR hl hN => ?_)
  subst hl
  show Zr X (QFN X none) 0 s 0 [(0, .ref (X_ad X w)), (1, .int a1), (2, .int a2), (3, .int a3)] [] _
  rw [fX10_addPart]
  refine zr_aload_n (pc := 0) (i := 0) 0 hC dX10_addPart_0 rfl rfl ?_
  refine zr_iload_n (pc := 1) (i := 1) 1 hC dX10_addPart_1 rfl rfl ?_
  refine zr_iload_n (pc := 2) (i := 2) 2 hC dX10_addPart_2 rfl rfl ?_
  refine zr_aload_n (pc := 3) (i := 0) 0 hC dX10_addPart_3 rfl rfl ?_
  refine zr_iload_n (pc := 4) (i := 1) 1 hC dX10_addPart_4 rfl rfl ?_
  refine zr_iload_n (pc := 5) (i := 2) 2 hC dX10_addPart_5 rfl rfl ?_
  refine zr_callV (pc := 6) (As := fun ad => [.int a1, .int a2]) (st1 := [.int a2, .int a1, .ref (X_ad X w)]) hC (Nat.le_of_ble_eq_true rfl) (kX10_part _ hw a1 a2 _) (Nat.le_of_ble_eq_true rfl) mc_yX10_part m_491 m_492 m_493 hw.1.1 hw.1.2 rfl rfl rfl rfl (Nat.le_of_ble_eq_true rfl) dX10_addPart_6 (fun y_1 s_1 => ?_)
  refine zr_iload_n (pc := 9) (i := 3) 3 hC dX10_addPart_9 rfl rfl ?_
  refine zr_iadd (pc := 10) hC dX10_addPart_10 ?_
  refine zr_callVv (pc := 11) (As := fun ad => [.int a1, .int a2, .int (y_1 + a3)]) (st1 := []) hC (Nat.le_of_ble_eq_true rfl) (kX10_setPart _ hw a1 a2 (y_1 + a3) _) (Nat.le_of_ble_eq_true rfl) mc_yX10_setPart m_1204 m_846 m_847 hw.1.1 hw.1.2 rfl rfl rfl rfl (Nat.le_of_ble_eq_true rfl) dX10_addPart_11 (fun y_2 s_2 => ?_)
  exact zr_vret (pc := 14) hC hR dX10_addPart_14
def fX2_handOverPart_L6 (k44 : Int32 → St → Option (Int32 × St)) (w : Nat) (c2 : Int32) (c3 : Int32) : Nat → Int32 → Int32 → St → Option (Int32 × St)
  | 0, _, _, _ => none
  | n + 1, v4, v5, s =>
    if (12 : Int32) ≤ v5 then
    (k44 v4 s)
  else
    (bd (fX2_cut v5 c3 s) (fun y_1 s_1 =>
    bd (fX10_addPart w v5 c2 y_1 s_1) (fun y_2 s_2 =>
    fX2_handOverPart_L6 k44 w c2 c3 n (v4 - y_1) (v5 + (1 : Int32)) s_2)))
set_option maxRecDepth 100000 in
set_option maxHeartbeats 4000000 in
theorem tX2_handOverPart_L6 (w : Nat) (c2 : Int32) (c3 : Int32) (k44 : Int32 → St → Option (Int32 × St)) (X : KX) (hC : Ctx X RX2 cX2_handOverPart FULL 4 0) (hR : RC X none) (hN : X_nL X = 7) (hw : isWd w) (hk44 : ∀ (v4 : Int32) (s : St), Zr X (QFN X none) 0 s 44 [(0, .ref (X_ad X 48)), (1, .ref (X_ad X w)), (2, .int c2), (4, .int v4)] [] (k44 v4 s)) : ∀ (n : Nat) (v4 : Int32) (v5 : Int32) (s : St), Zr X (QFN X none) 0 s 6 [(0, .ref (X_ad X 48)), (1, .ref (X_ad X w)), (2, .int c2), (3, .int c3), (4, .int v4), (5, .int v5)] [] (fX2_handOverPart_L6 k44 w c2 c3 n v4 v5 s) := by
  intro n
  induction n with
  | zero =>
    intro v4 v5 s
    exact zr_none
  | succ n ih =>
    intro v4 v5 s
    rw [fX2_handOverPart_L6]
    refine zr_iload (pc := 6) 5 hC dX2_handOverPart_6 rfl ?_
    refine zr_bipush (pc := 8) (v := (12 : Int32)) hC dX2_handOverPart_8 bi_12 ?_
    refine zr_icmp_ge (pc := 10) (tgt := 44) hC dX2_handOverPart_10 (by decide) (fun c_ => ?_) (fun c_ => ?_)
    · refine zr_sub (ls' := [(0, _), (1, _), (2, _), (4, _)]) [0, 1, 2, 4] rfl ?_
      exact hk44 v4 s
    · refine zr_aload_n (pc := 13) (i := 0) 0 hC dX2_handOverPart_13 rfl rfl ?_
      refine zr_iload (pc := 14) 5 hC dX2_handOverPart_14 rfl ?_
      refine zr_iload_n (pc := 16) (i := 3) 3 hC dX2_handOverPart_16 rfl rfl ?_
      refine zr_callV (pc := 17) (As := fun ad => [.int v5, .int c3]) (st1 := []) hC (Nat.le_of_ble_eq_true rfl) (kX2_cut _ v5 c3 _) (Nat.le_of_ble_eq_true rfl) mc_yX2_cut m_1196 m_1198 m_p43 mem_48 lay_48 rfl rfl rfl rfl (Nat.le_of_ble_eq_true rfl) dX2_handOverPart_17 (fun y_1 s_1 => ?_)
      refine zr_istore (pc := 20) (ls' := [(6, _), (0, _), (1, _), (2, _), (3, _), (4, _), (5, _)]) hC dX2_handOverPart_20 (nlt hN (Nat.le_of_ble_eq_true rfl)) rfl ?_
      refine zr_iload (pc := 22) 5 hC dX2_handOverPart_22 rfl ?_
      refine zr_iload (pc := 24) 0 hC dX2_handOverPart_24 rfl ?_
      refine zr_isub (pc := 26) hC dX2_handOverPart_26 ?_
      refine zr_istore (pc := 27) (ls' := [(4, _), (6, _), (0, _), (1, _), (2, _), (3, _), (5, _)]) hC dX2_handOverPart_27 (nlt hN (Nat.le_of_ble_eq_true rfl)) rfl ?_
      refine zr_aload_n (pc := 29) (i := 1) 3 hC dX2_handOverPart_29 rfl rfl ?_
      refine zr_iload (pc := 30) 6 hC dX2_handOverPart_30 rfl ?_
      refine zr_iload_n (pc := 32) (i := 2) 4 hC dX2_handOverPart_32 rfl rfl ?_
      refine zr_iload (pc := 33) 1 hC dX2_handOverPart_33 rfl ?_
      refine zr_callVv (pc := 35) (As := fun ad => [.int v5, .int c2, .int y_1]) (st1 := []) hC (Nat.le_of_ble_eq_true rfl) (kX10_addPart _ hw v5 c2 y_1 _) (Nat.le_of_ble_eq_true rfl) mc_yX10_addPart m_1200 m_1201 m_1202 hw.1.1 hw.1.2 rfl rfl rfl rfl (Nat.le_of_ble_eq_true rfl) dX2_handOverPart_35 (fun y_2 s_2 => ?_)
      refine zr_iinc (pc := 38) (q := 6) (ls' := [(5, _), (4, _), (6, _), (0, _), (1, _), (2, _), (3, _)]) hC dX2_handOverPart_38 rfl (inc_1 _) (nlt hN (Nat.le_of_ble_eq_true rfl)) rfl ?_
      refine zr_goto (pc := 41) (tgt := 6) hC dX2_handOverPart_41 (by decide) ?_
      refine zr_sub (ls' := [(0, _), (1, _), (2, _), (3, _), (4, _), (5, _)]) [3, 4, 5, 6, 1, 0] rfl ?_
      exact ih (v4 - y_1) (v5 + (1 : Int32)) s_2
def fX2_handOverPart (w : Nat) (a2 : Int32) (a3 : Int32) (s : St) : Option (Int32 × St) :=
  fX2_handOverPart_L6 (fun v4_3 s_3 => if (s_3 48 4) = (-1 : Int32) then
    (some (0, s_3))
  else
    (bd (fX10_addPart w (s_3 48 4) a2 v4_3 s_3) (fun y_4 s_4 =>
    some (0, s_4)))) w a2 a3 FU a3 (0 : Int32) s
set_option maxRecDepth 100000 in
set_option maxHeartbeats 4000000 in
theorem kX2_handOverPart (l : Launch)  {w : Nat} (hw : isWd w) (a2 : Int32) (a3 : Int32) (s : St) : CN l yX2_handOverPart cX2_handOverPart 7 none 4 FULL (fun ad => [.ref (ad 48), .ref (ad w), .int a2, .int a3]) s (fX2_handOverPart w a2 a3 s) := by
  refine cn_of (by decide) (fun _ => (Nat.le_of_ble_eq_true rfl)) (fun X hC hR hl hN => ?_)
  subst hl
  show Zr X (QFN X none) 0 s 0 [(0, .ref (X_ad X 48)), (1, .ref (X_ad X w)), (2, .int a2), (3, .int a3)] [] _
  rw [fX2_handOverPart]
  refine zr_iload_n (pc := 0) (i := 3) 3 hC dX2_handOverPart_0 rfl rfl ?_
  refine zr_istore (pc := 1) (ls' := [(4, _), (0, _), (1, _), (2, _), (3, _)]) hC dX2_handOverPart_1 (nlt hN (Nat.le_of_ble_eq_true rfl)) rfl ?_
  refine zr_iconst (pc := 3) (v := (0 : Int32)) hC dX2_handOverPart_3 ic_0 ?_
  refine zr_istore (pc := 4) (ls' := [(5, _), (4, _), (0, _), (1, _), (2, _), (3, _)]) hC dX2_handOverPart_4 (nlt hN (Nat.le_of_ble_eq_true rfl)) rfl ?_
  refine zr_sub (ls' := [(0, _), (1, _), (2, _), (3, _), (4, _), (5, _)]) [2, 3, 4, 5, 1, 0] rfl ?_
  refine tX2_handOverPart_L6 w a2 a3 _ X hC hR hN hw (fun v4_3 s_3 => ?_) FU a3 (0 : Int32) _
  · refine zr_aload_n (pc := 44) (i := 0) 0 hC dX2_handOverPart_44 rfl rfl ?_
    refine zr_getI (pc := 45) (j := 4) hC mem_48 lay_48 rfl rfl (Nat.le_of_ble_eq_true rfl) iX2 m_259 dX2_handOverPart_45 ?_
    refine zr_iconst (pc := 48) (v := (-1 : Int32)) hC dX2_handOverPart_48 ic_m1 ?_
    refine zr_icmp_eq (pc := 49) (tgt := 63) hC dX2_handOverPart_49 (by decide) (fun c_ => ?_) (fun c_ => ?_)
    · exact zr_vret (pc := 63) hC hR dX2_handOverPart_63
    · refine zr_aload_n (pc := 52) (i := 1) 1 hC dX2_handOverPart_52 rfl rfl ?_
      refine zr_aload_n (pc := 53) (i := 0) 0 hC dX2_handOverPart_53 rfl rfl ?_
      refine zr_getI (pc := 54) (j := 4) hC mem_48 lay_48 rfl rfl (Nat.le_of_ble_eq_true rfl) iX2 m_259 dX2_handOverPart_54 ?_
      refine zr_iload_n (pc := 57) (i := 2) 2 hC dX2_handOverPart_57 rfl rfl ?_
      refine zr_iload (pc := 58) 3 hC dX2_handOverPart_58 rfl ?_
      refine zr_callVv (pc := 60) (As := fun ad => [.int (s_3 48 4), .int a2, .int v4_3]) (st1 := []) hC (Nat.le_of_ble_eq_true rfl) (kX10_addPart _ hw (s_3 48 4) a2 v4_3 _) (Nat.le_of_ble_eq_true rfl) mc_yX10_addPart m_1200 m_1201 m_1202 hw.1.1 hw.1.2 rfl rfl rfl rfl (Nat.le_of_ble_eq_true rfl) dX2_handOverPart_60 (fun y_4 s_4 => ?_)
      exact zr_vret (pc := 63) hC hR dX2_handOverPart_63
def fX10_addNoon (w : Nat) (a1 : Int32) (s : St) : Option (Int32 × St) :=
  bd (fX10_noons w a1 s) (fun y_1 s_1 =>
    bd (fX11_put (w + 1) ((84 : Int32) + a1) (y_1 + (1 : Int32)) s_1) (fun y_2 s_2 =>
    some (0, s_2)))
set_option maxRecDepth 100000 in
set_option maxHeartbeats 4000000 in
theorem kX10_addNoon (l : Launch)  {w : Nat} (hw : isWd w) (a1 : Int32) (s : St) : CN l yX10_addNoon cX10_addNoon 2 none 3 FULL (fun ad => [.ref (ad w), .int a1]) s (fX10_addNoon w a1 s) := by
  refine cn_of (by decide) (fun _ => (Nat.le_of_ble_eq_true rfl)) (fun X hC hR hl hN => ?_)
  subst hl
  show Zr X (QFN X none) 0 s 0 [(0, .ref (X_ad X w)), (1, .int a1)] [] _
  rw [fX10_addNoon]
  refine zr_aload_n (pc := 0) (i := 0) 0 hC dX10_addNoon_0 rfl rfl ?_
  refine zr_getR (pc := 1) (j := 0) (k1 := (w + 1)) hC hw.1.1 hw.1.2 rfl rfl (Nat.le_of_ble_eq_true rfl) iX10 m_143 dX10_addNoon_1 ?_
  refine zr_bipush (pc := 4) (v := (84 : Int32)) hC dX10_addNoon_4 bi_84 ?_
  refine zr_iload_n (pc := 6) (i := 1) 1 hC dX10_addNoon_6 rfl rfl ?_
  refine zr_iadd (pc := 7) hC dX10_addNoon_7 ?_
  refine zr_aload_n (pc := 8) (i := 0) 0 hC dX10_addNoon_8 rfl rfl ?_
  refine zr_iload_n (pc := 9) (i := 1) 1 hC dX10_addNoon_9 rfl rfl ?_
  refine zr_callV (pc := 10) (As := fun ad => [.int a1]) (st1 := [.int ((84 : Int32) + a1), .ref (X_ad X (w + 1))]) hC (Nat.le_of_ble_eq_true rfl) (kX10_noons _ hw a1 _) (Nat.le_of_ble_eq_true rfl) mc_yX10_noons m_483 m_484 m_485 hw.1.1 hw.1.2 rfl rfl rfl rfl (Nat.le_of_ble_eq_true rfl) dX10_addNoon_10 (fun y_1 s_1 => ?_)
  refine zr_iconst (pc := 13) (v := (1 : Int32)) hC dX10_addNoon_13 ic_1 ?_
  refine zr_iadd (pc := 14) hC dX10_addNoon_14 ?_
  refine zr_callSNv (pc := 15) (As := fun ad => [.ref (ad (w + 1)), .int ((84 : Int32) + a1), .int (y_1 + (1 : Int32))]) (st1 := []) hC (Nat.le_of_ble_eq_true rfl) (kX11_put _ (isArr_of hw.2) ((84 : Int32) + a1) (y_1 + (1 : Int32)) _) (Nat.le_of_ble_eq_true rfl) mc_yX11_put m_498 m_141 rfl rfl (Nat.le_of_ble_eq_true rfl) dX10_addNoon_15 (fun y_2 s_2 => ?_)
  exact zr_vret (pc := 18) hC hR dX10_addNoon_18
def fX2_handOver_L2 (k32 : St → Option (Int32 × St)) (w : Nat) (c2 : Int32) : Nat → Int32 → St → Option (Int32 × St)
  | 0, _, _ => none
  | n + 1, v3, s =>
    if (4 : Int32) ≤ v3 then
    (k32 s)
  else
    (bd (fX10_part w c2 v3 s) (fun y_1 s_1 =>
    bd (fX2_handOverPart w v3 y_1 s_1) (fun y_2 s_2 =>
    bd (fX10_setPart w c2 v3 (0 : Int32) s_2) (fun y_3 s_3 =>
    fX2_handOver_L2 k32 w c2 n (v3 + (1 : Int32)) s_3))))
set_option maxRecDepth 100000 in
set_option maxHeartbeats 4000000 in
theorem tX2_handOver_L2 (w : Nat) (c2 : Int32) (k32 : St → Option (Int32 × St)) (X : KX) (hC : Ctx X RX2 cX2_handOver FULL 5 0) (hR : RC X none) (hN : X_nL X = 4) (hw : isWd w) (hk32 : ∀ (s : St), Zr X (QFN X none) 0 s 32 [(0, .ref (X_ad X 48)), (1, .ref (X_ad X w)), (2, .int c2)] [] (k32 s)) : ∀ (n : Nat) (v3 : Int32) (s : St), Zr X (QFN X none) 0 s 2 [(0, .ref (X_ad X 48)), (1, .ref (X_ad X w)), (2, .int c2), (3, .int v3)] [] (fX2_handOver_L2 k32 w c2 n v3 s) := by
  intro n
  induction n with
  | zero =>
    intro v3 s
    exact zr_none
  | succ n ih =>
    intro v3 s
    rw [fX2_handOver_L2]
    refine zr_iload_n (pc := 2) (i := 3) 3 hC dX2_handOver_2 rfl rfl ?_
    refine zr_iconst (pc := 3) (v := (4 : Int32)) hC dX2_handOver_3 ic_4 ?_
    refine zr_icmp_ge (pc := 4) (tgt := 32) hC dX2_handOver_4 (by decide) (fun c_ => ?_) (fun c_ => ?_)
    · refine zr_sub (ls' := [(0, _), (1, _), (2, _)]) [0, 1, 2] rfl ?_
      exact hk32 s
    · refine zr_aload_n (pc := 7) (i := 0) 0 hC dX2_handOver_7 rfl rfl ?_
      refine zr_aload_n (pc := 8) (i := 1) 1 hC dX2_handOver_8 rfl rfl ?_
      refine zr_iload_n (pc := 9) (i := 3) 3 hC dX2_handOver_9 rfl rfl ?_
      refine zr_aload_n (pc := 10) (i := 1) 1 hC dX2_handOver_10 rfl rfl ?_
      refine zr_iload_n (pc := 11) (i := 2) 2 hC dX2_handOver_11 rfl rfl ?_
      refine zr_iload_n (pc := 12) (i := 3) 3 hC dX2_handOver_12 rfl rfl ?_
      refine zr_callV (pc := 13) (As := fun ad => [.int c2, .int v3]) (st1 := [.int v3, .ref (X_ad X w), .ref (X_ad X 48)]) hC (Nat.le_of_ble_eq_true rfl) (kX10_part _ hw c2 v3 _) (Nat.le_of_ble_eq_true rfl) mc_yX10_part m_1191 m_492 m_493 hw.1.1 hw.1.2 rfl rfl rfl rfl (Nat.le_of_ble_eq_true rfl) dX2_handOver_13 (fun y_1 s_1 => ?_)
      refine zr_callVv (pc := 16) (As := fun ad => [.ref (ad w), .int v3, .int y_1]) (st1 := []) hC (Nat.le_of_ble_eq_true rfl) (kX2_handOverPart _ hw v3 y_1 _) (Nat.le_of_ble_eq_true rfl) mc_yX2_handOverPart m_1192 m_1194 m_p42 mem_48 lay_48 rfl rfl rfl rfl (Nat.le_of_ble_eq_true rfl) dX2_handOver_16 (fun y_2 s_2 => ?_)
      refine zr_aload_n (pc := 19) (i := 1) 1 hC dX2_handOver_19 rfl rfl ?_
      refine zr_iload_n (pc := 20) (i := 2) 2 hC dX2_handOver_20 rfl rfl ?_
      refine zr_iload_n (pc := 21) (i := 3) 3 hC dX2_handOver_21 rfl rfl ?_
      refine zr_iconst (pc := 22) (v := (0 : Int32)) hC dX2_handOver_22 ic_0 ?_
      refine zr_callVv (pc := 23) (As := fun ad => [.int c2, .int v3, .int (0 : Int32)]) (st1 := []) hC (Nat.le_of_ble_eq_true rfl) (kX10_setPart _ hw c2 v3 (0 : Int32) _) (Nat.le_of_ble_eq_true rfl) mc_yX10_setPart m_1205 m_846 m_847 hw.1.1 hw.1.2 rfl rfl rfl rfl (Nat.le_of_ble_eq_true rfl) dX2_handOver_23 (fun y_3 s_3 => ?_)
      refine zr_iinc (pc := 26) (q := 3) (ls' := [(3, _), (0, _), (1, _), (2, _)]) hC dX2_handOver_26 rfl (inc_1 _) (nlt hN (Nat.le_of_ble_eq_true rfl)) rfl ?_
      refine zr_goto (pc := 29) (tgt := 2) hC dX2_handOver_29 (by decide) ?_
      refine zr_sub (ls' := [(0, _), (1, _), (2, _), (3, _)]) [1, 2, 3, 0] rfl ?_
      exact ih (v3 + (1 : Int32)) s_3
def fX2_handOver (w : Nat) (a2 : Int32) (s : St) : Option (Int32 × St) :=
  fX2_handOver_L2 (fun s_4 => if (s_4 48 2) = 0 then
    (bd (fX10_place w a2 s_4) (fun y_6 s_6 =>
    bd (fX10_addNoon w y_6 s_6) (fun y_7 s_7 =>
    bd (fX10_setPlace w a2 (-1 : Int32) s_7) (fun y_8 s_8 =>
    some (0, s_8)))))
  else
    (bd (fX10_setPlace w a2 (-1 : Int32) s_4) (fun y_5 s_5 =>
    some (0, s_5)))) w a2 FU (0 : Int32) s
set_option maxRecDepth 100000 in
set_option maxHeartbeats 4000000 in
theorem kX2_handOver (l : Launch)  {w : Nat} (hw : isWd w) (a2 : Int32) (s : St) : CN l yX2_handOver cX2_handOver 4 none 5 FULL (fun ad => [.ref (ad 48), .ref (ad w), .int a2]) s (fX2_handOver w a2 s) := by
  refine cn_of (by decide) (fun _ => (Nat.le_of_ble_eq_true rfl)) (fun X hC hR hl hN => ?_)
  subst hl
  show Zr X (QFN X none) 0 s 0 [(0, .ref (X_ad X 48)), (1, .ref (X_ad X w)), (2, .int a2)] [] _
  rw [fX2_handOver]
  refine zr_iconst (pc := 0) (v := (0 : Int32)) hC dX2_handOver_0 ic_0 ?_
  refine zr_istore_n (pc := 1) (i := 3) (ls' := [(3, _), (0, _), (1, _), (2, _)]) hC dX2_handOver_1 rfl (nlt hN (Nat.le_of_ble_eq_true rfl)) rfl ?_
  refine zr_sub (ls' := [(0, _), (1, _), (2, _), (3, _)]) [1, 2, 3, 0] rfl ?_
  refine tX2_handOver_L2 w a2 _ X hC hR hN hw (fun s_4 => ?_) FU (0 : Int32) _
  · refine zr_aload_n (pc := 32) (i := 0) 0 hC dX2_handOver_32 rfl rfl ?_
    refine zr_getI (pc := 33) (j := 2) hC mem_48 lay_48 rfl rfl (Nat.le_of_ble_eq_true rfl) iX2 m_256 dX2_handOver_33 ?_
    refine zr_if_ne (pc := 36) (tgt := 48) hC dX2_handOver_36 (by decide) (fun c_ => ?_) (fun c_ => ?_)
    · refine zr_aload_n (pc := 39) (i := 1) 1 hC dX2_handOver_39 rfl rfl ?_
      refine zr_aload_n (pc := 40) (i := 1) 1 hC dX2_handOver_40 rfl rfl ?_
      refine zr_iload_n (pc := 41) (i := 2) 2 hC dX2_handOver_41 rfl rfl ?_
      refine zr_callV (pc := 42) (As := fun ad => [.int a2]) (st1 := [.ref (X_ad X w)]) hC (Nat.le_of_ble_eq_true rfl) (kX10_place _ hw a2 _) (Nat.le_of_ble_eq_true rfl) mc_yX10_place m_1206 m_488 m_489 hw.1.1 hw.1.2 rfl rfl rfl rfl (Nat.le_of_ble_eq_true rfl) dX2_handOver_42 (fun y_6 s_6 => ?_)
      refine zr_callVv (pc := 45) (As := fun ad => [.int y_6]) (st1 := []) hC (Nat.le_of_ble_eq_true rfl) (kX10_addNoon _ hw y_6 _) (Nat.le_of_ble_eq_true rfl) mc_yX10_addNoon m_1207 m_1208 m_1209 hw.1.1 hw.1.2 rfl rfl rfl rfl (Nat.le_of_ble_eq_true rfl) dX2_handOver_45 (fun y_7 s_7 => ?_)
      refine zr_aload_n (pc := 48) (i := 1) 1 hC dX2_handOver_48 rfl rfl ?_
      refine zr_iload_n (pc := 49) (i := 2) 2 hC dX2_handOver_49 rfl rfl ?_
      refine zr_iconst (pc := 50) (v := (-1 : Int32)) hC dX2_handOver_50 ic_m1 ?_
      refine zr_callVv (pc := 51) (As := fun ad => [.int a2, .int (-1 : Int32)]) (st1 := []) hC (Nat.le_of_ble_eq_true rfl) (kX10_setPlace _ hw a2 (-1 : Int32) _) (Nat.le_of_ble_eq_true rfl) mc_yX10_setPlace m_1211 m_850 m_851 hw.1.1 hw.1.2 rfl rfl rfl rfl (Nat.le_of_ble_eq_true rfl) dX2_handOver_51 (fun y_8 s_8 => ?_)
      exact zr_vret (pc := 54) hC hR dX2_handOver_54
    · refine zr_aload_n (pc := 48) (i := 1) 1 hC dX2_handOver_48 rfl rfl ?_
      refine zr_iload_n (pc := 49) (i := 2) 2 hC dX2_handOver_49 rfl rfl ?_
      refine zr_iconst (pc := 50) (v := (-1 : Int32)) hC dX2_handOver_50 ic_m1 ?_
      refine zr_callVv (pc := 51) (As := fun ad => [.int a2, .int (-1 : Int32)]) (st1 := []) hC (Nat.le_of_ble_eq_true rfl) (kX10_setPlace _ hw a2 (-1 : Int32) _) (Nat.le_of_ble_eq_true rfl) mc_yX10_setPlace m_1211 m_850 m_851 hw.1.1 hw.1.2 rfl rfl rfl rfl (Nat.le_of_ble_eq_true rfl) dX2_handOver_51 (fun y_5 s_5 => ?_)
      exact zr_vret (pc := 54) hC hR dX2_handOver_54
def fX11_bury (w : Nat) (a2 : Int32) (s : St) : Option (Int32 × St) :=
  bd (fX2_learn 21 w a2 s) (fun y_1 s_1 =>
    bd (fX2_settle 21 w a2 s_1) (fun y_2 s_2 =>
    bd (fX2_handOver w a2 s_2) (fun y_3 s_3 =>
    some ((s_3 48 2), s_3))))
set_option maxRecDepth 100000 in
set_option maxHeartbeats 4000000 in
theorem kX11_bury (l : Launch)  {w : Nat} (hw : isWd w) (a2 : Int32) (s : St) : CN l yX11_bury cX11_bury 3 (some .int) 9 FULL (fun ad => [.ref (ad 0), .ref (ad w), .int a2]) s (fX11_bury w a2 s) := by
  refine cn_of (by decide) (fun _ => (Nat.le_of_ble_eq_true rfl)) (fun X hC hR hl hN => ?_)
  subst hl
  show Zr X (QFN X (some .int)) 0 s 0 [(0, .ref (X_ad X 0)), (1, .ref (X_ad X w)), (2, .int a2)] [] _
  rw [fX11_bury]
  refine zr_aload_n (pc := 0) (i := 0) 0 hC dX11_bury_0 rfl rfl ?_
  refine zr_getR (pc := 1) (j := 9) (k1 := 48) hC mem_0 lay_0 rfl rfl (Nat.le_of_ble_eq_true rfl) iX11 m_391 dX11_bury_1 ?_
  refine zr_aload_n (pc := 4) (i := 0) 0 hC dX11_bury_4 rfl rfl ?_
  refine zr_getR (pc := 5) (j := 4) (k1 := 21) hC mem_0 lay_0 rfl rfl (Nat.le_of_ble_eq_true rfl) iX11 m_386 dX11_bury_5 ?_
  refine zr_aload_n (pc := 8) (i := 1) 1 hC dX11_bury_8 rfl rfl ?_
  refine zr_iload_n (pc := 9) (i := 2) 2 hC dX11_bury_9 rfl rfl ?_
  refine zr_callVv (pc := 10) (As := fun ad => [.ref (ad 21), .ref (ad w), .int a2]) (st1 := []) hC (Nat.le_of_ble_eq_true rfl) (kX2_learn _ is_21 hw a2 _) (Nat.le_of_ble_eq_true rfl) mc_yX2_learn m_1136 m_1137 m_1138 mem_48 lay_48 rfl rfl rfl rfl (Nat.le_of_ble_eq_true rfl) dX11_bury_10 (fun y_1 s_1 => ?_)
  refine zr_aload_n (pc := 13) (i := 0) 0 hC dX11_bury_13 rfl rfl ?_
  refine zr_getR (pc := 14) (j := 9) (k1 := 48) hC mem_0 lay_0 rfl rfl (Nat.le_of_ble_eq_true rfl) iX11 m_391 dX11_bury_14 ?_
  refine zr_aload_n (pc := 17) (i := 0) 0 hC dX11_bury_17 rfl rfl ?_
  refine zr_getR (pc := 18) (j := 4) (k1 := 21) hC mem_0 lay_0 rfl rfl (Nat.le_of_ble_eq_true rfl) iX11 m_386 dX11_bury_18 ?_
  refine zr_aload_n (pc := 21) (i := 1) 1 hC dX11_bury_21 rfl rfl ?_
  refine zr_iload_n (pc := 22) (i := 2) 2 hC dX11_bury_22 rfl rfl ?_
  refine zr_callVv (pc := 23) (As := fun ad => [.ref (ad 21), .ref (ad w), .int a2]) (st1 := []) hC (Nat.le_of_ble_eq_true rfl) (kX2_settle _ is_21 hw a2 _) (Nat.le_of_ble_eq_true rfl) mc_yX2_settle m_1169 m_1170 m_1171 mem_48 lay_48 rfl rfl rfl rfl (Nat.le_of_ble_eq_true rfl) dX11_bury_23 (fun y_2 s_2 => ?_)
  refine zr_aload_n (pc := 26) (i := 0) 0 hC dX11_bury_26 rfl rfl ?_
  refine zr_getR (pc := 27) (j := 9) (k1 := 48) hC mem_0 lay_0 rfl rfl (Nat.le_of_ble_eq_true rfl) iX11 m_391 dX11_bury_27 ?_
  refine zr_aload_n (pc := 30) (i := 1) 1 hC dX11_bury_30 rfl rfl ?_
  refine zr_iload_n (pc := 31) (i := 2) 2 hC dX11_bury_31 rfl rfl ?_
  refine zr_callVv (pc := 32) (As := fun ad => [.ref (ad w), .int a2]) (st1 := []) hC (Nat.le_of_ble_eq_true rfl) (kX2_handOver _ hw a2 _) (Nat.le_of_ble_eq_true rfl) mc_yX2_handOver m_1187 m_1188 m_1189 mem_48 lay_48 rfl rfl rfl rfl (Nat.le_of_ble_eq_true rfl) dX11_bury_32 (fun y_3 s_3 => ?_)
  refine zr_aload_n (pc := 35) (i := 0) 0 hC dX11_bury_35 rfl rfl ?_
  refine zr_getR (pc := 36) (j := 9) (k1 := 48) hC mem_0 lay_0 rfl rfl (Nat.le_of_ble_eq_true rfl) iX11 m_391 dX11_bury_36 ?_
  refine zr_getI (pc := 39) (j := 2) hC mem_48 lay_48 rfl rfl (Nat.le_of_ble_eq_true rfl) iX2 m_257 dX11_bury_39 ?_
  exact zr_iret (pc := 42) hC hR dX11_bury_42
