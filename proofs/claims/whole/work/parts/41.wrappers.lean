theorem lw_castable0 : Cond.castable (excN 0) (excN 0) ∈ NW := inNW (i := 993) (by decide +kernel) rfl
theorem lw_castable1 : Cond.castable (excN 1) (excN 1) ∈ NW := inNW (i := 638) (by decide +kernel) rfl

theorem mw_630 : Cond.codeWith yL_land cL_land 4 (some .int) [(0, 9, 12, 13)] ∈ WS := inWS (i := 630) (by decide +kernel) (by decide +kernel)
def fL_land (a1 : Int32) (s : St) : Option (Int32 × St) :=
  bw (fX11_land a1 s) (fun y_1 s_1 =>
    if inA (0 : Int32) 1 then
    (let s_2 := wr s_1 111 (0 : Int32).toNatClampNeg y_1;
    some ((0 : Int32), s_2)) else none) (fun n9 s9 => if excN n9 = excN 1 then
    (some ((1 : Int32), s9)) else none)
set_option maxRecDepth 100000 in
set_option maxHeartbeats 4000000 in
theorem kL_land (l : Launch) (hst : l.stackTraces = false) (a1 : Int32) (s : St) : CW l yL_land cL_land 4 (some .int) [(0, 9, 12, 13)] 78 1 FULL (fun ad => [.ref (ad 0), .int a1, .ref (ad 111)]) s (fL_land a1 s) := by
  refine cw_of (by decide) (fun _ => (Nat.le_of_ble_eq_true rfl)) (fun X hC hR hl hN => ?_)
  subst hl
  show Zr X (QFW X (some .int) 1) 0 s 0 [(0, .ref (X_ad X 0)), (1, .int a1), (2, .ref (X_ad X 111))] [] _
  rw [fL_land]
  refine zr_aload_n (pc := 0) (i := 2) 2 hC dL_land_0 rfl rfl ?_
  refine zr_iconst (pc := 1) (v := (0 : Int32)) hC dL_land_1 ic_0 ?_
  refine zr_aload_n (pc := 2) (i := 0) 0 hC dL_land_2 rfl rfl ?_
  refine zr_iload_n (pc := 3) (i := 1) 1 hC dL_land_3 rfl rfl ?_
  refine zw_call (pc := 4) (xm' := 1) (As := fun ad => [.int a1]) (st1 := [.int (0 : Int32), .ref (X_ad X 111)]) hC (Nat.le_of_ble_eq_true rfl) (kX11_land _ hst a1 _) (Nat.le_of_ble_eq_true rfl) mc_yX11_land m_632 m_633 m_634 mem_0 lay_0 rfl rfl rfl rfl (Nat.le_of_ble_eq_true rfl) dL_land_4 ?_ (fun y_1 s_1 => ?_)
  · refine zw_catch1 (pc := 4) (k0 := 1) (h9 := fun s9 => some ((1 : Int32), s9)) hC hR.2 (Nat.le_of_ble_eq_true rfl) (by decide) m_631 lw_castable1 (fun _ _ => rfl) (fun s9 q9 => ?_)
    refine zr_astore_n (pc := 12) (i := 3) (ls' := [(3, _), (0, _), (1, _), (2, _)]) hC dL_land_12 rfl (nlt hN (Nat.le_of_ble_eq_true rfl)) rfl ?_
    refine zr_iconst (pc := 13) (v := (1 : Int32)) hC dL_land_13 ic_1 ?_
    exact zw_iret (pc := 14) hC (Nat.le_of_ble_eq_true rfl) hR dL_land_14
  refine zr_i2l (pc := 7) hC dL_land_7 ?_
  refine zr_last (pc := 8) (v := y_1) hC mem_111 lay_111 rfl dL_land_8 ?_
  refine zr_goto (pc := 9) (tgt := 15) hC dL_land_9 (by decide) ?_
  refine zr_iconst (pc := 15) (v := (0 : Int32)) hC dL_land_15 ic_0 ?_
  exact zw_iret (pc := 16) hC (Nat.le_of_ble_eq_true rfl) hR dL_land_16
theorem mw_980 : Cond.codeWith yL_count cL_count 4 (some .int) [(0, 9, 12, 18)] ∈ WS := inWS (i := 980) (by decide +kernel) (by decide +kernel)
def fL_count (a1 : Int32) (s : St) : Option (Int32 × St) :=
  bw (fX11_count a1 s) (fun y_1 s_1 =>
    if inA (0 : Int32) 1 then
    (let s_2 := wr s_1 111 (0 : Int32).toNatClampNeg y_1;
    some ((0 : Int32), s_2)) else none) (fun n9 s9 => if excN n9 = excN 0 then
    (some ((1 : Int32), s9)) else none)
set_option maxRecDepth 100000 in
set_option maxHeartbeats 4000000 in
theorem kL_count (l : Launch) (hst : l.stackTraces = false) (a1 : Int32) (s : St) : CW l yL_count cL_count 4 (some .int) [(0, 9, 12, 18)] 8 1 FULL (fun ad => [.ref (ad 0), .int a1, .ref (ad 111)]) s (fL_count a1 s) := by
  refine cw_of (by decide) (fun _ => (Nat.le_of_ble_eq_true rfl)) (fun X hC hR hl hN => ?_)
  subst hl
  show Zr X (QFW X (some .int) 1) 0 s 0 [(0, .ref (X_ad X 0)), (1, .int a1), (2, .ref (X_ad X 111))] [] _
  rw [fL_count]
  refine zr_aload_n (pc := 0) (i := 2) 2 hC dL_count_0 rfl rfl ?_
  refine zr_iconst (pc := 1) (v := (0 : Int32)) hC dL_count_1 ic_0 ?_
  refine zr_aload_n (pc := 2) (i := 0) 0 hC dL_count_2 rfl rfl ?_
  refine zr_iload_n (pc := 3) (i := 1) 1 hC dL_count_3 rfl rfl ?_
  refine zw_call (pc := 4) (xm' := 1) (As := fun ad => [.int a1]) (st1 := [.int (0 : Int32), .ref (X_ad X 111)]) hC (Nat.le_of_ble_eq_true rfl) (kX11_count _ hst a1 _) (Nat.le_of_ble_eq_true rfl) mc_yX11_count m_982 m_983 m_984 mem_0 lay_0 rfl rfl rfl rfl (Nat.le_of_ble_eq_true rfl) dL_count_4 ?_ (fun y_1 s_1 => ?_)
  · refine zw_catch1 (pc := 4) (k0 := 0) (h9 := fun s9 => some ((1 : Int32), s9)) hC hR.2 (Nat.le_of_ble_eq_true rfl) (by decide) m_981 lw_castable0 (fun _ _ => rfl) (fun s9 q9 => ?_)
    refine zr_astore_n (pc := 12) (i := 3) (ls' := [(3, _), (0, _), (1, _), (2, _)]) hC dL_count_12 rfl (nlt hN (Nat.le_of_ble_eq_true rfl)) rfl ?_
    refine zr_iconst (pc := 13) (v := (1 : Int32)) hC dL_count_13 ic_1 ?_
    exact zw_iret (pc := 14) hC (Nat.le_of_ble_eq_true rfl) hR dL_count_14
  refine zr_i2l (pc := 7) hC dL_count_7 ?_
  refine zr_last (pc := 8) (v := y_1) hC mem_111 lay_111 rfl dL_count_8 ?_
  refine zr_goto (pc := 9) (tgt := 15) hC dL_count_9 (by decide) ?_
  refine zr_iconst (pc := 15) (v := (0 : Int32)) hC dL_count_15 ic_0 ?_
  exact zw_iret (pc := 16) hC (Nat.le_of_ble_eq_true rfl) hR dL_count_16
theorem mw_1008 : Cond.codeWith yL_person cL_person 5 (some .int) [(0, 10, 13, 18)] ∈ WS := inWS (i := 1008) (by decide +kernel) (by decide +kernel)
def fL_person (a1 : Int32) (a2 : Int32) (s : St) : Option (Int32 × St) :=
  bw (fX11_person a1 a2 s) (fun y_1 s_1 =>
    if inA (0 : Int32) 1 then
    (let s_2 := wr s_1 111 (0 : Int32).toNatClampNeg y_1;
    some ((0 : Int32), s_2)) else none) (fun n9 s9 => if excN n9 = excN 0 then
    (some ((1 : Int32), s9)) else none)
set_option maxRecDepth 100000 in
set_option maxHeartbeats 4000000 in
theorem kL_person (l : Launch) (hst : l.stackTraces = false) (a1 : Int32) (a2 : Int32) (s : St) : CW l yL_person cL_person 5 (some .int) [(0, 10, 13, 18)] 9 2 FULL (fun ad => [.ref (ad 0), .int a1, .int a2, .ref (ad 111)]) s (fL_person a1 a2 s) := by
  refine cw_of (by decide) (fun _ => (Nat.le_of_ble_eq_true rfl)) (fun X hC hR hl hN => ?_)
  subst hl
  show Zr X (QFW X (some .int) 2) 0 s 0 [(0, .ref (X_ad X 0)), (1, .int a1), (2, .int a2), (3, .ref (X_ad X 111))] [] _
  rw [fL_person]
  refine zr_aload_n (pc := 0) (i := 3) 3 hC dL_person_0 rfl rfl ?_
  refine zr_iconst (pc := 1) (v := (0 : Int32)) hC dL_person_1 ic_0 ?_
  refine zr_aload_n (pc := 2) (i := 0) 0 hC dL_person_2 rfl rfl ?_
  refine zr_iload_n (pc := 3) (i := 1) 1 hC dL_person_3 rfl rfl ?_
  refine zr_iload_n (pc := 4) (i := 2) 2 hC dL_person_4 rfl rfl ?_
  refine zw_call (pc := 5) (xm' := 2) (As := fun ad => [.int a1, .int a2]) (st1 := [.int (0 : Int32), .ref (X_ad X 111)]) hC (Nat.le_of_ble_eq_true rfl) (kX11_person _ hst a1 a2 _) (Nat.le_of_ble_eq_true rfl) mc_yX11_person m_1009 m_1010 m_1011 mem_0 lay_0 rfl rfl rfl rfl (Nat.le_of_ble_eq_true rfl) dL_person_5 ?_ (fun y_1 s_1 => ?_)
  · refine zw_catch1 (pc := 5) (k0 := 0) (h9 := fun s9 => some ((1 : Int32), s9)) hC hR.2 (Nat.le_of_ble_eq_true rfl) (by decide) m_981 lw_castable0 (fun _ _ => rfl) (fun s9 q9 => ?_)
    refine zr_astore (pc := 13) (ls' := [(4, _), (0, _), (1, _), (2, _), (3, _)]) hC dL_person_13 (nlt hN (Nat.le_of_ble_eq_true rfl)) rfl ?_
    refine zr_iconst (pc := 15) (v := (1 : Int32)) hC dL_person_15 ic_1 ?_
    exact zw_iret (pc := 16) hC (Nat.le_of_ble_eq_true rfl) hR dL_person_16
  refine zr_i2l (pc := 8) hC dL_person_8 ?_
  refine zr_last (pc := 9) (v := y_1) hC mem_111 lay_111 rfl dL_person_9 ?_
  refine zr_goto (pc := 10) (tgt := 17) hC dL_person_10 (by decide) ?_
  refine zr_iconst (pc := 17) (v := (0 : Int32)) hC dL_person_17 ic_0 ?_
  exact zw_iret (pc := 18) hC (Nat.le_of_ble_eq_true rfl) hR dL_person_18
theorem mw_1025 : Cond.codeWith yL_sky cL_sky 5 (some .int) [(0, 10, 13, 18)] ∈ WS := inWS (i := 1025) (by decide +kernel) (by decide +kernel)
def fL_sky (a1 : Int32) (a2 : Int32) (s : St) : Option (Int32 × St) :=
  bw (fX11_sky a1 a2 s) (fun y_1 s_1 =>
    if inA (0 : Int32) 1 then
    (let s_2 := wr s_1 111 (0 : Int32).toNatClampNeg y_1;
    some ((0 : Int32), s_2)) else none) (fun n9 s9 => if excN n9 = excN 0 then
    (some ((1 : Int32), s9)) else none)
set_option maxRecDepth 100000 in
set_option maxHeartbeats 4000000 in
theorem kL_sky (l : Launch) (hst : l.stackTraces = false) (a1 : Int32) (a2 : Int32) (s : St) : CW l yL_sky cL_sky 5 (some .int) [(0, 10, 13, 18)] 9 2 FULL (fun ad => [.ref (ad 0), .int a1, .int a2, .ref (ad 111)]) s (fL_sky a1 a2 s) := by
  refine cw_of (by decide) (fun _ => (Nat.le_of_ble_eq_true rfl)) (fun X hC hR hl hN => ?_)
  subst hl
  show Zr X (QFW X (some .int) 2) 0 s 0 [(0, .ref (X_ad X 0)), (1, .int a1), (2, .int a2), (3, .ref (X_ad X 111))] [] _
  rw [fL_sky]
  refine zr_aload_n (pc := 0) (i := 3) 3 hC dL_sky_0 rfl rfl ?_
  refine zr_iconst (pc := 1) (v := (0 : Int32)) hC dL_sky_1 ic_0 ?_
  refine zr_aload_n (pc := 2) (i := 0) 0 hC dL_sky_2 rfl rfl ?_
  refine zr_iload_n (pc := 3) (i := 1) 1 hC dL_sky_3 rfl rfl ?_
  refine zr_iload_n (pc := 4) (i := 2) 2 hC dL_sky_4 rfl rfl ?_
  refine zw_call (pc := 5) (xm' := 2) (As := fun ad => [.int a1, .int a2]) (st1 := [.int (0 : Int32), .ref (X_ad X 111)]) hC (Nat.le_of_ble_eq_true rfl) (kX11_sky _ hst a1 a2 _) (Nat.le_of_ble_eq_true rfl) mc_yX11_sky m_1026 m_1027 m_1028 mem_0 lay_0 rfl rfl rfl rfl (Nat.le_of_ble_eq_true rfl) dL_sky_5 ?_ (fun y_1 s_1 => ?_)
  · refine zw_catch1 (pc := 5) (k0 := 0) (h9 := fun s9 => some ((1 : Int32), s9)) hC hR.2 (Nat.le_of_ble_eq_true rfl) (by decide) m_981 lw_castable0 (fun _ _ => rfl) (fun s9 q9 => ?_)
    refine zr_astore (pc := 13) (ls' := [(4, _), (0, _), (1, _), (2, _), (3, _)]) hC dL_sky_13 (nlt hN (Nat.le_of_ble_eq_true rfl)) rfl ?_
    refine zr_iconst (pc := 15) (v := (1 : Int32)) hC dL_sky_15 ic_1 ?_
    exact zw_iret (pc := 16) hC (Nat.le_of_ble_eq_true rfl) hR dL_sky_16
  refine zr_i2l (pc := 8) hC dL_sky_8 ?_
  refine zr_last (pc := 9) (v := y_1) hC mem_111 lay_111 rfl dL_sky_9 ?_
  refine zr_goto (pc := 10) (tgt := 17) hC dL_sky_10 (by decide) ?_
  refine zr_iconst (pc := 17) (v := (0 : Int32)) hC dL_sky_17 ic_0 ?_
  exact zw_iret (pc := 18) hC (Nat.le_of_ble_eq_true rfl) hR dL_sky_18
theorem mw_1036 : Cond.codeWith yL_weather cL_weather 5 (some .int) [(0, 10, 13, 18)] ∈ WS := inWS (i := 1036) (by decide +kernel) (by decide +kernel)
def fL_weather (a1 : Int32) (a2 : Int32) (s : St) : Option (Int32 × St) :=
  bw (fX11_weather a1 a2 s) (fun y_1 s_1 =>
    if inA (0 : Int32) 1 then
    (let s_2 := wr s_1 111 (0 : Int32).toNatClampNeg y_1;
    some ((0 : Int32), s_2)) else none) (fun n9 s9 => if excN n9 = excN 0 then
    (some ((1 : Int32), s9)) else none)
set_option maxRecDepth 100000 in
set_option maxHeartbeats 4000000 in
theorem kL_weather (l : Launch) (hst : l.stackTraces = false) (a1 : Int32) (a2 : Int32) (s : St) : CW l yL_weather cL_weather 5 (some .int) [(0, 10, 13, 18)] 10 1 FULL (fun ad => [.ref (ad 0), .int a1, .int a2, .ref (ad 111)]) s (fL_weather a1 a2 s) := by
  refine cw_of (by decide) (fun _ => (Nat.le_of_ble_eq_true rfl)) (fun X hC hR hl hN => ?_)
  subst hl
  show Zr X (QFW X (some .int) 1) 0 s 0 [(0, .ref (X_ad X 0)), (1, .int a1), (2, .int a2), (3, .ref (X_ad X 111))] [] _
  rw [fL_weather]
  refine zr_aload_n (pc := 0) (i := 3) 3 hC dL_weather_0 rfl rfl ?_
  refine zr_iconst (pc := 1) (v := (0 : Int32)) hC dL_weather_1 ic_0 ?_
  refine zr_aload_n (pc := 2) (i := 0) 0 hC dL_weather_2 rfl rfl ?_
  refine zr_iload_n (pc := 3) (i := 1) 1 hC dL_weather_3 rfl rfl ?_
  refine zr_iload_n (pc := 4) (i := 2) 2 hC dL_weather_4 rfl rfl ?_
  refine zw_call (pc := 5) (xm' := 1) (As := fun ad => [.int a1, .int a2]) (st1 := [.int (0 : Int32), .ref (X_ad X 111)]) hC (Nat.le_of_ble_eq_true rfl) (kX11_weather _ hst a1 a2 _) (Nat.le_of_ble_eq_true rfl) mc_yX11_weather m_1037 m_1038 m_1039 mem_0 lay_0 rfl rfl rfl rfl (Nat.le_of_ble_eq_true rfl) dL_weather_5 ?_ (fun y_1 s_1 => ?_)
  · refine zw_catch1 (pc := 5) (k0 := 0) (h9 := fun s9 => some ((1 : Int32), s9)) hC hR.2 (Nat.le_of_ble_eq_true rfl) (by decide) m_981 lw_castable0 (fun _ _ => rfl) (fun s9 q9 => ?_)
    refine zr_astore (pc := 13) (ls' := [(4, _), (0, _), (1, _), (2, _), (3, _)]) hC dL_weather_13 (nlt hN (Nat.le_of_ble_eq_true rfl)) rfl ?_
    refine zr_iconst (pc := 15) (v := (1 : Int32)) hC dL_weather_15 ic_1 ?_
    exact zw_iret (pc := 16) hC (Nat.le_of_ble_eq_true rfl) hR dL_weather_16
  refine zr_i2l (pc := 8) hC dL_weather_8 ?_
  refine zr_last (pc := 9) (v := y_1) hC mem_111 lay_111 rfl dL_weather_9 ?_
  refine zr_goto (pc := 10) (tgt := 17) hC dL_weather_10 (by decide) ?_
  refine zr_iconst (pc := 17) (v := (0 : Int32)) hC dL_weather_17 ic_0 ?_
  exact zw_iret (pc := 18) hC (Nat.le_of_ble_eq_true rfl) hR dL_weather_18
theorem mw_1062 : Cond.codeWith yL_field cL_field 5 (some .int) [(0, 10, 13, 18)] ∈ WS := inWS (i := 1062) (by decide +kernel) (by decide +kernel)
def fL_field (a1 : Int32) (a2 : Int32) (s : St) : Option (Int32 × St) :=
  bw (fX11_field a1 a2 s) (fun y_1 s_1 =>
    if inA (0 : Int32) 1 then
    (let s_2 := wr s_1 111 (0 : Int32).toNatClampNeg y_1;
    some ((0 : Int32), s_2)) else none) (fun n9 s9 => if excN n9 = excN 0 then
    (some ((1 : Int32), s9)) else none)
set_option maxRecDepth 100000 in
set_option maxHeartbeats 4000000 in
theorem kL_field (l : Launch) (hst : l.stackTraces = false) (a1 : Int32) (a2 : Int32) (s : St) : CW l yL_field cL_field 5 (some .int) [(0, 10, 13, 18)] 8 1 FULL (fun ad => [.ref (ad 0), .int a1, .int a2, .ref (ad 111)]) s (fL_field a1 a2 s) := by
  refine cw_of (by decide) (fun _ => (Nat.le_of_ble_eq_true rfl)) (fun X hC hR hl hN => ?_)
  subst hl
  show Zr X (QFW X (some .int) 1) 0 s 0 [(0, .ref (X_ad X 0)), (1, .int a1), (2, .int a2), (3, .ref (X_ad X 111))] [] _
  rw [fL_field]
  refine zr_aload_n (pc := 0) (i := 3) 3 hC dL_field_0 rfl rfl ?_
  refine zr_iconst (pc := 1) (v := (0 : Int32)) hC dL_field_1 ic_0 ?_
  refine zr_aload_n (pc := 2) (i := 0) 0 hC dL_field_2 rfl rfl ?_
  refine zr_iload_n (pc := 3) (i := 1) 1 hC dL_field_3 rfl rfl ?_
  refine zr_iload_n (pc := 4) (i := 2) 2 hC dL_field_4 rfl rfl ?_
  refine zw_call (pc := 5) (xm' := 1) (As := fun ad => [.int a1, .int a2]) (st1 := [.int (0 : Int32), .ref (X_ad X 111)]) hC (Nat.le_of_ble_eq_true rfl) (kX11_field _ hst a1 a2 _) (Nat.le_of_ble_eq_true rfl) mc_yX11_field m_1063 m_1064 m_1065 mem_0 lay_0 rfl rfl rfl rfl (Nat.le_of_ble_eq_true rfl) dL_field_5 ?_ (fun y_1 s_1 => ?_)
  · refine zw_catch1 (pc := 5) (k0 := 0) (h9 := fun s9 => some ((1 : Int32), s9)) hC hR.2 (Nat.le_of_ble_eq_true rfl) (by decide) m_981 lw_castable0 (fun _ _ => rfl) (fun s9 q9 => ?_)
    refine zr_astore (pc := 13) (ls' := [(4, _), (0, _), (1, _), (2, _), (3, _)]) hC dL_field_13 (nlt hN (Nat.le_of_ble_eq_true rfl)) rfl ?_
    refine zr_iconst (pc := 15) (v := (1 : Int32)) hC dL_field_15 ic_1 ?_
    exact zw_iret (pc := 16) hC (Nat.le_of_ble_eq_true rfl) hR dL_field_16
  refine zr_i2l (pc := 8) hC dL_field_8 ?_
  refine zr_last (pc := 9) (v := y_1) hC mem_111 lay_111 rfl dL_field_9 ?_
  refine zr_goto (pc := 10) (tgt := 17) hC dL_field_10 (by decide) ?_
  refine zr_iconst (pc := 17) (v := (0 : Int32)) hC dL_field_17 ic_0 ?_
  exact zw_iret (pc := 18) hC (Nat.le_of_ble_eq_true rfl) hR dL_field_18
theorem mw_1071 : Cond.codeWith yL_front cL_front 5 (some .int) [(0, 10, 13, 18), (0, 10, 17, 13)] ∈ WS := inWS (i := 1071) (by decide +kernel) (by decide +kernel)
def fL_front (a1 : Int32) (a2 : Int32) (s : St) : Option (Int32 × St) :=
  bw (fX11_front a1 a2 s) (fun y_1 s_1 =>
    if inA (0 : Int32) 1 then
    (let s_2 := wr s_1 111 (0 : Int32).toNatClampNeg y_1;
    some ((0 : Int32), s_2)) else none) (fun n9 s9 => if n9 = 0 then
    (some ((1 : Int32), s9)) else
    (some ((2 : Int32), s9)))
set_option maxRecDepth 100000 in
set_option maxHeartbeats 4000000 in
theorem kL_front (l : Launch) (hst : l.stackTraces = false) (a1 : Int32) (a2 : Int32) (s : St) : CW l yL_front cL_front 5 (some .int) [(0, 10, 13, 18), (0, 10, 17, 13)] 9 3 FULL (fun ad => [.ref (ad 0), .int a1, .int a2, .ref (ad 111)]) s (fL_front a1 a2 s) := by
  refine cw_of (by decide) (fun _ => (Nat.le_of_ble_eq_true rfl)) (fun X hC hR hl hN => ?_)
  subst hl
  show Zr X (QFW X (some .int) 3) 0 s 0 [(0, .ref (X_ad X 0)), (1, .int a1), (2, .int a2), (3, .ref (X_ad X 111))] [] _
  rw [fL_front]
  refine zr_aload_n (pc := 0) (i := 3) 3 hC dL_front_0 rfl rfl ?_
  refine zr_iconst (pc := 1) (v := (0 : Int32)) hC dL_front_1 ic_0 ?_
  refine zr_aload_n (pc := 2) (i := 0) 0 hC dL_front_2 rfl rfl ?_
  refine zr_iload_n (pc := 3) (i := 1) 1 hC dL_front_3 rfl rfl ?_
  refine zr_iload_n (pc := 4) (i := 2) 2 hC dL_front_4 rfl rfl ?_
  refine zw_call (pc := 5) (xm' := 3) (As := fun ad => [.int a1, .int a2]) (st1 := [.int (0 : Int32), .ref (X_ad X 111)]) hC (Nat.le_of_ble_eq_true rfl) (kX11_front _ hst a1 a2 _) (Nat.le_of_ble_eq_true rfl) mc_yX11_front m_1072 m_1073 m_1074 mem_0 lay_0 rfl rfl rfl rfl (Nat.le_of_ble_eq_true rfl) dL_front_5 ?_ (fun y_1 s_1 => ?_)
  · refine zw_catch2 (pc := 5) (h9 := fun s9 => some ((1 : Int32), s9)) (h8 := fun s9 => some ((2 : Int32), s9)) hC hR.2 (Nat.le_of_ble_eq_true rfl) (by decide) (by decide) m_981 m_631 lw_castable0 lw_castable1 (fun _ _ => rfl) (fun s9 q9 => ?_) (fun s9 q9 => ?_)
    · refine zr_astore (pc := 13) (ls' := [(4, _), (0, _), (1, _), (2, _), (3, _)]) hC dL_front_13 (nlt hN (Nat.le_of_ble_eq_true rfl)) rfl ?_
      refine zr_iconst (pc := 15) (v := (1 : Int32)) hC dL_front_15 ic_1 ?_
      exact zw_iret (pc := 16) hC (Nat.le_of_ble_eq_true rfl) hR dL_front_16
    · refine zr_astore (pc := 17) (ls' := [(4, _), (0, _), (1, _), (2, _), (3, _)]) hC dL_front_17 (nlt hN (Nat.le_of_ble_eq_true rfl)) rfl ?_
      refine zr_iconst (pc := 19) (v := (2 : Int32)) hC dL_front_19 ic_2 ?_
      exact zw_iret (pc := 20) hC (Nat.le_of_ble_eq_true rfl) hR dL_front_20
  refine zr_i2l (pc := 8) hC dL_front_8 ?_
  refine zr_last (pc := 9) (v := y_1) hC mem_111 lay_111 rfl dL_front_9 ?_
  refine zr_goto (pc := 10) (tgt := 21) hC dL_front_10 (by decide) ?_
  refine zr_iconst (pc := 21) (v := (0 : Int32)) hC dL_front_21 ic_0 ?_
  exact zw_iret (pc := 22) hC (Nat.le_of_ble_eq_true rfl) hR dL_front_22
theorem mw_1083 : Cond.codeWith yL_kin cL_kin 5 (some .int) [(0, 10, 13, 18)] ∈ WS := inWS (i := 1083) (by decide +kernel) (by decide +kernel)
def fL_kin (a1 : Int32) (a2 : Int32) (s : St) : Option (Int32 × St) :=
  bw (fX11_kin a1 a2 s) (fun y_1 s_1 =>
    if inA (0 : Int32) 1 then
    (let s_2 := wr s_1 111 (0 : Int32).toNatClampNeg y_1;
    some ((0 : Int32), s_2)) else none) (fun n9 s9 => if excN n9 = excN 0 then
    (some ((1 : Int32), s9)) else none)
set_option maxRecDepth 100000 in
set_option maxHeartbeats 4000000 in
theorem kL_kin (l : Launch) (hst : l.stackTraces = false) (a1 : Int32) (a2 : Int32) (s : St) : CW l yL_kin cL_kin 5 (some .int) [(0, 10, 13, 18)] 9 2 FULL (fun ad => [.ref (ad 0), .int a1, .int a2, .ref (ad 111)]) s (fL_kin a1 a2 s) := by
  refine cw_of (by decide) (fun _ => (Nat.le_of_ble_eq_true rfl)) (fun X hC hR hl hN => ?_)
  subst hl
  show Zr X (QFW X (some .int) 2) 0 s 0 [(0, .ref (X_ad X 0)), (1, .int a1), (2, .int a2), (3, .ref (X_ad X 111))] [] _
  rw [fL_kin]
  refine zr_aload_n (pc := 0) (i := 3) 3 hC dL_kin_0 rfl rfl ?_
  refine zr_iconst (pc := 1) (v := (0 : Int32)) hC dL_kin_1 ic_0 ?_
  refine zr_aload_n (pc := 2) (i := 0) 0 hC dL_kin_2 rfl rfl ?_
  refine zr_iload_n (pc := 3) (i := 1) 1 hC dL_kin_3 rfl rfl ?_
  refine zr_iload_n (pc := 4) (i := 2) 2 hC dL_kin_4 rfl rfl ?_
  refine zw_call (pc := 5) (xm' := 2) (As := fun ad => [.int a1, .int a2]) (st1 := [.int (0 : Int32), .ref (X_ad X 111)]) hC (Nat.le_of_ble_eq_true rfl) (kX11_kin _ hst a1 a2 _) (Nat.le_of_ble_eq_true rfl) mc_yX11_kin m_1084 m_1085 m_1086 mem_0 lay_0 rfl rfl rfl rfl (Nat.le_of_ble_eq_true rfl) dL_kin_5 ?_ (fun y_1 s_1 => ?_)
  · refine zw_catch1 (pc := 5) (k0 := 0) (h9 := fun s9 => some ((1 : Int32), s9)) hC hR.2 (Nat.le_of_ble_eq_true rfl) (by decide) m_981 lw_castable0 (fun _ _ => rfl) (fun s9 q9 => ?_)
    refine zr_astore (pc := 13) (ls' := [(4, _), (0, _), (1, _), (2, _), (3, _)]) hC dL_kin_13 (nlt hN (Nat.le_of_ble_eq_true rfl)) rfl ?_
    refine zr_iconst (pc := 15) (v := (1 : Int32)) hC dL_kin_15 ic_1 ?_
    exact zw_iret (pc := 16) hC (Nat.le_of_ble_eq_true rfl) hR dL_kin_16
  refine zr_i2l (pc := 8) hC dL_kin_8 ?_
  refine zr_last (pc := 9) (v := y_1) hC mem_111 lay_111 rfl dL_kin_9 ?_
  refine zr_goto (pc := 10) (tgt := 17) hC dL_kin_10 (by decide) ?_
  refine zr_iconst (pc := 17) (v := (0 : Int32)) hC dL_kin_17 ic_0 ?_
  exact zw_iret (pc := 18) hC (Nat.le_of_ble_eq_true rfl) hR dL_kin_18
theorem mw_1102 : Cond.codeWith yL_go cL_go 5 (some .int) [(0, 10, 13, 18)] ∈ WS := inWS (i := 1102) (by decide +kernel) (by decide +kernel)
def fL_go (a1 : Int32) (a2 : Int32) (s : St) : Option (Int32 × St) :=
  bw (fX11_go a1 a2 s) (fun y_1 s_1 =>
    if inA (0 : Int32) 1 then
    (let s_2 := wr s_1 111 (0 : Int32).toNatClampNeg y_1;
    some ((0 : Int32), s_2)) else none) (fun n9 s9 => if excN n9 = excN 0 then
    (some ((1 : Int32), s9)) else none)
set_option maxRecDepth 100000 in
set_option maxHeartbeats 4000000 in
theorem kL_go (l : Launch) (hst : l.stackTraces = false) (a1 : Int32) (a2 : Int32) (s : St) : CW l yL_go cL_go 5 (some .int) [(0, 10, 13, 18)] 11 1 FULL (fun ad => [.ref (ad 0), .int a1, .int a2, .ref (ad 111)]) s (fL_go a1 a2 s) := by
  refine cw_of (by decide) (fun _ => (Nat.le_of_ble_eq_true rfl)) (fun X hC hR hl hN => ?_)
  subst hl
  show Zr X (QFW X (some .int) 1) 0 s 0 [(0, .ref (X_ad X 0)), (1, .int a1), (2, .int a2), (3, .ref (X_ad X 111))] [] _
  rw [fL_go]
  refine zr_aload_n (pc := 0) (i := 3) 3 hC dL_go_0 rfl rfl ?_
  refine zr_iconst (pc := 1) (v := (0 : Int32)) hC dL_go_1 ic_0 ?_
  refine zr_aload_n (pc := 2) (i := 0) 0 hC dL_go_2 rfl rfl ?_
  refine zr_iload_n (pc := 3) (i := 1) 1 hC dL_go_3 rfl rfl ?_
  refine zr_iload_n (pc := 4) (i := 2) 2 hC dL_go_4 rfl rfl ?_
  refine zw_call (pc := 5) (xm' := 1) (As := fun ad => [.int a1, .int a2]) (st1 := [.int (0 : Int32), .ref (X_ad X 111)]) hC (Nat.le_of_ble_eq_true rfl) (kX11_go _ hst a1 a2 _) (Nat.le_of_ble_eq_true rfl) mc_yX11_go m_1103 m_1104 m_1105 mem_0 lay_0 rfl rfl rfl rfl (Nat.le_of_ble_eq_true rfl) dL_go_5 ?_ (fun y_1 s_1 => ?_)
  · refine zw_catch1 (pc := 5) (k0 := 0) (h9 := fun s9 => some ((1 : Int32), s9)) hC hR.2 (Nat.le_of_ble_eq_true rfl) (by decide) m_981 lw_castable0 (fun _ _ => rfl) (fun s9 q9 => ?_)
    refine zr_astore (pc := 13) (ls' := [(4, _), (0, _), (1, _), (2, _), (3, _)]) hC dL_go_13 (nlt hN (Nat.le_of_ble_eq_true rfl)) rfl ?_
    refine zr_iconst (pc := 15) (v := (1 : Int32)) hC dL_go_15 ic_1 ?_
    exact zw_iret (pc := 16) hC (Nat.le_of_ble_eq_true rfl) hR dL_go_16
  refine zr_i2l (pc := 8) hC dL_go_8 ?_
  refine zr_last (pc := 9) (v := y_1) hC mem_111 lay_111 rfl dL_go_9 ?_
  refine zr_goto (pc := 10) (tgt := 17) hC dL_go_10 (by decide) ?_
  refine zr_iconst (pc := 17) (v := (0 : Int32)) hC dL_go_17 ic_0 ?_
  exact zw_iret (pc := 18) hC (Nat.le_of_ble_eq_true rfl) hR dL_go_18
theorem mw_1110 : Cond.codeWith yL_wed cL_wed 5 (some .int) [(0, 17, 20, 18)] ∈ WS := inWS (i := 1110) (by decide +kernel) (by decide +kernel)
def fL_wed (a1 : Int32) (a2 : Int32) (s : St) : Option (Int32 × St) :=
  bw (fX11_wed a1 a2 s) (fun y_1 s_1 =>
    if y_1 = 0 then
    (if inA (0 : Int32) 1 then
    (let s_2 := wr s_1 111 (0 : Int32).toNatClampNeg (0 : Int32);
    some ((0 : Int32), s_2)) else none)
  else
    (if inA (0 : Int32) 1 then
    (let s_3 := wr s_1 111 (0 : Int32).toNatClampNeg (1 : Int32);
    some ((0 : Int32), s_3)) else none)) (fun n9 s9 => if excN n9 = excN 0 then
    (some ((1 : Int32), s9)) else none)
set_option maxRecDepth 100000 in
set_option maxHeartbeats 4000000 in
theorem kL_wed (l : Launch) (hst : l.stackTraces = false) (a1 : Int32) (a2 : Int32) (s : St) : CW l yL_wed cL_wed 5 (some .int) [(0, 17, 20, 18)] 11 2 FULL (fun ad => [.ref (ad 0), .int a1, .int a2, .ref (ad 111)]) s (fL_wed a1 a2 s) := by
  refine cw_of (by decide) (fun _ => (Nat.le_of_ble_eq_true rfl)) (fun X hC hR hl hN => ?_)
  subst hl
  show Zr X (QFW X (some .int) 2) 0 s 0 [(0, .ref (X_ad X 0)), (1, .int a1), (2, .int a2), (3, .ref (X_ad X 111))] [] _
  rw [fL_wed]
  refine zr_aload_n (pc := 0) (i := 3) 3 hC dL_wed_0 rfl rfl ?_
  refine zr_iconst (pc := 1) (v := (0 : Int32)) hC dL_wed_1 ic_0 ?_
  refine zr_aload_n (pc := 2) (i := 0) 0 hC dL_wed_2 rfl rfl ?_
  refine zr_iload_n (pc := 3) (i := 1) 1 hC dL_wed_3 rfl rfl ?_
  refine zr_iload_n (pc := 4) (i := 2) 2 hC dL_wed_4 rfl rfl ?_
  refine zw_call (pc := 5) (xm' := 2) (As := fun ad => [.int a1, .int a2]) (st1 := [.int (0 : Int32), .ref (X_ad X 111)]) hC (Nat.le_of_ble_eq_true rfl) (kX11_wed _ hst a1 a2 _) (Nat.le_of_ble_eq_true rfl) mc_yX11_wed m_1111 m_1112 m_1113 mem_0 lay_0 rfl rfl rfl rfl (Nat.le_of_ble_eq_true rfl) dL_wed_5 ?_ (fun y_1 s_1 => ?_)
  · refine zw_catch1 (pc := 5) (k0 := 0) (h9 := fun s9 => some ((1 : Int32), s9)) hC hR.2 (Nat.le_of_ble_eq_true rfl) (by decide) m_981 lw_castable0 (fun _ _ => rfl) (fun s9 q9 => ?_)
    refine zr_astore (pc := 20) (ls' := [(4, _), (0, _), (1, _), (2, _), (3, _)]) hC dL_wed_20 (nlt hN (Nat.le_of_ble_eq_true rfl)) rfl ?_
    refine zr_iconst (pc := 22) (v := (1 : Int32)) hC dL_wed_22 ic_1 ?_
    exact zw_iret (pc := 23) hC (Nat.le_of_ble_eq_true rfl) hR dL_wed_23
  refine zr_if_eq (pc := 8) (tgt := 15) hC dL_wed_8 (by decide) (fun c_ => ?_) (fun c_ => ?_)
  · refine zr_lconst (pc := 15) (v := (0 : Int64)) hC dL_wed_15 rfl ?_
    refine zr_last (pc := 16) (v := (0 : Int32)) hC mem_111 lay_111 (by decide) dL_wed_16 ?_
    refine zr_goto (pc := 17) (tgt := 24) hC dL_wed_17 (by decide) ?_
    refine zr_iconst (pc := 24) (v := (0 : Int32)) hC dL_wed_24 ic_0 ?_
    exact zw_iret (pc := 25) hC (Nat.le_of_ble_eq_true rfl) hR dL_wed_25
  · refine zr_lconst (pc := 11) (v := (1 : Int64)) hC dL_wed_11 rfl ?_
    refine zr_goto (pc := 12) (tgt := 16) hC dL_wed_12 (by decide) ?_
    refine zr_last (pc := 16) (v := (1 : Int32)) hC mem_111 lay_111 (by decide) dL_wed_16 ?_
    refine zr_goto (pc := 17) (tgt := 24) hC dL_wed_17 (by decide) ?_
    refine zr_iconst (pc := 24) (v := (0 : Int32)) hC dL_wed_24 ic_0 ?_
    exact zw_iret (pc := 25) hC (Nat.le_of_ble_eq_true rfl) hR dL_wed_25
theorem mw_1127 : Cond.codeWith yL_die cL_die 4 (some .int) [(0, 9, 12, 18)] ∈ WS := inWS (i := 1127) (by decide +kernel) (by decide +kernel)
def fL_die (a1 : Int32) (s : St) : Option (Int32 × St) :=
  bw (fX11_die a1 s) (fun y_1 s_1 =>
    if inA (0 : Int32) 1 then
    (let s_2 := wr s_1 111 (0 : Int32).toNatClampNeg y_1;
    some ((0 : Int32), s_2)) else none) (fun n9 s9 => if excN n9 = excN 0 then
    (some ((1 : Int32), s9)) else none)
set_option maxRecDepth 100000 in
set_option maxHeartbeats 4000000 in
theorem kL_die (l : Launch) (hst : l.stackTraces = false) (a1 : Int32) (s : St) : CW l yL_die cL_die 4 (some .int) [(0, 9, 12, 18)] 11 1 FULL (fun ad => [.ref (ad 0), .int a1, .ref (ad 111)]) s (fL_die a1 s) := by
  refine cw_of (by decide) (fun _ => (Nat.le_of_ble_eq_true rfl)) (fun X hC hR hl hN => ?_)
  subst hl
  show Zr X (QFW X (some .int) 1) 0 s 0 [(0, .ref (X_ad X 0)), (1, .int a1), (2, .ref (X_ad X 111))] [] _
  rw [fL_die]
  refine zr_aload_n (pc := 0) (i := 2) 2 hC dL_die_0 rfl rfl ?_
  refine zr_iconst (pc := 1) (v := (0 : Int32)) hC dL_die_1 ic_0 ?_
  refine zr_aload_n (pc := 2) (i := 0) 0 hC dL_die_2 rfl rfl ?_
  refine zr_iload_n (pc := 3) (i := 1) 1 hC dL_die_3 rfl rfl ?_
  refine zw_call (pc := 4) (xm' := 1) (As := fun ad => [.int a1]) (st1 := [.int (0 : Int32), .ref (X_ad X 111)]) hC (Nat.le_of_ble_eq_true rfl) (kX11_die _ hst a1 _) (Nat.le_of_ble_eq_true rfl) mc_yX11_die m_1128 m_1129 m_1130 mem_0 lay_0 rfl rfl rfl rfl (Nat.le_of_ble_eq_true rfl) dL_die_4 ?_ (fun y_1 s_1 => ?_)
  · refine zw_catch1 (pc := 4) (k0 := 0) (h9 := fun s9 => some ((1 : Int32), s9)) hC hR.2 (Nat.le_of_ble_eq_true rfl) (by decide) m_981 lw_castable0 (fun _ _ => rfl) (fun s9 q9 => ?_)
    refine zr_astore_n (pc := 12) (i := 3) (ls' := [(3, _), (0, _), (1, _), (2, _)]) hC dL_die_12 rfl (nlt hN (Nat.le_of_ble_eq_true rfl)) rfl ?_
    refine zr_iconst (pc := 13) (v := (1 : Int32)) hC dL_die_13 ic_1 ?_
    exact zw_iret (pc := 14) hC (Nat.le_of_ble_eq_true rfl) hR dL_die_14
  refine zr_i2l (pc := 7) hC dL_die_7 ?_
  refine zr_last (pc := 8) (v := y_1) hC mem_111 lay_111 rfl dL_die_8 ?_
  refine zr_goto (pc := 9) (tgt := 15) hC dL_die_9 (by decide) ?_
  refine zr_iconst (pc := 15) (v := (0 : Int32)) hC dL_die_15 ic_0 ?_
  exact zw_iret (pc := 16) hC (Nat.le_of_ble_eq_true rfl) hR dL_die_16
theorem mw_1214 : Cond.codeWith yL_pawn cL_pawn 7 (some .int) [(0, 14, 17, 18)] ∈ WS := inWS (i := 1214) (by decide +kernel) (by decide +kernel)
def fL_pawn (a1 : Int32) (a2 : Int32) (a3 : Int32) (a4 : Int32) (s : St) : Option (Int32 × St) :=
  bw (fX11_pawn a1 a2 a3 a4 s) (fun y_1 s_1 =>
    if inA (0 : Int32) 1 then
    (let s_2 := wr s_1 111 (0 : Int32).toNatClampNeg y_1;
    some ((0 : Int32), s_2)) else none) (fun n9 s9 => if excN n9 = excN 0 then
    (some ((1 : Int32), s9)) else none)
set_option maxRecDepth 100000 in
set_option maxHeartbeats 4000000 in
theorem kL_pawn (l : Launch) (hst : l.stackTraces = false) (a1 : Int32) (a2 : Int32) (a3 : Int32) (a4 : Int32) (s : St) : CW l yL_pawn cL_pawn 7 (some .int) [(0, 14, 17, 18)] 11 3 FULL (fun ad => [.ref (ad 0), .int a1, .int a2, .int a3, .int a4, .ref (ad 111)]) s (fL_pawn a1 a2 a3 a4 s) := by
  refine cw_of (by decide) (fun _ => (Nat.le_of_ble_eq_true rfl)) (fun X hC hR hl hN => ?_)
  subst hl
  show Zr X (QFW X (some .int) 3) 0 s 0 [(0, .ref (X_ad X 0)), (1, .int a1), (2, .int a2), (3, .int a3), (4, .int a4), (5, .ref (X_ad X 111))] [] _
  rw [fL_pawn]
  refine zr_aload (pc := 0) 5 hC dL_pawn_0 rfl ?_
  refine zr_iconst (pc := 2) (v := (0 : Int32)) hC dL_pawn_2 ic_0 ?_
  refine zr_aload_n (pc := 3) (i := 0) 0 hC dL_pawn_3 rfl rfl ?_
  refine zr_iload_n (pc := 4) (i := 1) 1 hC dL_pawn_4 rfl rfl ?_
  refine zr_iload_n (pc := 5) (i := 2) 2 hC dL_pawn_5 rfl rfl ?_
  refine zr_iload_n (pc := 6) (i := 3) 3 hC dL_pawn_6 rfl rfl ?_
  refine zr_iload (pc := 7) 4 hC dL_pawn_7 rfl ?_
  refine zw_call (pc := 9) (xm' := 3) (As := fun ad => [.int a1, .int a2, .int a3, .int a4]) (st1 := [.int (0 : Int32), .ref (X_ad X 111)]) hC (Nat.le_of_ble_eq_true rfl) (kX11_pawn _ hst a1 a2 a3 a4 _) (Nat.le_of_ble_eq_true rfl) mc_yX11_pawn m_1215 m_1216 m_1217 mem_0 lay_0 rfl rfl rfl rfl (Nat.le_of_ble_eq_true rfl) dL_pawn_9 ?_ (fun y_1 s_1 => ?_)
  · refine zw_catch1 (pc := 9) (k0 := 0) (h9 := fun s9 => some ((1 : Int32), s9)) hC hR.2 (Nat.le_of_ble_eq_true rfl) (by decide) m_981 lw_castable0 (fun _ _ => rfl) (fun s9 q9 => ?_)
    refine zr_astore (pc := 17) (ls' := [(6, _), (0, _), (1, _), (2, _), (3, _), (4, _), (5, _)]) hC dL_pawn_17 (nlt hN (Nat.le_of_ble_eq_true rfl)) rfl ?_
    refine zr_iconst (pc := 19) (v := (1 : Int32)) hC dL_pawn_19 ic_1 ?_
    exact zw_iret (pc := 20) hC (Nat.le_of_ble_eq_true rfl) hR dL_pawn_20
  refine zr_i2l (pc := 12) hC dL_pawn_12 ?_
  refine zr_last (pc := 13) (v := y_1) hC mem_111 lay_111 rfl dL_pawn_13 ?_
  refine zr_goto (pc := 14) (tgt := 21) hC dL_pawn_14 (by decide) ?_
  refine zr_iconst (pc := 21) (v := (0 : Int32)) hC dL_pawn_21 ic_0 ?_
  exact zw_iret (pc := 22) hC (Nat.le_of_ble_eq_true rfl) hR dL_pawn_22
theorem mw_1222 : Cond.codeWith yL_heir cL_heir 6 (some .int) [(0, 12, 15, 18), (0, 12, 19, 13)] ∈ WS := inWS (i := 1222) (by decide +kernel) (by decide +kernel)
def fL_heir (a1 : Int32) (a2 : Int32) (a3 : Int32) (s : St) : Option (Int32 × St) :=
  bw (fX11_heir a1 a2 a3 s) (fun y_1 s_1 =>
    if inA (0 : Int32) 1 then
    (let s_2 := wr s_1 111 (0 : Int32).toNatClampNeg y_1;
    some ((0 : Int32), s_2)) else none) (fun n9 s9 => if n9 = 0 then
    (some ((1 : Int32), s9)) else
    (some ((2 : Int32), s9)))
set_option maxRecDepth 100000 in
set_option maxHeartbeats 4000000 in
theorem kL_heir (l : Launch) (hst : l.stackTraces = false) (a1 : Int32) (a2 : Int32) (a3 : Int32) (s : St) : CW l yL_heir cL_heir 6 (some .int) [(0, 12, 15, 18), (0, 12, 19, 13)] 10 4 FULL (fun ad => [.ref (ad 0), .int a1, .int a2, .int a3, .ref (ad 111)]) s (fL_heir a1 a2 a3 s) := by
  refine cw_of (by decide) (fun _ => (Nat.le_of_ble_eq_true rfl)) (fun X hC hR hl hN => ?_)
  subst hl
  show Zr X (QFW X (some .int) 4) 0 s 0 [(0, .ref (X_ad X 0)), (1, .int a1), (2, .int a2), (3, .int a3), (4, .ref (X_ad X 111))] [] _
  rw [fL_heir]
  refine zr_aload (pc := 0) 4 hC dL_heir_0 rfl ?_
  refine zr_iconst (pc := 2) (v := (0 : Int32)) hC dL_heir_2 ic_0 ?_
  refine zr_aload_n (pc := 3) (i := 0) 0 hC dL_heir_3 rfl rfl ?_
  refine zr_iload_n (pc := 4) (i := 1) 1 hC dL_heir_4 rfl rfl ?_
  refine zr_iload_n (pc := 5) (i := 2) 2 hC dL_heir_5 rfl rfl ?_
  refine zr_iload_n (pc := 6) (i := 3) 3 hC dL_heir_6 rfl rfl ?_
  refine zw_call (pc := 7) (xm' := 4) (As := fun ad => [.int a1, .int a2, .int a3]) (st1 := [.int (0 : Int32), .ref (X_ad X 111)]) hC (Nat.le_of_ble_eq_true rfl) (kX11_heir _ hst a1 a2 a3 _) (Nat.le_of_ble_eq_true rfl) mc_yX11_heir m_1223 m_1224 m_1225 mem_0 lay_0 rfl rfl rfl rfl (Nat.le_of_ble_eq_true rfl) dL_heir_7 ?_ (fun y_1 s_1 => ?_)
  · refine zw_catch2 (pc := 7) (h9 := fun s9 => some ((1 : Int32), s9)) (h8 := fun s9 => some ((2 : Int32), s9)) hC hR.2 (Nat.le_of_ble_eq_true rfl) (by decide) (by decide) m_981 m_631 lw_castable0 lw_castable1 (fun _ _ => rfl) (fun s9 q9 => ?_) (fun s9 q9 => ?_)
    · refine zr_astore (pc := 15) (ls' := [(5, _), (0, _), (1, _), (2, _), (3, _), (4, _)]) hC dL_heir_15 (nlt hN (Nat.le_of_ble_eq_true rfl)) rfl ?_
      refine zr_iconst (pc := 17) (v := (1 : Int32)) hC dL_heir_17 ic_1 ?_
      exact zw_iret (pc := 18) hC (Nat.le_of_ble_eq_true rfl) hR dL_heir_18
    · refine zr_astore (pc := 19) (ls' := [(5, _), (0, _), (1, _), (2, _), (3, _), (4, _)]) hC dL_heir_19 (nlt hN (Nat.le_of_ble_eq_true rfl)) rfl ?_
      refine zr_iconst (pc := 21) (v := (2 : Int32)) hC dL_heir_21 ic_2 ?_
      exact zw_iret (pc := 22) hC (Nat.le_of_ble_eq_true rfl) hR dL_heir_22
  refine zr_i2l (pc := 10) hC dL_heir_10 ?_
  refine zr_last (pc := 11) (v := y_1) hC mem_111 lay_111 rfl dL_heir_11 ?_
  refine zr_goto (pc := 12) (tgt := 23) hC dL_heir_12 (by decide) ?_
  refine zr_iconst (pc := 23) (v := (0 : Int32)) hC dL_heir_23 ic_0 ?_
  exact zw_iret (pc := 24) hC (Nat.le_of_ble_eq_true rfl) hR dL_heir_24
theorem mw_1237 : Cond.codeWith yL_contested cL_contested 4 (some .int) [(0, 9, 12, 18)] ∈ WS := inWS (i := 1237) (by decide +kernel) (by decide +kernel)
def fL_contested (a1 : Int32) (s : St) : Option (Int32 × St) :=
  bw (fX11_contested a1 s) (fun y_1 s_1 =>
    if inA (0 : Int32) 1 then
    (let s_2 := wr s_1 111 (0 : Int32).toNatClampNeg y_1;
    some ((0 : Int32), s_2)) else none) (fun n9 s9 => if excN n9 = excN 0 then
    (some ((1 : Int32), s9)) else none)
set_option maxRecDepth 100000 in
set_option maxHeartbeats 4000000 in
theorem kL_contested (l : Launch) (hst : l.stackTraces = false) (a1 : Int32) (s : St) : CW l yL_contested cL_contested 4 (some .int) [(0, 9, 12, 18)] 10 1 FULL (fun ad => [.ref (ad 0), .int a1, .ref (ad 111)]) s (fL_contested a1 s) := by
  refine cw_of (by decide) (fun _ => (Nat.le_of_ble_eq_true rfl)) (fun X hC hR hl hN => ?_)
  subst hl
  show Zr X (QFW X (some .int) 1) 0 s 0 [(0, .ref (X_ad X 0)), (1, .int a1), (2, .ref (X_ad X 111))] [] _
  rw [fL_contested]
  refine zr_aload_n (pc := 0) (i := 2) 2 hC dL_contested_0 rfl rfl ?_
  refine zr_iconst (pc := 1) (v := (0 : Int32)) hC dL_contested_1 ic_0 ?_
  refine zr_aload_n (pc := 2) (i := 0) 0 hC dL_contested_2 rfl rfl ?_
  refine zr_iload_n (pc := 3) (i := 1) 1 hC dL_contested_3 rfl rfl ?_
  refine zw_call (pc := 4) (xm' := 1) (As := fun ad => [.int a1]) (st1 := [.int (0 : Int32), .ref (X_ad X 111)]) hC (Nat.le_of_ble_eq_true rfl) (kX11_contested _ hst a1 _) (Nat.le_of_ble_eq_true rfl) mc_yX11_contested m_1238 m_1239 m_1240 mem_0 lay_0 rfl rfl rfl rfl (Nat.le_of_ble_eq_true rfl) dL_contested_4 ?_ (fun y_1 s_1 => ?_)
  · refine zw_catch1 (pc := 4) (k0 := 0) (h9 := fun s9 => some ((1 : Int32), s9)) hC hR.2 (Nat.le_of_ble_eq_true rfl) (by decide) m_981 lw_castable0 (fun _ _ => rfl) (fun s9 q9 => ?_)
    refine zr_astore_n (pc := 12) (i := 3) (ls' := [(3, _), (0, _), (1, _), (2, _)]) hC dL_contested_12 rfl (nlt hN (Nat.le_of_ble_eq_true rfl)) rfl ?_
    refine zr_iconst (pc := 13) (v := (1 : Int32)) hC dL_contested_13 ic_1 ?_
    exact zw_iret (pc := 14) hC (Nat.le_of_ble_eq_true rfl) hR dL_contested_14
  refine zr_i2l (pc := 7) hC dL_contested_7 ?_
  refine zr_last (pc := 8) (v := y_1) hC mem_111 lay_111 rfl dL_contested_8 ?_
  refine zr_goto (pc := 9) (tgt := 15) hC dL_contested_9 (by decide) ?_
  refine zr_iconst (pc := 15) (v := (0 : Int32)) hC dL_contested_15 ic_0 ?_
  exact zw_iret (pc := 16) hC (Nat.le_of_ble_eq_true rfl) hR dL_contested_16
theorem mw_1250 : Cond.codeWith yL_deaths cL_deaths 6 (some .int) [(0, 12, 15, 18), (0, 12, 19, 13)] ∈ WS := inWS (i := 1250) (by decide +kernel) (by decide +kernel)
def fL_deaths (a1 : Int32) (a2 : Int32) (a3 : Int32) (s : St) : Option (Int32 × St) :=
  bw (fX11_deaths a1 a2 a3 s) (fun y_1 s_1 =>
    if inA (0 : Int32) 1 then
    (let s_2 := wr s_1 111 (0 : Int32).toNatClampNeg y_1;
    some ((0 : Int32), s_2)) else none) (fun n9 s9 => if n9 = 0 then
    (some ((1 : Int32), s9)) else
    (some ((2 : Int32), s9)))
set_option maxRecDepth 100000 in
set_option maxHeartbeats 4000000 in
theorem kL_deaths (l : Launch) (hst : l.stackTraces = false) (a1 : Int32) (a2 : Int32) (a3 : Int32) (s : St) : CW l yL_deaths cL_deaths 6 (some .int) [(0, 12, 15, 18), (0, 12, 19, 13)] 17 3 FULL (fun ad => [.ref (ad 0), .int a1, .int a2, .int a3, .ref (ad 111)]) s (fL_deaths a1 a2 a3 s) := by
  refine cw_of (by decide) (fun _ => (Nat.le_of_ble_eq_true rfl)) (fun X hC hR hl hN => ?_)
  subst hl
  show Zr X (QFW X (some .int) 3) 0 s 0 [(0, .ref (X_ad X 0)), (1, .int a1), (2, .int a2), (3, .int a3), (4, .ref (X_ad X 111))] [] _
  rw [fL_deaths]
  refine zr_aload (pc := 0) 4 hC dL_deaths_0 rfl ?_
  refine zr_iconst (pc := 2) (v := (0 : Int32)) hC dL_deaths_2 ic_0 ?_
  refine zr_aload_n (pc := 3) (i := 0) 0 hC dL_deaths_3 rfl rfl ?_
  refine zr_iload_n (pc := 4) (i := 1) 1 hC dL_deaths_4 rfl rfl ?_
  refine zr_iload_n (pc := 5) (i := 2) 2 hC dL_deaths_5 rfl rfl ?_
  refine zr_iload_n (pc := 6) (i := 3) 3 hC dL_deaths_6 rfl rfl ?_
  refine zw_call (pc := 7) (xm' := 3) (As := fun ad => [.int a1, .int a2, .int a3]) (st1 := [.int (0 : Int32), .ref (X_ad X 111)]) hC (Nat.le_of_ble_eq_true rfl) (kX11_deaths _ hst a1 a2 a3 _) (Nat.le_of_ble_eq_true rfl) mc_yX11_deaths m_1251 m_1252 m_1253 mem_0 lay_0 rfl rfl rfl rfl (Nat.le_of_ble_eq_true rfl) dL_deaths_7 ?_ (fun y_1 s_1 => ?_)
  · refine zw_catch2 (pc := 7) (h9 := fun s9 => some ((1 : Int32), s9)) (h8 := fun s9 => some ((2 : Int32), s9)) hC hR.2 (Nat.le_of_ble_eq_true rfl) (by decide) (by decide) m_981 m_631 lw_castable0 lw_castable1 (fun _ _ => rfl) (fun s9 q9 => ?_) (fun s9 q9 => ?_)
    · refine zr_astore (pc := 15) (ls' := [(5, _), (0, _), (1, _), (2, _), (3, _), (4, _)]) hC dL_deaths_15 (nlt hN (Nat.le_of_ble_eq_true rfl)) rfl ?_
      refine zr_iconst (pc := 17) (v := (1 : Int32)) hC dL_deaths_17 ic_1 ?_
      exact zw_iret (pc := 18) hC (Nat.le_of_ble_eq_true rfl) hR dL_deaths_18
    · refine zr_astore (pc := 19) (ls' := [(5, _), (0, _), (1, _), (2, _), (3, _), (4, _)]) hC dL_deaths_19 (nlt hN (Nat.le_of_ble_eq_true rfl)) rfl ?_
      refine zr_iconst (pc := 21) (v := (2 : Int32)) hC dL_deaths_21 ic_2 ?_
      exact zw_iret (pc := 22) hC (Nat.le_of_ble_eq_true rfl) hR dL_deaths_22
  refine zr_i2l (pc := 10) hC dL_deaths_10 ?_
  refine zr_last (pc := 11) (v := y_1) hC mem_111 lay_111 rfl dL_deaths_11 ?_
  refine zr_goto (pc := 12) (tgt := 23) hC dL_deaths_12 (by decide) ?_
  refine zr_iconst (pc := 23) (v := (0 : Int32)) hC dL_deaths_23 ic_0 ?_
  exact zw_iret (pc := 24) hC (Nat.le_of_ble_eq_true rfl) hR dL_deaths_24
theorem mw_1278 : Cond.codeWith yL_death cL_death 4 (some .int) [(0, 9, 12, 18)] ∈ WS := inWS (i := 1278) (by decide +kernel) (by decide +kernel)
def fL_death (a1 : Int32) (s : St) : Option (Int32 × St) :=
  bw (fX11_death a1 s) (fun y_1 s_1 =>
    if inA (0 : Int32) 1 then
    (let s_2 := wr s_1 111 (0 : Int32).toNatClampNeg y_1;
    some ((0 : Int32), s_2)) else none) (fun n9 s9 => if excN n9 = excN 0 then
    (some ((1 : Int32), s9)) else none)
set_option maxRecDepth 100000 in
set_option maxHeartbeats 4000000 in
theorem kL_death (l : Launch) (hst : l.stackTraces = false) (a1 : Int32) (s : St) : CW l yL_death cL_death 4 (some .int) [(0, 9, 12, 18)] 8 1 FULL (fun ad => [.ref (ad 0), .int a1, .ref (ad 111)]) s (fL_death a1 s) := by
  refine cw_of (by decide) (fun _ => (Nat.le_of_ble_eq_true rfl)) (fun X hC hR hl hN => ?_)
  subst hl
  show Zr X (QFW X (some .int) 1) 0 s 0 [(0, .ref (X_ad X 0)), (1, .int a1), (2, .ref (X_ad X 111))] [] _
  rw [fL_death]
  refine zr_aload_n (pc := 0) (i := 2) 2 hC dL_death_0 rfl rfl ?_
  refine zr_iconst (pc := 1) (v := (0 : Int32)) hC dL_death_1 ic_0 ?_
  refine zr_aload_n (pc := 2) (i := 0) 0 hC dL_death_2 rfl rfl ?_
  refine zr_iload_n (pc := 3) (i := 1) 1 hC dL_death_3 rfl rfl ?_
  refine zw_call (pc := 4) (xm' := 1) (As := fun ad => [.int a1]) (st1 := [.int (0 : Int32), .ref (X_ad X 111)]) hC (Nat.le_of_ble_eq_true rfl) (kX11_death _ hst a1 _) (Nat.le_of_ble_eq_true rfl) mc_yX11_death m_1279 m_1280 m_1281 mem_0 lay_0 rfl rfl rfl rfl (Nat.le_of_ble_eq_true rfl) dL_death_4 ?_ (fun y_1 s_1 => ?_)
  · refine zw_catch1 (pc := 4) (k0 := 0) (h9 := fun s9 => some ((1 : Int32), s9)) hC hR.2 (Nat.le_of_ble_eq_true rfl) (by decide) m_981 lw_castable0 (fun _ _ => rfl) (fun s9 q9 => ?_)
    refine zr_astore_n (pc := 12) (i := 3) (ls' := [(3, _), (0, _), (1, _), (2, _)]) hC dL_death_12 rfl (nlt hN (Nat.le_of_ble_eq_true rfl)) rfl ?_
    refine zr_iconst (pc := 13) (v := (1 : Int32)) hC dL_death_13 ic_1 ?_
    exact zw_iret (pc := 14) hC (Nat.le_of_ble_eq_true rfl) hR dL_death_14
  refine zr_i2l (pc := 7) hC dL_death_7 ?_
  refine zr_last (pc := 8) (v := y_1) hC mem_111 lay_111 rfl dL_death_8 ?_
  refine zr_goto (pc := 9) (tgt := 15) hC dL_death_9 (by decide) ?_
  refine zr_iconst (pc := 15) (v := (0 : Int32)) hC dL_death_15 ic_0 ?_
  exact zw_iret (pc := 16) hC (Nat.le_of_ble_eq_true rfl) hR dL_death_16
theorem mw_1285 : Cond.codeWith yL_post cL_post 4 (some .int) [(0, 9, 12, 18)] ∈ WS := inWS (i := 1285) (by decide +kernel) (by decide +kernel)
def fL_post (a1 : Int32) (s : St) : Option (Int32 × St) :=
  bw (fX11_post a1 s) (fun y_1 s_1 =>
    if inA (0 : Int32) 1 then
    (let s_2 := wr s_1 111 (0 : Int32).toNatClampNeg y_1;
    some ((0 : Int32), s_2)) else none) (fun n9 s9 => if excN n9 = excN 0 then
    (some ((1 : Int32), s9)) else none)
set_option maxRecDepth 100000 in
set_option maxHeartbeats 4000000 in
theorem kL_post (l : Launch) (hst : l.stackTraces = false) (a1 : Int32) (s : St) : CW l yL_post cL_post 4 (some .int) [(0, 9, 12, 18)] 9 2 FULL (fun ad => [.ref (ad 0), .int a1, .ref (ad 111)]) s (fL_post a1 s) := by
  refine cw_of (by decide) (fun _ => (Nat.le_of_ble_eq_true rfl)) (fun X hC hR hl hN => ?_)
  subst hl
  show Zr X (QFW X (some .int) 2) 0 s 0 [(0, .ref (X_ad X 0)), (1, .int a1), (2, .ref (X_ad X 111))] [] _
  rw [fL_post]
  refine zr_aload_n (pc := 0) (i := 2) 2 hC dL_post_0 rfl rfl ?_
  refine zr_iconst (pc := 1) (v := (0 : Int32)) hC dL_post_1 ic_0 ?_
  refine zr_aload_n (pc := 2) (i := 0) 0 hC dL_post_2 rfl rfl ?_
  refine zr_iload_n (pc := 3) (i := 1) 1 hC dL_post_3 rfl rfl ?_
  refine zw_call (pc := 4) (xm' := 2) (As := fun ad => [.int a1]) (st1 := [.int (0 : Int32), .ref (X_ad X 111)]) hC (Nat.le_of_ble_eq_true rfl) (kX11_post _ hst a1 _) (Nat.le_of_ble_eq_true rfl) mc_yX11_post m_1286 m_1287 m_1288 mem_0 lay_0 rfl rfl rfl rfl (Nat.le_of_ble_eq_true rfl) dL_post_4 ?_ (fun y_1 s_1 => ?_)
  · refine zw_catch1 (pc := 4) (k0 := 0) (h9 := fun s9 => some ((1 : Int32), s9)) hC hR.2 (Nat.le_of_ble_eq_true rfl) (by decide) m_981 lw_castable0 (fun _ _ => rfl) (fun s9 q9 => ?_)
    refine zr_astore_n (pc := 12) (i := 3) (ls' := [(3, _), (0, _), (1, _), (2, _)]) hC dL_post_12 rfl (nlt hN (Nat.le_of_ble_eq_true rfl)) rfl ?_
    refine zr_iconst (pc := 13) (v := (1 : Int32)) hC dL_post_13 ic_1 ?_
    exact zw_iret (pc := 14) hC (Nat.le_of_ble_eq_true rfl) hR dL_post_14
  refine zr_i2l (pc := 7) hC dL_post_7 ?_
  refine zr_last (pc := 8) (v := y_1) hC mem_111 lay_111 rfl dL_post_8 ?_
  refine zr_goto (pc := 9) (tgt := 15) hC dL_post_9 (by decide) ?_
  refine zr_iconst (pc := 15) (v := (0 : Int32)) hC dL_post_15 ic_0 ?_
  exact zw_iret (pc := 16) hC (Nat.le_of_ble_eq_true rfl) hR dL_post_16
theorem mw_1292 : Cond.codeWith yL_seat cL_seat 4 (some .int) [(0, 9, 12, 18)] ∈ WS := inWS (i := 1292) (by decide +kernel) (by decide +kernel)
def fL_seat (a1 : Int32) (s : St) : Option (Int32 × St) :=
  bw (fX11_seat a1 s) (fun y_1 s_1 =>
    if inA (0 : Int32) 1 then
    (let s_2 := wr s_1 111 (0 : Int32).toNatClampNeg y_1;
    some ((0 : Int32), s_2)) else none) (fun n9 s9 => if excN n9 = excN 0 then
    (some ((1 : Int32), s9)) else none)
set_option maxRecDepth 100000 in
set_option maxHeartbeats 4000000 in
theorem kL_seat (l : Launch) (hst : l.stackTraces = false) (a1 : Int32) (s : St) : CW l yL_seat cL_seat 4 (some .int) [(0, 9, 12, 18)] 8 1 FULL (fun ad => [.ref (ad 0), .int a1, .ref (ad 111)]) s (fL_seat a1 s) := by
  refine cw_of (by decide) (fun _ => (Nat.le_of_ble_eq_true rfl)) (fun X hC hR hl hN => ?_)
  subst hl
  show Zr X (QFW X (some .int) 1) 0 s 0 [(0, .ref (X_ad X 0)), (1, .int a1), (2, .ref (X_ad X 111))] [] _
  rw [fL_seat]
  refine zr_aload_n (pc := 0) (i := 2) 2 hC dL_seat_0 rfl rfl ?_
  refine zr_iconst (pc := 1) (v := (0 : Int32)) hC dL_seat_1 ic_0 ?_
  refine zr_aload_n (pc := 2) (i := 0) 0 hC dL_seat_2 rfl rfl ?_
  refine zr_iload_n (pc := 3) (i := 1) 1 hC dL_seat_3 rfl rfl ?_
  refine zw_call (pc := 4) (xm' := 1) (As := fun ad => [.int a1]) (st1 := [.int (0 : Int32), .ref (X_ad X 111)]) hC (Nat.le_of_ble_eq_true rfl) (kX11_seat _ hst a1 _) (Nat.le_of_ble_eq_true rfl) mc_yX11_seat m_1293 m_1294 m_1295 mem_0 lay_0 rfl rfl rfl rfl (Nat.le_of_ble_eq_true rfl) dL_seat_4 ?_ (fun y_1 s_1 => ?_)
  · refine zw_catch1 (pc := 4) (k0 := 0) (h9 := fun s9 => some ((1 : Int32), s9)) hC hR.2 (Nat.le_of_ble_eq_true rfl) (by decide) m_981 lw_castable0 (fun _ _ => rfl) (fun s9 q9 => ?_)
    refine zr_astore_n (pc := 12) (i := 3) (ls' := [(3, _), (0, _), (1, _), (2, _)]) hC dL_seat_12 rfl (nlt hN (Nat.le_of_ble_eq_true rfl)) rfl ?_
    refine zr_iconst (pc := 13) (v := (1 : Int32)) hC dL_seat_13 ic_1 ?_
    exact zw_iret (pc := 14) hC (Nat.le_of_ble_eq_true rfl) hR dL_seat_14
  refine zr_i2l (pc := 7) hC dL_seat_7 ?_
  refine zr_last (pc := 8) (v := y_1) hC mem_111 lay_111 rfl dL_seat_8 ?_
  refine zr_goto (pc := 9) (tgt := 15) hC dL_seat_9 (by decide) ?_
  refine zr_iconst (pc := 15) (v := (0 : Int32)) hC dL_seat_15 ic_0 ?_
  exact zw_iret (pc := 16) hC (Nat.le_of_ble_eq_true rfl) hR dL_seat_16
theorem mw_1299 : Cond.codeWith yL_see cL_see 5 (some .int) [(0, 10, 13, 18)] ∈ WS := inWS (i := 1299) (by decide +kernel) (by decide +kernel)
def fL_see (a1 : Int32) (a2 : Int32) (s : St) : Option (Int32 × St) :=
  bw (fX11_see a1 a2 s) (fun y_1 s_1 =>
    if inA (0 : Int32) 1 then
    (let s_2 := wr s_1 111 (0 : Int32).toNatClampNeg y_1;
    some ((0 : Int32), s_2)) else none) (fun n9 s9 => if excN n9 = excN 0 then
    (some ((1 : Int32), s9)) else none)
set_option maxRecDepth 100000 in
set_option maxHeartbeats 4000000 in
theorem kL_see (l : Launch) (hst : l.stackTraces = false) (a1 : Int32) (a2 : Int32) (s : St) : CW l yL_see cL_see 5 (some .int) [(0, 10, 13, 18)] 9 1 FULL (fun ad => [.ref (ad 0), .int a1, .int a2, .ref (ad 111)]) s (fL_see a1 a2 s) := by
  refine cw_of (by decide) (fun _ => (Nat.le_of_ble_eq_true rfl)) (fun X hC hR hl hN => ?_)
  subst hl
  show Zr X (QFW X (some .int) 1) 0 s 0 [(0, .ref (X_ad X 0)), (1, .int a1), (2, .int a2), (3, .ref (X_ad X 111))] [] _
  rw [fL_see]
  refine zr_aload_n (pc := 0) (i := 3) 3 hC dL_see_0 rfl rfl ?_
  refine zr_iconst (pc := 1) (v := (0 : Int32)) hC dL_see_1 ic_0 ?_
  refine zr_aload_n (pc := 2) (i := 0) 0 hC dL_see_2 rfl rfl ?_
  refine zr_iload_n (pc := 3) (i := 1) 1 hC dL_see_3 rfl rfl ?_
  refine zr_iload_n (pc := 4) (i := 2) 2 hC dL_see_4 rfl rfl ?_
  refine zw_call (pc := 5) (xm' := 1) (As := fun ad => [.int a1, .int a2]) (st1 := [.int (0 : Int32), .ref (X_ad X 111)]) hC (Nat.le_of_ble_eq_true rfl) (kX11_see _ hst a1 a2 _) (Nat.le_of_ble_eq_true rfl) mc_yX11_see m_1300 m_1301 m_1302 mem_0 lay_0 rfl rfl rfl rfl (Nat.le_of_ble_eq_true rfl) dL_see_5 ?_ (fun y_1 s_1 => ?_)
  · refine zw_catch1 (pc := 5) (k0 := 0) (h9 := fun s9 => some ((1 : Int32), s9)) hC hR.2 (Nat.le_of_ble_eq_true rfl) (by decide) m_981 lw_castable0 (fun _ _ => rfl) (fun s9 q9 => ?_)
    refine zr_astore (pc := 13) (ls' := [(4, _), (0, _), (1, _), (2, _), (3, _)]) hC dL_see_13 (nlt hN (Nat.le_of_ble_eq_true rfl)) rfl ?_
    refine zr_iconst (pc := 15) (v := (1 : Int32)) hC dL_see_15 ic_1 ?_
    exact zw_iret (pc := 16) hC (Nat.le_of_ble_eq_true rfl) hR dL_see_16
  refine zr_i2l (pc := 8) hC dL_see_8 ?_
  refine zr_last (pc := 9) (v := y_1) hC mem_111 lay_111 rfl dL_see_9 ?_
  refine zr_goto (pc := 10) (tgt := 17) hC dL_see_10 (by decide) ?_
  refine zr_iconst (pc := 17) (v := (0 : Int32)) hC dL_see_17 ic_0 ?_
  exact zw_iret (pc := 18) hC (Nat.le_of_ble_eq_true rfl) hR dL_see_18
theorem mw_1310 : Cond.codeWith yL_fits cL_fits 4 (some .int) [(0, 9, 12, 18)] ∈ WS := inWS (i := 1310) (by decide +kernel) (by decide +kernel)
def fL_fits (a1 : Int32) (s : St) : Option (Int32 × St) :=
  bw (fX11_fits a1 s) (fun y_1 s_1 =>
    if inA (0 : Int32) 1 then
    (let s_2 := wr s_1 111 (0 : Int32).toNatClampNeg y_1;
    some ((0 : Int32), s_2)) else none) (fun n9 s9 => if excN n9 = excN 0 then
    (some ((1 : Int32), s9)) else none)
set_option maxRecDepth 100000 in
set_option maxHeartbeats 4000000 in
theorem kL_fits (l : Launch) (hst : l.stackTraces = false) (a1 : Int32) (s : St) : CW l yL_fits cL_fits 4 (some .int) [(0, 9, 12, 18)] 22 1 FULL (fun ad => [.ref (ad 0), .int a1, .ref (ad 111)]) s (fL_fits a1 s) := by
  refine cw_of (by decide) (fun _ => (Nat.le_of_ble_eq_true rfl)) (fun X hC hR hl hN => ?_)
  subst hl
  show Zr X (QFW X (some .int) 1) 0 s 0 [(0, .ref (X_ad X 0)), (1, .int a1), (2, .ref (X_ad X 111))] [] _
  rw [fL_fits]
  refine zr_aload_n (pc := 0) (i := 2) 2 hC dL_fits_0 rfl rfl ?_
  refine zr_iconst (pc := 1) (v := (0 : Int32)) hC dL_fits_1 ic_0 ?_
  refine zr_aload_n (pc := 2) (i := 0) 0 hC dL_fits_2 rfl rfl ?_
  refine zr_iload_n (pc := 3) (i := 1) 1 hC dL_fits_3 rfl rfl ?_
  refine zw_call (pc := 4) (xm' := 1) (As := fun ad => [.int a1]) (st1 := [.int (0 : Int32), .ref (X_ad X 111)]) hC (Nat.le_of_ble_eq_true rfl) (kX11_fits _ hst a1 _) (Nat.le_of_ble_eq_true rfl) mc_yX11_fits m_1311 m_1312 m_1313 mem_0 lay_0 rfl rfl rfl rfl (Nat.le_of_ble_eq_true rfl) dL_fits_4 ?_ (fun y_1 s_1 => ?_)
  · refine zw_catch1 (pc := 4) (k0 := 0) (h9 := fun s9 => some ((1 : Int32), s9)) hC hR.2 (Nat.le_of_ble_eq_true rfl) (by decide) m_981 lw_castable0 (fun _ _ => rfl) (fun s9 q9 => ?_)
    refine zr_astore_n (pc := 12) (i := 3) (ls' := [(3, _), (0, _), (1, _), (2, _)]) hC dL_fits_12 rfl (nlt hN (Nat.le_of_ble_eq_true rfl)) rfl ?_
    refine zr_iconst (pc := 13) (v := (1 : Int32)) hC dL_fits_13 ic_1 ?_
    exact zw_iret (pc := 14) hC (Nat.le_of_ble_eq_true rfl) hR dL_fits_14
  refine zr_i2l (pc := 7) hC dL_fits_7 ?_
  refine zr_last (pc := 8) (v := y_1) hC mem_111 lay_111 rfl dL_fits_8 ?_
  refine zr_goto (pc := 9) (tgt := 15) hC dL_fits_9 (by decide) ?_
  refine zr_iconst (pc := 15) (v := (0 : Int32)) hC dL_fits_15 ic_0 ?_
  exact zw_iret (pc := 16) hC (Nat.le_of_ble_eq_true rfl) hR dL_fits_16
theorem mw_1344 : Cond.codeWith yL_suitors cL_suitors 6 (some .int) [(0, 12, 15, 18), (0, 12, 19, 13)] ∈ WS := inWS (i := 1344) (by decide +kernel) (by decide +kernel)
def fL_suitors (a1 : Int32) (a2 : Int32) (a3 : Int32) (s : St) : Option (Int32 × St) :=
  bw (fX11_suitors a1 a2 a3 s) (fun y_1 s_1 =>
    if inA (0 : Int32) 1 then
    (let s_2 := wr s_1 111 (0 : Int32).toNatClampNeg y_1;
    some ((0 : Int32), s_2)) else none) (fun n9 s9 => if n9 = 0 then
    (some ((1 : Int32), s9)) else
    (some ((2 : Int32), s9)))
set_option maxRecDepth 100000 in
set_option maxHeartbeats 4000000 in
theorem kL_suitors (l : Launch) (hst : l.stackTraces = false) (a1 : Int32) (a2 : Int32) (a3 : Int32) (s : St) : CW l yL_suitors cL_suitors 6 (some .int) [(0, 12, 15, 18), (0, 12, 19, 13)] 9 4 FULL (fun ad => [.ref (ad 0), .int a1, .int a2, .int a3, .ref (ad 111)]) s (fL_suitors a1 a2 a3 s) := by
  refine cw_of (by decide) (fun _ => (Nat.le_of_ble_eq_true rfl)) (fun X hC hR hl hN => ?_)
  subst hl
  show Zr X (QFW X (some .int) 4) 0 s 0 [(0, .ref (X_ad X 0)), (1, .int a1), (2, .int a2), (3, .int a3), (4, .ref (X_ad X 111))] [] _
  rw [fL_suitors]
  refine zr_aload (pc := 0) 4 hC dL_suitors_0 rfl ?_
  refine zr_iconst (pc := 2) (v := (0 : Int32)) hC dL_suitors_2 ic_0 ?_
  refine zr_aload_n (pc := 3) (i := 0) 0 hC dL_suitors_3 rfl rfl ?_
  refine zr_iload_n (pc := 4) (i := 1) 1 hC dL_suitors_4 rfl rfl ?_
  refine zr_iload_n (pc := 5) (i := 2) 2 hC dL_suitors_5 rfl rfl ?_
  refine zr_iload_n (pc := 6) (i := 3) 3 hC dL_suitors_6 rfl rfl ?_
  refine zw_call (pc := 7) (xm' := 4) (As := fun ad => [.int a1, .int a2, .int a3]) (st1 := [.int (0 : Int32), .ref (X_ad X 111)]) hC (Nat.le_of_ble_eq_true rfl) (kX11_suitors _ hst a1 a2 a3 _) (Nat.le_of_ble_eq_true rfl) mc_yX11_suitors m_1345 m_1346 m_1347 mem_0 lay_0 rfl rfl rfl rfl (Nat.le_of_ble_eq_true rfl) dL_suitors_7 ?_ (fun y_1 s_1 => ?_)
  · refine zw_catch2 (pc := 7) (h9 := fun s9 => some ((1 : Int32), s9)) (h8 := fun s9 => some ((2 : Int32), s9)) hC hR.2 (Nat.le_of_ble_eq_true rfl) (by decide) (by decide) m_981 m_631 lw_castable0 lw_castable1 (fun _ _ => rfl) (fun s9 q9 => ?_) (fun s9 q9 => ?_)
    · refine zr_astore (pc := 15) (ls' := [(5, _), (0, _), (1, _), (2, _), (3, _), (4, _)]) hC dL_suitors_15 (nlt hN (Nat.le_of_ble_eq_true rfl)) rfl ?_
      refine zr_iconst (pc := 17) (v := (1 : Int32)) hC dL_suitors_17 ic_1 ?_
      exact zw_iret (pc := 18) hC (Nat.le_of_ble_eq_true rfl) hR dL_suitors_18
    · refine zr_astore (pc := 19) (ls' := [(5, _), (0, _), (1, _), (2, _), (3, _), (4, _)]) hC dL_suitors_19 (nlt hN (Nat.le_of_ble_eq_true rfl)) rfl ?_
      refine zr_iconst (pc := 21) (v := (2 : Int32)) hC dL_suitors_21 ic_2 ?_
      exact zw_iret (pc := 22) hC (Nat.le_of_ble_eq_true rfl) hR dL_suitors_22
  refine zr_i2l (pc := 10) hC dL_suitors_10 ?_
  refine zr_last (pc := 11) (v := y_1) hC mem_111 lay_111 rfl dL_suitors_11 ?_
  refine zr_goto (pc := 12) (tgt := 23) hC dL_suitors_12 (by decide) ?_
  refine zr_iconst (pc := 23) (v := (0 : Int32)) hC dL_suitors_23 ic_0 ?_
  exact zw_iret (pc := 24) hC (Nat.le_of_ble_eq_true rfl) hR dL_suitors_24
theorem mw_1363 : Cond.codeWith yL_century cL_century 6 (some .int) [(0, 12, 15, 18), (0, 12, 19, 13)] ∈ WS := inWS (i := 1363) (by decide +kernel) (by decide +kernel)
def fL_century (a1 : Int32) (a2 : Int32) (a3 : Int32) (s : St) : Option (Int32 × St) :=
  bw (fX11_century a1 a2 a3 s) (fun y_1 s_1 =>
    if inA (0 : Int32) 1 then
    (let s_2 := wr s_1 111 (0 : Int32).toNatClampNeg y_1;
    some ((0 : Int32), s_2)) else none) (fun n9 s9 => if n9 = 0 then
    (some ((1 : Int32), s9)) else
    (some ((2 : Int32), s9)))
set_option maxRecDepth 100000 in
set_option maxHeartbeats 4000000 in
theorem kL_century (l : Launch) (hst : l.stackTraces = false) (a1 : Int32) (a2 : Int32) (a3 : Int32) (s : St) : CW l yL_century cL_century 6 (some .int) [(0, 12, 15, 18), (0, 12, 19, 13)] 12 1 FULL (fun ad => [.ref (ad 0), .int a1, .int a2, .int a3, .ref (ad 111)]) s (fL_century a1 a2 a3 s) := by
  refine cw_of (by decide) (fun _ => (Nat.le_of_ble_eq_true rfl)) (fun X hC hR hl hN => ?_)
  subst hl
  show Zr X (QFW X (some .int) 1) 0 s 0 [(0, .ref (X_ad X 0)), (1, .int a1), (2, .int a2), (3, .int a3), (4, .ref (X_ad X 111))] [] _
  rw [fL_century]
  refine zr_aload (pc := 0) 4 hC dL_century_0 rfl ?_
  refine zr_iconst (pc := 2) (v := (0 : Int32)) hC dL_century_2 ic_0 ?_
  refine zr_aload_n (pc := 3) (i := 0) 0 hC dL_century_3 rfl rfl ?_
  refine zr_iload_n (pc := 4) (i := 1) 1 hC dL_century_4 rfl rfl ?_
  refine zr_iload_n (pc := 5) (i := 2) 2 hC dL_century_5 rfl rfl ?_
  refine zr_iload_n (pc := 6) (i := 3) 3 hC dL_century_6 rfl rfl ?_
  refine zw_call (pc := 7) (xm' := 1) (As := fun ad => [.int a1, .int a2, .int a3]) (st1 := [.int (0 : Int32), .ref (X_ad X 111)]) hC (Nat.le_of_ble_eq_true rfl) (kX11_century _ hst a1 a2 a3 _) (Nat.le_of_ble_eq_true rfl) mc_yX11_century m_1364 m_1365 m_1366 mem_0 lay_0 rfl rfl rfl rfl (Nat.le_of_ble_eq_true rfl) dL_century_7 ?_ (fun y_1 s_1 => ?_)
  · refine zw_catch2 (pc := 7) (h9 := fun s9 => some ((1 : Int32), s9)) (h8 := fun s9 => some ((2 : Int32), s9)) hC hR.2 (Nat.le_of_ble_eq_true rfl) (by decide) (by decide) m_981 m_631 lw_castable0 lw_castable1 (fun _ _ => rfl) (fun s9 q9 => ?_) (fun s9 q9 => ?_)
    · refine zr_astore (pc := 15) (ls' := [(5, _), (0, _), (1, _), (2, _), (3, _), (4, _)]) hC dL_century_15 (nlt hN (Nat.le_of_ble_eq_true rfl)) rfl ?_
      refine zr_iconst (pc := 17) (v := (1 : Int32)) hC dL_century_17 ic_1 ?_
      exact zw_iret (pc := 18) hC (Nat.le_of_ble_eq_true rfl) hR dL_century_18
    · refine zr_astore (pc := 19) (ls' := [(5, _), (0, _), (1, _), (2, _), (3, _), (4, _)]) hC dL_century_19 (nlt hN (Nat.le_of_ble_eq_true rfl)) rfl ?_
      refine zr_iconst (pc := 21) (v := (2 : Int32)) hC dL_century_21 ic_2 ?_
      exact zw_iret (pc := 22) hC (Nat.le_of_ble_eq_true rfl) hR dL_century_22
  refine zr_i2l (pc := 10) hC dL_century_10 ?_
  refine zr_last (pc := 11) (v := y_1) hC mem_111 lay_111 rfl dL_century_11 ?_
  refine zr_goto (pc := 12) (tgt := 23) hC dL_century_12 (by decide) ?_
  refine zr_iconst (pc := 23) (v := (0 : Int32)) hC dL_century_23 ic_0 ?_
  exact zw_iret (pc := 24) hC (Nat.le_of_ble_eq_true rfl) hR dL_century_24
