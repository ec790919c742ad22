theorem str_ge : ∀ r ∈ [1000, 1001, 1002, 1003, 1004, 1005, 1006], 1000 ≤ r := by decide
set_option maxRecDepth 100000 in
set_option maxHeartbeats 4000000 in
theorem ci_11 (l : Launch) (h0 : Nat) : CI l yX5_init cX5_init 1 1 2 764 h0 11 3 5 [.null, .null, .int 0, .int 0] := by
  refine ci_of (by decide) (by decide) (Nat.le_of_ble_eq_true rfl) (fun X hC hR hl hN hA => ?_)
  show Zi X _ 0 0 ((h0, .inr (5, [.null, .null, .int 0, .int 0])) :: []) 0 [(0, .ref h0)] []
  refine zi_aload0 (pc := 0) hC dX5_init_0 rfl ?_
  refine zi_obj (pc := 1) hC m_50 m_31 m_32 ⟨(Nat.le_of_ble_eq_true rfl), (Nat.le_of_ble_eq_true rfl)⟩ dX5_init_1 ?_
  refine zi_aload0 (pc := 4) hC dX5_init_4 rfl ?_
  refine zi_sipush (pc := 5) (v := (700 : Int32)) hC dX5_init_5 (by decide) ?_
  refine zi_newa' (pc := 8) (N := 700) hC m_65 (by decide) (by decide) (Nat.le_of_ble_eq_true rfl) (Nat.le_of_ble_eq_true rfl) (Nat.le_of_ble_eq_true rfl) dX5_init_8 (fun q12 => ?_)
  refine zi_put (pc := 10) (ty := tyX5 0) (j := 0) (fs' := [.ref q12, .null, .int 0, .int 0]) hC hR rfl (Nat.le_of_ble_eq_true rfl) iX5 tyX5_ok nmX5 m_51 rfl (tyX5_ok _ (Nat.le_of_ble_eq_true rfl)) rfl rfl (Nat.le_of_ble_eq_true rfl) rfl dX5_init_10 ?_
  refine zi_aload0 (pc := 13) hC dX5_init_13 rfl ?_
  refine zi_bipush (pc := 14) (v := (64 : Int32)) hC dX5_init_14 (by decide) ?_
  refine zi_newa' (pc := 16) (N := 64) hC m_65 (by decide) (by decide) (Nat.le_of_ble_eq_true rfl) (Nat.le_of_ble_eq_true rfl) (Nat.le_of_ble_eq_true rfl) dX5_init_16 (fun q13 => ?_)
  refine zi_put (pc := 18) (ty := tyX5 1) (j := 1) (fs' := [.ref q12, .ref q13, .int 0, .int 0]) hC hR rfl (Nat.le_of_ble_eq_true rfl) iX5 tyX5_ok nmX5 m_52 rfl (tyX5_ok _ (Nat.le_of_ble_eq_true rfl)) rfl rfl (Nat.le_of_ble_eq_true rfl) rfl dX5_init_18 ?_
  refine zi_aload0 (pc := 21) hC dX5_init_21 rfl ?_
  refine zi_iconst (pc := 22) (v := (0 : Int32)) hC dX5_init_22 (by decide) ?_
  refine zi_put (pc := 23) (ty := tyX5 2) (j := 2) (fs' := [.ref q12, .ref q13, .int (0 : Int32), .int 0]) hC hR rfl (Nat.le_of_ble_eq_true rfl) iX5 tyX5_ok nmX5 m_53 rfl (tyX5_ok _ (Nat.le_of_ble_eq_true rfl)) rfl rfl (Nat.le_of_ble_eq_true rfl) rfl dX5_init_23 ?_
  refine zi_aload0 (pc := 26) hC dX5_init_26 rfl ?_
  refine zi_iconst (pc := 27) (v := (0 : Int32)) hC dX5_init_27 (by decide) ?_
  refine zi_put (pc := 28) (ty := tyX5 3) (j := 3) (fs' := [.ref q12, .ref q13, .int (0 : Int32), .int (0 : Int32)]) hC hR rfl (Nat.le_of_ble_eq_true rfl) iX5 tyX5_ok nmX5 m_54 rfl (tyX5_ok _ (Nat.le_of_ble_eq_true rfl)) rfl rfl (Nat.le_of_ble_eq_true rfl) rfl dX5_init_28 ?_
  generalize ha9 : (fun k : Nat => if k < 12 then h0 else if k < 13 then q12 else if k < 14 then q13 else X_ad X k) = a9
  have hst9 : ∀ k, 1000 ≤ k → a9 k = X_ad X k := by
    intro k hk
    rw [← ha9]
    simp only []
    rw [if_neg (by omega), if_neg (by omega), if_neg (by omega)]
  exact zi_ret (pc := 31) (a := a9) hC hR hA (by rw [← ha9]; rfl) hst9 (ct_cons (L := (([] ++ [12]) ++ [13])) lay_11 (by rw [← ha9]; rfl) (by rw [← ha9]; rfl) (by decide +kernel) (ct_app (ct_app rfl (ct_arr lay_12 (by rw [← ha9]; rfl) rfl)) (ct_arr lay_13 (by rw [← ha9]; rfl) rfl))) dX5_init_31
set_option maxRecDepth 100000 in
set_option maxHeartbeats 4000000 in
theorem ci_29 (l : Launch) (h0 : Nat) : CI l yX5_init cX5_init 1 1 2 764 h0 29 3 5 [.null, .null, .int 0, .int 0] := by
  refine ci_of (by decide) (by decide) (Nat.le_of_ble_eq_true rfl) (fun X hC hR hl hN hA => ?_)
  show Zi X _ 0 0 ((h0, .inr (5, [.null, .null, .int 0, .int 0])) :: []) 0 [(0, .ref h0)] []
  refine zi_aload0 (pc := 0) hC dX5_init_0 rfl ?_
  refine zi_obj (pc := 1) hC m_50 m_31 m_32 ⟨(Nat.le_of_ble_eq_true rfl), (Nat.le_of_ble_eq_true rfl)⟩ dX5_init_1 ?_
  refine zi_aload0 (pc := 4) hC dX5_init_4 rfl ?_
  refine zi_sipush (pc := 5) (v := (700 : Int32)) hC dX5_init_5 (by decide) ?_
  refine zi_newa' (pc := 8) (N := 700) hC m_65 (by decide) (by decide) (Nat.le_of_ble_eq_true rfl) (Nat.le_of_ble_eq_true rfl) (Nat.le_of_ble_eq_true rfl) dX5_init_8 (fun q30 => ?_)
  refine zi_put (pc := 10) (ty := tyX5 0) (j := 0) (fs' := [.ref q30, .null, .int 0, .int 0]) hC hR rfl (Nat.le_of_ble_eq_true rfl) iX5 tyX5_ok nmX5 m_51 rfl (tyX5_ok _ (Nat.le_of_ble_eq_true rfl)) rfl rfl (Nat.le_of_ble_eq_true rfl) rfl dX5_init_10 ?_
  refine zi_aload0 (pc := 13) hC dX5_init_13 rfl ?_
  refine zi_bipush (pc := 14) (v := (64 : Int32)) hC dX5_init_14 (by decide) ?_
  refine zi_newa' (pc := 16) (N := 64) hC m_65 (by decide) (by decide) (Nat.le_of_ble_eq_true rfl) (Nat.le_of_ble_eq_true rfl) (Nat.le_of_ble_eq_true rfl) dX5_init_16 (fun q31 => ?_)
  refine zi_put (pc := 18) (ty := tyX5 1) (j := 1) (fs' := [.ref q30, .ref q31, .int 0, .int 0]) hC hR rfl (Nat.le_of_ble_eq_true rfl) iX5 tyX5_ok nmX5 m_52 rfl (tyX5_ok _ (Nat.le_of_ble_eq_true rfl)) rfl rfl (Nat.le_of_ble_eq_true rfl) rfl dX5_init_18 ?_
  refine zi_aload0 (pc := 21) hC dX5_init_21 rfl ?_
  refine zi_iconst (pc := 22) (v := (0 : Int32)) hC dX5_init_22 (by decide) ?_
  refine zi_put (pc := 23) (ty := tyX5 2) (j := 2) (fs' := [.ref q30, .ref q31, .int (0 : Int32), .int 0]) hC hR rfl (Nat.le_of_ble_eq_true rfl) iX5 tyX5_ok nmX5 m_53 rfl (tyX5_ok _ (Nat.le_of_ble_eq_true rfl)) rfl rfl (Nat.le_of_ble_eq_true rfl) rfl dX5_init_23 ?_
  refine zi_aload0 (pc := 26) hC dX5_init_26 rfl ?_
  refine zi_iconst (pc := 27) (v := (0 : Int32)) hC dX5_init_27 (by decide) ?_
  refine zi_put (pc := 28) (ty := tyX5 3) (j := 3) (fs' := [.ref q30, .ref q31, .int (0 : Int32), .int (0 : Int32)]) hC hR rfl (Nat.le_of_ble_eq_true rfl) iX5 tyX5_ok nmX5 m_54 rfl (tyX5_ok _ (Nat.le_of_ble_eq_true rfl)) rfl rfl (Nat.le_of_ble_eq_true rfl) rfl dX5_init_28 ?_
  generalize ha9 : (fun k : Nat => if k < 30 then h0 else if k < 31 then q30 else if k < 32 then q31 else X_ad X k) = a9
  have hst9 : ∀ k, 1000 ≤ k → a9 k = X_ad X k := by
    intro k hk
    rw [← ha9]
    simp only []
    rw [if_neg (by omega), if_neg (by omega), if_neg (by omega)]
  exact zi_ret (pc := 31) (a := a9) hC hR hA (by rw [← ha9]; rfl) hst9 (ct_cons (L := (([] ++ [30]) ++ [31])) lay_29 (by rw [← ha9]; rfl) (by rw [← ha9]; rfl) (by decide +kernel) (ct_app (ct_app rfl (ct_arr lay_30 (by rw [← ha9]; rfl) rfl)) (ct_arr lay_31 (by rw [← ha9]; rfl) rfl))) dX5_init_31
set_option maxRecDepth 100000 in
set_option maxHeartbeats 4000000 in
theorem ci_48 (l : Launch) (h0 : Nat) : CI l yX2_init cX2_init 1 1 2 156 h0 48 3 2 [.null, .null, .int 0, .int 0, .int 0] := by
  refine ci_of (by decide) (by decide) (Nat.le_of_ble_eq_true rfl) (fun X hC hR hl hN hA => ?_)
  show Zi X _ 0 0 ((h0, .inr (2, [.null, .null, .int 0, .int 0, .int 0])) :: []) 0 [(0, .ref h0)] []
  refine zi_aload0 (pc := 0) hC dX2_init_0 rfl ?_
  refine zi_obj (pc := 1) hC m_253 m_31 m_32 ⟨(Nat.le_of_ble_eq_true rfl), (Nat.le_of_ble_eq_true rfl)⟩ dX2_init_1 ?_
  refine zi_aload0 (pc := 4) hC dX2_init_4 rfl ?_
  refine zi_sipush (pc := 5) (v := (144 : Int32)) hC dX2_init_5 (by decide) ?_
  refine zi_newa' (pc := 8) (N := 144) hC m_65 (by decide) (by decide) (Nat.le_of_ble_eq_true rfl) (Nat.le_of_ble_eq_true rfl) (Nat.le_of_ble_eq_true rfl) dX2_init_8 (fun q49 => ?_)
  refine zi_put (pc := 10) (ty := tyX2 0) (j := 0) (fs' := [.ref q49, .null, .int 0, .int 0, .int 0]) hC hR rfl (Nat.le_of_ble_eq_true rfl) iX2 tyX2_ok nmX2 m_254 rfl (tyX2_ok _ (Nat.le_of_ble_eq_true rfl)) rfl rfl (Nat.le_of_ble_eq_true rfl) rfl dX2_init_10 ?_
  refine zi_aload0 (pc := 13) hC dX2_init_13 rfl ?_
  refine zi_bipush (pc := 14) (v := (12 : Int32)) hC dX2_init_14 (by decide) ?_
  refine zi_newa' (pc := 16) (N := 12) hC m_65 (by decide) (by decide) (Nat.le_of_ble_eq_true rfl) (Nat.le_of_ble_eq_true rfl) (Nat.le_of_ble_eq_true rfl) dX2_init_16 (fun q50 => ?_)
  refine zi_put (pc := 18) (ty := tyX2 1) (j := 1) (fs' := [.ref q49, .ref q50, .int 0, .int 0, .int 0]) hC hR rfl (Nat.le_of_ble_eq_true rfl) iX2 tyX2_ok nmX2 m_255 rfl (tyX2_ok _ (Nat.le_of_ble_eq_true rfl)) rfl rfl (Nat.le_of_ble_eq_true rfl) rfl dX2_init_18 ?_
  refine zi_aload0 (pc := 21) hC dX2_init_21 rfl ?_
  refine zi_iconst (pc := 22) (v := (0 : Int32)) hC dX2_init_22 (by decide) ?_
  refine zi_put (pc := 23) (ty := tyX2 2) (j := 2) (fs' := [.ref q49, .ref q50, .int (0 : Int32), .int 0, .int 0]) hC hR rfl (Nat.le_of_ble_eq_true rfl) iX2 tyX2_ok nmX2 m_256 rfl (tyX2_ok _ (Nat.le_of_ble_eq_true rfl)) rfl rfl (Nat.le_of_ble_eq_true rfl) rfl dX2_init_23 ?_
  refine zi_aload0 (pc := 26) hC dX2_init_26 rfl ?_
  refine zi_iconst (pc := 27) (v := (0 : Int32)) hC dX2_init_27 (by decide) ?_
  refine zi_put (pc := 28) (ty := tyX2 3) (j := 3) (fs' := [.ref q49, .ref q50, .int (0 : Int32), .int (0 : Int32), .int 0]) hC hR rfl (Nat.le_of_ble_eq_true rfl) iX2 tyX2_ok nmX2 m_258 rfl (tyX2_ok _ (Nat.le_of_ble_eq_true rfl)) rfl rfl (Nat.le_of_ble_eq_true rfl) rfl dX2_init_28 ?_
  refine zi_aload0 (pc := 31) hC dX2_init_31 rfl ?_
  refine zi_iconst (pc := 32) (v := (-1 : Int32)) hC dX2_init_32 (by decide) ?_
  refine zi_put (pc := 33) (ty := tyX2 4) (j := 4) (fs' := [.ref q49, .ref q50, .int (0 : Int32), .int (0 : Int32), .int (-1 : Int32)]) hC hR rfl (Nat.le_of_ble_eq_true rfl) iX2 tyX2_ok nmX2 m_259 rfl (tyX2_ok _ (Nat.le_of_ble_eq_true rfl)) rfl rfl (Nat.le_of_ble_eq_true rfl) rfl dX2_init_33 ?_
  generalize ha9 : (fun k : Nat => if k < 49 then h0 else if k < 50 then q49 else if k < 51 then q50 else X_ad X k) = a9
  have hst9 : ∀ k, 1000 ≤ k → a9 k = X_ad X k := by
    intro k hk
    rw [← ha9]
    simp only []
    rw [if_neg (by omega), if_neg (by omega), if_neg (by omega)]
  exact zi_ret (pc := 36) (a := a9) hC hR hA (by rw [← ha9]; rfl) hst9 (ct_cons (L := (([] ++ [49]) ++ [50])) lay_48 (by rw [← ha9]; rfl) (by rw [← ha9]; rfl) (by decide +kernel) (ct_app (ct_app rfl (ct_arr lay_49 (by rw [← ha9]; rfl) rfl)) (ct_arr lay_50 (by rw [← ha9]; rfl) rfl))) dX2_init_36
set_option maxRecDepth 100000 in
set_option maxHeartbeats 4000000 in
theorem ci_62 (l : Launch) (h0 : Nat) : CI l yX7_init cX7_init 1 1 2 14 h0 62 3 7 [.null, .null, .int 0, .int 0, .int 0] := by
  refine ci_of (by decide) (by decide) (Nat.le_of_ble_eq_true rfl) (fun X hC hR hl hN hA => ?_)
  show Zi X _ 0 0 ((h0, .inr (7, [.null, .null, .int 0, .int 0, .int 0])) :: []) 0 [(0, .ref h0)] []
  refine zi_aload0 (pc := 0) hC dX7_init_0 rfl ?_
  refine zi_obj (pc := 1) hC m_338 m_31 m_32 ⟨(Nat.le_of_ble_eq_true rfl), (Nat.le_of_ble_eq_true rfl)⟩ dX7_init_1 ?_
  refine zi_aload0 (pc := 4) hC dX7_init_4 rfl ?_
  refine zi_bipush (pc := 5) (v := (7 : Int32)) hC dX7_init_5 (by decide) ?_
  refine zi_newa' (pc := 7) (N := 7) hC m_65 (by decide) (by decide) (Nat.le_of_ble_eq_true rfl) (Nat.le_of_ble_eq_true rfl) (Nat.le_of_ble_eq_true rfl) dX7_init_7 (fun q63 => ?_)
  refine zi_put (pc := 9) (ty := tyX7 0) (j := 0) (fs' := [.ref q63, .null, .int 0, .int 0, .int 0]) hC hR rfl (Nat.le_of_ble_eq_true rfl) iX7 tyX7_ok nmX7 m_339 rfl (tyX7_ok _ (Nat.le_of_ble_eq_true rfl)) rfl rfl (Nat.le_of_ble_eq_true rfl) rfl dX7_init_9 ?_
  refine zi_aload0 (pc := 12) hC dX7_init_12 rfl ?_
  refine zi_bipush (pc := 13) (v := (7 : Int32)) hC dX7_init_13 (by decide) ?_
  refine zi_newa' (pc := 15) (N := 7) hC m_65 (by decide) (by decide) (Nat.le_of_ble_eq_true rfl) (Nat.le_of_ble_eq_true rfl) (Nat.le_of_ble_eq_true rfl) dX7_init_15 (fun q64 => ?_)
  refine zi_put (pc := 17) (ty := tyX7 1) (j := 1) (fs' := [.ref q63, .ref q64, .int 0, .int 0, .int 0]) hC hR rfl (Nat.le_of_ble_eq_true rfl) iX7 tyX7_ok nmX7 m_340 rfl (tyX7_ok _ (Nat.le_of_ble_eq_true rfl)) rfl rfl (Nat.le_of_ble_eq_true rfl) rfl dX7_init_17 ?_
  refine zi_aload0 (pc := 20) hC dX7_init_20 rfl ?_
  refine zi_iconst (pc := 21) (v := (0 : Int32)) hC dX7_init_21 (by decide) ?_
  refine zi_put (pc := 22) (ty := tyX7 2) (j := 2) (fs' := [.ref q63, .ref q64, .int (0 : Int32), .int 0, .int 0]) hC hR rfl (Nat.le_of_ble_eq_true rfl) iX7 tyX7_ok nmX7 m_342 rfl (tyX7_ok _ (Nat.le_of_ble_eq_true rfl)) rfl rfl (Nat.le_of_ble_eq_true rfl) rfl dX7_init_22 ?_
  refine zi_aload0 (pc := 25) hC dX7_init_25 rfl ?_
  refine zi_iconst (pc := 26) (v := (0 : Int32)) hC dX7_init_26 (by decide) ?_
  refine zi_put (pc := 27) (ty := tyX7 3) (j := 3) (fs' := [.ref q63, .ref q64, .int (0 : Int32), .int (0 : Int32), .int 0]) hC hR rfl (Nat.le_of_ble_eq_true rfl) iX7 tyX7_ok nmX7 m_344 rfl (tyX7_ok _ (Nat.le_of_ble_eq_true rfl)) rfl rfl (Nat.le_of_ble_eq_true rfl) rfl dX7_init_27 ?_
  refine zi_aload0 (pc := 30) hC dX7_init_30 rfl ?_
  refine zi_iconst (pc := 31) (v := (0 : Int32)) hC dX7_init_31 (by decide) ?_
  refine zi_put (pc := 32) (ty := tyX7 4) (j := 4) (fs' := [.ref q63, .ref q64, .int (0 : Int32), .int (0 : Int32), .int (0 : Int32)]) hC hR rfl (Nat.le_of_ble_eq_true rfl) iX7 tyX7_ok nmX7 m_345 rfl (tyX7_ok _ (Nat.le_of_ble_eq_true rfl)) rfl rfl (Nat.le_of_ble_eq_true rfl) rfl dX7_init_32 ?_
  generalize ha9 : (fun k : Nat => if k < 63 then h0 else if k < 64 then q63 else if k < 65 then q64 else X_ad X k) = a9
  have hst9 : ∀ k, 1000 ≤ k → a9 k = X_ad X k := by
    intro k hk
    rw [← ha9]
    simp only []
    rw [if_neg (by omega), if_neg (by omega), if_neg (by omega)]
  exact zi_ret (pc := 35) (a := a9) hC hR hA (by rw [← ha9]; rfl) hst9 (ct_cons (L := (([] ++ [63]) ++ [64])) lay_62 (by rw [← ha9]; rfl) (by rw [← ha9]; rfl) (by decide +kernel) (ct_app (ct_app rfl (ct_arr lay_63 (by rw [← ha9]; rfl) rfl)) (ct_arr lay_64 (by rw [← ha9]; rfl) rfl))) dX7_init_35
set_option maxRecDepth 100000 in
set_option maxHeartbeats 4000000 in
theorem ci_65 (l : Launch) (h0 : Nat) : CI l yX3_init cX3_init 1 1 2 16 h0 65 3 3 [.null, .null, .int 0, .int 0, .int 0] := by
  refine ci_of (by decide) (by decide) (Nat.le_of_ble_eq_true rfl) (fun X hC hR hl hN hA => ?_)
  show Zi X _ 0 0 ((h0, .inr (3, [.null, .null, .int 0, .int 0, .int 0])) :: []) 0 [(0, .ref h0)] []
  refine zi_aload0 (pc := 0) hC dX3_init_0 rfl ?_
  refine zi_obj (pc := 1) hC m_362 m_31 m_32 ⟨(Nat.le_of_ble_eq_true rfl), (Nat.le_of_ble_eq_true rfl)⟩ dX3_init_1 ?_
  refine zi_aload0 (pc := 4) hC dX3_init_4 rfl ?_
  refine zi_iconst (pc := 5) (v := (4 : Int32)) hC dX3_init_5 (by decide) ?_
  refine zi_newa' (pc := 6) (N := 4) hC m_65 (by decide) (by decide) (Nat.le_of_ble_eq_true rfl) (Nat.le_of_ble_eq_true rfl) (Nat.le_of_ble_eq_true rfl) dX3_init_6 (fun q66 => ?_)
  refine zi_put (pc := 8) (ty := tyX3 0) (j := 0) (fs' := [.ref q66, .null, .int 0, .int 0, .int 0]) hC hR rfl (Nat.le_of_ble_eq_true rfl) iX3 tyX3_ok nmX3 m_363 rfl (tyX3_ok _ (Nat.le_of_ble_eq_true rfl)) rfl rfl (Nat.le_of_ble_eq_true rfl) rfl dX3_init_8 ?_
  refine zi_aload0 (pc := 11) hC dX3_init_11 rfl ?_
  refine zi_bipush (pc := 12) (v := (12 : Int32)) hC dX3_init_12 (by decide) ?_
  refine zi_newa' (pc := 14) (N := 12) hC m_65 (by decide) (by decide) (Nat.le_of_ble_eq_true rfl) (Nat.le_of_ble_eq_true rfl) (Nat.le_of_ble_eq_true rfl) dX3_init_14 (fun q67 => ?_)
  refine zi_put (pc := 16) (ty := tyX3 1) (j := 1) (fs' := [.ref q66, .ref q67, .int 0, .int 0, .int 0]) hC hR rfl (Nat.le_of_ble_eq_true rfl) iX3 tyX3_ok nmX3 m_364 rfl (tyX3_ok _ (Nat.le_of_ble_eq_true rfl)) rfl rfl (Nat.le_of_ble_eq_true rfl) rfl dX3_init_16 ?_
  refine zi_aload0 (pc := 19) hC dX3_init_19 rfl ?_
  refine zi_iconst (pc := 20) (v := (0 : Int32)) hC dX3_init_20 (by decide) ?_
  refine zi_put (pc := 21) (ty := tyX3 2) (j := 2) (fs' := [.ref q66, .ref q67, .int (0 : Int32), .int 0, .int 0]) hC hR rfl (Nat.le_of_ble_eq_true rfl) iX3 tyX3_ok nmX3 m_365 rfl (tyX3_ok _ (Nat.le_of_ble_eq_true rfl)) rfl rfl (Nat.le_of_ble_eq_true rfl) rfl dX3_init_21 ?_
  refine zi_aload0 (pc := 24) hC dX3_init_24 rfl ?_
  refine zi_iconst (pc := 25) (v := (-1 : Int32)) hC dX3_init_25 (by decide) ?_
  refine zi_put (pc := 26) (ty := tyX3 3) (j := 3) (fs' := [.ref q66, .ref q67, .int (0 : Int32), .int (-1 : Int32), .int 0]) hC hR rfl (Nat.le_of_ble_eq_true rfl) iX3 tyX3_ok nmX3 m_367 rfl (tyX3_ok _ (Nat.le_of_ble_eq_true rfl)) rfl rfl (Nat.le_of_ble_eq_true rfl) rfl dX3_init_26 ?_
  refine zi_aload0 (pc := 29) hC dX3_init_29 rfl ?_
  refine zi_iconst (pc := 30) (v := (0 : Int32)) hC dX3_init_30 (by decide) ?_
  refine zi_put (pc := 31) (ty := tyX3 4) (j := 4) (fs' := [.ref q66, .ref q67, .int (0 : Int32), .int (-1 : Int32), .int (0 : Int32)]) hC hR rfl (Nat.le_of_ble_eq_true rfl) iX3 tyX3_ok nmX3 m_369 rfl (tyX3_ok _ (Nat.le_of_ble_eq_true rfl)) rfl rfl (Nat.le_of_ble_eq_true rfl) rfl dX3_init_31 ?_
  generalize ha9 : (fun k : Nat => if k < 66 then h0 else if k < 67 then q66 else if k < 68 then q67 else X_ad X k) = a9
  have hst9 : ∀ k, 1000 ≤ k → a9 k = X_ad X k := by
    intro k hk
    rw [← ha9]
    simp only []
    rw [if_neg (by omega), if_neg (by omega), if_neg (by omega)]
  exact zi_ret (pc := 34) (a := a9) hC hR hA (by rw [← ha9]; rfl) hst9 (ct_cons (L := (([] ++ [66]) ++ [67])) lay_65 (by rw [← ha9]; rfl) (by rw [← ha9]; rfl) (by decide +kernel) (ct_app (ct_app rfl (ct_arr lay_66 (by rw [← ha9]; rfl) rfl)) (ct_arr lay_67 (by rw [← ha9]; rfl) rfl))) dX3_init_34
set_option maxRecDepth 100000 in
set_option maxHeartbeats 4000000 in
theorem ci_16 (l : Launch) (h0 : Nat) : CI l yX9_init cX9_init 1 1 4 2804 h0 16 5 9 [.null, .null, .null, .null, .int 0] := by
  refine ci_of (by decide) (by decide) (Nat.le_of_ble_eq_true rfl) (fun X hC hR hl hN hA => ?_)
  show Zi X _ 0 0 ((h0, .inr (9, [.null, .null, .null, .null, .int 0])) :: []) 0 [(0, .ref h0)] []
  refine zi_aload0 (pc := 0) hC dX9_init_0 rfl ?_
  refine zi_obj (pc := 1) hC m_152 m_31 m_32 ⟨(Nat.le_of_ble_eq_true rfl), (Nat.le_of_ble_eq_true rfl)⟩ dX9_init_1 ?_
  refine zi_aload0 (pc := 4) hC dX9_init_4 rfl ?_
  refine zi_sipush (pc := 5) (v := (701 : Int32)) hC dX9_init_5 (by decide) ?_
  refine zi_newa' (pc := 8) (N := 701) hC m_65 (by decide) (by decide) (Nat.le_of_ble_eq_true rfl) (Nat.le_of_ble_eq_true rfl) (Nat.le_of_ble_eq_true rfl) dX9_init_8 (fun q17 => ?_)
  refine zi_put (pc := 10) (ty := tyX9 0) (j := 0) (fs' := [.ref q17, .null, .null, .null, .int 0]) hC hR rfl (Nat.le_of_ble_eq_true rfl) iX9 tyX9_ok nmX9 m_153 rfl (tyX9_ok _ (Nat.le_of_ble_eq_true rfl)) rfl rfl (Nat.le_of_ble_eq_true rfl) rfl dX9_init_10 ?_
  refine zi_aload0 (pc := 13) hC dX9_init_13 rfl ?_
  refine zi_sipush (pc := 14) (v := (701 : Int32)) hC dX9_init_14 (by decide) ?_
  refine zi_newa' (pc := 17) (N := 701) hC m_65 (by decide) (by decide) (Nat.le_of_ble_eq_true rfl) (Nat.le_of_ble_eq_true rfl) (Nat.le_of_ble_eq_true rfl) dX9_init_17 (fun q18 => ?_)
  refine zi_put (pc := 19) (ty := tyX9 1) (j := 1) (fs' := [.ref q17, .ref q18, .null, .null, .int 0]) hC hR rfl (Nat.le_of_ble_eq_true rfl) iX9 tyX9_ok nmX9 m_155 rfl (tyX9_ok _ (Nat.le_of_ble_eq_true rfl)) rfl rfl (Nat.le_of_ble_eq_true rfl) rfl dX9_init_19 ?_
  refine zi_aload0 (pc := 22) hC dX9_init_22 rfl ?_
  refine zi_sipush (pc := 23) (v := (701 : Int32)) hC dX9_init_23 (by decide) ?_
  refine zi_newa' (pc := 26) (N := 701) hC m_65 (by decide) (by decide) (Nat.le_of_ble_eq_true rfl) (Nat.le_of_ble_eq_true rfl) (Nat.le_of_ble_eq_true rfl) dX9_init_26 (fun q19 => ?_)
  refine zi_put (pc := 28) (ty := tyX9 2) (j := 2) (fs' := [.ref q17, .ref q18, .ref q19, .null, .int 0]) hC hR rfl (Nat.le_of_ble_eq_true rfl) iX9 tyX9_ok nmX9 m_157 rfl (tyX9_ok _ (Nat.le_of_ble_eq_true rfl)) rfl rfl (Nat.le_of_ble_eq_true rfl) rfl dX9_init_28 ?_
  refine zi_aload0 (pc := 31) hC dX9_init_31 rfl ?_
  refine zi_sipush (pc := 32) (v := (701 : Int32)) hC dX9_init_32 (by decide) ?_
  refine zi_newa' (pc := 35) (N := 701) hC m_65 (by decide) (by decide) (Nat.le_of_ble_eq_true rfl) (Nat.le_of_ble_eq_true rfl) (Nat.le_of_ble_eq_true rfl) dX9_init_35 (fun q20 => ?_)
  refine zi_put (pc := 37) (ty := tyX9 3) (j := 3) (fs' := [.ref q17, .ref q18, .ref q19, .ref q20, .int 0]) hC hR rfl (Nat.le_of_ble_eq_true rfl) iX9 tyX9_ok nmX9 m_159 rfl (tyX9_ok _ (Nat.le_of_ble_eq_true rfl)) rfl rfl (Nat.le_of_ble_eq_true rfl) rfl dX9_init_37 ?_
  refine zi_aload0 (pc := 40) hC dX9_init_40 rfl ?_
  refine zi_iconst (pc := 41) (v := (0 : Int32)) hC dX9_init_41 (by decide) ?_
  refine zi_put (pc := 42) (ty := tyX9 4) (j := 4) (fs' := [.ref q17, .ref q18, .ref q19, .ref q20, .int (0 : Int32)]) hC hR rfl (Nat.le_of_ble_eq_true rfl) iX9 tyX9_ok nmX9 m_160 rfl (tyX9_ok _ (Nat.le_of_ble_eq_true rfl)) rfl rfl (Nat.le_of_ble_eq_true rfl) rfl dX9_init_42 ?_
  generalize ha9 : (fun k : Nat => if k < 17 then h0 else if k < 18 then q17 else if k < 19 then q18 else if k < 20 then q19 else if k < 21 then q20 else X_ad X k) = a9
  have hst9 : ∀ k, 1000 ≤ k → a9 k = X_ad X k := by
    intro k hk
    rw [← ha9]
    simp only []
    rw [if_neg (by omega), if_neg (by omega), if_neg (by omega), if_neg (by omega), if_neg (by omega)]
  exact zi_ret (pc := 45) (a := a9) hC hR hA (by rw [← ha9]; rfl) hst9 (ct_cons (L := (((([] ++ [17]) ++ [18]) ++ [19]) ++ [20])) lay_16 (by rw [← ha9]; rfl) (by rw [← ha9]; rfl) (by decide +kernel) (ct_app (ct_app (ct_app (ct_app rfl (ct_arr lay_17 (by rw [← ha9]; rfl) rfl)) (ct_arr lay_18 (by rw [← ha9]; rfl) rfl)) (ct_arr lay_19 (by rw [← ha9]; rfl) rfl)) (ct_arr lay_20 (by rw [← ha9]; rfl) rfl))) dX9_init_45
set_option maxRecDepth 100000 in
set_option maxHeartbeats 4000000 in
theorem ci_57 (l : Launch) (h0 : Nat) : CI l yX0_init cX0_init 1 1 4 36 h0 57 5 0 [.null, .null, .int 0, .null, .null, .int 0] := by
  refine ci_of (by decide) (by decide) (Nat.le_of_ble_eq_true rfl) (fun X hC hR hl hN hA => ?_)
  show Zi X _ 0 0 ((h0, .inr (0, [.null, .null, .int 0, .null, .null, .int 0])) :: []) 0 [(0, .ref h0)] []
  refine zi_aload0 (pc := 0) hC dX0_init_0 rfl ?_
  refine zi_obj (pc := 1) hC m_311 m_31 m_32 ⟨(Nat.le_of_ble_eq_true rfl), (Nat.le_of_ble_eq_true rfl)⟩ dX0_init_1 ?_
  refine zi_aload0 (pc := 4) hC dX0_init_4 rfl ?_
  refine zi_bipush (pc := 5) (v := (12 : Int32)) hC dX0_init_5 (by decide) ?_
  refine zi_newa' (pc := 7) (N := 12) hC m_65 (by decide) (by decide) (Nat.le_of_ble_eq_true rfl) (Nat.le_of_ble_eq_true rfl) (Nat.le_of_ble_eq_true rfl) dX0_init_7 (fun q58 => ?_)
  refine zi_put (pc := 9) (ty := tyX0 0) (j := 0) (fs' := [.ref q58, .null, .int 0, .null, .null, .int 0]) hC hR rfl (Nat.le_of_ble_eq_true rfl) iX0 tyX0_ok nmX0 m_312 rfl (tyX0_ok _ (Nat.le_of_ble_eq_true rfl)) rfl rfl (Nat.le_of_ble_eq_true rfl) rfl dX0_init_9 ?_
  refine zi_aload0 (pc := 12) hC dX0_init_12 rfl ?_
  refine zi_bipush (pc := 13) (v := (12 : Int32)) hC dX0_init_13 (by decide) ?_
  refine zi_newa' (pc := 15) (N := 12) hC m_65 (by decide) (by decide) (Nat.le_of_ble_eq_true rfl) (Nat.le_of_ble_eq_true rfl) (Nat.le_of_ble_eq_true rfl) dX0_init_15 (fun q59 => ?_)
  refine zi_put (pc := 17) (ty := tyX0 1) (j := 1) (fs' := [.ref q58, .ref q59, .int 0, .null, .null, .int 0]) hC hR rfl (Nat.le_of_ble_eq_true rfl) iX0 tyX0_ok nmX0 m_313 rfl (tyX0_ok _ (Nat.le_of_ble_eq_true rfl)) rfl rfl (Nat.le_of_ble_eq_true rfl) rfl dX0_init_17 ?_
  refine zi_aload0 (pc := 20) hC dX0_init_20 rfl ?_
  refine zi_iconst (pc := 21) (v := (0 : Int32)) hC dX0_init_21 (by decide) ?_
  refine zi_put (pc := 22) (ty := tyX0 2) (j := 2) (fs' := [.ref q58, .ref q59, .int (0 : Int32), .null, .null, .int 0]) hC hR rfl (Nat.le_of_ble_eq_true rfl) iX0 tyX0_ok nmX0 m_315 rfl (tyX0_ok _ (Nat.le_of_ble_eq_true rfl)) rfl rfl (Nat.le_of_ble_eq_true rfl) rfl dX0_init_22 ?_
  refine zi_aload0 (pc := 25) hC dX0_init_25 rfl ?_
  refine zi_bipush (pc := 26) (v := (6 : Int32)) hC dX0_init_26 (by decide) ?_
  refine zi_newa' (pc := 28) (N := 6) hC m_65 (by decide) (by decide) (Nat.le_of_ble_eq_true rfl) (Nat.le_of_ble_eq_true rfl) (Nat.le_of_ble_eq_true rfl) dX0_init_28 (fun q60 => ?_)
  refine zi_put (pc := 30) (ty := tyX0 3) (j := 3) (fs' := [.ref q58, .ref q59, .int (0 : Int32), .ref q60, .null, .int 0]) hC hR rfl (Nat.le_of_ble_eq_true rfl) iX0 tyX0_ok nmX0 m_317 rfl (tyX0_ok _ (Nat.le_of_ble_eq_true rfl)) rfl rfl (Nat.le_of_ble_eq_true rfl) rfl dX0_init_30 ?_
  refine zi_aload0 (pc := 33) hC dX0_init_33 rfl ?_
  refine zi_bipush (pc := 34) (v := (6 : Int32)) hC dX0_init_34 (by decide) ?_
  refine zi_newa' (pc := 36) (N := 6) hC m_65 (by decide) (by decide) (Nat.le_of_ble_eq_true rfl) (Nat.le_of_ble_eq_true rfl) (Nat.le_of_ble_eq_true rfl) dX0_init_36 (fun q61 => ?_)
  refine zi_put (pc := 38) (ty := tyX0 4) (j := 4) (fs' := [.ref q58, .ref q59, .int (0 : Int32), .ref q60, .ref q61, .int 0]) hC hR rfl (Nat.le_of_ble_eq_true rfl) iX0 tyX0_ok nmX0 m_318 rfl (tyX0_ok _ (Nat.le_of_ble_eq_true rfl)) rfl rfl (Nat.le_of_ble_eq_true rfl) rfl dX0_init_38 ?_
  refine zi_aload0 (pc := 41) hC dX0_init_41 rfl ?_
  refine zi_iconst (pc := 42) (v := (-1 : Int32)) hC dX0_init_42 (by decide) ?_
  refine zi_put (pc := 43) (ty := tyX0 5) (j := 5) (fs' := [.ref q58, .ref q59, .int (0 : Int32), .ref q60, .ref q61, .int (-1 : Int32)]) hC hR rfl (Nat.le_of_ble_eq_true rfl) iX0 tyX0_ok nmX0 m_319 rfl (tyX0_ok _ (Nat.le_of_ble_eq_true rfl)) rfl rfl (Nat.le_of_ble_eq_true rfl) rfl dX0_init_43 ?_
  generalize ha9 : (fun k : Nat => if k < 58 then h0 else if k < 59 then q58 else if k < 60 then q59 else if k < 61 then q60 else if k < 62 then q61 else X_ad X k) = a9
  have hst9 : ∀ k, 1000 ≤ k → a9 k = X_ad X k := by
    intro k hk
    rw [← ha9]
    simp only []
    rw [if_neg (by omega), if_neg (by omega), if_neg (by omega), if_neg (by omega), if_neg (by omega)]
  exact zi_ret (pc := 46) (a := a9) hC hR hA (by rw [← ha9]; rfl) hst9 (ct_cons (L := (((([] ++ [58]) ++ [59]) ++ [60]) ++ [61])) lay_57 (by rw [← ha9]; rfl) (by rw [← ha9]; rfl) (by decide +kernel) (ct_app (ct_app (ct_app (ct_app rfl (ct_arr lay_58 (by rw [← ha9]; rfl) rfl)) (ct_arr lay_59 (by rw [← ha9]; rfl) rfl)) (ct_arr lay_60 (by rw [← ha9]; rfl) rfl)) (ct_arr lay_61 (by rw [← ha9]; rfl) rfl))) dX0_init_46
set_option maxRecDepth 100000 in
set_option maxHeartbeats 4000000 in
theorem ci_69 (l : Launch) (h0 : Nat) : CI l yX12_init cX12_init 1 1 41 10818 h0 69 42 12 [.null, .int 0, .null, .null, .null, .null, .null, .null, .null, .null, .null, .null, .null, .null, .null, .null, .null, .int 0, .null, .int 0, .int 0, .int 0, .int 0, .int 0, .int 0, .int 0, .int 0, .int 0, .int 0, .null, .null, .null, .int 0, .int 0, .null, .null, .null, .int 0, .int 0, .null, .null, .null, .null, .null, .int 0, .null, .null, .int 0, .int 0, .null, .null, .int 0, .int 0, .null, .null, .null, .null, .int 0, .int 0, .int 0, .int 0, .null, .null, .null, .null, .null] := by
  refine ci_of (by decide) (by decide) (Nat.le_of_ble_eq_true rfl) (fun X hC hR hl hN hA => ?_)
  show Zi X _ 0 0 ((h0, .inr (12, [.null, .int 0, .null, .null, .null, .null, .null, .null, .null, .null, .null, .null, .null, .null, .null, .null, .null, .int 0, .null, .int 0, .int 0, .int 0, .int 0, .int 0, .int 0, .int 0, .int 0, .int 0, .int 0, .null, .null, .null, .int 0, .int 0, .null, .null, .null, .int 0, .int 0, .null, .null, .null, .null, .null, .int 0, .null, .null, .int 0, .int 0, .null, .null, .int 0, .int 0, .null, .null, .null, .null, .int 0, .int 0, .int 0, .int 0, .null, .null, .null, .null, .null])) :: []) 0 [(0, .ref h0)] []
  refine zi_aload0 (pc := 0) hC dX12_init_0 rfl ?_
  refine zi_obj (pc := 1) hC m_1385 m_31 m_32 ⟨(Nat.le_of_ble_eq_true rfl), (Nat.le_of_ble_eq_true rfl)⟩ dX12_init_1 ?_
  refine zi_aload0 (pc := 4) hC dX12_init_4 rfl ?_
  refine zi_bipush (pc := 5) (v := (7 : Int32)) hC dX12_init_5 (by decide) ?_
  refine zi_newq' (pc := 7) (N := 7) hC m_1386 (by decide) (by decide) (Nat.le_of_ble_eq_true rfl) (Nat.le_of_ble_eq_true rfl) (Nat.le_of_ble_eq_true rfl) dX12_init_7 (fun q70 => ?_)
  refine zi_dup (pc := 10) hC dX12_init_10 rfl ?_
  refine zi_iconst (pc := 11) (v := (0 : Int32)) hC dX12_init_11 (by decide) ?_
  refine zi_ldcS (pc := 12) (t := 0) hC (by decide +kernel) dX12_init_12 ?_
  refine zi_aast (pc := 14) 1 (l := []) hC rfl (vp_in_iff.mpr (by decide)) (by decide) (by decide) rfl dX12_init_14 ?_
  refine zi_dup (pc := 15) hC dX12_init_15 rfl ?_
  refine zi_iconst (pc := 16) (v := (1 : Int32)) hC dX12_init_16 (by decide) ?_
  refine zi_ldcS (pc := 17) (t := 1) hC (by decide +kernel) dX12_init_17 ?_
  refine zi_aast (pc := 19) 1 (l := [1000]) hC rfl (vp_in_iff.mpr (by decide)) (by decide) (by decide) rfl dX12_init_19 ?_
  refine zi_dup (pc := 20) hC dX12_init_20 rfl ?_
  refine zi_iconst (pc := 21) (v := (2 : Int32)) hC dX12_init_21 (by decide) ?_
  refine zi_ldcS (pc := 22) (t := 2) hC (by decide +kernel) dX12_init_22 ?_
  refine zi_aast (pc := 24) 1 (l := [1000, 1001]) hC rfl (vp_in_iff.mpr (by decide)) (by decide) (by decide) rfl dX12_init_24 ?_
  refine zi_dup (pc := 25) hC dX12_init_25 rfl ?_
  refine zi_iconst (pc := 26) (v := (3 : Int32)) hC dX12_init_26 (by decide) ?_
  refine zi_ldcS (pc := 27) (t := 3) hC (by decide +kernel) dX12_init_27 ?_
  refine zi_aast (pc := 29) 1 (l := [1000, 1001, 1002]) hC rfl (vp_in_iff.mpr (by decide)) (by decide) (by decide) rfl dX12_init_29 ?_
  refine zi_dup (pc := 30) hC dX12_init_30 rfl ?_
  refine zi_iconst (pc := 31) (v := (4 : Int32)) hC dX12_init_31 (by decide) ?_
  refine zi_ldcS (pc := 32) (t := 4) hC (by decide +kernel) dX12_init_32 ?_
  refine zi_aast (pc := 34) 1 (l := [1000, 1001, 1002, 1003]) hC rfl (vp_in_iff.mpr (by decide)) (by decide) (by decide) rfl dX12_init_34 ?_
  refine zi_dup (pc := 35) hC dX12_init_35 rfl ?_
  refine zi_iconst (pc := 36) (v := (5 : Int32)) hC dX12_init_36 (by decide) ?_
  refine zi_ldcS (pc := 37) (t := 5) hC (by decide +kernel) dX12_init_37 ?_
  refine zi_aast (pc := 39) 1 (l := [1000, 1001, 1002, 1003, 1004]) hC rfl (vp_in_iff.mpr (by decide)) (by decide) (by decide) rfl dX12_init_39 ?_
  refine zi_dup (pc := 40) hC dX12_init_40 rfl ?_
  refine zi_bipush (pc := 41) (v := (6 : Int32)) hC dX12_init_41 (by decide) ?_
  refine zi_ldcS (pc := 43) (t := 6) hC (by decide +kernel) dX12_init_43 ?_
  refine zi_aast (pc := 45) 1 (l := [1000, 1001, 1002, 1003, 1004, 1005]) hC rfl (vp_in_iff.mpr (by decide)) (by decide) (by decide) rfl dX12_init_45 ?_
  refine zi_put (pc := 46) (ty := tyX12 0) (j := 0) (fs' := [.ref q70, .int 0, .null, .null, .null, .null, .null, .null, .null, .null, .null, .null, .null, .null, .null, .null, .null, .int 0, .null, .int 0, .int 0, .int 0, .int 0, .int 0, .int 0, .int 0, .int 0, .int 0, .int 0, .null, .null, .null, .int 0, .int 0, .null, .null, .null, .int 0, .int 0, .null, .null, .null, .null, .null, .int 0, .null, .null, .int 0, .int 0, .null, .null, .int 0, .int 0, .null, .null, .null, .null, .int 0, .int 0, .int 0, .int 0, .null, .null, .null, .null, .null]) hC hR rfl (Nat.le_of_ble_eq_true rfl) iX12 tyX12_ok nmX12 m_1395 rfl (tyX12_ok _ (Nat.le_of_ble_eq_true rfl)) rfl rfl (Nat.le_of_ble_eq_true rfl) rfl dX12_init_46 ?_
  refine zi_aload0 (pc := 49) hC dX12_init_49 rfl ?_
  refine zi_bipush (pc := 50) (v := (10 : Int32)) hC dX12_init_50 (by decide) ?_
  refine zi_newa' (pc := 52) (N := 10) hC m_65 (by decide) (by decide) (Nat.le_of_ble_eq_true rfl) (Nat.le_of_ble_eq_true rfl) (Nat.le_of_ble_eq_true rfl) dX12_init_52 (fun q71 => ?_)
  refine zi_dup (pc := 54) hC dX12_init_54 rfl ?_
  refine zi_iconst (pc := 55) (v := (0 : Int32)) hC dX12_init_55 (by decide) ?_
  refine zi_iconst (pc := 56) (v := (0 : Int32)) hC dX12_init_56 (by decide) ?_
  refine zi_iast (pc := 57) 2 (f' := fun _ => 0) (ws' := (h0, .inr (12, [.ref q70, .int 0, .null, .null, .null, .null, .null, .null, .null, .null, .null, .null, .null, .null, .null, .null, .null, .int 0, .null, .int 0, .int 0, .int 0, .int 0, .int 0, .int 0, .int 0, .int 0, .int 0, .int 0, .null, .null, .null, .int 0, .int 0, .null, .null, .null, .int 0, .int 0, .null, .null, .null, .null, .null, .int 0, .null, .null, .int 0, .int 0, .null, .null, .int 0, .int 0, .null, .null, .null, .null, .int 0, .int 0, .int 0, .int 0, .null, .null, .null, .null, .null])) :: ((([] ++ [(q70, _)])) ++ [(q71, _)])) hC rfl (vp_in_iff.mpr (by decide)) (by intro j; show (if j = 0 then (0 : Int32) else 0) = 0; (repeat' split) <;> first | rfl | omega) rfl dX12_init_57 ?_
  refine zi_dup (pc := 58) hC dX12_init_58 rfl ?_
  refine zi_iconst (pc := 59) (v := (1 : Int32)) hC dX12_init_59 (by decide) ?_
  refine zi_iconst (pc := 60) (v := (0 : Int32)) hC dX12_init_60 (by decide) ?_
  refine zi_iast (pc := 61) 2 (f' := fun _ => 0) (ws' := (h0, .inr (12, [.ref q70, .int 0, .null, .null, .null, .null, .null, .null, .null, .null, .null, .null, .null, .null, .null, .null, .null, .int 0, .null, .int 0, .int 0, .int 0, .int 0, .int 0, .int 0, .int 0, .int 0, .int 0, .int 0, .null, .null, .null, .int 0, .int 0, .null, .null, .null, .int 0, .int 0, .null, .null, .null, .null, .null, .int 0, .null, .null, .int 0, .int 0, .null, .null, .int 0, .int 0, .null, .null, .null, .null, .int 0, .int 0, .int 0, .int 0, .null, .null, .null, .null, .null])) :: ((([] ++ [(q70, _)])) ++ [(q71, _)])) hC rfl (vp_in_iff.mpr (by decide)) (by intro j; show (if j = 1 then (0 : Int32) else 0) = 0; (repeat' split) <;> first | rfl | omega) rfl dX12_init_61 ?_
  refine zi_dup (pc := 62) hC dX12_init_62 rfl ?_
  refine zi_iconst (pc := 63) (v := (2 : Int32)) hC dX12_init_63 (by decide) ?_
  refine zi_iconst (pc := 64) (v := (0 : Int32)) hC dX12_init_64 (by decide) ?_
  refine zi_iast (pc := 65) 2 (f' := fun _ => 0) (ws' := (h0, .inr (12, [.ref q70, .int 0, .null, .null, .null, .null, .null, .null, .null, .null, .null, .null, .null, .null, .null, .null, .null, .int 0, .null, .int 0, .int 0, .int 0, .int 0, .int 0, .int 0, .int 0, .int 0, .int 0, .int 0, .null, .null, .null, .int 0, .int 0, .null, .null, .null, .int 0, .int 0, .null, .null, .null, .null, .null, .int 0, .null, .null, .int 0, .int 0, .null, .null, .int 0, .int 0, .null, .null, .null, .null, .int 0, .int 0, .int 0, .int 0, .null, .null, .null, .null, .null])) :: ((([] ++ [(q70, _)])) ++ [(q71, _)])) hC rfl (vp_in_iff.mpr (by decide)) (by intro j; show (if j = 2 then (0 : Int32) else 0) = 0; (repeat' split) <;> first | rfl | omega) rfl dX12_init_65 ?_
  refine zi_dup (pc := 66) hC dX12_init_66 rfl ?_
  refine zi_iconst (pc := 67) (v := (3 : Int32)) hC dX12_init_67 (by decide) ?_
  refine zi_sipush (pc := 68) (v := (300 : Int32)) hC dX12_init_68 (by decide) ?_
  refine zi_iast (pc := 71) 2 (f' := fun j => if j = 3 then 300 else 0) (ws' := (h0, .inr (12, [.ref q70, .int 0, .null, .null, .null, .null, .null, .null, .null, .null, .null, .null, .null, .null, .null, .null, .null, .int 0, .null, .int 0, .int 0, .int 0, .int 0, .int 0, .int 0, .int 0, .int 0, .int 0, .int 0, .null, .null, .null, .int 0, .int 0, .null, .null, .null, .int 0, .int 0, .null, .null, .null, .null, .null, .int 0, .null, .null, .int 0, .int 0, .null, .null, .int 0, .int 0, .null, .null, .null, .null, .int 0, .int 0, .int 0, .int 0, .null, .null, .null, .null, .null])) :: ((([] ++ [(q70, _)])) ++ [(q71, _)])) hC rfl (vp_in_iff.mpr (by decide)) (by intro j; show (if j = 3 then (300 : Int32) else 0) = if j = 3 then 300 else 0; (repeat' split) <;> first | rfl | omega) rfl dX12_init_71 ?_
  refine zi_dup (pc := 72) hC dX12_init_72 rfl ?_
  refine zi_iconst (pc := 73) (v := (4 : Int32)) hC dX12_init_73 (by decide) ?_
  refine zi_iconst (pc := 74) (v := (0 : Int32)) hC dX12_init_74 (by decide) ?_
  refine zi_iast (pc := 75) 2 (f' := fun j => if j = 3 then 300 else 0) (ws' := (h0, .inr (12, [.ref q70, .int 0, .null, .null, .null, .null, .null, .null, .null, .null, .null, .null, .null, .null, .null, .null, .null, .int 0, .null, .int 0, .int 0, .int 0, .int 0, .int 0, .int 0, .int 0, .int 0, .int 0, .int 0, .null, .null, .null, .int 0, .int 0, .null, .null, .null, .int 0, .int 0, .null, .null, .null, .null, .null, .int 0, .null, .null, .int 0, .int 0, .null, .null, .int 0, .int 0, .null, .null, .null, .null, .int 0, .int 0, .int 0, .int 0, .null, .null, .null, .null, .null])) :: ((([] ++ [(q70, _)])) ++ [(q71, _)])) hC rfl (vp_in_iff.mpr (by decide)) (by intro j; show (if j = 4 then (0 : Int32) else if j = 3 then 300 else 0) = if j = 3 then 300 else 0; (repeat' split) <;> first | rfl | omega) rfl dX12_init_75 ?_
  refine zi_dup (pc := 76) hC dX12_init_76 rfl ?_
  refine zi_iconst (pc := 77) (v := (5 : Int32)) hC dX12_init_77 (by decide) ?_
  refine zi_iconst (pc := 78) (v := (0 : Int32)) hC dX12_init_78 (by decide) ?_
  refine zi_iast (pc := 79) 2 (f' := fun j => if j = 3 then 300 else 0) (ws' := (h0, .inr (12, [.ref q70, .int 0, .null, .null, .null, .null, .null, .null, .null, .null, .null, .null, .null, .null, .null, .null, .null, .int 0, .null, .int 0, .int 0, .int 0, .int 0, .int 0, .int 0, .int 0, .int 0, .int 0, .int 0, .null, .null, .null, .int 0, .int 0, .null, .null, .null, .int 0, .int 0, .null, .null, .null, .null, .null, .int 0, .null, .null, .int 0, .int 0, .null, .null, .int 0, .int 0, .null, .null, .null, .null, .int 0, .int 0, .int 0, .int 0, .null, .null, .null, .null, .null])) :: ((([] ++ [(q70, _)])) ++ [(q71, _)])) hC rfl (vp_in_iff.mpr (by decide)) (by intro j; show (if j = 5 then (0 : Int32) else if j = 3 then 300 else 0) = if j = 3 then 300 else 0; (repeat' split) <;> first | rfl | omega) rfl dX12_init_79 ?_
  refine zi_dup (pc := 80) hC dX12_init_80 rfl ?_
  refine zi_bipush (pc := 81) (v := (6 : Int32)) hC dX12_init_81 (by decide) ?_
  refine zi_iconst (pc := 83) (v := (0 : Int32)) hC dX12_init_83 (by decide) ?_
  refine zi_iast (pc := 84) 2 (f' := fun j => if j = 3 then 300 else 0) (ws' := (h0, .inr (12, [.ref q70, .int 0, .null, .null, .null, .null, .null, .null, .null, .null, .null, .null, .null, .null, .null, .null, .null, .int 0, .null, .int 0, .int 0, .int 0, .int 0, .int 0, .int 0, .int 0, .int 0, .int 0, .int 0, .null, .null, .null, .int 0, .int 0, .null, .null, .null, .int 0, .int 0, .null, .null, .null, .null, .null, .int 0, .null, .null, .int 0, .int 0, .null, .null, .int 0, .int 0, .null, .null, .null, .null, .int 0, .int 0, .int 0, .int 0, .null, .null, .null, .null, .null])) :: ((([] ++ [(q70, _)])) ++ [(q71, _)])) hC rfl (vp_in_iff.mpr (by decide)) (by intro j; show (if j = 6 then (0 : Int32) else if j = 3 then 300 else 0) = if j = 3 then 300 else 0; (repeat' split) <;> first | rfl | omega) rfl dX12_init_84 ?_
  refine zi_dup (pc := 85) hC dX12_init_85 rfl ?_
  refine zi_bipush (pc := 86) (v := (7 : Int32)) hC dX12_init_86 (by decide) ?_
  refine zi_iconst (pc := 88) (v := (0 : Int32)) hC dX12_init_88 (by decide) ?_
  refine zi_iast (pc := 89) 2 (f' := fun j => if j = 3 then 300 else 0) (ws' := (h0, .inr (12, [.ref q70, .int 0, .null, .null, .null, .null, .null, .null, .null, .null, .null, .null, .null, .null, .null, .null, .null, .int 0, .null, .int 0, .int 0, .int 0, .int 0, .int 0, .int 0, .int 0, .int 0, .int 0, .int 0, .null, .null, .null, .int 0, .int 0, .null, .null, .null, .int 0, .int 0, .null, .null, .null, .null, .null, .int 0, .null, .null, .int 0, .int 0, .null, .null, .int 0, .int 0, .null, .null, .null, .null, .int 0, .int 0, .int 0, .int 0, .null, .null, .null, .null, .null])) :: ((([] ++ [(q70, _)])) ++ [(q71, _)])) hC rfl (vp_in_iff.mpr (by decide)) (by intro j; show (if j = 7 then (0 : Int32) else if j = 3 then 300 else 0) = if j = 3 then 300 else 0; (repeat' split) <;> first | rfl | omega) rfl dX12_init_89 ?_
  refine zi_dup (pc := 90) hC dX12_init_90 rfl ?_
  refine zi_bipush (pc := 91) (v := (8 : Int32)) hC dX12_init_91 (by decide) ?_
  refine zi_sipush (pc := 93) (v := (300 : Int32)) hC dX12_init_93 (by decide) ?_
  refine zi_iast (pc := 96) 2 (f' := fun j => if j = 3 then 300 else if j = 8 then 300 else 0) (ws' := (h0, .inr (12, [.ref q70, .int 0, .null, .null, .null, .null, .null, .null, .null, .null, .null, .null, .null, .null, .null, .null, .null, .int 0, .null, .int 0, .int 0, .int 0, .int 0, .int 0, .int 0, .int 0, .int 0, .int 0, .int 0, .null, .null, .null, .int 0, .int 0, .null, .null, .null, .int 0, .int 0, .null, .null, .null, .null, .null, .int 0, .null, .null, .int 0, .int 0, .null, .null, .int 0, .int 0, .null, .null, .null, .null, .int 0, .int 0, .int 0, .int 0, .null, .null, .null, .null, .null])) :: ((([] ++ [(q70, _)])) ++ [(q71, _)])) hC rfl (vp_in_iff.mpr (by decide)) (by intro j; show (if j = 8 then (300 : Int32) else if j = 3 then 300 else 0) = if j = 3 then 300 else if j = 8 then 300 else 0; (repeat' split) <;> first | rfl | omega) rfl dX12_init_96 ?_
  refine zi_dup (pc := 97) hC dX12_init_97 rfl ?_
  refine zi_bipush (pc := 98) (v := (9 : Int32)) hC dX12_init_98 (by decide) ?_
  refine zi_iconst (pc := 100) (v := (0 : Int32)) hC dX12_init_100 (by decide) ?_
  refine zi_iast (pc := 101) 2 (f' := fun j => if j = 3 then 300 else if j = 8 then 300 else 0) (ws' := (h0, .inr (12, [.ref q70, .int 0, .null, .null, .null, .null, .null, .null, .null, .null, .null, .null, .null, .null, .null, .null, .null, .int 0, .null, .int 0, .int 0, .int 0, .int 0, .int 0, .int 0, .int 0, .int 0, .int 0, .int 0, .null, .null, .null, .int 0, .int 0, .null, .null, .null, .int 0, .int 0, .null, .null, .null, .null, .null, .int 0, .null, .null, .int 0, .int 0, .null, .null, .int 0, .int 0, .null, .null, .null, .null, .int 0, .int 0, .int 0, .int 0, .null, .null, .null, .null, .null])) :: ((([] ++ [(q70, _)])) ++ [(q71, _)])) hC rfl (vp_in_iff.mpr (by decide)) (by intro j; show (if j = 9 then (0 : Int32) else if j = 3 then 300 else if j = 8 then 300 else 0) = if j = 3 then 300 else if j = 8 then 300 else 0; (repeat' split) <;> first | rfl | omega) rfl dX12_init_101 ?_
  refine zi_put (pc := 102) (ty := tyX12 2) (j := 2) (fs' := [.ref q70, .int 0, .ref q71, .null, .null, .null, .null, .null, .null, .null, .null, .null, .null, .null, .null, .null, .null, .int 0, .null, .int 0, .int 0, .int 0, .int 0, .int 0, .int 0, .int 0, .int 0, .int 0, .int 0, .null, .null, .null, .int 0, .int 0, .null, .null, .null, .int 0, .int 0, .null, .null, .null, .null, .null, .int 0, .null, .null, .int 0, .int 0, .null, .null, .int 0, .int 0, .null, .null, .null, .null, .int 0, .int 0, .int 0, .int 0, .null, .null, .null, .null, .null]) hC hR rfl (Nat.le_of_ble_eq_true rfl) iX12 tyX12_ok nmX12 m_1397 rfl (tyX12_ok _ (Nat.le_of_ble_eq_true rfl)) rfl rfl (Nat.le_of_ble_eq_true rfl) rfl dX12_init_102 ?_
  refine zi_aload0 (pc := 105) hC dX12_init_105 rfl ?_
  refine zi_bipush (pc := 106) (v := (96 : Int32)) hC dX12_init_106 (by decide) ?_
  refine zi_newa' (pc := 108) (N := 96) hC m_65 (by decide) (by decide) (Nat.le_of_ble_eq_true rfl) (Nat.le_of_ble_eq_true rfl) (Nat.le_of_ble_eq_true rfl) dX12_init_108 (fun q72 => ?_)
  refine zi_put (pc := 110) (ty := tyX12 3) (j := 3) (fs' := [.ref q70, .int 0, .ref q71, .ref q72, .null, .null, .null, .null, .null, .null, .null, .null, .null, .null, .null, .null, .null, .int 0, .null, .int 0, .int 0, .int 0, .int 0, .int 0, .int 0, .int 0, .int 0, .int 0, .int 0, .null, .null, .null, .int 0, .int 0, .null, .null, .null, .int 0, .int 0, .null, .null, .null, .null, .null, .int 0, .null, .null, .int 0, .int 0, .null, .null, .int 0, .int 0, .null, .null, .null, .null, .int 0, .int 0, .int 0, .int 0, .null, .null, .null, .null, .null]) hC hR rfl (Nat.le_of_ble_eq_true rfl) iX12 tyX12_ok nmX12 m_1398 rfl (tyX12_ok _ (Nat.le_of_ble_eq_true rfl)) rfl rfl (Nat.le_of_ble_eq_true rfl) rfl dX12_init_110 ?_
  refine zi_aload0 (pc := 113) hC dX12_init_113 rfl ?_
  refine zi_bipush (pc := 114) (v := (24 : Int32)) hC dX12_init_114 (by decide) ?_
  refine zi_newa' (pc := 116) (N := 24) hC m_65 (by decide) (by decide) (Nat.le_of_ble_eq_true rfl) (Nat.le_of_ble_eq_true rfl) (Nat.le_of_ble_eq_true rfl) dX12_init_116 (fun q73 => ?_)
  refine zi_put (pc := 118) (ty := tyX12 4) (j := 4) (fs' := [.ref q70, .int 0, .ref q71, .ref q72, .ref q73, .null, .null, .null, .null, .null, .null, .null, .null, .null, .null, .null, .null, .int 0, .null, .int 0, .int 0, .int 0, .int 0, .int 0, .int 0, .int 0, .int 0, .int 0, .int 0, .null, .null, .null, .int 0, .int 0, .null, .null, .null, .int 0, .int 0, .null, .null, .null, .null, .null, .int 0, .null, .null, .int 0, .int 0, .null, .null, .int 0, .int 0, .null, .null, .null, .null, .int 0, .int 0, .int 0, .int 0, .null, .null, .null, .null, .null]) hC hR rfl (Nat.le_of_ble_eq_true rfl) iX12 tyX12_ok nmX12 m_1399 rfl (tyX12_ok _ (Nat.le_of_ble_eq_true rfl)) rfl rfl (Nat.le_of_ble_eq_true rfl) rfl dX12_init_118 ?_
  refine zi_aload0 (pc := 121) hC dX12_init_121 rfl ?_
  refine zi_bipush (pc := 122) (v := (24 : Int32)) hC dX12_init_122 (by decide) ?_
  refine zi_newa' (pc := 124) (N := 24) hC m_65 (by decide) (by decide) (Nat.le_of_ble_eq_true rfl) (Nat.le_of_ble_eq_true rfl) (Nat.le_of_ble_eq_true rfl) dX12_init_124 (fun q74 => ?_)
  refine zi_put (pc := 126) (ty := tyX12 5) (j := 5) (fs' := [.ref q70, .int 0, .ref q71, .ref q72, .ref q73, .ref q74, .null, .null, .null, .null, .null, .null, .null, .null, .null, .null, .null, .int 0, .null, .int 0, .int 0, .int 0, .int 0, .int 0, .int 0, .int 0, .int 0, .int 0, .int 0, .null, .null, .null, .int 0, .int 0, .null, .null, .null, .int 0, .int 0, .null, .null, .null, .null, .null, .int 0, .null, .null, .int 0, .int 0, .null, .null, .int 0, .int 0, .null, .null, .null, .null, .int 0, .int 0, .int 0, .int 0, .null, .null, .null, .null, .null]) hC hR rfl (Nat.le_of_ble_eq_true rfl) iX12 tyX12_ok nmX12 m_1400 rfl (tyX12_ok _ (Nat.le_of_ble_eq_true rfl)) rfl rfl (Nat.le_of_ble_eq_true rfl) rfl dX12_init_126 ?_
  refine zi_aload0 (pc := 129) hC dX12_init_129 rfl ?_
  refine zi_bipush (pc := 130) (v := (24 : Int32)) hC dX12_init_130 (by decide) ?_
  refine zi_newa' (pc := 132) (N := 24) hC m_65 (by decide) (by decide) (Nat.le_of_ble_eq_true rfl) (Nat.le_of_ble_eq_true rfl) (Nat.le_of_ble_eq_true rfl) dX12_init_132 (fun q75 => ?_)
  refine zi_put (pc := 134) (ty := tyX12 6) (j := 6) (fs' := [.ref q70, .int 0, .ref q71, .ref q72, .ref q73, .ref q74, .ref q75, .null, .null, .null, .null, .null, .null, .null, .null, .null, .null, .int 0, .null, .int 0, .int 0, .int 0, .int 0, .int 0, .int 0, .int 0, .int 0, .int 0, .int 0, .null, .null, .null, .int 0, .int 0, .null, .null, .null, .int 0, .int 0, .null, .null, .null, .null, .null, .int 0, .null, .null, .int 0, .int 0, .null, .null, .int 0, .int 0, .null, .null, .null, .null, .int 0, .int 0, .int 0, .int 0, .null, .null, .null, .null, .null]) hC hR rfl (Nat.le_of_ble_eq_true rfl) iX12 tyX12_ok nmX12 m_1401 rfl (tyX12_ok _ (Nat.le_of_ble_eq_true rfl)) rfl rfl (Nat.le_of_ble_eq_true rfl) rfl dX12_init_134 ?_
  refine zi_aload0 (pc := 137) hC dX12_init_137 rfl ?_
  refine zi_bipush (pc := 138) (v := (24 : Int32)) hC dX12_init_138 (by decide) ?_
  refine zi_newa' (pc := 140) (N := 24) hC m_65 (by decide) (by decide) (Nat.le_of_ble_eq_true rfl) (Nat.le_of_ble_eq_true rfl) (Nat.le_of_ble_eq_true rfl) dX12_init_140 (fun q76 => ?_)
  refine zi_put (pc := 142) (ty := tyX12 7) (j := 7) (fs' := [.ref q70, .int 0, .ref q71, .ref q72, .ref q73, .ref q74, .ref q75, .ref q76, .null, .null, .null, .null, .null, .null, .null, .null, .null, .int 0, .null, .int 0, .int 0, .int 0, .int 0, .int 0, .int 0, .int 0, .int 0, .int 0, .int 0, .null, .null, .null, .int 0, .int 0, .null, .null, .null, .int 0, .int 0, .null, .null, .null, .null, .null, .int 0, .null, .null, .int 0, .int 0, .null, .null, .int 0, .int 0, .null, .null, .null, .null, .int 0, .int 0, .int 0, .int 0, .null, .null, .null, .null, .null]) hC hR rfl (Nat.le_of_ble_eq_true rfl) iX12 tyX12_ok nmX12 m_1402 rfl (tyX12_ok _ (Nat.le_of_ble_eq_true rfl)) rfl rfl (Nat.le_of_ble_eq_true rfl) rfl dX12_init_142 ?_
  refine zi_aload0 (pc := 145) hC dX12_init_145 rfl ?_
  refine zi_bipush (pc := 146) (v := (24 : Int32)) hC dX12_init_146 (by decide) ?_
  refine zi_newa' (pc := 148) (N := 24) hC m_65 (by decide) (by decide) (Nat.le_of_ble_eq_true rfl) (Nat.le_of_ble_eq_true rfl) (Nat.le_of_ble_eq_true rfl) dX12_init_148 (fun q77 => ?_)
  refine zi_put (pc := 150) (ty := tyX12 8) (j := 8) (fs' := [.ref q70, .int 0, .ref q71, .ref q72, .ref q73, .ref q74, .ref q75, .ref q76, .ref q77, .null, .null, .null, .null, .null, .null, .null, .null, .int 0, .null, .int 0, .int 0, .int 0, .int 0, .int 0, .int 0, .int 0, .int 0, .int 0, .int 0, .null, .null, .null, .int 0, .int 0, .null, .null, .null, .int 0, .int 0, .null, .null, .null, .null, .null, .int 0, .null, .null, .int 0, .int 0, .null, .null, .int 0, .int 0, .null, .null, .null, .null, .int 0, .int 0, .int 0, .int 0, .null, .null, .null, .null, .null]) hC hR rfl (Nat.le_of_ble_eq_true rfl) iX12 tyX12_ok nmX12 m_1403 rfl (tyX12_ok _ (Nat.le_of_ble_eq_true rfl)) rfl rfl (Nat.le_of_ble_eq_true rfl) rfl dX12_init_150 ?_
  refine zi_aload0 (pc := 153) hC dX12_init_153 rfl ?_
  refine zi_bipush (pc := 154) (v := (24 : Int32)) hC dX12_init_154 (by decide) ?_
  refine zi_newa' (pc := 156) (N := 24) hC m_65 (by decide) (by decide) (Nat.le_of_ble_eq_true rfl) (Nat.le_of_ble_eq_true rfl) (Nat.le_of_ble_eq_true rfl) dX12_init_156 (fun q78 => ?_)
  refine zi_put (pc := 158) (ty := tyX12 9) (j := 9) (fs' := [.ref q70, .int 0, .ref q71, .ref q72, .ref q73, .ref q74, .ref q75, .ref q76, .ref q77, .ref q78, .null, .null, .null, .null, .null, .null, .null, .int 0, .null, .int 0, .int 0, .int 0, .int 0, .int 0, .int 0, .int 0, .int 0, .int 0, .int 0, .null, .null, .null, .int 0, .int 0, .null, .null, .null, .int 0, .int 0, .null, .null, .null, .null, .null, .int 0, .null, .null, .int 0, .int 0, .null, .null, .int 0, .int 0, .null, .null, .null, .null, .int 0, .int 0, .int 0, .int 0, .null, .null, .null, .null, .null]) hC hR rfl (Nat.le_of_ble_eq_true rfl) iX12 tyX12_ok nmX12 m_1404 rfl (tyX12_ok _ (Nat.le_of_ble_eq_true rfl)) rfl rfl (Nat.le_of_ble_eq_true rfl) rfl dX12_init_158 ?_
  refine zi_aload0 (pc := 161) hC dX12_init_161 rfl ?_
  refine zi_bipush (pc := 162) (v := (24 : Int32)) hC dX12_init_162 (by decide) ?_
  refine zi_newa' (pc := 164) (N := 24) hC m_65 (by decide) (by decide) (Nat.le_of_ble_eq_true rfl) (Nat.le_of_ble_eq_true rfl) (Nat.le_of_ble_eq_true rfl) dX12_init_164 (fun q79 => ?_)
  refine zi_put (pc := 166) (ty := tyX12 10) (j := 10) (fs' := [.ref q70, .int 0, .ref q71, .ref q72, .ref q73, .ref q74, .ref q75, .ref q76, .ref q77, .ref q78, .ref q79, .null, .null, .null, .null, .null, .null, .int 0, .null, .int 0, .int 0, .int 0, .int 0, .int 0, .int 0, .int 0, .int 0, .int 0, .int 0, .null, .null, .null, .int 0, .int 0, .null, .null, .null, .int 0, .int 0, .null, .null, .null, .null, .null, .int 0, .null, .null, .int 0, .int 0, .null, .null, .int 0, .int 0, .null, .null, .null, .null, .int 0, .int 0, .int 0, .int 0, .null, .null, .null, .null, .null]) hC hR rfl (Nat.le_of_ble_eq_true rfl) iX12 tyX12_ok nmX12 m_1405 rfl (tyX12_ok _ (Nat.le_of_ble_eq_true rfl)) rfl rfl (Nat.le_of_ble_eq_true rfl) rfl dX12_init_166 ?_
  refine zi_aload0 (pc := 169) hC dX12_init_169 rfl ?_
  refine zi_bipush (pc := 170) (v := (24 : Int32)) hC dX12_init_170 (by decide) ?_
  refine zi_newa' (pc := 172) (N := 24) hC m_65 (by decide) (by decide) (Nat.le_of_ble_eq_true rfl) (Nat.le_of_ble_eq_true rfl) (Nat.le_of_ble_eq_true rfl) dX12_init_172 (fun q80 => ?_)
  refine zi_put (pc := 174) (ty := tyX12 11) (j := 11) (fs' := [.ref q70, .int 0, .ref q71, .ref q72, .ref q73, .ref q74, .ref q75, .ref q76, .ref q77, .ref q78, .ref q79, .ref q80, .null, .null, .null, .null, .null, .int 0, .null, .int 0, .int 0, .int 0, .int 0, .int 0, .int 0, .int 0, .int 0, .int 0, .int 0, .null, .null, .null, .int 0, .int 0, .null, .null, .null, .int 0, .int 0, .null, .null, .null, .null, .null, .int 0, .null, .null, .int 0, .int 0, .null, .null, .int 0, .int 0, .null, .null, .null, .null, .int 0, .int 0, .int 0, .int 0, .null, .null, .null, .null, .null]) hC hR rfl (Nat.le_of_ble_eq_true rfl) iX12 tyX12_ok nmX12 m_1406 rfl (tyX12_ok _ (Nat.le_of_ble_eq_true rfl)) rfl rfl (Nat.le_of_ble_eq_true rfl) rfl dX12_init_174 ?_
  refine zi_aload0 (pc := 177) hC dX12_init_177 rfl ?_
  refine zi_bipush (pc := 178) (v := (12 : Int32)) hC dX12_init_178 (by decide) ?_
  refine zi_newa' (pc := 180) (N := 12) hC m_65 (by decide) (by decide) (Nat.le_of_ble_eq_true rfl) (Nat.le_of_ble_eq_true rfl) (Nat.le_of_ble_eq_true rfl) dX12_init_180 (fun q81 => ?_)
  refine zi_put (pc := 182) (ty := tyX12 12) (j := 12) (fs' := [.ref q70, .int 0, .ref q71, .ref q72, .ref q73, .ref q74, .ref q75, .ref q76, .ref q77, .ref q78, .ref q79, .ref q80, .ref q81, .null, .null, .null, .null, .int 0, .null, .int 0, .int 0, .int 0, .int 0, .int 0, .int 0, .int 0, .int 0, .int 0, .int 0, .null, .null, .null, .int 0, .int 0, .null, .null, .null, .int 0, .int 0, .null, .null, .null, .null, .null, .int 0, .null, .null, .int 0, .int 0, .null, .null, .int 0, .int 0, .null, .null, .null, .null, .int 0, .int 0, .int 0, .int 0, .null, .null, .null, .null, .null]) hC hR rfl (Nat.le_of_ble_eq_true rfl) iX12 tyX12_ok nmX12 m_1407 rfl (tyX12_ok _ (Nat.le_of_ble_eq_true rfl)) rfl rfl (Nat.le_of_ble_eq_true rfl) rfl dX12_init_182 ?_
  refine zi_aload0 (pc := 185) hC dX12_init_185 rfl ?_
  refine zi_bipush (pc := 186) (v := (12 : Int32)) hC dX12_init_186 (by decide) ?_
  refine zi_newa' (pc := 188) (N := 12) hC m_65 (by decide) (by decide) (Nat.le_of_ble_eq_true rfl) (Nat.le_of_ble_eq_true rfl) (Nat.le_of_ble_eq_true rfl) dX12_init_188 (fun q82 => ?_)
  refine zi_put (pc := 190) (ty := tyX12 13) (j := 13) (fs' := [.ref q70, .int 0, .ref q71, .ref q72, .ref q73, .ref q74, .ref q75, .ref q76, .ref q77, .ref q78, .ref q79, .ref q80, .ref q81, .ref q82, .null, .null, .null, .int 0, .null, .int 0, .int 0, .int 0, .int 0, .int 0, .int 0, .int 0, .int 0, .int 0, .int 0, .null, .null, .null, .int 0, .int 0, .null, .null, .null, .int 0, .int 0, .null, .null, .null, .null, .null, .int 0, .null, .null, .int 0, .int 0, .null, .null, .int 0, .int 0, .null, .null, .null, .null, .int 0, .int 0, .int 0, .int 0, .null, .null, .null, .null, .null]) hC hR rfl (Nat.le_of_ble_eq_true rfl) iX12 tyX12_ok nmX12 m_1408 rfl (tyX12_ok _ (Nat.le_of_ble_eq_true rfl)) rfl rfl (Nat.le_of_ble_eq_true rfl) rfl dX12_init_190 ?_
  refine zi_aload0 (pc := 193) hC dX12_init_193 rfl ?_
  refine zi_bipush (pc := 194) (v := (12 : Int32)) hC dX12_init_194 (by decide) ?_
  refine zi_newa' (pc := 196) (N := 12) hC m_65 (by decide) (by decide) (Nat.le_of_ble_eq_true rfl) (Nat.le_of_ble_eq_true rfl) (Nat.le_of_ble_eq_true rfl) dX12_init_196 (fun q83 => ?_)
  refine zi_put (pc := 198) (ty := tyX12 14) (j := 14) (fs' := [.ref q70, .int 0, .ref q71, .ref q72, .ref q73, .ref q74, .ref q75, .ref q76, .ref q77, .ref q78, .ref q79, .ref q80, .ref q81, .ref q82, .ref q83, .null, .null, .int 0, .null, .int 0, .int 0, .int 0, .int 0, .int 0, .int 0, .int 0, .int 0, .int 0, .int 0, .null, .null, .null, .int 0, .int 0, .null, .null, .null, .int 0, .int 0, .null, .null, .null, .null, .null, .int 0, .null, .null, .int 0, .int 0, .null, .null, .int 0, .int 0, .null, .null, .null, .null, .int 0, .int 0, .int 0, .int 0, .null, .null, .null, .null, .null]) hC hR rfl (Nat.le_of_ble_eq_true rfl) iX12 tyX12_ok nmX12 m_1409 rfl (tyX12_ok _ (Nat.le_of_ble_eq_true rfl)) rfl rfl (Nat.le_of_ble_eq_true rfl) rfl dX12_init_198 ?_
  refine zi_aload0 (pc := 201) hC dX12_init_201 rfl ?_
  refine zi_sipush (pc := 202) (v := (1400 : Int32)) hC dX12_init_202 (by decide) ?_
  refine zi_newa' (pc := 205) (N := 1400) hC m_65 (by decide) (by decide) (Nat.le_of_ble_eq_true rfl) (Nat.le_of_ble_eq_true rfl) (Nat.le_of_ble_eq_true rfl) dX12_init_205 (fun q84 => ?_)
  refine zi_put (pc := 207) (ty := tyX12 15) (j := 15) (fs' := [.ref q70, .int 0, .ref q71, .ref q72, .ref q73, .ref q74, .ref q75, .ref q76, .ref q77, .ref q78, .ref q79, .ref q80, .ref q81, .ref q82, .ref q83, .ref q84, .null, .int 0, .null, .int 0, .int 0, .int 0, .int 0, .int 0, .int 0, .int 0, .int 0, .int 0, .int 0, .null, .null, .null, .int 0, .int 0, .null, .null, .null, .int 0, .int 0, .null, .null, .null, .null, .null, .int 0, .null, .null, .int 0, .int 0, .null, .null, .int 0, .int 0, .null, .null, .null, .null, .int 0, .int 0, .int 0, .int 0, .null, .null, .null, .null, .null]) hC hR rfl (Nat.le_of_ble_eq_true rfl) iX12 tyX12_ok nmX12 m_1410 rfl (tyX12_ok _ (Nat.le_of_ble_eq_true rfl)) rfl rfl (Nat.le_of_ble_eq_true rfl) rfl dX12_init_207 ?_
  refine zi_aload0 (pc := 210) hC dX12_init_210 rfl ?_
  refine zi_iconst (pc := 211) (v := (3 : Int32)) hC dX12_init_211 (by decide) ?_
  refine zi_newa' (pc := 212) (N := 3) hC m_65 (by decide) (by decide) (Nat.le_of_ble_eq_true rfl) (Nat.le_of_ble_eq_true rfl) (Nat.le_of_ble_eq_true rfl) dX12_init_212 (fun q85 => ?_)
  refine zi_put (pc := 214) (ty := tyX12 16) (j := 16) (fs' := [.ref q70, .int 0, .ref q71, .ref q72, .ref q73, .ref q74, .ref q75, .ref q76, .ref q77, .ref q78, .ref q79, .ref q80, .ref q81, .ref q82, .ref q83, .ref q84, .ref q85, .int 0, .null, .int 0, .int 0, .int 0, .int 0, .int 0, .int 0, .int 0, .int 0, .int 0, .int 0, .null, .null, .null, .int 0, .int 0, .null, .null, .null, .int 0, .int 0, .null, .null, .null, .null, .null, .int 0, .null, .null, .int 0, .int 0, .null, .null, .int 0, .int 0, .null, .null, .null, .null, .int 0, .int 0, .int 0, .int 0, .null, .null, .null, .null, .null]) hC hR rfl (Nat.le_of_ble_eq_true rfl) iX12 tyX12_ok nmX12 m_1411 rfl (tyX12_ok _ (Nat.le_of_ble_eq_true rfl)) rfl rfl (Nat.le_of_ble_eq_true rfl) rfl dX12_init_214 ?_
  refine zi_aload0 (pc := 217) hC dX12_init_217 rfl ?_
  refine zi_sipush (pc := 218) (v := (700 : Int32)) hC dX12_init_218 (by decide) ?_
  refine zi_newa' (pc := 221) (N := 700) hC m_65 (by decide) (by decide) (Nat.le_of_ble_eq_true rfl) (Nat.le_of_ble_eq_true rfl) (Nat.le_of_ble_eq_true rfl) dX12_init_221 (fun q86 => ?_)
  refine zi_put (pc := 223) (ty := tyX12 18) (j := 18) (fs' := [.ref q70, .int 0, .ref q71, .ref q72, .ref q73, .ref q74, .ref q75, .ref q76, .ref q77, .ref q78, .ref q79, .ref q80, .ref q81, .ref q82, .ref q83, .ref q84, .ref q85, .int 0, .ref q86, .int 0, .int 0, .int 0, .int 0, .int 0, .int 0, .int 0, .int 0, .int 0, .int 0, .null, .null, .null, .int 0, .int 0, .null, .null, .null, .int 0, .int 0, .null, .null, .null, .null, .null, .int 0, .null, .null, .int 0, .int 0, .null, .null, .int 0, .int 0, .null, .null, .null, .null, .int 0, .int 0, .int 0, .int 0, .null, .null, .null, .null, .null]) hC hR rfl (Nat.le_of_ble_eq_true rfl) iX12 tyX12_ok nmX12 m_1413 rfl (tyX12_ok _ (Nat.le_of_ble_eq_true rfl)) rfl rfl (Nat.le_of_ble_eq_true rfl) rfl dX12_init_223 ?_
  refine zi_aload0 (pc := 226) hC dX12_init_226 rfl ?_
  refine zi_iconst (pc := 227) (v := (-1 : Int32)) hC dX12_init_227 (by decide) ?_
  refine zi_put (pc := 228) (ty := tyX12 28) (j := 28) (fs' := [.ref q70, .int 0, .ref q71, .ref q72, .ref q73, .ref q74, .ref q75, .ref q76, .ref q77, .ref q78, .ref q79, .ref q80, .ref q81, .ref q82, .ref q83, .ref q84, .ref q85, .int 0, .ref q86, .int 0, .int 0, .int 0, .int 0, .int 0, .int 0, .int 0, .int 0, .int 0, .int (-1 : Int32), .null, .null, .null, .int 0, .int 0, .null, .null, .null, .int 0, .int 0, .null, .null, .null, .null, .null, .int 0, .null, .null, .int 0, .int 0, .null, .null, .int 0, .int 0, .null, .null, .null, .null, .int 0, .int 0, .int 0, .int 0, .null, .null, .null, .null, .null]) hC hR rfl (Nat.le_of_ble_eq_true rfl) iX12 tyX12_ok nmX12 m_1423 rfl (tyX12_ok _ (Nat.le_of_ble_eq_true rfl)) rfl rfl (Nat.le_of_ble_eq_true rfl) rfl dX12_init_228 ?_
  refine zi_aload0 (pc := 231) hC dX12_init_231 rfl ?_
  refine zi_bipush (pc := 232) (v := (12 : Int32)) hC dX12_init_232 (by decide) ?_
  refine zi_newa' (pc := 234) (N := 12) hC m_65 (by decide) (by decide) (Nat.le_of_ble_eq_true rfl) (Nat.le_of_ble_eq_true rfl) (Nat.le_of_ble_eq_true rfl) dX12_init_234 (fun q87 => ?_)
  refine zi_put (pc := 236) (ty := tyX12 29) (j := 29) (fs' := [.ref q70, .int 0, .ref q71, .ref q72, .ref q73, .ref q74, .ref q75, .ref q76, .ref q77, .ref q78, .ref q79, .ref q80, .ref q81, .ref q82, .ref q83, .ref q84, .ref q85, .int 0, .ref q86, .int 0, .int 0, .int 0, .int 0, .int 0, .int 0, .int 0, .int 0, .int 0, .int (-1 : Int32), .ref q87, .null, .null, .int 0, .int 0, .null, .null, .null, .int 0, .int 0, .null, .null, .null, .null, .null, .int 0, .null, .null, .int 0, .int 0, .null, .null, .int 0, .int 0, .null, .null, .null, .null, .int 0, .int 0, .int 0, .int 0, .null, .null, .null, .null, .null]) hC hR rfl (Nat.le_of_ble_eq_true rfl) iX12 tyX12_ok nmX12 m_1424 rfl (tyX12_ok _ (Nat.le_of_ble_eq_true rfl)) rfl rfl (Nat.le_of_ble_eq_true rfl) rfl dX12_init_236 ?_
  refine zi_aload0 (pc := 239) hC dX12_init_239 rfl ?_
  refine zi_bipush (pc := 240) (v := (10 : Int32)) hC dX12_init_240 (by decide) ?_
  refine zi_newa' (pc := 242) (N := 10) hC m_65 (by decide) (by decide) (Nat.le_of_ble_eq_true rfl) (Nat.le_of_ble_eq_true rfl) (Nat.le_of_ble_eq_true rfl) dX12_init_242 (fun q88 => ?_)
  refine zi_put (pc := 244) (ty := tyX12 30) (j := 30) (fs' := [.ref q70, .int 0, .ref q71, .ref q72, .ref q73, .ref q74, .ref q75, .ref q76, .ref q77, .ref q78, .ref q79, .ref q80, .ref q81, .ref q82, .ref q83, .ref q84, .ref q85, .int 0, .ref q86, .int 0, .int 0, .int 0, .int 0, .int 0, .int 0, .int 0, .int 0, .int 0, .int (-1 : Int32), .ref q87, .ref q88, .null, .int 0, .int 0, .null, .null, .null, .int 0, .int 0, .null, .null, .null, .null, .null, .int 0, .null, .null, .int 0, .int 0, .null, .null, .int 0, .int 0, .null, .null, .null, .null, .int 0, .int 0, .int 0, .int 0, .null, .null, .null, .null, .null]) hC hR rfl (Nat.le_of_ble_eq_true rfl) iX12 tyX12_ok nmX12 m_1425 rfl (tyX12_ok _ (Nat.le_of_ble_eq_true rfl)) rfl rfl (Nat.le_of_ble_eq_true rfl) rfl dX12_init_244 ?_
  refine zi_aload0 (pc := 247) hC dX12_init_247 rfl ?_
  refine zi_sipush (pc := 248) (v := (3800 : Int32)) hC dX12_init_248 (by decide) ?_
  refine zi_newa' (pc := 251) (N := 3800) hC m_65 (by decide) (by decide) (Nat.le_of_ble_eq_true rfl) (Nat.le_of_ble_eq_true rfl) (Nat.le_of_ble_eq_true rfl) dX12_init_251 (fun q89 => ?_)
  refine zi_put (pc := 253) (ty := tyX12 31) (j := 31) (fs' := [.ref q70, .int 0, .ref q71, .ref q72, .ref q73, .ref q74, .ref q75, .ref q76, .ref q77, .ref q78, .ref q79, .ref q80, .ref q81, .ref q82, .ref q83, .ref q84, .ref q85, .int 0, .ref q86, .int 0, .int 0, .int 0, .int 0, .int 0, .int 0, .int 0, .int 0, .int 0, .int (-1 : Int32), .ref q87, .ref q88, .ref q89, .int 0, .int 0, .null, .null, .null, .int 0, .int 0, .null, .null, .null, .null, .null, .int 0, .null, .null, .int 0, .int 0, .null, .null, .int 0, .int 0, .null, .null, .null, .null, .int 0, .int 0, .int 0, .int 0, .null, .null, .null, .null, .null]) hC hR rfl (Nat.le_of_ble_eq_true rfl) iX12 tyX12_ok nmX12 m_1426 rfl (tyX12_ok _ (Nat.le_of_ble_eq_true rfl)) rfl rfl (Nat.le_of_ble_eq_true rfl) rfl dX12_init_253 ?_
  refine zi_aload0 (pc := 256) hC dX12_init_256 rfl ?_
  refine zi_bipush (pc := 257) (v := (7 : Int32)) hC dX12_init_257 (by decide) ?_
  refine zi_newa' (pc := 259) (N := 7) hC m_65 (by decide) (by decide) (Nat.le_of_ble_eq_true rfl) (Nat.le_of_ble_eq_true rfl) (Nat.le_of_ble_eq_true rfl) dX12_init_259 (fun q90 => ?_)
  refine zi_put (pc := 261) (ty := tyX12 34) (j := 34) (fs' := [.ref q70, .int 0, .ref q71, .ref q72, .ref q73, .ref q74, .ref q75, .ref q76, .ref q77, .ref q78, .ref q79, .ref q80, .ref q81, .ref q82, .ref q83, .ref q84, .ref q85, .int 0, .ref q86, .int 0, .int 0, .int 0, .int 0, .int 0, .int 0, .int 0, .int 0, .int 0, .int (-1 : Int32), .ref q87, .ref q88, .ref q89, .int 0, .int 0, .ref q90, .null, .null, .int 0, .int 0, .null, .null, .null, .null, .null, .int 0, .null, .null, .int 0, .int 0, .null, .null, .int 0, .int 0, .null, .null, .null, .null, .int 0, .int 0, .int 0, .int 0, .null, .null, .null, .null, .null]) hC hR rfl (Nat.le_of_ble_eq_true rfl) iX12 tyX12_ok nmX12 m_1429 rfl (tyX12_ok _ (Nat.le_of_ble_eq_true rfl)) rfl rfl (Nat.le_of_ble_eq_true rfl) rfl dX12_init_261 ?_
  refine zi_aload0 (pc := 264) hC dX12_init_264 rfl ?_
  refine zi_bipush (pc := 265) (v := (64 : Int32)) hC dX12_init_265 (by decide) ?_
  refine zi_newa' (pc := 267) (N := 64) hC m_65 (by decide) (by decide) (Nat.le_of_ble_eq_true rfl) (Nat.le_of_ble_eq_true rfl) (Nat.le_of_ble_eq_true rfl) dX12_init_267 (fun q91 => ?_)
  refine zi_put (pc := 269) (ty := tyX12 35) (j := 35) (fs' := [.ref q70, .int 0, .ref q71, .ref q72, .ref q73, .ref q74, .ref q75, .ref q76, .ref q77, .ref q78, .ref q79, .ref q80, .ref q81, .ref q82, .ref q83, .ref q84, .ref q85, .int 0, .ref q86, .int 0, .int 0, .int 0, .int 0, .int 0, .int 0, .int 0, .int 0, .int 0, .int (-1 : Int32), .ref q87, .ref q88, .ref q89, .int 0, .int 0, .ref q90, .ref q91, .null, .int 0, .int 0, .null, .null, .null, .null, .null, .int 0, .null, .null, .int 0, .int 0, .null, .null, .int 0, .int 0, .null, .null, .null, .null, .int 0, .int 0, .int 0, .int 0, .null, .null, .null, .null, .null]) hC hR rfl (Nat.le_of_ble_eq_true rfl) iX12 tyX12_ok nmX12 m_1430 rfl (tyX12_ok _ (Nat.le_of_ble_eq_true rfl)) rfl rfl (Nat.le_of_ble_eq_true rfl) rfl dX12_init_269 ?_
  refine zi_aload0 (pc := 272) hC dX12_init_272 rfl ?_
  refine zi_bipush (pc := 273) (v := (12 : Int32)) hC dX12_init_273 (by decide) ?_
  refine zi_newa' (pc := 275) (N := 12) hC m_65 (by decide) (by decide) (Nat.le_of_ble_eq_true rfl) (Nat.le_of_ble_eq_true rfl) (Nat.le_of_ble_eq_true rfl) dX12_init_275 (fun q92 => ?_)
  refine zi_put (pc := 277) (ty := tyX12 36) (j := 36) (fs' := [.ref q70, .int 0, .ref q71, .ref q72, .ref q73, .ref q74, .ref q75, .ref q76, .ref q77, .ref q78, .ref q79, .ref q80, .ref q81, .ref q82, .ref q83, .ref q84, .ref q85, .int 0, .ref q86, .int 0, .int 0, .int 0, .int 0, .int 0, .int 0, .int 0, .int 0, .int 0, .int (-1 : Int32), .ref q87, .ref q88, .ref q89, .int 0, .int 0, .ref q90, .ref q91, .ref q92, .int 0, .int 0, .null, .null, .null, .null, .null, .int 0, .null, .null, .int 0, .int 0, .null, .null, .int 0, .int 0, .null, .null, .null, .null, .int 0, .int 0, .int 0, .int 0, .null, .null, .null, .null, .null]) hC hR rfl (Nat.le_of_ble_eq_true rfl) iX12 tyX12_ok nmX12 m_1431 rfl (tyX12_ok _ (Nat.le_of_ble_eq_true rfl)) rfl rfl (Nat.le_of_ble_eq_true rfl) rfl dX12_init_277 ?_
  refine zi_aload0 (pc := 280) hC dX12_init_280 rfl ?_
  refine zi_bipush (pc := 281) (v := (12 : Int32)) hC dX12_init_281 (by decide) ?_
  refine zi_newa' (pc := 283) (N := 12) hC m_65 (by decide) (by decide) (Nat.le_of_ble_eq_true rfl) (Nat.le_of_ble_eq_true rfl) (Nat.le_of_ble_eq_true rfl) dX12_init_283 (fun q93 => ?_)
  refine zi_put (pc := 285) (ty := tyX12 39) (j := 39) (fs' := [.ref q70, .int 0, .ref q71, .ref q72, .ref q73, .ref q74, .ref q75, .ref q76, .ref q77, .ref q78, .ref q79, .ref q80, .ref q81, .ref q82, .ref q83, .ref q84, .ref q85, .int 0, .ref q86, .int 0, .int 0, .int 0, .int 0, .int 0, .int 0, .int 0, .int 0, .int 0, .int (-1 : Int32), .ref q87, .ref q88, .ref q89, .int 0, .int 0, .ref q90, .ref q91, .ref q92, .int 0, .int 0, .ref q93, .null, .null, .null, .null, .int 0, .null, .null, .int 0, .int 0, .null, .null, .int 0, .int 0, .null, .null, .null, .null, .int 0, .int 0, .int 0, .int 0, .null, .null, .null, .null, .null]) hC hR rfl (Nat.le_of_ble_eq_true rfl) iX12 tyX12_ok nmX12 m_1434 rfl (tyX12_ok _ (Nat.le_of_ble_eq_true rfl)) rfl rfl (Nat.le_of_ble_eq_true rfl) rfl dX12_init_285 ?_
  refine zi_aload0 (pc := 288) hC dX12_init_288 rfl ?_
  refine zi_bipush (pc := 289) (v := (12 : Int32)) hC dX12_init_289 (by decide) ?_
  refine zi_newa' (pc := 291) (N := 12) hC m_65 (by decide) (by decide) (Nat.le_of_ble_eq_true rfl) (Nat.le_of_ble_eq_true rfl) (Nat.le_of_ble_eq_true rfl) dX12_init_291 (fun q94 => ?_)
  refine zi_put (pc := 293) (ty := tyX12 40) (j := 40) (fs' := [.ref q70, .int 0, .ref q71, .ref q72, .ref q73, .ref q74, .ref q75, .ref q76, .ref q77, .ref q78, .ref q79, .ref q80, .ref q81, .ref q82, .ref q83, .ref q84, .ref q85, .int 0, .ref q86, .int 0, .int 0, .int 0, .int 0, .int 0, .int 0, .int 0, .int 0, .int 0, .int (-1 : Int32), .ref q87, .ref q88, .ref q89, .int 0, .int 0, .ref q90, .ref q91, .ref q92, .int 0, .int 0, .ref q93, .ref q94, .null, .null, .null, .int 0, .null, .null, .int 0, .int 0, .null, .null, .int 0, .int 0, .null, .null, .null, .null, .int 0, .int 0, .int 0, .int 0, .null, .null, .null, .null, .null]) hC hR rfl (Nat.le_of_ble_eq_true rfl) iX12 tyX12_ok nmX12 m_1435 rfl (tyX12_ok _ (Nat.le_of_ble_eq_true rfl)) rfl rfl (Nat.le_of_ble_eq_true rfl) rfl dX12_init_293 ?_
  refine zi_aload0 (pc := 296) hC dX12_init_296 rfl ?_
  refine zi_sipush (pc := 297) (v := (380 : Int32)) hC dX12_init_297 (by decide) ?_
  refine zi_newa' (pc := 300) (N := 380) hC m_65 (by decide) (by decide) (Nat.le_of_ble_eq_true rfl) (Nat.le_of_ble_eq_true rfl) (Nat.le_of_ble_eq_true rfl) dX12_init_300 (fun q95 => ?_)
  refine zi_put (pc := 302) (ty := tyX12 41) (j := 41) (fs' := [.ref q70, .int 0, .ref q71, .ref q72, .ref q73, .ref q74, .ref q75, .ref q76, .ref q77, .ref q78, .ref q79, .ref q80, .ref q81, .ref q82, .ref q83, .ref q84, .ref q85, .int 0, .ref q86, .int 0, .int 0, .int 0, .int 0, .int 0, .int 0, .int 0, .int 0, .int 0, .int (-1 : Int32), .ref q87, .ref q88, .ref q89, .int 0, .int 0, .ref q90, .ref q91, .ref q92, .int 0, .int 0, .ref q93, .ref q94, .ref q95, .null, .null, .int 0, .null, .null, .int 0, .int 0, .null, .null, .int 0, .int 0, .null, .null, .null, .null, .int 0, .int 0, .int 0, .int 0, .null, .null, .null, .null, .null]) hC hR rfl (Nat.le_of_ble_eq_true rfl) iX12 tyX12_ok nmX12 m_1436 rfl (tyX12_ok _ (Nat.le_of_ble_eq_true rfl)) rfl rfl (Nat.le_of_ble_eq_true rfl) rfl dX12_init_302 ?_
  refine zi_aload0 (pc := 305) hC dX12_init_305 rfl ?_
  refine zi_iconst (pc := 306) (v := (3 : Int32)) hC dX12_init_306 (by decide) ?_
  refine zi_newa' (pc := 307) (N := 3) hC m_65 (by decide) (by decide) (Nat.le_of_ble_eq_true rfl) (Nat.le_of_ble_eq_true rfl) (Nat.le_of_ble_eq_true rfl) dX12_init_307 (fun q96 => ?_)
  refine zi_put (pc := 309) (ty := tyX12 42) (j := 42) (fs' := [.ref q70, .int 0, .ref q71, .ref q72, .ref q73, .ref q74, .ref q75, .ref q76, .ref q77, .ref q78, .ref q79, .ref q80, .ref q81, .ref q82, .ref q83, .ref q84, .ref q85, .int 0, .ref q86, .int 0, .int 0, .int 0, .int 0, .int 0, .int 0, .int 0, .int 0, .int 0, .int (-1 : Int32), .ref q87, .ref q88, .ref q89, .int 0, .int 0, .ref q90, .ref q91, .ref q92, .int 0, .int 0, .ref q93, .ref q94, .ref q95, .ref q96, .null, .int 0, .null, .null, .int 0, .int 0, .null, .null, .int 0, .int 0, .null, .null, .null, .null, .int 0, .int 0, .int 0, .int 0, .null, .null, .null, .null, .null]) hC hR rfl (Nat.le_of_ble_eq_true rfl) iX12 tyX12_ok nmX12 m_1437 rfl (tyX12_ok _ (Nat.le_of_ble_eq_true rfl)) rfl rfl (Nat.le_of_ble_eq_true rfl) rfl dX12_init_309 ?_
  refine zi_aload0 (pc := 312) hC dX12_init_312 rfl ?_
  refine zi_iconst (pc := 313) (v := (3 : Int32)) hC dX12_init_313 (by decide) ?_
  refine zi_newa' (pc := 314) (N := 3) hC m_65 (by decide) (by decide) (Nat.le_of_ble_eq_true rfl) (Nat.le_of_ble_eq_true rfl) (Nat.le_of_ble_eq_true rfl) dX12_init_314 (fun q97 => ?_)
  refine zi_put (pc := 316) (ty := tyX12 43) (j := 43) (fs' := [.ref q70, .int 0, .ref q71, .ref q72, .ref q73, .ref q74, .ref q75, .ref q76, .ref q77, .ref q78, .ref q79, .ref q80, .ref q81, .ref q82, .ref q83, .ref q84, .ref q85, .int 0, .ref q86, .int 0, .int 0, .int 0, .int 0, .int 0, .int 0, .int 0, .int 0, .int 0, .int (-1 : Int32), .ref q87, .ref q88, .ref q89, .int 0, .int 0, .ref q90, .ref q91, .ref q92, .int 0, .int 0, .ref q93, .ref q94, .ref q95, .ref q96, .ref q97, .int 0, .null, .null, .int 0, .int 0, .null, .null, .int 0, .int 0, .null, .null, .null, .null, .int 0, .int 0, .int 0, .int 0, .null, .null, .null, .null, .null]) hC hR rfl (Nat.le_of_ble_eq_true rfl) iX12 tyX12_ok nmX12 m_1438 rfl (tyX12_ok _ (Nat.le_of_ble_eq_true rfl)) rfl rfl (Nat.le_of_ble_eq_true rfl) rfl dX12_init_316 ?_
  refine zi_aload0 (pc := 319) hC dX12_init_319 rfl ?_
  refine zi_iconst (pc := 320) (v := (-1 : Int32)) hC dX12_init_320 (by decide) ?_
  refine zi_put (pc := 321) (ty := tyX12 44) (j := 44) (fs' := [.ref q70, .int 0, .ref q71, .ref q72, .ref q73, .ref q74, .ref q75, .ref q76, .ref q77, .ref q78, .ref q79, .ref q80, .ref q81, .ref q82, .ref q83, .ref q84, .ref q85, .int 0, .ref q86, .int 0, .int 0, .int 0, .int 0, .int 0, .int 0, .int 0, .int 0, .int 0, .int (-1 : Int32), .ref q87, .ref q88, .ref q89, .int 0, .int 0, .ref q90, .ref q91, .ref q92, .int 0, .int 0, .ref q93, .ref q94, .ref q95, .ref q96, .ref q97, .int (-1 : Int32), .null, .null, .int 0, .int 0, .null, .null, .int 0, .int 0, .null, .null, .null, .null, .int 0, .int 0, .int 0, .int 0, .null, .null, .null, .null, .null]) hC hR rfl (Nat.le_of_ble_eq_true rfl) iX12 tyX12_ok nmX12 m_1439 rfl (tyX12_ok _ (Nat.le_of_ble_eq_true rfl)) rfl rfl (Nat.le_of_ble_eq_true rfl) rfl dX12_init_321 ?_
  refine zi_aload0 (pc := 324) hC dX12_init_324 rfl ?_
  refine zi_bipush (pc := 325) (v := (12 : Int32)) hC dX12_init_325 (by decide) ?_
  refine zi_newa' (pc := 327) (N := 12) hC m_65 (by decide) (by decide) (Nat.le_of_ble_eq_true rfl) (Nat.le_of_ble_eq_true rfl) (Nat.le_of_ble_eq_true rfl) dX12_init_327 (fun q98 => ?_)
  refine zi_put (pc := 329) (ty := tyX12 45) (j := 45) (fs' := [.ref q70, .int 0, .ref q71, .ref q72, .ref q73, .ref q74, .ref q75, .ref q76, .ref q77, .ref q78, .ref q79, .ref q80, .ref q81, .ref q82, .ref q83, .ref q84, .ref q85, .int 0, .ref q86, .int 0, .int 0, .int 0, .int 0, .int 0, .int 0, .int 0, .int 0, .int 0, .int (-1 : Int32), .ref q87, .ref q88, .ref q89, .int 0, .int 0, .ref q90, .ref q91, .ref q92, .int 0, .int 0, .ref q93, .ref q94, .ref q95, .ref q96, .ref q97, .int (-1 : Int32), .ref q98, .null, .int 0, .int 0, .null, .null, .int 0, .int 0, .null, .null, .null, .null, .int 0, .int 0, .int 0, .int 0, .null, .null, .null, .null, .null]) hC hR rfl (Nat.le_of_ble_eq_true rfl) iX12 tyX12_ok nmX12 m_1440 rfl (tyX12_ok _ (Nat.le_of_ble_eq_true rfl)) rfl rfl (Nat.le_of_ble_eq_true rfl) rfl dX12_init_329 ?_
  refine zi_aload0 (pc := 332) hC dX12_init_332 rfl ?_
  refine zi_bipush (pc := 333) (v := (12 : Int32)) hC dX12_init_333 (by decide) ?_
  refine zi_newa' (pc := 335) (N := 12) hC m_65 (by decide) (by decide) (Nat.le_of_ble_eq_true rfl) (Nat.le_of_ble_eq_true rfl) (Nat.le_of_ble_eq_true rfl) dX12_init_335 (fun q99 => ?_)
  refine zi_put (pc := 337) (ty := tyX12 46) (j := 46) (fs' := [.ref q70, .int 0, .ref q71, .ref q72, .ref q73, .ref q74, .ref q75, .ref q76, .ref q77, .ref q78, .ref q79, .ref q80, .ref q81, .ref q82, .ref q83, .ref q84, .ref q85, .int 0, .ref q86, .int 0, .int 0, .int 0, .int 0, .int 0, .int 0, .int 0, .int 0, .int 0, .int (-1 : Int32), .ref q87, .ref q88, .ref q89, .int 0, .int 0, .ref q90, .ref q91, .ref q92, .int 0, .int 0, .ref q93, .ref q94, .ref q95, .ref q96, .ref q97, .int (-1 : Int32), .ref q98, .ref q99, .int 0, .int 0, .null, .null, .int 0, .int 0, .null, .null, .null, .null, .int 0, .int 0, .int 0, .int 0, .null, .null, .null, .null, .null]) hC hR rfl (Nat.le_of_ble_eq_true rfl) iX12 tyX12_ok nmX12 m_1441 rfl (tyX12_ok _ (Nat.le_of_ble_eq_true rfl)) rfl rfl (Nat.le_of_ble_eq_true rfl) rfl dX12_init_337 ?_
  refine zi_aload0 (pc := 340) hC dX12_init_340 rfl ?_
  refine zi_bipush (pc := 341) (v := (7 : Int32)) hC dX12_init_341 (by decide) ?_
  refine zi_newa' (pc := 343) (N := 7) hC m_65 (by decide) (by decide) (Nat.le_of_ble_eq_true rfl) (Nat.le_of_ble_eq_true rfl) (Nat.le_of_ble_eq_true rfl) dX12_init_343 (fun q100 => ?_)
  refine zi_put (pc := 345) (ty := tyX12 49) (j := 49) (fs' := [.ref q70, .int 0, .ref q71, .ref q72, .ref q73, .ref q74, .ref q75, .ref q76, .ref q77, .ref q78, .ref q79, .ref q80, .ref q81, .ref q82, .ref q83, .ref q84, .ref q85, .int 0, .ref q86, .int 0, .int 0, .int 0, .int 0, .int 0, .int 0, .int 0, .int 0, .int 0, .int (-1 : Int32), .ref q87, .ref q88, .ref q89, .int 0, .int 0, .ref q90, .ref q91, .ref q92, .int 0, .int 0, .ref q93, .ref q94, .ref q95, .ref q96, .ref q97, .int (-1 : Int32), .ref q98, .ref q99, .int 0, .int 0, .ref q100, .null, .int 0, .int 0, .null, .null, .null, .null, .int 0, .int 0, .int 0, .int 0, .null, .null, .null, .null, .null]) hC hR rfl (Nat.le_of_ble_eq_true rfl) iX12 tyX12_ok nmX12 m_1444 rfl (tyX12_ok _ (Nat.le_of_ble_eq_true rfl)) rfl rfl (Nat.le_of_ble_eq_true rfl) rfl dX12_init_345 ?_
  refine zi_aload0 (pc := 348) hC dX12_init_348 rfl ?_
  refine zi_bipush (pc := 349) (v := (7 : Int32)) hC dX12_init_349 (by decide) ?_
  refine zi_newa' (pc := 351) (N := 7) hC m_65 (by decide) (by decide) (Nat.le_of_ble_eq_true rfl) (Nat.le_of_ble_eq_true rfl) (Nat.le_of_ble_eq_true rfl) dX12_init_351 (fun q101 => ?_)
  refine zi_put (pc := 353) (ty := tyX12 50) (j := 50) (fs' := [.ref q70, .int 0, .ref q71, .ref q72, .ref q73, .ref q74, .ref q75, .ref q76, .ref q77, .ref q78, .ref q79, .ref q80, .ref q81, .ref q82, .ref q83, .ref q84, .ref q85, .int 0, .ref q86, .int 0, .int 0, .int 0, .int 0, .int 0, .int 0, .int 0, .int 0, .int 0, .int (-1 : Int32), .ref q87, .ref q88, .ref q89, .int 0, .int 0, .ref q90, .ref q91, .ref q92, .int 0, .int 0, .ref q93, .ref q94, .ref q95, .ref q96, .ref q97, .int (-1 : Int32), .ref q98, .ref q99, .int 0, .int 0, .ref q100, .ref q101, .int 0, .int 0, .null, .null, .null, .null, .int 0, .int 0, .int 0, .int 0, .null, .null, .null, .null, .null]) hC hR rfl (Nat.le_of_ble_eq_true rfl) iX12 tyX12_ok nmX12 m_1445 rfl (tyX12_ok _ (Nat.le_of_ble_eq_true rfl)) rfl rfl (Nat.le_of_ble_eq_true rfl) rfl dX12_init_353 ?_
  refine zi_aload0 (pc := 356) hC dX12_init_356 rfl ?_
  refine zi_iconst (pc := 357) (v := (-1 : Int32)) hC dX12_init_357 (by decide) ?_
  refine zi_put (pc := 358) (ty := tyX12 51) (j := 51) (fs' := [.ref q70, .int 0, .ref q71, .ref q72, .ref q73, .ref q74, .ref q75, .ref q76, .ref q77, .ref q78, .ref q79, .ref q80, .ref q81, .ref q82, .ref q83, .ref q84, .ref q85, .int 0, .ref q86, .int 0, .int 0, .int 0, .int 0, .int 0, .int 0, .int 0, .int 0, .int 0, .int (-1 : Int32), .ref q87, .ref q88, .ref q89, .int 0, .int 0, .ref q90, .ref q91, .ref q92, .int 0, .int 0, .ref q93, .ref q94, .ref q95, .ref q96, .ref q97, .int (-1 : Int32), .ref q98, .ref q99, .int 0, .int 0, .ref q100, .ref q101, .int (-1 : Int32), .int 0, .null, .null, .null, .null, .int 0, .int 0, .int 0, .int 0, .null, .null, .null, .null, .null]) hC hR rfl (Nat.le_of_ble_eq_true rfl) iX12 tyX12_ok nmX12 m_1446 rfl (tyX12_ok _ (Nat.le_of_ble_eq_true rfl)) rfl rfl (Nat.le_of_ble_eq_true rfl) rfl dX12_init_358 ?_
  refine zi_aload0 (pc := 361) hC dX12_init_361 rfl ?_
  refine zi_iconst (pc := 362) (v := (4 : Int32)) hC dX12_init_362 (by decide) ?_
  refine zi_newa' (pc := 363) (N := 4) hC m_65 (by decide) (by decide) (Nat.le_of_ble_eq_true rfl) (Nat.le_of_ble_eq_true rfl) (Nat.le_of_ble_eq_true rfl) dX12_init_363 (fun q102 => ?_)
  refine zi_put (pc := 365) (ty := tyX12 53) (j := 53) (fs' := [.ref q70, .int 0, .ref q71, .ref q72, .ref q73, .ref q74, .ref q75, .ref q76, .ref q77, .ref q78, .ref q79, .ref q80, .ref q81, .ref q82, .ref q83, .ref q84, .ref q85, .int 0, .ref q86, .int 0, .int 0, .int 0, .int 0, .int 0, .int 0, .int 0, .int 0, .int 0, .int (-1 : Int32), .ref q87, .ref q88, .ref q89, .int 0, .int 0, .ref q90, .ref q91, .ref q92, .int 0, .int 0, .ref q93, .ref q94, .ref q95, .ref q96, .ref q97, .int (-1 : Int32), .ref q98, .ref q99, .int 0, .int 0, .ref q100, .ref q101, .int (-1 : Int32), .int 0, .ref q102, .null, .null, .null, .int 0, .int 0, .int 0, .int 0, .null, .null, .null, .null, .null]) hC hR rfl (Nat.le_of_ble_eq_true rfl) iX12 tyX12_ok nmX12 m_1448 rfl (tyX12_ok _ (Nat.le_of_ble_eq_true rfl)) rfl rfl (Nat.le_of_ble_eq_true rfl) rfl dX12_init_365 ?_
  refine zi_aload0 (pc := 368) hC dX12_init_368 rfl ?_
  refine zi_iconst (pc := 369) (v := (4 : Int32)) hC dX12_init_369 (by decide) ?_
  refine zi_newa' (pc := 370) (N := 4) hC m_65 (by decide) (by decide) (Nat.le_of_ble_eq_true rfl) (Nat.le_of_ble_eq_true rfl) (Nat.le_of_ble_eq_true rfl) dX12_init_370 (fun q103 => ?_)
  refine zi_put (pc := 372) (ty := tyX12 54) (j := 54) (fs' := [.ref q70, .int 0, .ref q71, .ref q72, .ref q73, .ref q74, .ref q75, .ref q76, .ref q77, .ref q78, .ref q79, .ref q80, .ref q81, .ref q82, .ref q83, .ref q84, .ref q85, .int 0, .ref q86, .int 0, .int 0, .int 0, .int 0, .int 0, .int 0, .int 0, .int 0, .int 0, .int (-1 : Int32), .ref q87, .ref q88, .ref q89, .int 0, .int 0, .ref q90, .ref q91, .ref q92, .int 0, .int 0, .ref q93, .ref q94, .ref q95, .ref q96, .ref q97, .int (-1 : Int32), .ref q98, .ref q99, .int 0, .int 0, .ref q100, .ref q101, .int (-1 : Int32), .int 0, .ref q102, .ref q103, .null, .null, .int 0, .int 0, .int 0, .int 0, .null, .null, .null, .null, .null]) hC hR rfl (Nat.le_of_ble_eq_true rfl) iX12 tyX12_ok nmX12 m_1449 rfl (tyX12_ok _ (Nat.le_of_ble_eq_true rfl)) rfl rfl (Nat.le_of_ble_eq_true rfl) rfl dX12_init_372 ?_
  refine zi_aload0 (pc := 375) hC dX12_init_375 rfl ?_
  refine zi_bipush (pc := 376) (v := (12 : Int32)) hC dX12_init_376 (by decide) ?_
  refine zi_newa' (pc := 378) (N := 12) hC m_65 (by decide) (by decide) (Nat.le_of_ble_eq_true rfl) (Nat.le_of_ble_eq_true rfl) (Nat.le_of_ble_eq_true rfl) dX12_init_378 (fun q104 => ?_)
  refine zi_put (pc := 380) (ty := tyX12 55) (j := 55) (fs' := [.ref q70, .int 0, .ref q71, .ref q72, .ref q73, .ref q74, .ref q75, .ref q76, .ref q77, .ref q78, .ref q79, .ref q80, .ref q81, .ref q82, .ref q83, .ref q84, .ref q85, .int 0, .ref q86, .int 0, .int 0, .int 0, .int 0, .int 0, .int 0, .int 0, .int 0, .int 0, .int (-1 : Int32), .ref q87, .ref q88, .ref q89, .int 0, .int 0, .ref q90, .ref q91, .ref q92, .int 0, .int 0, .ref q93, .ref q94, .ref q95, .ref q96, .ref q97, .int (-1 : Int32), .ref q98, .ref q99, .int 0, .int 0, .ref q100, .ref q101, .int (-1 : Int32), .int 0, .ref q102, .ref q103, .ref q104, .null, .int 0, .int 0, .int 0, .int 0, .null, .null, .null, .null, .null]) hC hR rfl (Nat.le_of_ble_eq_true rfl) iX12 tyX12_ok nmX12 m_1450 rfl (tyX12_ok _ (Nat.le_of_ble_eq_true rfl)) rfl rfl (Nat.le_of_ble_eq_true rfl) rfl dX12_init_380 ?_
  refine zi_aload0 (pc := 383) hC dX12_init_383 rfl ?_
  refine zi_bipush (pc := 384) (v := (95 : Int32)) hC dX12_init_384 (by decide) ?_
  refine zi_newa' (pc := 386) (N := 95) hC m_65 (by decide) (by decide) (Nat.le_of_ble_eq_true rfl) (Nat.le_of_ble_eq_true rfl) (Nat.le_of_ble_eq_true rfl) dX12_init_386 (fun q105 => ?_)
  refine zi_put (pc := 388) (ty := tyX12 56) (j := 56) (fs' := [.ref q70, .int 0, .ref q71, .ref q72, .ref q73, .ref q74, .ref q75, .ref q76, .ref q77, .ref q78, .ref q79, .ref q80, .ref q81, .ref q82, .ref q83, .ref q84, .ref q85, .int 0, .ref q86, .int 0, .int 0, .int 0, .int 0, .int 0, .int 0, .int 0, .int 0, .int 0, .int (-1 : Int32), .ref q87, .ref q88, .ref q89, .int 0, .int 0, .ref q90, .ref q91, .ref q92, .int 0, .int 0, .ref q93, .ref q94, .ref q95, .ref q96, .ref q97, .int (-1 : Int32), .ref q98, .ref q99, .int 0, .int 0, .ref q100, .ref q101, .int (-1 : Int32), .int 0, .ref q102, .ref q103, .ref q104, .ref q105, .int 0, .int 0, .int 0, .int 0, .null, .null, .null, .null, .null]) hC hR rfl (Nat.le_of_ble_eq_true rfl) iX12 tyX12_ok nmX12 m_1451 rfl (tyX12_ok _ (Nat.le_of_ble_eq_true rfl)) rfl rfl (Nat.le_of_ble_eq_true rfl) rfl dX12_init_388 ?_
  refine zi_aload0 (pc := 391) hC dX12_init_391 rfl ?_
  refine zi_bipush (pc := 392) (v := (95 : Int32)) hC dX12_init_392 (by decide) ?_
  refine zi_newa' (pc := 394) (N := 95) hC m_65 (by decide) (by decide) (Nat.le_of_ble_eq_true rfl) (Nat.le_of_ble_eq_true rfl) (Nat.le_of_ble_eq_true rfl) dX12_init_394 (fun q106 => ?_)
  refine zi_put (pc := 396) (ty := tyX12 61) (j := 61) (fs' := [.ref q70, .int 0, .ref q71, .ref q72, .ref q73, .ref q74, .ref q75, .ref q76, .ref q77, .ref q78, .ref q79, .ref q80, .ref q81, .ref q82, .ref q83, .ref q84, .ref q85, .int 0, .ref q86, .int 0, .int 0, .int 0, .int 0, .int 0, .int 0, .int 0, .int 0, .int 0, .int (-1 : Int32), .ref q87, .ref q88, .ref q89, .int 0, .int 0, .ref q90, .ref q91, .ref q92, .int 0, .int 0, .ref q93, .ref q94, .ref q95, .ref q96, .ref q97, .int (-1 : Int32), .ref q98, .ref q99, .int 0, .int 0, .ref q100, .ref q101, .int (-1 : Int32), .int 0, .ref q102, .ref q103, .ref q104, .ref q105, .int 0, .int 0, .int 0, .int 0, .ref q106, .null, .null, .null, .null]) hC hR rfl (Nat.le_of_ble_eq_true rfl) iX12 tyX12_ok nmX12 m_1456 rfl (tyX12_ok _ (Nat.le_of_ble_eq_true rfl)) rfl rfl (Nat.le_of_ble_eq_true rfl) rfl dX12_init_396 ?_
  refine zi_aload0 (pc := 399) hC dX12_init_399 rfl ?_
  refine zi_sipush (pc := 400) (v := (3800 : Int32)) hC dX12_init_400 (by decide) ?_
  refine zi_newa' (pc := 403) (N := 3800) hC m_65 (by decide) (by decide) (Nat.le_of_ble_eq_true rfl) (Nat.le_of_ble_eq_true rfl) (Nat.le_of_ble_eq_true rfl) dX12_init_403 (fun q107 => ?_)
  refine zi_put (pc := 405) (ty := tyX12 62) (j := 62) (fs' := [.ref q70, .int 0, .ref q71, .ref q72, .ref q73, .ref q74, .ref q75, .ref q76, .ref q77, .ref q78, .ref q79, .ref q80, .ref q81, .ref q82, .ref q83, .ref q84, .ref q85, .int 0, .ref q86, .int 0, .int 0, .int 0, .int 0, .int 0, .int 0, .int 0, .int 0, .int 0, .int (-1 : Int32), .ref q87, .ref q88, .ref q89, .int 0, .int 0, .ref q90, .ref q91, .ref q92, .int 0, .int 0, .ref q93, .ref q94, .ref q95, .ref q96, .ref q97, .int (-1 : Int32), .ref q98, .ref q99, .int 0, .int 0, .ref q100, .ref q101, .int (-1 : Int32), .int 0, .ref q102, .ref q103, .ref q104, .ref q105, .int 0, .int 0, .int 0, .int 0, .ref q106, .ref q107, .null, .null, .null]) hC hR rfl (Nat.le_of_ble_eq_true rfl) iX12 tyX12_ok nmX12 m_1457 rfl (tyX12_ok _ (Nat.le_of_ble_eq_true rfl)) rfl rfl (Nat.le_of_ble_eq_true rfl) rfl dX12_init_405 ?_
  refine zi_aload0 (pc := 408) hC dX12_init_408 rfl ?_
  refine zi_iconst (pc := 409) (v := (4 : Int32)) hC dX12_init_409 (by decide) ?_
  refine zi_newa' (pc := 410) (N := 4) hC m_65 (by decide) (by decide) (Nat.le_of_ble_eq_true rfl) (Nat.le_of_ble_eq_true rfl) (Nat.le_of_ble_eq_true rfl) dX12_init_410 (fun q108 => ?_)
  refine zi_put (pc := 412) (ty := tyX12 63) (j := 63) (fs' := [.ref q70, .int 0, .ref q71, .ref q72, .ref q73, .ref q74, .ref q75, .ref q76, .ref q77, .ref q78, .ref q79, .ref q80, .ref q81, .ref q82, .ref q83, .ref q84, .ref q85, .int 0, .ref q86, .int 0, .int 0, .int 0, .int 0, .int 0, .int 0, .int 0, .int 0, .int 0, .int (-1 : Int32), .ref q87, .ref q88, .ref q89, .int 0, .int 0, .ref q90, .ref q91, .ref q92, .int 0, .int 0, .ref q93, .ref q94, .ref q95, .ref q96, .ref q97, .int (-1 : Int32), .ref q98, .ref q99, .int 0, .int 0, .ref q100, .ref q101, .int (-1 : Int32), .int 0, .ref q102, .ref q103, .ref q104, .ref q105, .int 0, .int 0, .int 0, .int 0, .ref q106, .ref q107, .ref q108, .null, .null]) hC hR rfl (Nat.le_of_ble_eq_true rfl) iX12 tyX12_ok nmX12 m_1458 rfl (tyX12_ok _ (Nat.le_of_ble_eq_true rfl)) rfl rfl (Nat.le_of_ble_eq_true rfl) rfl dX12_init_412 ?_
  refine zi_aload0 (pc := 415) hC dX12_init_415 rfl ?_
  refine zi_iconst (pc := 416) (v := (4 : Int32)) hC dX12_init_416 (by decide) ?_
  refine zi_newa' (pc := 417) (N := 4) hC m_65 (by decide) (by decide) (Nat.le_of_ble_eq_true rfl) (Nat.le_of_ble_eq_true rfl) (Nat.le_of_ble_eq_true rfl) dX12_init_417 (fun q109 => ?_)
  refine zi_put (pc := 419) (ty := tyX12 64) (j := 64) (fs' := [.ref q70, .int 0, .ref q71, .ref q72, .ref q73, .ref q74, .ref q75, .ref q76, .ref q77, .ref q78, .ref q79, .ref q80, .ref q81, .ref q82, .ref q83, .ref q84, .ref q85, .int 0, .ref q86, .int 0, .int 0, .int 0, .int 0, .int 0, .int 0, .int 0, .int 0, .int 0, .int (-1 : Int32), .ref q87, .ref q88, .ref q89, .int 0, .int 0, .ref q90, .ref q91, .ref q92, .int 0, .int 0, .ref q93, .ref q94, .ref q95, .ref q96, .ref q97, .int (-1 : Int32), .ref q98, .ref q99, .int 0, .int 0, .ref q100, .ref q101, .int (-1 : Int32), .int 0, .ref q102, .ref q103, .ref q104, .ref q105, .int 0, .int 0, .int 0, .int 0, .ref q106, .ref q107, .ref q108, .ref q109, .null]) hC hR rfl (Nat.le_of_ble_eq_true rfl) iX12 tyX12_ok nmX12 m_1459 rfl (tyX12_ok _ (Nat.le_of_ble_eq_true rfl)) rfl rfl (Nat.le_of_ble_eq_true rfl) rfl dX12_init_419 ?_
  refine zi_aload0 (pc := 422) hC dX12_init_422 rfl ?_
  refine zi_iconst (pc := 423) (v := (3 : Int32)) hC dX12_init_423 (by decide) ?_
  refine zi_newa' (pc := 424) (N := 3) hC m_65 (by decide) (by decide) (Nat.le_of_ble_eq_true rfl) (Nat.le_of_ble_eq_true rfl) (Nat.le_of_ble_eq_true rfl) dX12_init_424 (fun q110 => ?_)
  refine zi_put (pc := 426) (ty := tyX12 65) (j := 65) (fs' := [.ref q70, .int 0, .ref q71, .ref q72, .ref q73, .ref q74, .ref q75, .ref q76, .ref q77, .ref q78, .ref q79, .ref q80, .ref q81, .ref q82, .ref q83, .ref q84, .ref q85, .int 0, .ref q86, .int 0, .int 0, .int 0, .int 0, .int 0, .int 0, .int 0, .int 0, .int 0, .int (-1 : Int32), .ref q87, .ref q88, .ref q89, .int 0, .int 0, .ref q90, .ref q91, .ref q92, .int 0, .int 0, .ref q93, .ref q94, .ref q95, .ref q96, .ref q97, .int (-1 : Int32), .ref q98, .ref q99, .int 0, .int 0, .ref q100, .ref q101, .int (-1 : Int32), .int 0, .ref q102, .ref q103, .ref q104, .ref q105, .int 0, .int 0, .int 0, .int 0, .ref q106, .ref q107, .ref q108, .ref q109, .ref q110]) hC hR rfl (Nat.le_of_ble_eq_true rfl) iX12 tyX12_ok nmX12 m_1460 rfl (tyX12_ok _ (Nat.le_of_ble_eq_true rfl)) rfl rfl (Nat.le_of_ble_eq_true rfl) rfl dX12_init_426 ?_
  generalize ha9 : (fun k : Nat => if k < 70 then h0 else if k < 71 then q70 else if k < 72 then q71 else if k < 73 then q72 else if k < 74 then q73 else if k < 75 then q74 else if k < 76 then q75 else if k < 77 then q76 else if k < 78 then q77 else if k < 79 then q78 else if k < 80 then q79 else if k < 81 then q80 else if k < 82 then q81 else if k < 83 then q82 else if k < 84 then q83 else if k < 85 then q84 else if k < 86 then q85 else if k < 87 then q86 else if k < 88 then q87 else if k < 89 then q88 else if k < 90 then q89 else if k < 91 then q90 else if k < 92 then q91 else if k < 93 then q92 else if k < 94 then q93 else if k < 95 then q94 else if k < 96 then q95 else if k < 97 then q96 else if k < 98 then q97 else if k < 99 then q98 else if k < 100 then q99 else if k < 101 then q100 else if k < 102 then q101 else if k < 103 then q102 else if k < 104 then q103 else if k < 105 then q104 else if k < 106 then q105 else if k < 107 then q106 else if k < 108 then q107 else if k < 109 then q108 else if k < 110 then q109 else if k < 111 then q110 else X_ad X k) = a9
  have hst9 : ∀ k, 1000 ≤ k → a9 k = X_ad X k := by
    intro k hk
    rw [← ha9]
    simp only []
    rw [if_neg (by omega), if_neg (by omega), if_neg (by omega), if_neg (by omega), if_neg (by omega), if_neg (by omega), if_neg (by omega), if_neg (by omega), if_neg (by omega), if_neg (by omega), if_neg (by omega), if_neg (by omega), if_neg (by omega), if_neg (by omega), if_neg (by omega), if_neg (by omega), if_neg (by omega), if_neg (by omega), if_neg (by omega), if_neg (by omega), if_neg (by omega), if_neg (by omega), if_neg (by omega), if_neg (by omega), if_neg (by omega), if_neg (by omega), if_neg (by omega), if_neg (by omega), if_neg (by omega), if_neg (by omega), if_neg (by omega), if_neg (by omega), if_neg (by omega), if_neg (by omega), if_neg (by omega), if_neg (by omega), if_neg (by omega), if_neg (by omega), if_neg (by omega), if_neg (by omega), if_neg (by omega), if_neg (by omega)]
  exact zi_ret (pc := 429) (a := a9) hC hR hA (by rw [← ha9]; rfl) hst9 (ct_cons (L := ((((((((((((((((((((((((((((((((((((((((([] ++ [70]) ++ [71]) ++ [72]) ++ [73]) ++ [74]) ++ [75]) ++ [76]) ++ [77]) ++ [78]) ++ [79]) ++ [80]) ++ [81]) ++ [82]) ++ [83]) ++ [84]) ++ [85]) ++ [86]) ++ [87]) ++ [88]) ++ [89]) ++ [90]) ++ [91]) ++ [92]) ++ [93]) ++ [94]) ++ [95]) ++ [96]) ++ [97]) ++ [98]) ++ [99]) ++ [100]) ++ [101]) ++ [102]) ++ [103]) ++ [104]) ++ [105]) ++ [106]) ++ [107]) ++ [108]) ++ [109]) ++ [110])) lay_69 (by rw [← ha9]; rfl) (by rw [← ha9]; rfl) (by decide +kernel) (ct_app (ct_app (ct_app (ct_app (ct_app (ct_app (ct_app (ct_app (ct_app (ct_app (ct_app (ct_app (ct_app (ct_app (ct_app (ct_app (ct_app (ct_app (ct_app (ct_app (ct_app (ct_app (ct_app (ct_app (ct_app (ct_app (ct_app (ct_app (ct_app (ct_app (ct_app (ct_app (ct_app (ct_app (ct_app (ct_app (ct_app (ct_app (ct_app (ct_app (ct_app rfl (ct_str lay_70 (by rw [← ha9]; rfl) rfl (fun r hr => hst9 r (str_ge r hr)))) (ct_arr lay_71 (by rw [← ha9]; rfl) rfl)) (ct_arr lay_72 (by rw [← ha9]; rfl) rfl)) (ct_arr lay_73 (by rw [← ha9]; rfl) rfl)) (ct_arr lay_74 (by rw [← ha9]; rfl) rfl)) (ct_arr lay_75 (by rw [← ha9]; rfl) rfl)) (ct_arr lay_76 (by rw [← ha9]; rfl) rfl)) (ct_arr lay_77 (by rw [← ha9]; rfl) rfl)) (ct_arr lay_78 (by rw [← ha9]; rfl) rfl)) (ct_arr lay_79 (by rw [← ha9]; rfl) rfl)) (ct_arr lay_80 (by rw [← ha9]; rfl) rfl)) (ct_arr lay_81 (by rw [← ha9]; rfl) rfl)) (ct_arr lay_82 (by rw [← ha9]; rfl) rfl)) (ct_arr lay_83 (by rw [← ha9]; rfl) rfl)) (ct_arr lay_84 (by rw [← ha9]; rfl) rfl)) (ct_arr lay_85 (by rw [← ha9]; rfl) rfl)) (ct_arr lay_86 (by rw [← ha9]; rfl) rfl)) (ct_arr lay_87 (by rw [← ha9]; rfl) rfl)) (ct_arr lay_88 (by rw [← ha9]; rfl) rfl)) (ct_arr lay_89 (by rw [← ha9]; rfl) rfl)) (ct_arr lay_90 (by rw [← ha9]; rfl) rfl)) (ct_arr lay_91 (by rw [← ha9]; rfl) rfl)) (ct_arr lay_92 (by rw [← ha9]; rfl) rfl)) (ct_arr lay_93 (by rw [← ha9]; rfl) rfl)) (ct_arr lay_94 (by rw [← ha9]; rfl) rfl)) (ct_arr lay_95 (by rw [← ha9]; rfl) rfl)) (ct_arr lay_96 (by rw [← ha9]; rfl) rfl)) (ct_arr lay_97 (by rw [← ha9]; rfl) rfl)) (ct_arr lay_98 (by rw [← ha9]; rfl) rfl)) (ct_arr lay_99 (by rw [← ha9]; rfl) rfl)) (ct_arr lay_100 (by rw [← ha9]; rfl) rfl)) (ct_arr lay_101 (by rw [← ha9]; rfl) rfl)) (ct_arr lay_102 (by rw [← ha9]; rfl) rfl)) (ct_arr lay_103 (by rw [← ha9]; rfl) rfl)) (ct_arr lay_104 (by rw [← ha9]; rfl) rfl)) (ct_arr lay_105 (by rw [← ha9]; rfl) rfl)) (ct_arr lay_106 (by rw [← ha9]; rfl) rfl)) (ct_arr lay_107 (by rw [← ha9]; rfl) rfl)) (ct_arr lay_108 (by rw [← ha9]; rfl) rfl)) (ct_arr lay_109 (by rw [← ha9]; rfl) rfl)) (ct_arr lay_110 (by rw [← ha9]; rfl) rfl))) dX12_init_429
set_option maxRecDepth 100000 in
set_option maxHeartbeats 4000000 in
theorem ci_3 (l : Launch) (h0 : Nat) : CI l yX4_init cX4_init 1 2 10 966 h0 3 11 4 [.int 0, .null, .null, .null, .int 0, .null, .int 0, .null, .null, .null, .int 0, .null] := by
  refine ci_of (by decide) (by decide) (Nat.le_of_ble_eq_true rfl) (fun X hC hR hl hN hA => ?_)
  show Zi X _ 0 0 ((h0, .inr (4, [.int 0, .null, .null, .null, .int 0, .null, .int 0, .null, .null, .null, .int 0, .null])) :: []) 0 [(0, .ref h0)] []
  refine zi_aload0 (pc := 0) hC dX4_init_0 rfl ?_
  refine zi_obj (pc := 1) hC m_44 m_31 m_32 ⟨(Nat.le_of_ble_eq_true rfl), (Nat.le_of_ble_eq_true rfl)⟩ dX4_init_1 ?_
  refine zi_aload0 (pc := 4) hC dX4_init_4 rfl ?_
  refine zi_iconst (pc := 5) (v := (0 : Int32)) hC dX4_init_5 (by decide) ?_
  refine zi_put (pc := 6) (ty := tyX4 0) (j := 0) (fs' := [.int (0 : Int32), .null, .null, .null, .int 0, .null, .int 0, .null, .null, .null, .int 0, .null]) hC hR rfl (Nat.le_of_ble_eq_true rfl) iX4 tyX4_ok nmX4 m_66 rfl (tyX4_ok _ (Nat.le_of_ble_eq_true rfl)) rfl rfl (Nat.le_of_ble_eq_true rfl) rfl dX4_init_6 ?_
  refine zi_aload0 (pc := 9) hC dX4_init_9 rfl ?_
  refine zi_bipush (pc := 10) (v := (12 : Int32)) hC dX4_init_10 (by decide) ?_
  refine zi_newa' (pc := 12) (N := 12) hC m_65 (by decide) (by decide) (Nat.le_of_ble_eq_true rfl) (Nat.le_of_ble_eq_true rfl) (Nat.le_of_ble_eq_true rfl) dX4_init_12 (fun q4 => ?_)
  refine zi_put (pc := 14) (ty := tyX4 1) (j := 1) (fs' := [.int (0 : Int32), .ref q4, .null, .null, .int 0, .null, .int 0, .null, .null, .null, .int 0, .null]) hC hR rfl (Nat.le_of_ble_eq_true rfl) iX4 tyX4_ok nmX4 m_72 rfl (tyX4_ok _ (Nat.le_of_ble_eq_true rfl)) rfl rfl (Nat.le_of_ble_eq_true rfl) rfl dX4_init_14 ?_
  refine zi_aload0 (pc := 17) hC dX4_init_17 rfl ?_
  refine zi_bipush (pc := 18) (v := (12 : Int32)) hC dX4_init_18 (by decide) ?_
  refine zi_newa' (pc := 20) (N := 12) hC m_65 (by decide) (by decide) (Nat.le_of_ble_eq_true rfl) (Nat.le_of_ble_eq_true rfl) (Nat.le_of_ble_eq_true rfl) dX4_init_20 (fun q5 => ?_)
  refine zi_put (pc := 22) (ty := tyX4 2) (j := 2) (fs' := [.int (0 : Int32), .ref q4, .ref q5, .null, .int 0, .null, .int 0, .null, .null, .null, .int 0, .null]) hC hR rfl (Nat.le_of_ble_eq_true rfl) iX4 tyX4_ok nmX4 m_74 rfl (tyX4_ok _ (Nat.le_of_ble_eq_true rfl)) rfl rfl (Nat.le_of_ble_eq_true rfl) rfl dX4_init_22 ?_
  refine zi_aload0 (pc := 25) hC dX4_init_25 rfl ?_
  refine zi_bipush (pc := 26) (v := (12 : Int32)) hC dX4_init_26 (by decide) ?_
  refine zi_newa' (pc := 28) (N := 12) hC m_65 (by decide) (by decide) (Nat.le_of_ble_eq_true rfl) (Nat.le_of_ble_eq_true rfl) (Nat.le_of_ble_eq_true rfl) dX4_init_28 (fun q6 => ?_)
  refine zi_put (pc := 30) (ty := tyX4 3) (j := 3) (fs' := [.int (0 : Int32), .ref q4, .ref q5, .ref q6, .int 0, .null, .int 0, .null, .null, .null, .int 0, .null]) hC hR rfl (Nat.le_of_ble_eq_true rfl) iX4 tyX4_ok nmX4 m_76 rfl (tyX4_ok _ (Nat.le_of_ble_eq_true rfl)) rfl rfl (Nat.le_of_ble_eq_true rfl) rfl dX4_init_30 ?_
  refine zi_aload0 (pc := 33) hC dX4_init_33 rfl ?_
  refine zi_iconst (pc := 34) (v := (0 : Int32)) hC dX4_init_34 (by decide) ?_
  refine zi_put (pc := 35) (ty := tyX4 4) (j := 4) (fs' := [.int (0 : Int32), .ref q4, .ref q5, .ref q6, .int (0 : Int32), .null, .int 0, .null, .null, .null, .int 0, .null]) hC hR rfl (Nat.le_of_ble_eq_true rfl) iX4 tyX4_ok nmX4 m_78 rfl (tyX4_ok _ (Nat.le_of_ble_eq_true rfl)) rfl rfl (Nat.le_of_ble_eq_true rfl) rfl dX4_init_35 ?_
  refine zi_aload0 (pc := 38) hC dX4_init_38 rfl ?_
  refine zi_sipush (pc := 39) (v := (144 : Int32)) hC dX4_init_39 (by decide) ?_
  refine zi_newa' (pc := 42) (N := 144) hC m_65 (by decide) (by decide) (Nat.le_of_ble_eq_true rfl) (Nat.le_of_ble_eq_true rfl) (Nat.le_of_ble_eq_true rfl) dX4_init_42 (fun q7 => ?_)
  refine zi_put (pc := 44) (ty := tyX4 5) (j := 5) (fs' := [.int (0 : Int32), .ref q4, .ref q5, .ref q6, .int (0 : Int32), .ref q7, .int 0, .null, .null, .null, .int 0, .null]) hC hR rfl (Nat.le_of_ble_eq_true rfl) iX4 tyX4_ok nmX4 m_81 rfl (tyX4_ok _ (Nat.le_of_ble_eq_true rfl)) rfl rfl (Nat.le_of_ble_eq_true rfl) rfl dX4_init_44 ?_
  refine zi_aload0 (pc := 47) hC dX4_init_47 rfl ?_
  refine zi_iconst (pc := 48) (v := (0 : Int32)) hC dX4_init_48 (by decide) ?_
  refine zi_put (pc := 49) (ty := tyX4 6) (j := 6) (fs' := [.int (0 : Int32), .ref q4, .ref q5, .ref q6, .int (0 : Int32), .ref q7, .int (0 : Int32), .null, .null, .null, .int 0, .null]) hC hR rfl (Nat.le_of_ble_eq_true rfl) iX4 tyX4_ok nmX4 m_82 rfl (tyX4_ok _ (Nat.le_of_ble_eq_true rfl)) rfl rfl (Nat.le_of_ble_eq_true rfl) rfl dX4_init_49 ?_
  refine zi_aload0 (pc := 52) hC dX4_init_52 rfl ?_
  refine zi_bipush (pc := 53) (v := (6 : Int32)) hC dX4_init_53 (by decide) ?_
  refine zi_newa' (pc := 55) (N := 6) hC m_65 (by decide) (by decide) (Nat.le_of_ble_eq_true rfl) (Nat.le_of_ble_eq_true rfl) (Nat.le_of_ble_eq_true rfl) dX4_init_55 (fun q8 => ?_)
  refine zi_put (pc := 57) (ty := tyX4 7) (j := 7) (fs' := [.int (0 : Int32), .ref q4, .ref q5, .ref q6, .int (0 : Int32), .ref q7, .int (0 : Int32), .ref q8, .null, .null, .int 0, .null]) hC hR rfl (Nat.le_of_ble_eq_true rfl) iX4 tyX4_ok nmX4 m_87 rfl (tyX4_ok _ (Nat.le_of_ble_eq_true rfl)) rfl rfl (Nat.le_of_ble_eq_true rfl) rfl dX4_init_57 ?_
  refine zi_aload0 (pc := 60) hC dX4_init_60 rfl ?_
  refine zi_bipush (pc := 61) (v := (6 : Int32)) hC dX4_init_61 (by decide) ?_
  refine zi_newa' (pc := 63) (N := 6) hC m_65 (by decide) (by decide) (Nat.le_of_ble_eq_true rfl) (Nat.le_of_ble_eq_true rfl) (Nat.le_of_ble_eq_true rfl) dX4_init_63 (fun q9 => ?_)
  refine zi_put (pc := 65) (ty := tyX4 8) (j := 8) (fs' := [.int (0 : Int32), .ref q4, .ref q5, .ref q6, .int (0 : Int32), .ref q7, .int (0 : Int32), .ref q8, .ref q9, .null, .int 0, .null]) hC hR rfl (Nat.le_of_ble_eq_true rfl) iX4 tyX4_ok nmX4 m_91 rfl (tyX4_ok _ (Nat.le_of_ble_eq_true rfl)) rfl rfl (Nat.le_of_ble_eq_true rfl) rfl dX4_init_65 ?_
  refine zi_aload0 (pc := 68) hC dX4_init_68 rfl ?_
  refine zi_bipush (pc := 69) (v := (6 : Int32)) hC dX4_init_69 (by decide) ?_
  refine zi_newa' (pc := 71) (N := 6) hC m_65 (by decide) (by decide) (Nat.le_of_ble_eq_true rfl) (Nat.le_of_ble_eq_true rfl) (Nat.le_of_ble_eq_true rfl) dX4_init_71 (fun q10 => ?_)
  refine zi_put (pc := 73) (ty := tyX4 9) (j := 9) (fs' := [.int (0 : Int32), .ref q4, .ref q5, .ref q6, .int (0 : Int32), .ref q7, .int (0 : Int32), .ref q8, .ref q9, .ref q10, .int 0, .null]) hC hR rfl (Nat.le_of_ble_eq_true rfl) iX4 tyX4_ok nmX4 m_95 rfl (tyX4_ok _ (Nat.le_of_ble_eq_true rfl)) rfl rfl (Nat.le_of_ble_eq_true rfl) rfl dX4_init_73 ?_
  refine zi_aload0 (pc := 76) hC dX4_init_76 rfl ?_
  refine zi_sipush (pc := 77) (v := (300 : Int32)) hC dX4_init_77 (by decide) ?_
  refine zi_put (pc := 80) (ty := tyX4 10) (j := 10) (fs' := [.int (0 : Int32), .ref q4, .ref q5, .ref q6, .int (0 : Int32), .ref q7, .int (0 : Int32), .ref q8, .ref q9, .ref q10, .int (300 : Int32), .null]) hC hR rfl (Nat.le_of_ble_eq_true rfl) iX4 tyX4_ok nmX4 m_99 rfl (tyX4_ok _ (Nat.le_of_ble_eq_true rfl)) rfl rfl (Nat.le_of_ble_eq_true rfl) rfl dX4_init_80 ?_
  refine zi_aload0 (pc := 83) hC dX4_init_83 rfl ?_
  refine zi_new' (pc := 84) (fs := [.null, .null, .int 0, .int 0]) hC rfl iX5 tyX5_ok m_45 m_46 m_4 (by decide +kernel) (fun h9 => ci_11 _ h9) mc_yX5_init rfl m_48 (Or.inr ⟨_, m_47⟩) ⟨(Nat.le_of_ble_eq_true rfl), (Nat.le_of_ble_eq_true rfl)⟩ (Nat.le_of_ble_eq_true rfl) (Nat.le_of_ble_eq_true rfl) (Nat.le_of_ble_eq_true rfl) dX4_init_84 dX4_init_87 dX4_init_88 (fun a11 e11 => ?_)
  refine zi_put (pc := 91) (ty := tyX4 11) (j := 11) (fs' := [.int (0 : Int32), .ref q4, .ref q5, .ref q6, .int (0 : Int32), .ref q7, .int (0 : Int32), .ref q8, .ref q9, .ref q10, .int (300 : Int32), .ref (a11 11)]) hC hR rfl (Nat.le_of_ble_eq_true rfl) iX4 tyX4_ok nmX4 m_103 rfl (tyX4_ok _ (Nat.le_of_ble_eq_true rfl)) rfl rfl (Nat.le_of_ble_eq_true rfl) rfl dX4_init_91 ?_
  generalize ha9 : (fun k : Nat => if k < 4 then h0 else if k < 5 then q4 else if k < 6 then q5 else if k < 7 then q6 else if k < 8 then q7 else if k < 9 then q8 else if k < 10 then q9 else if k < 11 then q10 else if k < 14 then a11 k else X_ad X k) = a9
  have hst9 : ∀ k, 1000 ≤ k → a9 k = X_ad X k := by
    intro k hk
    rw [← ha9]
    simp only []
    rw [if_neg (by omega), if_neg (by omega), if_neg (by omega), if_neg (by omega), if_neg (by omega), if_neg (by omega), if_neg (by omega), if_neg (by omega), if_neg (by omega)]
  exact zi_ret (pc := 94) (a := a9) hC hR hA (by rw [← ha9]; rfl) hst9 (ct_cons (L := (((((((([] ++ [4]) ++ [5]) ++ [6]) ++ [7]) ++ [8]) ++ [9]) ++ [10]) ++ List.range' 11 3)) lay_3 (by rw [← ha9]; rfl) (by rw [← ha9]; rfl) (by decide +kernel) (ct_app (ct_app (ct_app (ct_app (ct_app (ct_app (ct_app (ct_app rfl (ct_arr lay_4 (by rw [← ha9]; rfl) rfl)) (ct_arr lay_5 (by rw [← ha9]; rfl) rfl)) (ct_arr lay_6 (by rw [← ha9]; rfl) rfl)) (ct_arr lay_7 (by rw [← ha9]; rfl) rfl)) (ct_arr lay_8 (by rw [← ha9]; rfl) rfl)) (ct_arr lay_9 (by rw [← ha9]; rfl) rfl)) (ct_arr lay_10 (by rw [← ha9]; rfl) rfl)) (ct_tree (fun k h1 h2 => by rw [← ha9]; simp only []; rw [if_neg (by omega), if_neg (by omega), if_neg (by omega), if_neg (by omega), if_neg (by omega), if_neg (by omega), if_neg (by omega), if_neg (by omega), if_pos (by omega)] ) (by decide +kernel)))) dX4_init_94
set_option maxRecDepth 100000 in
set_option maxHeartbeats 4000000 in
theorem ci_21 (l : Launch) (h0 : Nat) : CI l yX4_init cX4_init 1 2 10 966 h0 21 11 4 [.int 0, .null, .null, .null, .int 0, .null, .int 0, .null, .null, .null, .int 0, .null] := by
  refine ci_of (by decide) (by decide) (Nat.le_of_ble_eq_true rfl) (fun X hC hR hl hN hA => ?_)
  show Zi X _ 0 0 ((h0, .inr (4, [.int 0, .null, .null, .null, .int 0, .null, .int 0, .null, .null, .null, .int 0, .null])) :: []) 0 [(0, .ref h0)] []
  refine zi_aload0 (pc := 0) hC dX4_init_0 rfl ?_
  refine zi_obj (pc := 1) hC m_44 m_31 m_32 ⟨(Nat.le_of_ble_eq_true rfl), (Nat.le_of_ble_eq_true rfl)⟩ dX4_init_1 ?_
  refine zi_aload0 (pc := 4) hC dX4_init_4 rfl ?_
  refine zi_iconst (pc := 5) (v := (0 : Int32)) hC dX4_init_5 (by decide) ?_
  refine zi_put (pc := 6) (ty := tyX4 0) (j := 0) (fs' := [.int (0 : Int32), .null, .null, .null, .int 0, .null, .int 0, .null, .null, .null, .int 0, .null]) hC hR rfl (Nat.le_of_ble_eq_true rfl) iX4 tyX4_ok nmX4 m_66 rfl (tyX4_ok _ (Nat.le_of_ble_eq_true rfl)) rfl rfl (Nat.le_of_ble_eq_true rfl) rfl dX4_init_6 ?_
  refine zi_aload0 (pc := 9) hC dX4_init_9 rfl ?_
  refine zi_bipush (pc := 10) (v := (12 : Int32)) hC dX4_init_10 (by decide) ?_
  refine zi_newa' (pc := 12) (N := 12) hC m_65 (by decide) (by decide) (Nat.le_of_ble_eq_true rfl) (Nat.le_of_ble_eq_true rfl) (Nat.le_of_ble_eq_true rfl) dX4_init_12 (fun q22 => ?_)
  refine zi_put (pc := 14) (ty := tyX4 1) (j := 1) (fs' := [.int (0 : Int32), .ref q22, .null, .null, .int 0, .null, .int 0, .null, .null, .null, .int 0, .null]) hC hR rfl (Nat.le_of_ble_eq_true rfl) iX4 tyX4_ok nmX4 m_72 rfl (tyX4_ok _ (Nat.le_of_ble_eq_true rfl)) rfl rfl (Nat.le_of_ble_eq_true rfl) rfl dX4_init_14 ?_
  refine zi_aload0 (pc := 17) hC dX4_init_17 rfl ?_
  refine zi_bipush (pc := 18) (v := (12 : Int32)) hC dX4_init_18 (by decide) ?_
  refine zi_newa' (pc := 20) (N := 12) hC m_65 (by decide) (by decide) (Nat.le_of_ble_eq_true rfl) (Nat.le_of_ble_eq_true rfl) (Nat.le_of_ble_eq_true rfl) dX4_init_20 (fun q23 => ?_)
  refine zi_put (pc := 22) (ty := tyX4 2) (j := 2) (fs' := [.int (0 : Int32), .ref q22, .ref q23, .null, .int 0, .null, .int 0, .null, .null, .null, .int 0, .null]) hC hR rfl (Nat.le_of_ble_eq_true rfl) iX4 tyX4_ok nmX4 m_74 rfl (tyX4_ok _ (Nat.le_of_ble_eq_true rfl)) rfl rfl (Nat.le_of_ble_eq_true rfl) rfl dX4_init_22 ?_
  refine zi_aload0 (pc := 25) hC dX4_init_25 rfl ?_
  refine zi_bipush (pc := 26) (v := (12 : Int32)) hC dX4_init_26 (by decide) ?_
  refine zi_newa' (pc := 28) (N := 12) hC m_65 (by decide) (by decide) (Nat.le_of_ble_eq_true rfl) (Nat.le_of_ble_eq_true rfl) (Nat.le_of_ble_eq_true rfl) dX4_init_28 (fun q24 => ?_)
  refine zi_put (pc := 30) (ty := tyX4 3) (j := 3) (fs' := [.int (0 : Int32), .ref q22, .ref q23, .ref q24, .int 0, .null, .int 0, .null, .null, .null, .int 0, .null]) hC hR rfl (Nat.le_of_ble_eq_true rfl) iX4 tyX4_ok nmX4 m_76 rfl (tyX4_ok _ (Nat.le_of_ble_eq_true rfl)) rfl rfl (Nat.le_of_ble_eq_true rfl) rfl dX4_init_30 ?_
  refine zi_aload0 (pc := 33) hC dX4_init_33 rfl ?_
  refine zi_iconst (pc := 34) (v := (0 : Int32)) hC dX4_init_34 (by decide) ?_
  refine zi_put (pc := 35) (ty := tyX4 4) (j := 4) (fs' := [.int (0 : Int32), .ref q22, .ref q23, .ref q24, .int (0 : Int32), .null, .int 0, .null, .null, .null, .int 0, .null]) hC hR rfl (Nat.le_of_ble_eq_true rfl) iX4 tyX4_ok nmX4 m_78 rfl (tyX4_ok _ (Nat.le_of_ble_eq_true rfl)) rfl rfl (Nat.le_of_ble_eq_true rfl) rfl dX4_init_35 ?_
  refine zi_aload0 (pc := 38) hC dX4_init_38 rfl ?_
  refine zi_sipush (pc := 39) (v := (144 : Int32)) hC dX4_init_39 (by decide) ?_
  refine zi_newa' (pc := 42) (N := 144) hC m_65 (by decide) (by decide) (Nat.le_of_ble_eq_true rfl) (Nat.le_of_ble_eq_true rfl) (Nat.le_of_ble_eq_true rfl) dX4_init_42 (fun q25 => ?_)
  refine zi_put (pc := 44) (ty := tyX4 5) (j := 5) (fs' := [.int (0 : Int32), .ref q22, .ref q23, .ref q24, .int (0 : Int32), .ref q25, .int 0, .null, .null, .null, .int 0, .null]) hC hR rfl (Nat.le_of_ble_eq_true rfl) iX4 tyX4_ok nmX4 m_81 rfl (tyX4_ok _ (Nat.le_of_ble_eq_true rfl)) rfl rfl (Nat.le_of_ble_eq_true rfl) rfl dX4_init_44 ?_
  refine zi_aload0 (pc := 47) hC dX4_init_47 rfl ?_
  refine zi_iconst (pc := 48) (v := (0 : Int32)) hC dX4_init_48 (by decide) ?_
  refine zi_put (pc := 49) (ty := tyX4 6) (j := 6) (fs' := [.int (0 : Int32), .ref q22, .ref q23, .ref q24, .int (0 : Int32), .ref q25, .int (0 : Int32), .null, .null, .null, .int 0, .null]) hC hR rfl (Nat.le_of_ble_eq_true rfl) iX4 tyX4_ok nmX4 m_82 rfl (tyX4_ok _ (Nat.le_of_ble_eq_true rfl)) rfl rfl (Nat.le_of_ble_eq_true rfl) rfl dX4_init_49 ?_
  refine zi_aload0 (pc := 52) hC dX4_init_52 rfl ?_
  refine zi_bipush (pc := 53) (v := (6 : Int32)) hC dX4_init_53 (by decide) ?_
  refine zi_newa' (pc := 55) (N := 6) hC m_65 (by decide) (by decide) (Nat.le_of_ble_eq_true rfl) (Nat.le_of_ble_eq_true rfl) (Nat.le_of_ble_eq_true rfl) dX4_init_55 (fun q26 => ?_)
  refine zi_put (pc := 57) (ty := tyX4 7) (j := 7) (fs' := [.int (0 : Int32), .ref q22, .ref q23, .ref q24, .int (0 : Int32), .ref q25, .int (0 : Int32), .ref q26, .null, .null, .int 0, .null]) hC hR rfl (Nat.le_of_ble_eq_true rfl) iX4 tyX4_ok nmX4 m_87 rfl (tyX4_ok _ (Nat.le_of_ble_eq_true rfl)) rfl rfl (Nat.le_of_ble_eq_true rfl) rfl dX4_init_57 ?_
  refine zi_aload0 (pc := 60) hC dX4_init_60 rfl ?_
  refine zi_bipush (pc := 61) (v := (6 : Int32)) hC dX4_init_61 (by decide) ?_
  refine zi_newa' (pc := 63) (N := 6) hC m_65 (by decide) (by decide) (Nat.le_of_ble_eq_true rfl) (Nat.le_of_ble_eq_true rfl) (Nat.le_of_ble_eq_true rfl) dX4_init_63 (fun q27 => ?_)
  refine zi_put (pc := 65) (ty := tyX4 8) (j := 8) (fs' := [.int (0 : Int32), .ref q22, .ref q23, .ref q24, .int (0 : Int32), .ref q25, .int (0 : Int32), .ref q26, .ref q27, .null, .int 0, .null]) hC hR rfl (Nat.le_of_ble_eq_true rfl) iX4 tyX4_ok nmX4 m_91 rfl (tyX4_ok _ (Nat.le_of_ble_eq_true rfl)) rfl rfl (Nat.le_of_ble_eq_true rfl) rfl dX4_init_65 ?_
  refine zi_aload0 (pc := 68) hC dX4_init_68 rfl ?_
  refine zi_bipush (pc := 69) (v := (6 : Int32)) hC dX4_init_69 (by decide) ?_
  refine zi_newa' (pc := 71) (N := 6) hC m_65 (by decide) (by decide) (Nat.le_of_ble_eq_true rfl) (Nat.le_of_ble_eq_true rfl) (Nat.le_of_ble_eq_true rfl) dX4_init_71 (fun q28 => ?_)
  refine zi_put (pc := 73) (ty := tyX4 9) (j := 9) (fs' := [.int (0 : Int32), .ref q22, .ref q23, .ref q24, .int (0 : Int32), .ref q25, .int (0 : Int32), .ref q26, .ref q27, .ref q28, .int 0, .null]) hC hR rfl (Nat.le_of_ble_eq_true rfl) iX4 tyX4_ok nmX4 m_95 rfl (tyX4_ok _ (Nat.le_of_ble_eq_true rfl)) rfl rfl (Nat.le_of_ble_eq_true rfl) rfl dX4_init_73 ?_
  refine zi_aload0 (pc := 76) hC dX4_init_76 rfl ?_
  refine zi_sipush (pc := 77) (v := (300 : Int32)) hC dX4_init_77 (by decide) ?_
  refine zi_put (pc := 80) (ty := tyX4 10) (j := 10) (fs' := [.int (0 : Int32), .ref q22, .ref q23, .ref q24, .int (0 : Int32), .ref q25, .int (0 : Int32), .ref q26, .ref q27, .ref q28, .int (300 : Int32), .null]) hC hR rfl (Nat.le_of_ble_eq_true rfl) iX4 tyX4_ok nmX4 m_99 rfl (tyX4_ok _ (Nat.le_of_ble_eq_true rfl)) rfl rfl (Nat.le_of_ble_eq_true rfl) rfl dX4_init_80 ?_
  refine zi_aload0 (pc := 83) hC dX4_init_83 rfl ?_
  refine zi_new' (pc := 84) (fs := [.null, .null, .int 0, .int 0]) hC rfl iX5 tyX5_ok m_45 m_46 m_4 (by decide +kernel) (fun h9 => ci_29 _ h9) mc_yX5_init rfl m_48 (Or.inr ⟨_, m_47⟩) ⟨(Nat.le_of_ble_eq_true rfl), (Nat.le_of_ble_eq_true rfl)⟩ (Nat.le_of_ble_eq_true rfl) (Nat.le_of_ble_eq_true rfl) (Nat.le_of_ble_eq_true rfl) dX4_init_84 dX4_init_87 dX4_init_88 (fun a29 e29 => ?_)
  refine zi_put (pc := 91) (ty := tyX4 11) (j := 11) (fs' := [.int (0 : Int32), .ref q22, .ref q23, .ref q24, .int (0 : Int32), .ref q25, .int (0 : Int32), .ref q26, .ref q27, .ref q28, .int (300 : Int32), .ref (a29 29)]) hC hR rfl (Nat.le_of_ble_eq_true rfl) iX4 tyX4_ok nmX4 m_103 rfl (tyX4_ok _ (Nat.le_of_ble_eq_true rfl)) rfl rfl (Nat.le_of_ble_eq_true rfl) rfl dX4_init_91 ?_
  generalize ha9 : (fun k : Nat => if k < 22 then h0 else if k < 23 then q22 else if k < 24 then q23 else if k < 25 then q24 else if k < 26 then q25 else if k < 27 then q26 else if k < 28 then q27 else if k < 29 then q28 else if k < 32 then a29 k else X_ad X k) = a9
  have hst9 : ∀ k, 1000 ≤ k → a9 k = X_ad X k := by
    intro k hk
    rw [← ha9]
    simp only []
    rw [if_neg (by omega), if_neg (by omega), if_neg (by omega), if_neg (by omega), if_neg (by omega), if_neg (by omega), if_neg (by omega), if_neg (by omega), if_neg (by omega)]
  exact zi_ret (pc := 94) (a := a9) hC hR hA (by rw [← ha9]; rfl) hst9 (ct_cons (L := (((((((([] ++ [22]) ++ [23]) ++ [24]) ++ [25]) ++ [26]) ++ [27]) ++ [28]) ++ List.range' 29 3)) lay_21 (by rw [← ha9]; rfl) (by rw [← ha9]; rfl) (by decide +kernel) (ct_app (ct_app (ct_app (ct_app (ct_app (ct_app (ct_app (ct_app rfl (ct_arr lay_22 (by rw [← ha9]; rfl) rfl)) (ct_arr lay_23 (by rw [← ha9]; rfl) rfl)) (ct_arr lay_24 (by rw [← ha9]; rfl) rfl)) (ct_arr lay_25 (by rw [← ha9]; rfl) rfl)) (ct_arr lay_26 (by rw [← ha9]; rfl) rfl)) (ct_arr lay_27 (by rw [← ha9]; rfl) rfl)) (ct_arr lay_28 (by rw [← ha9]; rfl) rfl)) (ct_tree (fun k h1 h2 => by rw [← ha9]; simp only []; rw [if_neg (by omega), if_neg (by omega), if_neg (by omega), if_neg (by omega), if_neg (by omega), if_neg (by omega), if_neg (by omega), if_neg (by omega), if_pos (by omega)] ) (by decide +kernel)))) dX4_init_94
set_option maxRecDepth 100000 in
set_option maxHeartbeats 4000000 in
theorem ci_14 (l : Launch) (h0 : Nat) : CI l yX10_init cX10_init 1 3 1 94 h0 14 2 10 [.null] := by
  refine ci_of (by decide) (by decide) (Nat.le_of_ble_eq_true rfl) (fun X hC hR hl hN hA => ?_)
  show Zi X _ 0 0 ((h0, .inr (10, [.null])) :: []) 0 [(0, .ref h0)] []
  refine zi_aload0 (pc := 0) hC dX10_init_0 rfl ?_
  refine zi_obj (pc := 1) hC m_136 m_31 m_32 ⟨(Nat.le_of_ble_eq_true rfl), (Nat.le_of_ble_eq_true rfl)⟩ dX10_init_1 ?_
  refine zi_aload0 (pc := 4) hC dX10_init_4 rfl ?_
  refine zi_bipush (pc := 5) (v := (94 : Int32)) hC dX10_init_5 (by decide) ?_
  refine zi_newa' (pc := 7) (N := 94) hC m_65 (by decide) (by decide) (Nat.le_of_ble_eq_true rfl) (Nat.le_of_ble_eq_true rfl) (Nat.le_of_ble_eq_true rfl) dX10_init_7 (fun q15 => ?_)
  refine zi_put (pc := 9) (ty := tyX10 0) (j := 0) (fs' := [.ref q15]) hC hR rfl (Nat.le_of_ble_eq_true rfl) iX10 tyX10_ok nmX10 m_143 rfl (tyX10_ok _ (Nat.le_of_ble_eq_true rfl)) rfl rfl (Nat.le_of_ble_eq_true rfl) rfl dX10_init_9 ?_
  refine zi_aload0 (pc := 12) hC dX10_init_12 rfl ?_
  refine zi_get (pc := 13) (j := 0) hC rfl (Nat.le_of_ble_eq_true rfl) iX10 m_143 rfl dX10_init_13 ?_
  refine zi_bipush (pc := 16) (v := (48 : Int32)) hC dX10_init_16 (by decide) ?_
  refine zi_bipush (pc := 18) (v := (72 : Int32)) hC dX10_init_18 (by decide) ?_
  refine zi_iconst (pc := 20) (v := (-1 : Int32)) hC dX10_init_20 (by decide) ?_
  refine zi_fill (pc := 21) hC m_137 m_138 ⟨(Nat.le_of_ble_eq_true rfl), (Nat.le_of_ble_eq_true rfl)⟩ (Nat.le_of_ble_eq_true rfl) (Nat.le_of_ble_eq_true rfl) rfl dX10_init_21 ?_
  generalize ha9 : (fun k : Nat => if k < 15 then h0 else if k < 16 then q15 else X_ad X k) = a9
  have hst9 : ∀ k, 1000 ≤ k → a9 k = X_ad X k := by
    intro k hk
    rw [← ha9]
    simp only []
    rw [if_neg (by omega), if_neg (by omega)]
  exact zi_ret (pc := 24) (a := a9) hC hR hA (by rw [← ha9]; rfl) hst9 (ct_cons (L := [15]) lay_14 (by rw [← ha9]; rfl) (by rw [← ha9]; rfl) (by decide +kernel) (ct_arr lay_15 (by rw [← ha9]; rfl) rfl)) dX10_init_24
set_option maxRecDepth 100000 in
set_option maxHeartbeats 4000000 in
theorem ci_33 (l : Launch) (h0 : Nat) : CI l yX10_init cX10_init 1 3 1 94 h0 33 2 10 [.null] := by
  refine ci_of (by decide) (by decide) (Nat.le_of_ble_eq_true rfl) (fun X hC hR hl hN hA => ?_)
  show Zi X _ 0 0 ((h0, .inr (10, [.null])) :: []) 0 [(0, .ref h0)] []
  refine zi_aload0 (pc := 0) hC dX10_init_0 rfl ?_
  refine zi_obj (pc := 1) hC m_136 m_31 m_32 ⟨(Nat.le_of_ble_eq_true rfl), (Nat.le_of_ble_eq_true rfl)⟩ dX10_init_1 ?_
  refine zi_aload0 (pc := 4) hC dX10_init_4 rfl ?_
  refine zi_bipush (pc := 5) (v := (94 : Int32)) hC dX10_init_5 (by decide) ?_
  refine zi_newa' (pc := 7) (N := 94) hC m_65 (by decide) (by decide) (Nat.le_of_ble_eq_true rfl) (Nat.le_of_ble_eq_true rfl) (Nat.le_of_ble_eq_true rfl) dX10_init_7 (fun q34 => ?_)
  refine zi_put (pc := 9) (ty := tyX10 0) (j := 0) (fs' := [.ref q34]) hC hR rfl (Nat.le_of_ble_eq_true rfl) iX10 tyX10_ok nmX10 m_143 rfl (tyX10_ok _ (Nat.le_of_ble_eq_true rfl)) rfl rfl (Nat.le_of_ble_eq_true rfl) rfl dX10_init_9 ?_
  refine zi_aload0 (pc := 12) hC dX10_init_12 rfl ?_
  refine zi_get (pc := 13) (j := 0) hC rfl (Nat.le_of_ble_eq_true rfl) iX10 m_143 rfl dX10_init_13 ?_
  refine zi_bipush (pc := 16) (v := (48 : Int32)) hC dX10_init_16 (by decide) ?_
  refine zi_bipush (pc := 18) (v := (72 : Int32)) hC dX10_init_18 (by decide) ?_
  refine zi_iconst (pc := 20) (v := (-1 : Int32)) hC dX10_init_20 (by decide) ?_
  refine zi_fill (pc := 21) hC m_137 m_138 ⟨(Nat.le_of_ble_eq_true rfl), (Nat.le_of_ble_eq_true rfl)⟩ (Nat.le_of_ble_eq_true rfl) (Nat.le_of_ble_eq_true rfl) rfl dX10_init_21 ?_
  generalize ha9 : (fun k : Nat => if k < 34 then h0 else if k < 35 then q34 else X_ad X k) = a9
  have hst9 : ∀ k, 1000 ≤ k → a9 k = X_ad X k := by
    intro k hk
    rw [← ha9]
    simp only []
    rw [if_neg (by omega), if_neg (by omega)]
  exact zi_ret (pc := 24) (a := a9) hC hR hA (by rw [← ha9]; rfl) hst9 (ct_cons (L := [34]) lay_33 (by rw [← ha9]; rfl) (by rw [← ha9]; rfl) (by decide +kernel) (ct_arr lay_34 (by rw [← ha9]; rfl) rfl)) dX10_init_24
set_option maxRecDepth 100000 in
set_option maxHeartbeats 4000000 in
theorem ci_40 (l : Launch) (h0 : Nat) : CI l yX10_init cX10_init 1 3 1 94 h0 40 2 10 [.null] := by
  refine ci_of (by decide) (by decide) (Nat.le_of_ble_eq_true rfl) (fun X hC hR hl hN hA => ?_)
  show Zi X _ 0 0 ((h0, .inr (10, [.null])) :: []) 0 [(0, .ref h0)] []
  refine zi_aload0 (pc := 0) hC dX10_init_0 rfl ?_
  refine zi_obj (pc := 1) hC m_136 m_31 m_32 ⟨(Nat.le_of_ble_eq_true rfl), (Nat.le_of_ble_eq_true rfl)⟩ dX10_init_1 ?_
  refine zi_aload0 (pc := 4) hC dX10_init_4 rfl ?_
  refine zi_bipush (pc := 5) (v := (94 : Int32)) hC dX10_init_5 (by decide) ?_
  refine zi_newa' (pc := 7) (N := 94) hC m_65 (by decide) (by decide) (Nat.le_of_ble_eq_true rfl) (Nat.le_of_ble_eq_true rfl) (Nat.le_of_ble_eq_true rfl) dX10_init_7 (fun q41 => ?_)
  refine zi_put (pc := 9) (ty := tyX10 0) (j := 0) (fs' := [.ref q41]) hC hR rfl (Nat.le_of_ble_eq_true rfl) iX10 tyX10_ok nmX10 m_143 rfl (tyX10_ok _ (Nat.le_of_ble_eq_true rfl)) rfl rfl (Nat.le_of_ble_eq_true rfl) rfl dX10_init_9 ?_
  refine zi_aload0 (pc := 12) hC dX10_init_12 rfl ?_
  refine zi_get (pc := 13) (j := 0) hC rfl (Nat.le_of_ble_eq_true rfl) iX10 m_143 rfl dX10_init_13 ?_
  refine zi_bipush (pc := 16) (v := (48 : Int32)) hC dX10_init_16 (by decide) ?_
  refine zi_bipush (pc := 18) (v := (72 : Int32)) hC dX10_init_18 (by decide) ?_
  refine zi_iconst (pc := 20) (v := (-1 : Int32)) hC dX10_init_20 (by decide) ?_
  refine zi_fill (pc := 21) hC m_137 m_138 ⟨(Nat.le_of_ble_eq_true rfl), (Nat.le_of_ble_eq_true rfl)⟩ (Nat.le_of_ble_eq_true rfl) (Nat.le_of_ble_eq_true rfl) rfl dX10_init_21 ?_
  generalize ha9 : (fun k : Nat => if k < 41 then h0 else if k < 42 then q41 else X_ad X k) = a9
  have hst9 : ∀ k, 1000 ≤ k → a9 k = X_ad X k := by
    intro k hk
    rw [← ha9]
    simp only []
    rw [if_neg (by omega), if_neg (by omega)]
  exact zi_ret (pc := 24) (a := a9) hC hR hA (by rw [← ha9]; rfl) hst9 (ct_cons (L := [41]) lay_40 (by rw [← ha9]; rfl) (by rw [← ha9]; rfl) (by decide +kernel) (ct_arr lay_41 (by rw [← ha9]; rfl) rfl)) dX10_init_24
set_option maxRecDepth 100000 in
set_option maxHeartbeats 4000000 in
theorem ci_46 (l : Launch) (h0 : Nat) : CI l yX10_init cX10_init 1 3 1 94 h0 46 2 10 [.null] := by
  refine ci_of (by decide) (by decide) (Nat.le_of_ble_eq_true rfl) (fun X hC hR hl hN hA => ?_)
  show Zi X _ 0 0 ((h0, .inr (10, [.null])) :: []) 0 [(0, .ref h0)] []
  refine zi_aload0 (pc := 0) hC dX10_init_0 rfl ?_
  refine zi_obj (pc := 1) hC m_136 m_31 m_32 ⟨(Nat.le_of_ble_eq_true rfl), (Nat.le_of_ble_eq_true rfl)⟩ dX10_init_1 ?_
  refine zi_aload0 (pc := 4) hC dX10_init_4 rfl ?_
  refine zi_bipush (pc := 5) (v := (94 : Int32)) hC dX10_init_5 (by decide) ?_
  refine zi_newa' (pc := 7) (N := 94) hC m_65 (by decide) (by decide) (Nat.le_of_ble_eq_true rfl) (Nat.le_of_ble_eq_true rfl) (Nat.le_of_ble_eq_true rfl) dX10_init_7 (fun q47 => ?_)
  refine zi_put (pc := 9) (ty := tyX10 0) (j := 0) (fs' := [.ref q47]) hC hR rfl (Nat.le_of_ble_eq_true rfl) iX10 tyX10_ok nmX10 m_143 rfl (tyX10_ok _ (Nat.le_of_ble_eq_true rfl)) rfl rfl (Nat.le_of_ble_eq_true rfl) rfl dX10_init_9 ?_
  refine zi_aload0 (pc := 12) hC dX10_init_12 rfl ?_
  refine zi_get (pc := 13) (j := 0) hC rfl (Nat.le_of_ble_eq_true rfl) iX10 m_143 rfl dX10_init_13 ?_
  refine zi_bipush (pc := 16) (v := (48 : Int32)) hC dX10_init_16 (by decide) ?_
  refine zi_bipush (pc := 18) (v := (72 : Int32)) hC dX10_init_18 (by decide) ?_
  refine zi_iconst (pc := 20) (v := (-1 : Int32)) hC dX10_init_20 (by decide) ?_
  refine zi_fill (pc := 21) hC m_137 m_138 ⟨(Nat.le_of_ble_eq_true rfl), (Nat.le_of_ble_eq_true rfl)⟩ (Nat.le_of_ble_eq_true rfl) (Nat.le_of_ble_eq_true rfl) rfl dX10_init_21 ?_
  generalize ha9 : (fun k : Nat => if k < 47 then h0 else if k < 48 then q47 else X_ad X k) = a9
  have hst9 : ∀ k, 1000 ≤ k → a9 k = X_ad X k := by
    intro k hk
    rw [← ha9]
    simp only []
    rw [if_neg (by omega), if_neg (by omega)]
  exact zi_ret (pc := 24) (a := a9) hC hR hA (by rw [← ha9]; rfl) hst9 (ct_cons (L := [47]) lay_46 (by rw [← ha9]; rfl) (by rw [← ha9]; rfl) (by decide +kernel) (ct_arr lay_47 (by rw [← ha9]; rfl) rfl)) dX10_init_24
set_option maxRecDepth 100000 in
set_option maxHeartbeats 4000000 in
theorem ci_52 (l : Launch) (h0 : Nat) : CI l yX10_init cX10_init 1 3 1 94 h0 52 2 10 [.null] := by
  refine ci_of (by decide) (by decide) (Nat.le_of_ble_eq_true rfl) (fun X hC hR hl hN hA => ?_)
  show Zi X _ 0 0 ((h0, .inr (10, [.null])) :: []) 0 [(0, .ref h0)] []
  refine zi_aload0 (pc := 0) hC dX10_init_0 rfl ?_
  refine zi_obj (pc := 1) hC m_136 m_31 m_32 ⟨(Nat.le_of_ble_eq_true rfl), (Nat.le_of_ble_eq_true rfl)⟩ dX10_init_1 ?_
  refine zi_aload0 (pc := 4) hC dX10_init_4 rfl ?_
  refine zi_bipush (pc := 5) (v := (94 : Int32)) hC dX10_init_5 (by decide) ?_
  refine zi_newa' (pc := 7) (N := 94) hC m_65 (by decide) (by decide) (Nat.le_of_ble_eq_true rfl) (Nat.le_of_ble_eq_true rfl) (Nat.le_of_ble_eq_true rfl) dX10_init_7 (fun q53 => ?_)
  refine zi_put (pc := 9) (ty := tyX10 0) (j := 0) (fs' := [.ref q53]) hC hR rfl (Nat.le_of_ble_eq_true rfl) iX10 tyX10_ok nmX10 m_143 rfl (tyX10_ok _ (Nat.le_of_ble_eq_true rfl)) rfl rfl (Nat.le_of_ble_eq_true rfl) rfl dX10_init_9 ?_
  refine zi_aload0 (pc := 12) hC dX10_init_12 rfl ?_
  refine zi_get (pc := 13) (j := 0) hC rfl (Nat.le_of_ble_eq_true rfl) iX10 m_143 rfl dX10_init_13 ?_
  refine zi_bipush (pc := 16) (v := (48 : Int32)) hC dX10_init_16 (by decide) ?_
  refine zi_bipush (pc := 18) (v := (72 : Int32)) hC dX10_init_18 (by decide) ?_
  refine zi_iconst (pc := 20) (v := (-1 : Int32)) hC dX10_init_20 (by decide) ?_
  refine zi_fill (pc := 21) hC m_137 m_138 ⟨(Nat.le_of_ble_eq_true rfl), (Nat.le_of_ble_eq_true rfl)⟩ (Nat.le_of_ble_eq_true rfl) (Nat.le_of_ble_eq_true rfl) rfl dX10_init_21 ?_
  generalize ha9 : (fun k : Nat => if k < 53 then h0 else if k < 54 then q53 else X_ad X k) = a9
  have hst9 : ∀ k, 1000 ≤ k → a9 k = X_ad X k := by
    intro k hk
    rw [← ha9]
    simp only []
    rw [if_neg (by omega), if_neg (by omega)]
  exact zi_ret (pc := 24) (a := a9) hC hR hA (by rw [← ha9]; rfl) hst9 (ct_cons (L := [53]) lay_52 (by rw [← ha9]; rfl) (by rw [← ha9]; rfl) (by decide +kernel) (ct_arr lay_53 (by rw [← ha9]; rfl) rfl)) dX10_init_24
set_option maxRecDepth 100000 in
set_option maxHeartbeats 4000000 in
theorem ci_51 (l : Launch) (h0 : Nat) : CI l yX1_init cX1_init 1 4 5 383 h0 51 6 1 [.null, .null, .null, .null, .int 0, .int 0, .int 0, .int 0] := by
  refine ci_of (by decide) (by decide) (Nat.le_of_ble_eq_true rfl) (fun X hC hR hl hN hA => ?_)
  show Zi X _ 0 0 ((h0, .inr (1, [.null, .null, .null, .null, .int 0, .int 0, .int 0, .int 0])) :: []) 0 [(0, .ref h0)] []
  refine zi_aload0 (pc := 0) hC dX1_init_0 rfl ?_
  refine zi_obj (pc := 1) hC m_276 m_31 m_32 ⟨(Nat.le_of_ble_eq_true rfl), (Nat.le_of_ble_eq_true rfl)⟩ dX1_init_1 ?_
  refine zi_aload0 (pc := 4) hC dX1_init_4 rfl ?_
  refine zi_new' (pc := 5) (fs := [.null]) hC rfl iX10 tyX10_ok m_277 m_132 m_5 (by decide +kernel) (fun h9 => ci_52 _ h9) mc_yX10_init rfl m_134 (Or.inl m_278) ⟨(Nat.le_of_ble_eq_true rfl), (Nat.le_of_ble_eq_true rfl)⟩ (Nat.le_of_ble_eq_true rfl) (Nat.le_of_ble_eq_true rfl) (Nat.le_of_ble_eq_true rfl) dX1_init_5 dX1_init_8 dX1_init_9 (fun a52 e52 => ?_)
  refine zi_put (pc := 12) (ty := tyX1 0) (j := 0) (fs' := [.ref (a52 52), .null, .null, .null, .int 0, .int 0, .int 0, .int 0]) hC hR rfl (Nat.le_of_ble_eq_true rfl) iX1 tyX1_ok nmX1 m_279 rfl (tyX1_ok _ (Nat.le_of_ble_eq_true rfl)) rfl rfl (Nat.le_of_ble_eq_true rfl) rfl dX1_init_12 ?_
  refine zi_aload0 (pc := 15) hC dX1_init_15 rfl ?_
  refine zi_sipush (pc := 16) (v := (282 : Int32)) hC dX1_init_16 (by decide) ?_
  refine zi_newa' (pc := 19) (N := 282) hC m_65 (by decide) (by decide) (Nat.le_of_ble_eq_true rfl) (Nat.le_of_ble_eq_true rfl) (Nat.le_of_ble_eq_true rfl) dX1_init_19 (fun q54 => ?_)
  refine zi_put (pc := 21) (ty := tyX1 1) (j := 1) (fs' := [.ref (a52 52), .ref q54, .null, .null, .int 0, .int 0, .int 0, .int 0]) hC hR rfl (Nat.le_of_ble_eq_true rfl) iX1 tyX1_ok nmX1 m_280 rfl (tyX1_ok _ (Nat.le_of_ble_eq_true rfl)) rfl rfl (Nat.le_of_ble_eq_true rfl) rfl dX1_init_21 ?_
  refine zi_aload0 (pc := 24) hC dX1_init_24 rfl ?_
  refine zi_iconst (pc := 25) (v := (3 : Int32)) hC dX1_init_25 (by decide) ?_
  refine zi_newa' (pc := 26) (N := 3) hC m_65 (by decide) (by decide) (Nat.le_of_ble_eq_true rfl) (Nat.le_of_ble_eq_true rfl) (Nat.le_of_ble_eq_true rfl) dX1_init_26 (fun q55 => ?_)
  refine zi_put (pc := 28) (ty := tyX1 2) (j := 2) (fs' := [.ref (a52 52), .ref q54, .ref q55, .null, .int 0, .int 0, .int 0, .int 0]) hC hR rfl (Nat.le_of_ble_eq_true rfl) iX1 tyX1_ok nmX1 m_281 rfl (tyX1_ok _ (Nat.le_of_ble_eq_true rfl)) rfl rfl (Nat.le_of_ble_eq_true rfl) rfl dX1_init_28 ?_
  refine zi_aload0 (pc := 31) hC dX1_init_31 rfl ?_
  refine zi_iconst (pc := 32) (v := (3 : Int32)) hC dX1_init_32 (by decide) ?_
  refine zi_newa' (pc := 33) (N := 3) hC m_65 (by decide) (by decide) (Nat.le_of_ble_eq_true rfl) (Nat.le_of_ble_eq_true rfl) (Nat.le_of_ble_eq_true rfl) dX1_init_33 (fun q56 => ?_)
  refine zi_put (pc := 35) (ty := tyX1 3) (j := 3) (fs' := [.ref (a52 52), .ref q54, .ref q55, .ref q56, .int 0, .int 0, .int 0, .int 0]) hC hR rfl (Nat.le_of_ble_eq_true rfl) iX1 tyX1_ok nmX1 m_282 rfl (tyX1_ok _ (Nat.le_of_ble_eq_true rfl)) rfl rfl (Nat.le_of_ble_eq_true rfl) rfl dX1_init_35 ?_
  refine zi_aload0 (pc := 38) hC dX1_init_38 rfl ?_
  refine zi_iconst (pc := 39) (v := (0 : Int32)) hC dX1_init_39 (by decide) ?_
  refine zi_put (pc := 40) (ty := tyX1 4) (j := 4) (fs' := [.ref (a52 52), .ref q54, .ref q55, .ref q56, .int (0 : Int32), .int 0, .int 0, .int 0]) hC hR rfl (Nat.le_of_ble_eq_true rfl) iX1 tyX1_ok nmX1 m_284 rfl (tyX1_ok _ (Nat.le_of_ble_eq_true rfl)) rfl rfl (Nat.le_of_ble_eq_true rfl) rfl dX1_init_40 ?_
  refine zi_aload0 (pc := 43) hC dX1_init_43 rfl ?_
  refine zi_iconst (pc := 44) (v := (0 : Int32)) hC dX1_init_44 (by decide) ?_
  refine zi_put (pc := 45) (ty := tyX1 5) (j := 5) (fs' := [.ref (a52 52), .ref q54, .ref q55, .ref q56, .int (0 : Int32), .int (0 : Int32), .int 0, .int 0]) hC hR rfl (Nat.le_of_ble_eq_true rfl) iX1 tyX1_ok nmX1 m_286 rfl (tyX1_ok _ (Nat.le_of_ble_eq_true rfl)) rfl rfl (Nat.le_of_ble_eq_true rfl) rfl dX1_init_45 ?_
  refine zi_aload0 (pc := 48) hC dX1_init_48 rfl ?_
  refine zi_iconst (pc := 49) (v := (0 : Int32)) hC dX1_init_49 (by decide) ?_
  refine zi_put (pc := 50) (ty := tyX1 6) (j := 6) (fs' := [.ref (a52 52), .ref q54, .ref q55, .ref q56, .int (0 : Int32), .int (0 : Int32), .int (0 : Int32), .int 0]) hC hR rfl (Nat.le_of_ble_eq_true rfl) iX1 tyX1_ok nmX1 m_287 rfl (tyX1_ok _ (Nat.le_of_ble_eq_true rfl)) rfl rfl (Nat.le_of_ble_eq_true rfl) rfl dX1_init_50 ?_
  refine zi_aload0 (pc := 53) hC dX1_init_53 rfl ?_
  refine zi_iconst (pc := 54) (v := (0 : Int32)) hC dX1_init_54 (by decide) ?_
  refine zi_put (pc := 55) (ty := tyX1 7) (j := 7) (fs' := [.ref (a52 52), .ref q54, .ref q55, .ref q56, .int (0 : Int32), .int (0 : Int32), .int (0 : Int32), .int (0 : Int32)]) hC hR rfl (Nat.le_of_ble_eq_true rfl) iX1 tyX1_ok nmX1 m_288 rfl (tyX1_ok _ (Nat.le_of_ble_eq_true rfl)) rfl rfl (Nat.le_of_ble_eq_true rfl) rfl dX1_init_55 ?_
  generalize ha9 : (fun k : Nat => if k < 52 then h0 else if k < 54 then a52 k else if k < 55 then q54 else if k < 56 then q55 else if k < 57 then q56 else X_ad X k) = a9
  have hst9 : ∀ k, 1000 ≤ k → a9 k = X_ad X k := by
    intro k hk
    rw [← ha9]
    simp only []
    rw [if_neg (by omega), if_neg (by omega), if_neg (by omega), if_neg (by omega), if_neg (by omega)]
  exact zi_ret (pc := 58) (a := a9) hC hR hA (by rw [← ha9]; rfl) hst9 (ct_cons (L := (((([] ++ List.range' 52 2) ++ [54]) ++ [55]) ++ [56])) lay_51 (by rw [← ha9]; rfl) (by rw [← ha9]; rfl) (by decide +kernel) (ct_app (ct_app (ct_app (ct_app rfl (ct_tree (fun k h1 h2 => by rw [← ha9]; simp only []; rw [if_neg (by omega), if_pos (by omega)] ) (by decide +kernel))) (ct_arr lay_54 (by rw [← ha9]; rfl) rfl)) (ct_arr lay_55 (by rw [← ha9]; rfl) rfl)) (ct_arr lay_56 (by rw [← ha9]; rfl) rfl))) dX1_init_58
set_option maxRecDepth 100000 in
set_option maxHeartbeats 4000000 in
theorem ci_32 (l : Launch) (h0 : Nat) : CI l yX8_init cX8_init 1 4 6 3866 h0 32 7 8 [.null, .null, .int 0, .int 0, .null, .null, .int 0, .null] := by
  refine ci_of (by decide) (by decide) (Nat.le_of_ble_eq_true rfl) (fun X hC hR hl hN hA => ?_)
  show Zi X _ 0 0 ((h0, .inr (8, [.null, .null, .int 0, .int 0, .null, .null, .int 0, .null])) :: []) 0 [(0, .ref h0)] []
  refine zi_aload0 (pc := 0) hC dX8_init_0 rfl ?_
  refine zi_obj (pc := 1) hC m_210 m_31 m_32 ⟨(Nat.le_of_ble_eq_true rfl), (Nat.le_of_ble_eq_true rfl)⟩ dX8_init_1 ?_
  refine zi_aload0 (pc := 4) hC dX8_init_4 rfl ?_
  refine zi_new' (pc := 5) (fs := [.null]) hC rfl iX10 tyX10_ok m_211 m_132 m_5 (by decide +kernel) (fun h9 => ci_33 _ h9) mc_yX10_init rfl m_134 (Or.inl m_212) ⟨(Nat.le_of_ble_eq_true rfl), (Nat.le_of_ble_eq_true rfl)⟩ (Nat.le_of_ble_eq_true rfl) (Nat.le_of_ble_eq_true rfl) (Nat.le_of_ble_eq_true rfl) dX8_init_5 dX8_init_8 dX8_init_9 (fun a33 e33 => ?_)
  refine zi_put (pc := 12) (ty := tyX8 0) (j := 0) (fs' := [.ref (a33 33), .null, .int 0, .int 0, .null, .null, .int 0, .null]) hC hR rfl (Nat.le_of_ble_eq_true rfl) iX8 tyX8_ok nmX8 m_213 rfl (tyX8_ok _ (Nat.le_of_ble_eq_true rfl)) rfl rfl (Nat.le_of_ble_eq_true rfl) rfl dX8_init_12 ?_
  refine zi_aload0 (pc := 15) hC dX8_init_15 rfl ?_
  refine zi_sipush (pc := 16) (v := (3760 : Int32)) hC dX8_init_16 (by decide) ?_
  refine zi_newa' (pc := 19) (N := 3760) hC m_65 (by decide) (by decide) (Nat.le_of_ble_eq_true rfl) (Nat.le_of_ble_eq_true rfl) (Nat.le_of_ble_eq_true rfl) dX8_init_19 (fun q35 => ?_)
  refine zi_put (pc := 21) (ty := tyX8 1) (j := 1) (fs' := [.ref (a33 33), .ref q35, .int 0, .int 0, .null, .null, .int 0, .null]) hC hR rfl (Nat.le_of_ble_eq_true rfl) iX8 tyX8_ok nmX8 m_216 rfl (tyX8_ok _ (Nat.le_of_ble_eq_true rfl)) rfl rfl (Nat.le_of_ble_eq_true rfl) rfl dX8_init_21 ?_
  refine zi_aload0 (pc := 24) hC dX8_init_24 rfl ?_
  refine zi_iconst (pc := 25) (v := (0 : Int32)) hC dX8_init_25 (by decide) ?_
  refine zi_put (pc := 26) (ty := tyX8 2) (j := 2) (fs' := [.ref (a33 33), .ref q35, .int (0 : Int32), .int 0, .null, .null, .int 0, .null]) hC hR rfl (Nat.le_of_ble_eq_true rfl) iX8 tyX8_ok nmX8 m_217 rfl (tyX8_ok _ (Nat.le_of_ble_eq_true rfl)) rfl rfl (Nat.le_of_ble_eq_true rfl) rfl dX8_init_26 ?_
  refine zi_aload0 (pc := 29) hC dX8_init_29 rfl ?_
  refine zi_iconst (pc := 30) (v := (0 : Int32)) hC dX8_init_30 (by decide) ?_
  refine zi_put (pc := 31) (ty := tyX8 3) (j := 3) (fs' := [.ref (a33 33), .ref q35, .int (0 : Int32), .int (0 : Int32), .null, .null, .int 0, .null]) hC hR rfl (Nat.le_of_ble_eq_true rfl) iX8 tyX8_ok nmX8 m_218 rfl (tyX8_ok _ (Nat.le_of_ble_eq_true rfl)) rfl rfl (Nat.le_of_ble_eq_true rfl) rfl dX8_init_31 ?_
  refine zi_aload0 (pc := 34) hC dX8_init_34 rfl ?_
  refine zi_iconst (pc := 35) (v := (4 : Int32)) hC dX8_init_35 (by decide) ?_
  refine zi_newa' (pc := 36) (N := 4) hC m_65 (by decide) (by decide) (Nat.le_of_ble_eq_true rfl) (Nat.le_of_ble_eq_true rfl) (Nat.le_of_ble_eq_true rfl) dX8_init_36 (fun q36 => ?_)
  refine zi_put (pc := 38) (ty := tyX8 4) (j := 4) (fs' := [.ref (a33 33), .ref q35, .int (0 : Int32), .int (0 : Int32), .ref q36, .null, .int 0, .null]) hC hR rfl (Nat.le_of_ble_eq_true rfl) iX8 tyX8_ok nmX8 m_220 rfl (tyX8_ok _ (Nat.le_of_ble_eq_true rfl)) rfl rfl (Nat.le_of_ble_eq_true rfl) rfl dX8_init_38 ?_
  refine zi_aload0 (pc := 41) hC dX8_init_41 rfl ?_
  refine zi_iconst (pc := 42) (v := (4 : Int32)) hC dX8_init_42 (by decide) ?_
  refine zi_newa' (pc := 43) (N := 4) hC m_65 (by decide) (by decide) (Nat.le_of_ble_eq_true rfl) (Nat.le_of_ble_eq_true rfl) (Nat.le_of_ble_eq_true rfl) dX8_init_43 (fun q37 => ?_)
  refine zi_put (pc := 45) (ty := tyX8 5) (j := 5) (fs' := [.ref (a33 33), .ref q35, .int (0 : Int32), .int (0 : Int32), .ref q36, .ref q37, .int 0, .null]) hC hR rfl (Nat.le_of_ble_eq_true rfl) iX8 tyX8_ok nmX8 m_222 rfl (tyX8_ok _ (Nat.le_of_ble_eq_true rfl)) rfl rfl (Nat.le_of_ble_eq_true rfl) rfl dX8_init_45 ?_
  refine zi_aload0 (pc := 48) hC dX8_init_48 rfl ?_
  refine zi_iconst (pc := 49) (v := (0 : Int32)) hC dX8_init_49 (by decide) ?_
  refine zi_put (pc := 50) (ty := tyX8 6) (j := 6) (fs' := [.ref (a33 33), .ref q35, .int (0 : Int32), .int (0 : Int32), .ref q36, .ref q37, .int (0 : Int32), .null]) hC hR rfl (Nat.le_of_ble_eq_true rfl) iX8 tyX8_ok nmX8 m_224 rfl (tyX8_ok _ (Nat.le_of_ble_eq_true rfl)) rfl rfl (Nat.le_of_ble_eq_true rfl) rfl dX8_init_50 ?_
  refine zi_aload0 (pc := 53) hC dX8_init_53 rfl ?_
  refine zi_iconst (pc := 54) (v := (3 : Int32)) hC dX8_init_54 (by decide) ?_
  refine zi_newa' (pc := 55) (N := 3) hC m_65 (by decide) (by decide) (Nat.le_of_ble_eq_true rfl) (Nat.le_of_ble_eq_true rfl) (Nat.le_of_ble_eq_true rfl) dX8_init_55 (fun q38 => ?_)
  refine zi_put (pc := 57) (ty := tyX8 7) (j := 7) (fs' := [.ref (a33 33), .ref q35, .int (0 : Int32), .int (0 : Int32), .ref q36, .ref q37, .int (0 : Int32), .ref q38]) hC hR rfl (Nat.le_of_ble_eq_true rfl) iX8 tyX8_ok nmX8 m_227 rfl (tyX8_ok _ (Nat.le_of_ble_eq_true rfl)) rfl rfl (Nat.le_of_ble_eq_true rfl) rfl dX8_init_57 ?_
  generalize ha9 : (fun k : Nat => if k < 33 then h0 else if k < 35 then a33 k else if k < 36 then q35 else if k < 37 then q36 else if k < 38 then q37 else if k < 39 then q38 else X_ad X k) = a9
  have hst9 : ∀ k, 1000 ≤ k → a9 k = X_ad X k := by
    intro k hk
    rw [← ha9]
    simp only []
    rw [if_neg (by omega), if_neg (by omega), if_neg (by omega), if_neg (by omega), if_neg (by omega), if_neg (by omega)]
  exact zi_ret (pc := 60) (a := a9) hC hR hA (by rw [← ha9]; rfl) hst9 (ct_cons (L := ((((([] ++ List.range' 33 2) ++ [35]) ++ [36]) ++ [37]) ++ [38])) lay_32 (by rw [← ha9]; rfl) (by rw [← ha9]; rfl) (by decide +kernel) (ct_app (ct_app (ct_app (ct_app (ct_app rfl (ct_tree (fun k h1 h2 => by rw [← ha9]; simp only []; rw [if_neg (by omega), if_pos (by omega)] ) (by decide +kernel))) (ct_arr lay_35 (by rw [← ha9]; rfl) rfl)) (ct_arr lay_36 (by rw [← ha9]; rfl) rfl)) (ct_arr lay_37 (by rw [← ha9]; rfl) rfl)) (ct_arr lay_38 (by rw [← ha9]; rfl) rfl))) dX8_init_60
set_option maxRecDepth 100000 in
set_option maxHeartbeats 4000000 in
theorem ci_39 (l : Launch) (h0 : Nat) : CI l yX8_init cX8_init 1 4 6 3866 h0 39 7 8 [.null, .null, .int 0, .int 0, .null, .null, .int 0, .null] := by
  refine ci_of (by decide) (by decide) (Nat.le_of_ble_eq_true rfl) (fun X hC hR hl hN hA => ?_)
  show Zi X _ 0 0 ((h0, .inr (8, [.null, .null, .int 0, .int 0, .null, .null, .int 0, .null])) :: []) 0 [(0, .ref h0)] []
  refine zi_aload0 (pc := 0) hC dX8_init_0 rfl ?_
  refine zi_obj (pc := 1) hC m_210 m_31 m_32 ⟨(Nat.le_of_ble_eq_true rfl), (Nat.le_of_ble_eq_true rfl)⟩ dX8_init_1 ?_
  refine zi_aload0 (pc := 4) hC dX8_init_4 rfl ?_
  refine zi_new' (pc := 5) (fs := [.null]) hC rfl iX10 tyX10_ok m_211 m_132 m_5 (by decide +kernel) (fun h9 => ci_40 _ h9) mc_yX10_init rfl m_134 (Or.inl m_212) ⟨(Nat.le_of_ble_eq_true rfl), (Nat.le_of_ble_eq_true rfl)⟩ (Nat.le_of_ble_eq_true rfl) (Nat.le_of_ble_eq_true rfl) (Nat.le_of_ble_eq_true rfl) dX8_init_5 dX8_init_8 dX8_init_9 (fun a40 e40 => ?_)
  refine zi_put (pc := 12) (ty := tyX8 0) (j := 0) (fs' := [.ref (a40 40), .null, .int 0, .int 0, .null, .null, .int 0, .null]) hC hR rfl (Nat.le_of_ble_eq_true rfl) iX8 tyX8_ok nmX8 m_213 rfl (tyX8_ok _ (Nat.le_of_ble_eq_true rfl)) rfl rfl (Nat.le_of_ble_eq_true rfl) rfl dX8_init_12 ?_
  refine zi_aload0 (pc := 15) hC dX8_init_15 rfl ?_
  refine zi_sipush (pc := 16) (v := (3760 : Int32)) hC dX8_init_16 (by decide) ?_
  refine zi_newa' (pc := 19) (N := 3760) hC m_65 (by decide) (by decide) (Nat.le_of_ble_eq_true rfl) (Nat.le_of_ble_eq_true rfl) (Nat.le_of_ble_eq_true rfl) dX8_init_19 (fun q42 => ?_)
  refine zi_put (pc := 21) (ty := tyX8 1) (j := 1) (fs' := [.ref (a40 40), .ref q42, .int 0, .int 0, .null, .null, .int 0, .null]) hC hR rfl (Nat.le_of_ble_eq_true rfl) iX8 tyX8_ok nmX8 m_216 rfl (tyX8_ok _ (Nat.le_of_ble_eq_true rfl)) rfl rfl (Nat.le_of_ble_eq_true rfl) rfl dX8_init_21 ?_
  refine zi_aload0 (pc := 24) hC dX8_init_24 rfl ?_
  refine zi_iconst (pc := 25) (v := (0 : Int32)) hC dX8_init_25 (by decide) ?_
  refine zi_put (pc := 26) (ty := tyX8 2) (j := 2) (fs' := [.ref (a40 40), .ref q42, .int (0 : Int32), .int 0, .null, .null, .int 0, .null]) hC hR rfl (Nat.le_of_ble_eq_true rfl) iX8 tyX8_ok nmX8 m_217 rfl (tyX8_ok _ (Nat.le_of_ble_eq_true rfl)) rfl rfl (Nat.le_of_ble_eq_true rfl) rfl dX8_init_26 ?_
  refine zi_aload0 (pc := 29) hC dX8_init_29 rfl ?_
  refine zi_iconst (pc := 30) (v := (0 : Int32)) hC dX8_init_30 (by decide) ?_
  refine zi_put (pc := 31) (ty := tyX8 3) (j := 3) (fs' := [.ref (a40 40), .ref q42, .int (0 : Int32), .int (0 : Int32), .null, .null, .int 0, .null]) hC hR rfl (Nat.le_of_ble_eq_true rfl) iX8 tyX8_ok nmX8 m_218 rfl (tyX8_ok _ (Nat.le_of_ble_eq_true rfl)) rfl rfl (Nat.le_of_ble_eq_true rfl) rfl dX8_init_31 ?_
  refine zi_aload0 (pc := 34) hC dX8_init_34 rfl ?_
  refine zi_iconst (pc := 35) (v := (4 : Int32)) hC dX8_init_35 (by decide) ?_
  refine zi_newa' (pc := 36) (N := 4) hC m_65 (by decide) (by decide) (Nat.le_of_ble_eq_true rfl) (Nat.le_of_ble_eq_true rfl) (Nat.le_of_ble_eq_true rfl) dX8_init_36 (fun q43 => ?_)
  refine zi_put (pc := 38) (ty := tyX8 4) (j := 4) (fs' := [.ref (a40 40), .ref q42, .int (0 : Int32), .int (0 : Int32), .ref q43, .null, .int 0, .null]) hC hR rfl (Nat.le_of_ble_eq_true rfl) iX8 tyX8_ok nmX8 m_220 rfl (tyX8_ok _ (Nat.le_of_ble_eq_true rfl)) rfl rfl (Nat.le_of_ble_eq_true rfl) rfl dX8_init_38 ?_
  refine zi_aload0 (pc := 41) hC dX8_init_41 rfl ?_
  refine zi_iconst (pc := 42) (v := (4 : Int32)) hC dX8_init_42 (by decide) ?_
  refine zi_newa' (pc := 43) (N := 4) hC m_65 (by decide) (by decide) (Nat.le_of_ble_eq_true rfl) (Nat.le_of_ble_eq_true rfl) (Nat.le_of_ble_eq_true rfl) dX8_init_43 (fun q44 => ?_)
  refine zi_put (pc := 45) (ty := tyX8 5) (j := 5) (fs' := [.ref (a40 40), .ref q42, .int (0 : Int32), .int (0 : Int32), .ref q43, .ref q44, .int 0, .null]) hC hR rfl (Nat.le_of_ble_eq_true rfl) iX8 tyX8_ok nmX8 m_222 rfl (tyX8_ok _ (Nat.le_of_ble_eq_true rfl)) rfl rfl (Nat.le_of_ble_eq_true rfl) rfl dX8_init_45 ?_
  refine zi_aload0 (pc := 48) hC dX8_init_48 rfl ?_
  refine zi_iconst (pc := 49) (v := (0 : Int32)) hC dX8_init_49 (by decide) ?_
  refine zi_put (pc := 50) (ty := tyX8 6) (j := 6) (fs' := [.ref (a40 40), .ref q42, .int (0 : Int32), .int (0 : Int32), .ref q43, .ref q44, .int (0 : Int32), .null]) hC hR rfl (Nat.le_of_ble_eq_true rfl) iX8 tyX8_ok nmX8 m_224 rfl (tyX8_ok _ (Nat.le_of_ble_eq_true rfl)) rfl rfl (Nat.le_of_ble_eq_true rfl) rfl dX8_init_50 ?_
  refine zi_aload0 (pc := 53) hC dX8_init_53 rfl ?_
  refine zi_iconst (pc := 54) (v := (3 : Int32)) hC dX8_init_54 (by decide) ?_
  refine zi_newa' (pc := 55) (N := 3) hC m_65 (by decide) (by decide) (Nat.le_of_ble_eq_true rfl) (Nat.le_of_ble_eq_true rfl) (Nat.le_of_ble_eq_true rfl) dX8_init_55 (fun q45 => ?_)
  refine zi_put (pc := 57) (ty := tyX8 7) (j := 7) (fs' := [.ref (a40 40), .ref q42, .int (0 : Int32), .int (0 : Int32), .ref q43, .ref q44, .int (0 : Int32), .ref q45]) hC hR rfl (Nat.le_of_ble_eq_true rfl) iX8 tyX8_ok nmX8 m_227 rfl (tyX8_ok _ (Nat.le_of_ble_eq_true rfl)) rfl rfl (Nat.le_of_ble_eq_true rfl) rfl dX8_init_57 ?_
  generalize ha9 : (fun k : Nat => if k < 40 then h0 else if k < 42 then a40 k else if k < 43 then q42 else if k < 44 then q43 else if k < 45 then q44 else if k < 46 then q45 else X_ad X k) = a9
  have hst9 : ∀ k, 1000 ≤ k → a9 k = X_ad X k := by
    intro k hk
    rw [← ha9]
    simp only []
    rw [if_neg (by omega), if_neg (by omega), if_neg (by omega), if_neg (by omega), if_neg (by omega), if_neg (by omega)]
  exact zi_ret (pc := 60) (a := a9) hC hR hA (by rw [← ha9]; rfl) hst9 (ct_cons (L := ((((([] ++ List.range' 40 2) ++ [42]) ++ [43]) ++ [44]) ++ [45])) lay_39 (by rw [← ha9]; rfl) (by rw [← ha9]; rfl) (by decide +kernel) (ct_app (ct_app (ct_app (ct_app (ct_app rfl (ct_tree (fun k h1 h2 => by rw [← ha9]; simp only []; rw [if_neg (by omega), if_pos (by omega)] ) (by decide +kernel))) (ct_arr lay_42 (by rw [← ha9]; rfl) rfl)) (ct_arr lay_43 (by rw [← ha9]; rfl) rfl)) (ct_arr lay_44 (by rw [← ha9]; rfl) rfl)) (ct_arr lay_45 (by rw [← ha9]; rfl) rfl))) dX8_init_60
set_option maxRecDepth 100000 in
set_option maxHeartbeats 4000000 in
theorem ci_2 (l : Launch) (h0 : Nat) : CI l yX6_init cX6_init 1 4 18 3882 h0 2 19 6 [.null, .null, .int 0, .null, .int 0, .int 0, .int 0, .int 0, .int 0] := by
  refine ci_of (by decide) (by decide) (Nat.le_of_ble_eq_true rfl) (fun X hC hR hl hN hA => ?_)
  show Zi X _ 0 0 ((h0, .inr (6, [.null, .null, .int 0, .null, .int 0, .int 0, .int 0, .int 0, .int 0])) :: []) 0 [(0, .ref h0)] []
  refine zi_aload0 (pc := 0) hC dX6_init_0 rfl ?_
  refine zi_obj (pc := 1) hC m_38 m_31 m_32 ⟨(Nat.le_of_ble_eq_true rfl), (Nat.le_of_ble_eq_true rfl)⟩ dX6_init_1 ?_
  refine zi_aload0 (pc := 4) hC dX6_init_4 rfl ?_
  refine zi_new' (pc := 5) (fs := [.int 0, .null, .null, .null, .int 0, .null, .int 0, .null, .null, .null, .int 0, .null]) hC rfl iX4 tyX4_ok m_39 m_40 m_3 (by decide +kernel) (fun h9 => ci_3 _ h9) mc_yX4_init rfl m_42 (Or.inr ⟨_, m_41⟩) ⟨(Nat.le_of_ble_eq_true rfl), (Nat.le_of_ble_eq_true rfl)⟩ (Nat.le_of_ble_eq_true rfl) (Nat.le_of_ble_eq_true rfl) (Nat.le_of_ble_eq_true rfl) dX6_init_5 dX6_init_8 dX6_init_9 (fun a3 e3 => ?_)
  refine zi_put (pc := 12) (ty := tyX6 0) (j := 0) (fs' := [.ref (a3 3), .null, .int 0, .null, .int 0, .int 0, .int 0, .int 0, .int 0]) hC hR rfl (Nat.le_of_ble_eq_true rfl) iX6 tyX6_ok nmX6 m_172 rfl (tyX6_ok _ (Nat.le_of_ble_eq_true rfl)) rfl rfl (Nat.le_of_ble_eq_true rfl) rfl dX6_init_12 ?_
  refine zi_aload0 (pc := 15) hC dX6_init_15 rfl ?_
  refine zi_new' (pc := 16) (fs := [.null]) hC rfl iX10 tyX10_ok m_131 m_132 m_5 (by decide +kernel) (fun h9 => ci_14 _ h9) mc_yX10_init rfl m_134 (Or.inl m_133) ⟨(Nat.le_of_ble_eq_true rfl), (Nat.le_of_ble_eq_true rfl)⟩ (Nat.le_of_ble_eq_true rfl) (Nat.le_of_ble_eq_true rfl) (Nat.le_of_ble_eq_true rfl) dX6_init_16 dX6_init_19 dX6_init_20 (fun a14 e14 => ?_)
  refine zi_put (pc := 23) (ty := tyX6 1) (j := 1) (fs' := [.ref (a3 3), .ref (a14 14), .int 0, .null, .int 0, .int 0, .int 0, .int 0, .int 0]) hC hR rfl (Nat.le_of_ble_eq_true rfl) iX6 tyX6_ok nmX6 m_174 rfl (tyX6_ok _ (Nat.le_of_ble_eq_true rfl)) rfl rfl (Nat.le_of_ble_eq_true rfl) rfl dX6_init_23 ?_
  refine zi_aload0 (pc := 26) hC dX6_init_26 rfl ?_
  refine zi_iconst (pc := 27) (v := (-1 : Int32)) hC dX6_init_27 (by decide) ?_
  refine zi_put (pc := 28) (ty := tyX6 2) (j := 2) (fs' := [.ref (a3 3), .ref (a14 14), .int (-1 : Int32), .null, .int 0, .int 0, .int 0, .int 0, .int 0]) hC hR rfl (Nat.le_of_ble_eq_true rfl) iX6 tyX6_ok nmX6 m_176 rfl (tyX6_ok _ (Nat.le_of_ble_eq_true rfl)) rfl rfl (Nat.le_of_ble_eq_true rfl) rfl dX6_init_28 ?_
  refine zi_aload0 (pc := 31) hC dX6_init_31 rfl ?_
  refine zi_new' (pc := 32) (fs := [.null, .null, .null, .null, .int 0]) hC rfl iX9 tyX9_ok m_147 m_148 m_6 (by decide +kernel) (fun h9 => ci_16 _ h9) mc_yX9_init rfl m_150 (Or.inr ⟨_, m_149⟩) ⟨(Nat.le_of_ble_eq_true rfl), (Nat.le_of_ble_eq_true rfl)⟩ (Nat.le_of_ble_eq_true rfl) (Nat.le_of_ble_eq_true rfl) (Nat.le_of_ble_eq_true rfl) dX6_init_32 dX6_init_35 dX6_init_36 (fun a16 e16 => ?_)
  refine zi_put (pc := 39) (ty := tyX6 3) (j := 3) (fs' := [.ref (a3 3), .ref (a14 14), .int (-1 : Int32), .ref (a16 16), .int 0, .int 0, .int 0, .int 0, .int 0]) hC hR rfl (Nat.le_of_ble_eq_true rfl) iX6 tyX6_ok nmX6 m_178 rfl (tyX6_ok _ (Nat.le_of_ble_eq_true rfl)) rfl rfl (Nat.le_of_ble_eq_true rfl) rfl dX6_init_39 ?_
  refine zi_aload0 (pc := 42) hC dX6_init_42 rfl ?_
  refine zi_iconst (pc := 43) (v := (0 : Int32)) hC dX6_init_43 (by decide) ?_
  refine zi_put (pc := 44) (ty := tyX6 4) (j := 4) (fs' := [.ref (a3 3), .ref (a14 14), .int (-1 : Int32), .ref (a16 16), .int (0 : Int32), .int 0, .int 0, .int 0, .int 0]) hC hR rfl (Nat.le_of_ble_eq_true rfl) iX6 tyX6_ok nmX6 m_179 rfl (tyX6_ok _ (Nat.le_of_ble_eq_true rfl)) rfl rfl (Nat.le_of_ble_eq_true rfl) rfl dX6_init_44 ?_
  refine zi_aload0 (pc := 47) hC dX6_init_47 rfl ?_
  refine zi_iconst (pc := 48) (v := (0 : Int32)) hC dX6_init_48 (by decide) ?_
  refine zi_put (pc := 49) (ty := tyX6 5) (j := 5) (fs' := [.ref (a3 3), .ref (a14 14), .int (-1 : Int32), .ref (a16 16), .int (0 : Int32), .int (0 : Int32), .int 0, .int 0, .int 0]) hC hR rfl (Nat.le_of_ble_eq_true rfl) iX6 tyX6_ok nmX6 m_180 rfl (tyX6_ok _ (Nat.le_of_ble_eq_true rfl)) rfl rfl (Nat.le_of_ble_eq_true rfl) rfl dX6_init_49 ?_
  refine zi_aload0 (pc := 52) hC dX6_init_52 rfl ?_
  refine zi_iconst (pc := 53) (v := (-1 : Int32)) hC dX6_init_53 (by decide) ?_
  refine zi_put (pc := 54) (ty := tyX6 6) (j := 6) (fs' := [.ref (a3 3), .ref (a14 14), .int (-1 : Int32), .ref (a16 16), .int (0 : Int32), .int (0 : Int32), .int (-1 : Int32), .int 0, .int 0]) hC hR rfl (Nat.le_of_ble_eq_true rfl) iX6 tyX6_ok nmX6 m_181 rfl (tyX6_ok _ (Nat.le_of_ble_eq_true rfl)) rfl rfl (Nat.le_of_ble_eq_true rfl) rfl dX6_init_54 ?_
  refine zi_aload0 (pc := 57) hC dX6_init_57 rfl ?_
  refine zi_iconst (pc := 58) (v := (0 : Int32)) hC dX6_init_58 (by decide) ?_
  refine zi_put (pc := 59) (ty := tyX6 7) (j := 7) (fs' := [.ref (a3 3), .ref (a14 14), .int (-1 : Int32), .ref (a16 16), .int (0 : Int32), .int (0 : Int32), .int (-1 : Int32), .int (0 : Int32), .int 0]) hC hR rfl (Nat.le_of_ble_eq_true rfl) iX6 tyX6_ok nmX6 m_182 rfl (tyX6_ok _ (Nat.le_of_ble_eq_true rfl)) rfl rfl (Nat.le_of_ble_eq_true rfl) rfl dX6_init_59 ?_
  refine zi_aload0 (pc := 62) hC dX6_init_62 rfl ?_
  refine zi_iconst (pc := 63) (v := (0 : Int32)) hC dX6_init_63 (by decide) ?_
  refine zi_put (pc := 64) (ty := tyX6 8) (j := 8) (fs' := [.ref (a3 3), .ref (a14 14), .int (-1 : Int32), .ref (a16 16), .int (0 : Int32), .int (0 : Int32), .int (-1 : Int32), .int (0 : Int32), .int (0 : Int32)]) hC hR rfl (Nat.le_of_ble_eq_true rfl) iX6 tyX6_ok nmX6 m_183 rfl (tyX6_ok _ (Nat.le_of_ble_eq_true rfl)) rfl rfl (Nat.le_of_ble_eq_true rfl) rfl dX6_init_64 ?_
  generalize ha9 : (fun k : Nat => if k < 3 then h0 else if k < 14 then a3 k else if k < 16 then a14 k else if k < 21 then a16 k else X_ad X k) = a9
  have hst9 : ∀ k, 1000 ≤ k → a9 k = X_ad X k := by
    intro k hk
    rw [← ha9]
    simp only []
    rw [if_neg (by omega), if_neg (by omega), if_neg (by omega), if_neg (by omega)]
  exact zi_ret (pc := 67) (a := a9) hC hR hA (by rw [← ha9]; rfl) hst9 (ct_cons (L := ((([] ++ List.range' 3 11) ++ List.range' 14 2) ++ List.range' 16 5)) lay_2 (by rw [← ha9]; rfl) (by rw [← ha9]; rfl) (by decide +kernel) (ct_app (ct_app (ct_app rfl (ct_tree (fun k h1 h2 => by rw [← ha9]; simp only []; rw [if_neg (by omega), if_pos (by omega)] ) (by decide +kernel))) (ct_tree (fun k h1 h2 => by rw [← ha9]; simp only []; rw [if_neg (by omega), if_neg (by omega), if_pos (by omega)] ) (by decide +kernel))) (ct_tree (fun k h1 h2 => by rw [← ha9]; simp only []; rw [if_neg (by omega), if_neg (by omega), if_neg (by omega), if_pos (by omega)] ) (by decide +kernel)))) dX6_init_67
set_option maxRecDepth 100000 in
set_option maxHeartbeats 4000000 in
theorem ci_0 (l : Launch) (h0 : Nat) : CI l yX11_init cX11_init 1 5 68 14052 h0 0 69 11 [.null, .int 0, .int 0, .null, .null, .null, .null, .int 0, .null, .null, .null, .null, .null, .null, .null] := by
  refine ci_of (by decide) (by decide) (Nat.le_of_ble_eq_true rfl) (fun X hC hR hl hN hA => ?_)
  show Zi X _ 0 0 ((h0, .inr (11, [.null, .int 0, .int 0, .null, .null, .null, .null, .int 0, .null, .null, .null, .null, .null, .null, .null])) :: []) 0 [(0, .ref h0)] []
  refine zi_aload0 (pc := 0) hC dX11_init_0 rfl ?_
  refine zi_obj (pc := 1) hC m_30 m_31 m_32 ⟨(Nat.le_of_ble_eq_true rfl), (Nat.le_of_ble_eq_true rfl)⟩ dX11_init_1 ?_
  refine zi_aload0 (pc := 4) hC dX11_init_4 rfl ?_
  refine zi_sipush (pc := 5) (v := (700 : Int32)) hC dX11_init_5 (by decide) ?_
  refine zi_newa' (pc := 8) (N := 700) hC m_65 (by decide) (by decide) (Nat.le_of_ble_eq_true rfl) (Nat.le_of_ble_eq_true rfl) (Nat.le_of_ble_eq_true rfl) dX11_init_8 (fun q1 => ?_)
  refine zi_put (pc := 10) (ty := tyX11 0) (j := 0) (fs' := [.ref q1, .int 0, .int 0, .null, .null, .null, .null, .int 0, .null, .null, .null, .null, .null, .null, .null]) hC hR rfl (Nat.le_of_ble_eq_true rfl) iX11 tyX11_ok nmX11 m_382 rfl (tyX11_ok _ (Nat.le_of_ble_eq_true rfl)) rfl rfl (Nat.le_of_ble_eq_true rfl) rfl dX11_init_10 ?_
  refine zi_aload0 (pc := 13) hC dX11_init_13 rfl ?_
  refine zi_iconst (pc := 14) (v := (0 : Int32)) hC dX11_init_14 (by decide) ?_
  refine zi_put (pc := 15) (ty := tyX11 1) (j := 1) (fs' := [.ref q1, .int (0 : Int32), .int 0, .null, .null, .null, .null, .int 0, .null, .null, .null, .null, .null, .null, .null]) hC hR rfl (Nat.le_of_ble_eq_true rfl) iX11 tyX11_ok nmX11 m_383 rfl (tyX11_ok _ (Nat.le_of_ble_eq_true rfl)) rfl rfl (Nat.le_of_ble_eq_true rfl) rfl dX11_init_15 ?_
  refine zi_aload0 (pc := 18) hC dX11_init_18 rfl ?_
  refine zi_iconst (pc := 19) (v := (-1 : Int32)) hC dX11_init_19 (by decide) ?_
  refine zi_put (pc := 20) (ty := tyX11 2) (j := 2) (fs' := [.ref q1, .int (0 : Int32), .int (-1 : Int32), .null, .null, .null, .null, .int 0, .null, .null, .null, .null, .null, .null, .null]) hC hR rfl (Nat.le_of_ble_eq_true rfl) iX11 tyX11_ok nmX11 m_384 rfl (tyX11_ok _ (Nat.le_of_ble_eq_true rfl)) rfl rfl (Nat.le_of_ble_eq_true rfl) rfl dX11_init_20 ?_
  refine zi_aload0 (pc := 23) hC dX11_init_23 rfl ?_
  refine zi_new' (pc := 24) (fs := [.null, .null, .int 0, .null, .int 0, .int 0, .int 0, .int 0, .int 0]) hC rfl iX6 tyX6_ok m_33 m_34 m_2 (by decide +kernel) (fun h9 => ci_2 _ h9) mc_yX6_init rfl m_36 (Or.inr ⟨_, m_35⟩) ⟨(Nat.le_of_ble_eq_true rfl), (Nat.le_of_ble_eq_true rfl)⟩ (Nat.le_of_ble_eq_true rfl) (Nat.le_of_ble_eq_true rfl) (Nat.le_of_ble_eq_true rfl) dX11_init_24 dX11_init_27 dX11_init_28 (fun a2 e2 => ?_)
  refine zi_put (pc := 31) (ty := tyX11 3) (j := 3) (fs' := [.ref q1, .int (0 : Int32), .int (-1 : Int32), .ref (a2 2), .null, .null, .null, .int 0, .null, .null, .null, .null, .null, .null, .null]) hC hR rfl (Nat.le_of_ble_eq_true rfl) iX11 tyX11_ok nmX11 m_385 rfl (tyX11_ok _ (Nat.le_of_ble_eq_true rfl)) rfl rfl (Nat.le_of_ble_eq_true rfl) rfl dX11_init_31 ?_
  refine zi_aload0 (pc := 34) hC dX11_init_34 rfl ?_
  refine zi_new' (pc := 35) (fs := [.int 0, .null, .null, .null, .int 0, .null, .int 0, .null, .null, .null, .int 0, .null]) hC rfl iX4 tyX4_ok m_203 m_40 m_3 (by decide +kernel) (fun h9 => ci_21 _ h9) mc_yX4_init rfl m_42 (Or.inr ⟨_, m_204⟩) ⟨(Nat.le_of_ble_eq_true rfl), (Nat.le_of_ble_eq_true rfl)⟩ (Nat.le_of_ble_eq_true rfl) (Nat.le_of_ble_eq_true rfl) (Nat.le_of_ble_eq_true rfl) dX11_init_35 dX11_init_38 dX11_init_39 (fun a21 e21 => ?_)
  refine zi_put (pc := 42) (ty := tyX11 4) (j := 4) (fs' := [.ref q1, .int (0 : Int32), .int (-1 : Int32), .ref (a2 2), .ref (a21 21), .null, .null, .int 0, .null, .null, .null, .null, .null, .null, .null]) hC hR rfl (Nat.le_of_ble_eq_true rfl) iX11 tyX11_ok nmX11 m_386 rfl (tyX11_ok _ (Nat.le_of_ble_eq_true rfl)) rfl rfl (Nat.le_of_ble_eq_true rfl) rfl dX11_init_42 ?_
  refine zi_aload0 (pc := 45) hC dX11_init_45 rfl ?_
  refine zi_new' (pc := 46) (fs := [.null, .null, .int 0, .int 0, .null, .null, .int 0, .null]) hC rfl iX8 tyX8_ok m_205 m_206 m_7 (by decide +kernel) (fun h9 => ci_32 _ h9) mc_yX8_init rfl m_208 (Or.inr ⟨_, m_207⟩) ⟨(Nat.le_of_ble_eq_true rfl), (Nat.le_of_ble_eq_true rfl)⟩ (Nat.le_of_ble_eq_true rfl) (Nat.le_of_ble_eq_true rfl) (Nat.le_of_ble_eq_true rfl) dX11_init_46 dX11_init_49 dX11_init_50 (fun a32 e32 => ?_)
  refine zi_put (pc := 53) (ty := tyX11 5) (j := 5) (fs' := [.ref q1, .int (0 : Int32), .int (-1 : Int32), .ref (a2 2), .ref (a21 21), .ref (a32 32), .null, .int 0, .null, .null, .null, .null, .null, .null, .null]) hC hR rfl (Nat.le_of_ble_eq_true rfl) iX11 tyX11_ok nmX11 m_387 rfl (tyX11_ok _ (Nat.le_of_ble_eq_true rfl)) rfl rfl (Nat.le_of_ble_eq_true rfl) rfl dX11_init_53 ?_
  refine zi_aload0 (pc := 56) hC dX11_init_56 rfl ?_
  refine zi_new' (pc := 57) (fs := [.null, .null, .int 0, .int 0, .null, .null, .int 0, .null]) hC rfl iX8 tyX8_ok m_205 m_206 m_7 (by decide +kernel) (fun h9 => ci_39 _ h9) mc_yX8_init rfl m_208 (Or.inr ⟨_, m_207⟩) ⟨(Nat.le_of_ble_eq_true rfl), (Nat.le_of_ble_eq_true rfl)⟩ (Nat.le_of_ble_eq_true rfl) (Nat.le_of_ble_eq_true rfl) (Nat.le_of_ble_eq_true rfl) dX11_init_57 dX11_init_60 dX11_init_61 (fun a39 e39 => ?_)
  refine zi_put (pc := 64) (ty := tyX11 6) (j := 6) (fs' := [.ref q1, .int (0 : Int32), .int (-1 : Int32), .ref (a2 2), .ref (a21 21), .ref (a32 32), .ref (a39 39), .int 0, .null, .null, .null, .null, .null, .null, .null]) hC hR rfl (Nat.le_of_ble_eq_true rfl) iX11 tyX11_ok nmX11 m_388 rfl (tyX11_ok _ (Nat.le_of_ble_eq_true rfl)) rfl rfl (Nat.le_of_ble_eq_true rfl) rfl dX11_init_64 ?_
  refine zi_aload0 (pc := 67) hC dX11_init_67 rfl ?_
  refine zi_iconst (pc := 68) (v := (0 : Int32)) hC dX11_init_68 (by decide) ?_
  refine zi_put (pc := 69) (ty := tyX11 7) (j := 7) (fs' := [.ref q1, .int (0 : Int32), .int (-1 : Int32), .ref (a2 2), .ref (a21 21), .ref (a32 32), .ref (a39 39), .int (0 : Int32), .null, .null, .null, .null, .null, .null, .null]) hC hR rfl (Nat.le_of_ble_eq_true rfl) iX11 tyX11_ok nmX11 m_389 rfl (tyX11_ok _ (Nat.le_of_ble_eq_true rfl)) rfl rfl (Nat.le_of_ble_eq_true rfl) rfl dX11_init_69 ?_
  refine zi_aload0 (pc := 72) hC dX11_init_72 rfl ?_
  refine zi_new' (pc := 73) (fs := [.null]) hC rfl iX10 tyX10_ok m_246 m_132 m_5 (by decide +kernel) (fun h9 => ci_46 _ h9) mc_yX10_init rfl m_134 (Or.inl m_247) ⟨(Nat.le_of_ble_eq_true rfl), (Nat.le_of_ble_eq_true rfl)⟩ (Nat.le_of_ble_eq_true rfl) (Nat.le_of_ble_eq_true rfl) (Nat.le_of_ble_eq_true rfl) dX11_init_73 dX11_init_76 dX11_init_77 (fun a46 e46 => ?_)
  refine zi_put (pc := 80) (ty := tyX11 8) (j := 8) (fs' := [.ref q1, .int (0 : Int32), .int (-1 : Int32), .ref (a2 2), .ref (a21 21), .ref (a32 32), .ref (a39 39), .int (0 : Int32), .ref (a46 46), .null, .null, .null, .null, .null, .null]) hC hR rfl (Nat.le_of_ble_eq_true rfl) iX11 tyX11_ok nmX11 m_390 rfl (tyX11_ok _ (Nat.le_of_ble_eq_true rfl)) rfl rfl (Nat.le_of_ble_eq_true rfl) rfl dX11_init_80 ?_
  refine zi_aload0 (pc := 83) hC dX11_init_83 rfl ?_
  refine zi_new' (pc := 84) (fs := [.null, .null, .int 0, .int 0, .int 0]) hC rfl iX2 tyX2_ok m_248 m_249 m_8 (by decide +kernel) (fun h9 => ci_48 _ h9) mc_yX2_init rfl m_251 (Or.inr ⟨_, m_250⟩) ⟨(Nat.le_of_ble_eq_true rfl), (Nat.le_of_ble_eq_true rfl)⟩ (Nat.le_of_ble_eq_true rfl) (Nat.le_of_ble_eq_true rfl) (Nat.le_of_ble_eq_true rfl) dX11_init_84 dX11_init_87 dX11_init_88 (fun a48 e48 => ?_)
  refine zi_put (pc := 91) (ty := tyX11 9) (j := 9) (fs' := [.ref q1, .int (0 : Int32), .int (-1 : Int32), .ref (a2 2), .ref (a21 21), .ref (a32 32), .ref (a39 39), .int (0 : Int32), .ref (a46 46), .ref (a48 48), .null, .null, .null, .null, .null]) hC hR rfl (Nat.le_of_ble_eq_true rfl) iX11 tyX11_ok nmX11 m_391 rfl (tyX11_ok _ (Nat.le_of_ble_eq_true rfl)) rfl rfl (Nat.le_of_ble_eq_true rfl) rfl dX11_init_91 ?_
  refine zi_aload0 (pc := 94) hC dX11_init_94 rfl ?_
  refine zi_new' (pc := 95) (fs := [.null, .null, .null, .null, .int 0, .int 0, .int 0, .int 0]) hC rfl iX1 tyX1_ok m_271 m_272 m_9 (by decide +kernel) (fun h9 => ci_51 _ h9) mc_yX1_init rfl m_274 (Or.inr ⟨_, m_273⟩) ⟨(Nat.le_of_ble_eq_true rfl), (Nat.le_of_ble_eq_true rfl)⟩ (Nat.le_of_ble_eq_true rfl) (Nat.le_of_ble_eq_true rfl) (Nat.le_of_ble_eq_true rfl) dX11_init_95 dX11_init_98 dX11_init_99 (fun a51 e51 => ?_)
  refine zi_put (pc := 102) (ty := tyX11 10) (j := 10) (fs' := [.ref q1, .int (0 : Int32), .int (-1 : Int32), .ref (a2 2), .ref (a21 21), .ref (a32 32), .ref (a39 39), .int (0 : Int32), .ref (a46 46), .ref (a48 48), .ref (a51 51), .null, .null, .null, .null]) hC hR rfl (Nat.le_of_ble_eq_true rfl) iX11 tyX11_ok nmX11 m_392 rfl (tyX11_ok _ (Nat.le_of_ble_eq_true rfl)) rfl rfl (Nat.le_of_ble_eq_true rfl) rfl dX11_init_102 ?_
  refine zi_aload0 (pc := 105) hC dX11_init_105 rfl ?_
  refine zi_new' (pc := 106) (fs := [.null, .null, .int 0, .null, .null, .int 0]) hC rfl iX0 tyX0_ok m_306 m_307 m_10 (by decide +kernel) (fun h9 => ci_57 _ h9) mc_yX0_init rfl m_309 (Or.inr ⟨_, m_308⟩) ⟨(Nat.le_of_ble_eq_true rfl), (Nat.le_of_ble_eq_true rfl)⟩ (Nat.le_of_ble_eq_true rfl) (Nat.le_of_ble_eq_true rfl) (Nat.le_of_ble_eq_true rfl) dX11_init_106 dX11_init_109 dX11_init_110 (fun a57 e57 => ?_)
  refine zi_put (pc := 113) (ty := tyX11 11) (j := 11) (fs' := [.ref q1, .int (0 : Int32), .int (-1 : Int32), .ref (a2 2), .ref (a21 21), .ref (a32 32), .ref (a39 39), .int (0 : Int32), .ref (a46 46), .ref (a48 48), .ref (a51 51), .ref (a57 57), .null, .null, .null]) hC hR rfl (Nat.le_of_ble_eq_true rfl) iX11 tyX11_ok nmX11 m_393 rfl (tyX11_ok _ (Nat.le_of_ble_eq_true rfl)) rfl rfl (Nat.le_of_ble_eq_true rfl) rfl dX11_init_113 ?_
  refine zi_aload0 (pc := 116) hC dX11_init_116 rfl ?_
  refine zi_new' (pc := 117) (fs := [.null, .null, .int 0, .int 0, .int 0]) hC rfl iX7 tyX7_ok m_333 m_334 m_11 (by decide +kernel) (fun h9 => ci_62 _ h9) mc_yX7_init rfl m_336 (Or.inr ⟨_, m_335⟩) ⟨(Nat.le_of_ble_eq_true rfl), (Nat.le_of_ble_eq_true rfl)⟩ (Nat.le_of_ble_eq_true rfl) (Nat.le_of_ble_eq_true rfl) (Nat.le_of_ble_eq_true rfl) dX11_init_117 dX11_init_120 dX11_init_121 (fun a62 e62 => ?_)
  refine zi_put (pc := 124) (ty := tyX11 12) (j := 12) (fs' := [.ref q1, .int (0 : Int32), .int (-1 : Int32), .ref (a2 2), .ref (a21 21), .ref (a32 32), .ref (a39 39), .int (0 : Int32), .ref (a46 46), .ref (a48 48), .ref (a51 51), .ref (a57 57), .ref (a62 62), .null, .null]) hC hR rfl (Nat.le_of_ble_eq_true rfl) iX11 tyX11_ok nmX11 m_394 rfl (tyX11_ok _ (Nat.le_of_ble_eq_true rfl)) rfl rfl (Nat.le_of_ble_eq_true rfl) rfl dX11_init_124 ?_
  refine zi_aload0 (pc := 127) hC dX11_init_127 rfl ?_
  refine zi_new' (pc := 128) (fs := [.null, .null, .int 0, .int 0, .int 0]) hC rfl iX3 tyX3_ok m_357 m_358 m_12 (by decide +kernel) (fun h9 => ci_65 _ h9) mc_yX3_init rfl m_360 (Or.inr ⟨_, m_359⟩) ⟨(Nat.le_of_ble_eq_true rfl), (Nat.le_of_ble_eq_true rfl)⟩ (Nat.le_of_ble_eq_true rfl) (Nat.le_of_ble_eq_true rfl) (Nat.le_of_ble_eq_true rfl) dX11_init_128 dX11_init_131 dX11_init_132 (fun a65 e65 => ?_)
  refine zi_put (pc := 135) (ty := tyX11 13) (j := 13) (fs' := [.ref q1, .int (0 : Int32), .int (-1 : Int32), .ref (a2 2), .ref (a21 21), .ref (a32 32), .ref (a39 39), .int (0 : Int32), .ref (a46 46), .ref (a48 48), .ref (a51 51), .ref (a57 57), .ref (a62 62), .ref (a65 65), .null]) hC hR rfl (Nat.le_of_ble_eq_true rfl) iX11 tyX11_ok nmX11 m_395 rfl (tyX11_ok _ (Nat.le_of_ble_eq_true rfl)) rfl rfl (Nat.le_of_ble_eq_true rfl) rfl dX11_init_135 ?_
  refine zi_aload0 (pc := 138) hC dX11_init_138 rfl ?_
  refine zi_bipush (pc := 139) (v := (6 : Int32)) hC dX11_init_139 (by decide) ?_
  refine zi_newa' (pc := 141) (N := 6) hC m_65 (by decide) (by decide) (Nat.le_of_ble_eq_true rfl) (Nat.le_of_ble_eq_true rfl) (Nat.le_of_ble_eq_true rfl) dX11_init_141 (fun q68 => ?_)
  refine zi_put (pc := 143) (ty := tyX11 14) (j := 14) (fs' := [.ref q1, .int (0 : Int32), .int (-1 : Int32), .ref (a2 2), .ref (a21 21), .ref (a32 32), .ref (a39 39), .int (0 : Int32), .ref (a46 46), .ref (a48 48), .ref (a51 51), .ref (a57 57), .ref (a62 62), .ref (a65 65), .ref q68]) hC hR rfl (Nat.le_of_ble_eq_true rfl) iX11 tyX11_ok nmX11 m_396 rfl (tyX11_ok _ (Nat.le_of_ble_eq_true rfl)) rfl rfl (Nat.le_of_ble_eq_true rfl) rfl dX11_init_143 ?_
  generalize ha9 : (fun k : Nat => if k < 1 then h0 else if k < 2 then q1 else if k < 21 then a2 k else if k < 32 then a21 k else if k < 39 then a32 k else if k < 46 then a39 k else if k < 48 then a46 k else if k < 51 then a48 k else if k < 57 then a51 k else if k < 62 then a57 k else if k < 65 then a62 k else if k < 68 then a65 k else if k < 69 then q68 else X_ad X k) = a9
  have hst9 : ∀ k, 1000 ≤ k → a9 k = X_ad X k := by
    intro k hk
    rw [← ha9]
    simp only []
    rw [if_neg (by omega), if_neg (by omega), if_neg (by omega), if_neg (by omega), if_neg (by omega), if_neg (by omega), if_neg (by omega), if_neg (by omega), if_neg (by omega), if_neg (by omega), if_neg (by omega), if_neg (by omega), if_neg (by omega)]
  exact zi_ret (pc := 146) (a := a9) hC hR hA (by rw [← ha9]; rfl) hst9 (ct_cons (L := (((((((((((([] ++ [1]) ++ List.range' 2 19) ++ List.range' 21 11) ++ List.range' 32 7) ++ List.range' 39 7) ++ List.range' 46 2) ++ List.range' 48 3) ++ List.range' 51 6) ++ List.range' 57 5) ++ List.range' 62 3) ++ List.range' 65 3) ++ [68])) lay_0 (by rw [← ha9]; rfl) (by rw [← ha9]; rfl) (by decide +kernel) (ct_app (ct_app (ct_app (ct_app (ct_app (ct_app (ct_app (ct_app (ct_app (ct_app (ct_app (ct_app rfl (ct_arr lay_1 (by rw [← ha9]; rfl) rfl)) (ct_tree (fun k h1 h2 => by rw [← ha9]; simp only []; rw [if_neg (by omega), if_neg (by omega), if_pos (by omega)] ) (by decide +kernel))) (ct_tree (fun k h1 h2 => by rw [← ha9]; simp only []; rw [if_neg (by omega), if_neg (by omega), if_neg (by omega), if_pos (by omega)] ) (by decide +kernel))) (ct_tree (fun k h1 h2 => by rw [← ha9]; simp only []; rw [if_neg (by omega), if_neg (by omega), if_neg (by omega), if_neg (by omega), if_pos (by omega)] ) (by decide +kernel))) (ct_tree (fun k h1 h2 => by rw [← ha9]; simp only []; rw [if_neg (by omega), if_neg (by omega), if_neg (by omega), if_neg (by omega), if_neg (by omega), if_pos (by omega)] ) (by decide +kernel))) (ct_tree (fun k h1 h2 => by rw [← ha9]; simp only []; rw [if_neg (by omega), if_neg (by omega), if_neg (by omega), if_neg (by omega), if_neg (by omega), if_neg (by omega), if_pos (by omega)] ) (by decide +kernel))) (ct_tree (fun k h1 h2 => by rw [← ha9]; simp only []; rw [if_neg (by omega), if_neg (by omega), if_neg (by omega), if_neg (by omega), if_neg (by omega), if_neg (by omega), if_neg (by omega), if_pos (by omega)] ) (by decide +kernel))) (ct_tree (fun k h1 h2 => by rw [← ha9]; simp only []; rw [if_neg (by omega), if_neg (by omega), if_neg (by omega), if_neg (by omega), if_neg (by omega), if_neg (by omega), if_neg (by omega), if_neg (by omega), if_pos (by omega)] ) (by decide +kernel))) (ct_tree (fun k h1 h2 => by rw [← ha9]; simp only []; rw [if_neg (by omega), if_neg (by omega), if_neg (by omega), if_neg (by omega), if_neg (by omega), if_neg (by omega), if_neg (by omega), if_neg (by omega), if_neg (by omega), if_pos (by omega)] ) (by decide +kernel))) (ct_tree (fun k h1 h2 => by rw [← ha9]; simp only []; rw [if_neg (by omega), if_neg (by omega), if_neg (by omega), if_neg (by omega), if_neg (by omega), if_neg (by omega), if_neg (by omega), if_neg (by omega), if_neg (by omega), if_neg (by omega), if_pos (by omega)] ) (by decide +kernel))) (ct_tree (fun k h1 h2 => by rw [← ha9]; simp only []; rw [if_neg (by omega), if_neg (by omega), if_neg (by omega), if_neg (by omega), if_neg (by omega), if_neg (by omega), if_neg (by omega), if_neg (by omega), if_neg (by omega), if_neg (by omega), if_neg (by omega), if_pos (by omega)] ) (by decide +kernel))) (ct_arr lay_68 (by rw [← ha9]; rfl) rfl))) dX11_init_146
