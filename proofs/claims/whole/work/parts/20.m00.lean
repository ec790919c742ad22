def fX11_put (r0 : Nat) (a1 : Int32) (a2 : Int32) (s : St) : Option (Int32 × St) :=
  if a1 < 0 then
    (some (0, s))
  else
    (if (Int32.ofNat (LN r0)) ≤ a1 then
    (some (0, s))
  else
    (if inA a1 (LN r0) then
    (let s_1 := wr s r0 a1.toNatClampNeg a2;
    some (0, s_1)) else none))
set_option maxRecDepth 100000 in
set_option maxHeartbeats 4000000 in
theorem kX11_put (l : Launch) {Dl : List Nat}  {r0 : Nat} (hr0 : isArrD Dl r0) (a1 : Int32) (a2 : Int32) (s : St) : CN l yX11_put cX11_put 3 none 1 Dl (fun ad => [.ref (ad r0), .int a1, .int a2]) s (fX11_put r0 a1 a2 s) := by
  refine cn_of (by decide) (fun _ => (Nat.le_of_ble_eq_true rfl)) (fun X hC hR hl hN => ?_)
  subst hl
  show Zr X (QFN X none) 0 s 0 [(0, .ref (X_ad X r0)), (1, .int a1), (2, .int a2)] [] _
  rw [fX11_put]
  refine zr_aload_n (pc := 0) (i := 0) 0 hC dX11_put_0 rfl rfl ?_
  refine zr_ifnull (pc := 1) hC dX11_put_1 ?_
  refine zr_iload_n (pc := 4) (i := 1) 1 hC dX11_put_4 rfl rfl ?_
  refine zr_if_lt (pc := 5) (tgt := 18) hC dX11_put_5 (by decide) (fun c_ => ?_) (fun c_ => ?_)
  · exact zr_vret (pc := 18) hC hR dX11_put_18
  · refine zr_iload_n (pc := 8) (i := 1) 1 hC dX11_put_8 rfl rfl ?_
    refine zr_aload_n (pc := 9) (i := 0) 0 hC dX11_put_9 rfl rfl ?_
    refine zr_alen (pc := 10) hC hr0.1 hr0.2 dX11_put_10 ?_
    refine zr_icmp_ge (pc := 11) (tgt := 18) hC dX11_put_11 (by decide) (fun c_ => ?_) (fun c_ => ?_)
    · exact zr_vret (pc := 18) hC hR dX11_put_18
    · refine zr_aload_n (pc := 14) (i := 0) 0 hC dX11_put_14 rfl rfl ?_
      refine zr_iload_n (pc := 15) (i := 1) 1 hC dX11_put_15 rfl rfl ?_
      refine zr_iload_n (pc := 16) (i := 2) 2 hC dX11_put_16 rfl rfl ?_
      refine zr_iast (pc := 17) hC hr0.1 hr0.2 dX11_put_17 ?_
      exact zr_vret (pc := 18) hC hR dX11_put_18
def fX11_fill_L3 (r0 : Nat) (c2 : Int32) (c3 : Int32) : Nat → Int32 → St → Option (Int32 × St)
  | 0, _, _ => none
  | n + 1, v4, s =>
    if c2 ≤ v4 then
    (some (0, s))
  else
    (bd (fX11_put r0 v4 c3 s) (fun y_1 s_1 =>
    fX11_fill_L3 r0 c2 c3 n (v4 + (1 : Int32)) s_1))
set_option maxRecDepth 100000 in
set_option maxHeartbeats 4000000 in
theorem tX11_fill_L3 (r0 : Nat) (c2 : Int32) (c3 : Int32) {Dl : List Nat} (X : KX) (hC : Ctx X RX11 cX11_fill Dl 2 0) (hR : RC X none) (hN : X_nL X = 5) (hr0 : isArrD Dl r0) : ∀ (n : Nat) (v4 : Int32) (s : St), Zr X (QFN X none) 0 s 3 [(0, .ref (X_ad X r0)), (2, .int c2), (3, .int c3), (4, .int v4)] [] (fX11_fill_L3 r0 c2 c3 n v4 s) := by
  intro n
  induction n with
  | zero =>
    intro v4 s
    exact zr_none
  | succ n ih =>
    intro v4 s
    rw [fX11_fill_L3]
    refine zr_iload (pc := 3) 3 hC dX11_fill_3 rfl ?_
    refine zr_iload_n (pc := 5) (i := 2) 1 hC dX11_fill_5 rfl rfl ?_
    refine zr_icmp_ge (pc := 6) (tgt := 22) hC dX11_fill_6 (by decide) (fun c_ => ?_) (fun c_ => ?_)
    · exact zr_vret (pc := 22) hC hR dX11_fill_22
    · refine zr_aload_n (pc := 9) (i := 0) 0 hC dX11_fill_9 rfl rfl ?_
      refine zr_iload (pc := 10) 3 hC dX11_fill_10 rfl ?_
      refine zr_iload_n (pc := 12) (i := 3) 2 hC dX11_fill_12 rfl rfl ?_
      refine zr_callSv (pc := 13) (As := fun ad => [.ref (ad r0), .int v4, .int c3]) (st1 := []) hC (Nat.le_of_ble_eq_true rfl) (kX11_put _ hr0 v4 c3 _) (Nat.le_of_ble_eq_true rfl) mc_yX11_put m_140 m_141 rfl rfl rfl (Nat.le_of_ble_eq_true rfl) dX11_fill_13 (fun y_1 s_1 => ?_)
      refine zr_iinc (pc := 16) (q := 3) (ls' := [(4, _), (0, _), (2, _), (3, _)]) hC dX11_fill_16 rfl (inc_1 _) (nlt hN (Nat.le_of_ble_eq_true rfl)) rfl ?_
      refine zr_goto (pc := 19) (tgt := 3) hC dX11_fill_19 (by decide) ?_
      refine zr_sub (ls' := [(0, _), (2, _), (3, _), (4, _)]) [1, 2, 3, 0] rfl ?_
      exact ih (v4 + (1 : Int32)) s_1
def fX11_fill (r0 : Nat) (a1 : Int32) (a2 : Int32) (a3 : Int32) (s : St) : Option (Int32 × St) :=
  fX11_fill_L3 r0 a2 a3 FU a1 s
set_option maxRecDepth 100000 in
set_option maxHeartbeats 4000000 in
theorem kX11_fill (l : Launch) {Dl : List Nat}  {r0 : Nat} (hr0 : isArrD Dl r0) (a1 : Int32) (a2 : Int32) (a3 : Int32) (s : St) : CN l yX11_fill cX11_fill 5 none 2 Dl (fun ad => [.ref (ad r0), .int a1, .int a2, .int a3]) s (fX11_fill r0 a1 a2 a3 s) := by
  refine cn_of (by decide) (fun _ => (Nat.le_of_ble_eq_true rfl)) (fun X hC hR hl hN => ?_)
  subst hl
  show Zr X (QFN X none) 0 s 0 [(0, .ref (X_ad X r0)), (1, .int a1), (2, .int a2), (3, .int a3)] [] _
  rw [fX11_fill]
  refine zr_iload_n (pc := 0) (i := 1) 1 hC dX11_fill_0 rfl rfl ?_
  refine zr_istore (pc := 1) (ls' := [(4, _), (0, _), (1, _), (2, _), (3, _)]) hC dX11_fill_1 (nlt hN (Nat.le_of_ble_eq_true rfl)) rfl ?_
  refine zr_sub (ls' := [(0, _), (2, _), (3, _), (4, _)]) [1, 3, 4, 0] rfl ?_
  exact tX11_fill_L3 r0 a2 a3 X hC hR hN hr0 FU a1 _
def fX11_append_L3 (c1 : Int32) : Nat → Int32 → St → Option (Int32 × St)
  | 0, _, _ => none
  | n + 1, v2, s =>
    if v2 < 0 then
    (some (0, s))
  else
    (bd (fX11_put 1 (s 0 1) ((jushr c1 v2) &&& (255 : Int32)) s) (fun y_1 s_1 =>
    let s_2 := wr s_1 0 1 ((s_1 0 1) + (1 : Int32));
    fX11_append_L3 c1 n (v2 + (-8 : Int32)) s_2))
set_option maxRecDepth 100000 in
set_option maxHeartbeats 4000000 in
theorem tX11_append_L3 (c1 : Int32) (X : KX) (hC : Ctx X RX11 cX11_append FULL 2 0) (hR : RC X none) (hN : X_nL X = 3) : ∀ (n : Nat) (v2 : Int32) (s : St), Zr X (QFN X none) 0 s 3 [(0, .ref (X_ad X 0)), (1, .int c1), (2, .int v2)] [] (fX11_append_L3 c1 n v2 s) := by
  intro n
  induction n with
  | zero =>
    intro v2 s
    exact zr_none
  | succ n ih =>
    intro v2 s
    rw [fX11_append_L3]
    refine zr_iload_n (pc := 3) (i := 2) 2 hC dX11_append_3 rfl rfl ?_
    refine zr_if_lt (pc := 4) (tgt := 41) hC dX11_append_4 (by decide) (fun c_ => ?_) (fun c_ => ?_)
    · exact zr_vret (pc := 41) hC hR dX11_append_41
    · refine zr_aload_n (pc := 7) (i := 0) 0 hC dX11_append_7 rfl rfl ?_
      refine zr_getR (pc := 8) (j := 0) (k1 := 1) hC mem_0 lay_0 rfl rfl (Nat.le_of_ble_eq_true rfl) iX11 m_382 dX11_append_8 ?_
      refine zr_aload_n (pc := 11) (i := 0) 0 hC dX11_append_11 rfl rfl ?_
      refine zr_getI (pc := 12) (j := 1) hC mem_0 lay_0 rfl rfl (Nat.le_of_ble_eq_true rfl) iX11 m_383 dX11_append_12 ?_
      refine zr_iload_n (pc := 15) (i := 1) 1 hC dX11_append_15 rfl rfl ?_
      refine zr_iload_n (pc := 16) (i := 2) 2 hC dX11_append_16 rfl rfl ?_
      refine zr_iushr (pc := 17) hC dX11_append_17 ?_
      refine zr_sipush (pc := 18) (v := (255 : Int32)) hC dX11_append_18 si_255 ?_
      refine zr_iand (pc := 21) hC dX11_append_21 ?_
      refine zr_callSv (pc := 22) (As := fun ad => [.ref (ad 1), .int (s 0 1), .int ((jushr c1 v2) &&& (255 : Int32))]) (st1 := []) hC (Nat.le_of_ble_eq_true rfl) (kX11_put _ ar_1 (s 0 1) ((jushr c1 v2) &&& (255 : Int32)) _) (Nat.le_of_ble_eq_true rfl) mc_yX11_put m_140 m_141 rfl rfl rfl (Nat.le_of_ble_eq_true rfl) dX11_append_22 (fun y_1 s_1 => ?_)
      refine zr_aload_n (pc := 25) (i := 0) 0 hC dX11_append_25 rfl rfl ?_
      refine zr_dup (pc := 26) hC dX11_append_26 rfl ?_
      refine zr_getI (pc := 27) (j := 1) hC mem_0 lay_0 rfl rfl (Nat.le_of_ble_eq_true rfl) iX11 m_383 dX11_append_27 ?_
      refine zr_iconst (pc := 30) (v := (1 : Int32)) hC dX11_append_30 ic_1 ?_
      refine zr_iadd (pc := 31) hC dX11_append_31 ?_
      refine zr_putInt (pc := 32) (j := 1) hC mem_0 lay_0 rfl rfl (Nat.le_of_ble_eq_true rfl) iX11 tyX11_ok nmX11 m_383 rfl (by decide +kernel) dX11_append_32 ?_
      refine zr_iinc (pc := 35) (q := 2) (ls' := [(2, _), (0, _), (1, _)]) hC dX11_append_35 rfl (inc_m8 _) (nlt hN (Nat.le_of_ble_eq_true rfl)) rfl ?_
      refine zr_goto (pc := 38) (tgt := 3) hC dX11_append_38 (by decide) ?_
      refine zr_sub (ls' := [(0, _), (1, _), (2, _)]) [1, 2, 0] rfl ?_
      exact ih (v2 + (-8 : Int32)) (wr s_1 0 1 ((s_1 0 1) + (1 : Int32)))
def fX11_append (a1 : Int32) (s : St) : Option (Int32 × St) :=
  fX11_append_L3 a1 FU (24 : Int32) s
set_option maxRecDepth 100000 in
set_option maxHeartbeats 4000000 in
theorem kX11_append (l : Launch)  (a1 : Int32) (s : St) : CN l yX11_append cX11_append 3 none 2 FULL (fun ad => [.ref (ad 0), .int a1]) s (fX11_append a1 s) := by
  refine cn_of (by decide) (fun _ => (Nat.le_of_ble_eq_true rfl)) (fun X hC hR hl hN => ?_)
  subst hl
  show Zr X (QFN X none) 0 s 0 [(0, .ref (X_ad X 0)), (1, .int a1)] [] _
  rw [fX11_append]
  refine zr_bipush (pc := 0) (v := (24 : Int32)) hC dX11_append_0 bi_24 ?_
  refine zr_istore_n (pc := 2) (i := 2) (ls' := [(2, _), (0, _), (1, _)]) hC dX11_append_2 rfl (nlt hN (Nat.le_of_ble_eq_true rfl)) rfl ?_
  refine zr_sub (ls' := [(0, _), (1, _), (2, _)]) [1, 2, 0] rfl ?_
  exact tX11_append_L3 a1 X hC hR hN FU (24 : Int32) _
def fX11_feed (a1 : Int32) (a2 : Int32) (a3 : Int32) (a4 : Int32) (a5 : Int32) (s : St) : Option (Int32 × St) :=
  if ((s 0 1) + (20 : Int32)) ≤ (700 : Int32) then
    (bd (fX11_append a1 s) (fun y_1 s_1 =>
    bd (fX11_append a2 s_1) (fun y_2 s_2 =>
    bd (fX11_append a3 s_2) (fun y_3 s_3 =>
    bd (fX11_append a4 s_3) (fun y_4 s_4 =>
    bd (fX11_append a5 s_4) (fun y_5 s_5 =>
    some ((s_5 0 1), s_5)))))))
  else
    (some ((-1 : Int32), s))
set_option maxRecDepth 100000 in
set_option maxHeartbeats 4000000 in
theorem kX11_feed (l : Launch)  (a1 : Int32) (a2 : Int32) (a3 : Int32) (a4 : Int32) (a5 : Int32) (s : St) : CN l yX11_feed cX11_feed 6 (some .int) 3 FULL (fun ad => [.ref (ad 0), .int a1, .int a2, .int a3, .int a4, .int a5]) s (fX11_feed a1 a2 a3 a4 a5 s) := by
  refine cn_of (by decide) (fun _ => (Nat.le_of_ble_eq_true rfl)) (fun X hC hR hl hN => ?_)
  subst hl
  show Zr X (QFN X (some .int)) 0 s 0 [(0, .ref (X_ad X 0)), (1, .int a1), (2, .int a2), (3, .int a3), (4, .int a4), (5, .int a5)] [] _
  rw [fX11_feed]
  refine zr_aload_n (pc := 0) (i := 0) 0 hC dX11_feed_0 rfl rfl ?_
  refine zr_getI (pc := 1) (j := 1) hC mem_0 lay_0 rfl rfl (Nat.le_of_ble_eq_true rfl) iX11 m_383 dX11_feed_1 ?_
  refine zr_bipush (pc := 4) (v := (20 : Int32)) hC dX11_feed_4 bi_20 ?_
  refine zr_iadd (pc := 6) hC dX11_feed_6 ?_
  refine zr_sipush (pc := 7) (v := (700 : Int32)) hC dX11_feed_7 si_700 ?_
  refine zr_icmp_le (pc := 10) (tgt := 15) hC dX11_feed_10 (by decide) (fun c_ => ?_) (fun c_ => ?_)
  · refine zr_aload_n (pc := 15) (i := 0) 0 hC dX11_feed_15 rfl rfl ?_
    refine zr_iload_n (pc := 16) (i := 1) 1 hC dX11_feed_16 rfl rfl ?_
    refine zr_callVv (pc := 17) (As := fun ad => [.int a1]) (st1 := []) hC (Nat.le_of_ble_eq_true rfl) (kX11_append _ a1 _) (Nat.le_of_ble_eq_true rfl) mc_yX11_append m_432 m_434 m_p0 mem_0 lay_0 rfl rfl rfl rfl (Nat.le_of_ble_eq_true rfl) dX11_feed_17 (fun y_1 s_1 => ?_)
    refine zr_aload_n (pc := 20) (i := 0) 0 hC dX11_feed_20 rfl rfl ?_
    refine zr_iload_n (pc := 21) (i := 2) 2 hC dX11_feed_21 rfl rfl ?_
    refine zr_callVv (pc := 22) (As := fun ad => [.int a2]) (st1 := []) hC (Nat.le_of_ble_eq_true rfl) (kX11_append _ a2 _) (Nat.le_of_ble_eq_true rfl) mc_yX11_append m_432 m_434 m_p0 mem_0 lay_0 rfl rfl rfl rfl (Nat.le_of_ble_eq_true rfl) dX11_feed_22 (fun y_2 s_2 => ?_)
    refine zr_aload_n (pc := 25) (i := 0) 0 hC dX11_feed_25 rfl rfl ?_
    refine zr_iload_n (pc := 26) (i := 3) 3 hC dX11_feed_26 rfl rfl ?_
    refine zr_callVv (pc := 27) (As := fun ad => [.int a3]) (st1 := []) hC (Nat.le_of_ble_eq_true rfl) (kX11_append _ a3 _) (Nat.le_of_ble_eq_true rfl) mc_yX11_append m_432 m_434 m_p0 mem_0 lay_0 rfl rfl rfl rfl (Nat.le_of_ble_eq_true rfl) dX11_feed_27 (fun y_3 s_3 => ?_)
    refine zr_aload_n (pc := 30) (i := 0) 0 hC dX11_feed_30 rfl rfl ?_
    refine zr_iload (pc := 31) 4 hC dX11_feed_31 rfl ?_
    refine zr_callVv (pc := 33) (As := fun ad => [.int a4]) (st1 := []) hC (Nat.le_of_ble_eq_true rfl) (kX11_append _ a4 _) (Nat.le_of_ble_eq_true rfl) mc_yX11_append m_432 m_434 m_p0 mem_0 lay_0 rfl rfl rfl rfl (Nat.le_of_ble_eq_true rfl) dX11_feed_33 (fun y_4 s_4 => ?_)
    refine zr_aload_n (pc := 36) (i := 0) 0 hC dX11_feed_36 rfl rfl ?_
    refine zr_iload (pc := 37) 5 hC dX11_feed_37 rfl ?_
    refine zr_callVv (pc := 39) (As := fun ad => [.int a5]) (st1 := []) hC (Nat.le_of_ble_eq_true rfl) (kX11_append _ a5 _) (Nat.le_of_ble_eq_true rfl) mc_yX11_append m_432 m_434 m_p0 mem_0 lay_0 rfl rfl rfl rfl (Nat.le_of_ble_eq_true rfl) dX11_feed_39 (fun y_5 s_5 => ?_)
    refine zr_aload_n (pc := 42) (i := 0) 0 hC dX11_feed_42 rfl rfl ?_
    refine zr_getI (pc := 43) (j := 1) hC mem_0 lay_0 rfl rfl (Nat.le_of_ble_eq_true rfl) iX11 m_383 dX11_feed_43 ?_
    exact zr_iret (pc := 46) hC hR dX11_feed_46
  · refine zr_iconst (pc := 13) (v := (-1 : Int32)) hC dX11_feed_13 ic_m1 ?_
    exact zr_iret (pc := 14) hC hR dX11_feed_14
def fX11_fault (s : St) : Option (Int32 × St) :=
  some ((s 0 2), s)
set_option maxRecDepth 100000 in
set_option maxHeartbeats 4000000 in
theorem kX11_fault (l : Launch)  (s : St) : CN l yX11_fault cX11_fault 1 (some .int) 1 FULL (fun ad => [.ref (ad 0)]) s (fX11_fault s) := by
  refine cn_of (by decide) (fun _ => (Nat.le_of_ble_eq_true rfl)) (fun X hC hR hl hN => ?_)
  subst hl
  show Zr X (QFN X (some .int)) 0 s 0 [(0, .ref (X_ad X 0))] [] _
  rw [fX11_fault]
  refine zr_aload_n (pc := 0) (i := 0) 0 hC dX11_fault_0 rfl rfl ?_
  refine zr_getI (pc := 1) (j := 2) hC mem_0 lay_0 rfl rfl (Nat.le_of_ble_eq_true rfl) iX11 m_384 dX11_fault_1 ?_
  exact zr_iret (pc := 4) hC hR dX11_fault_4
def fX11_at (r0 : Nat) (a1 : Int32) (s : St) : Option (Int32 × St) :=
  if a1 < 0 then
    (some ((0 : Int32), s))
  else
    (if (Int32.ofNat (LN r0)) ≤ a1 then
    (some ((0 : Int32), s))
  else
    (if inA a1 (LN r0) then
    (some ((s r0 a1.toNatClampNeg), s)) else none))
set_option maxRecDepth 100000 in
set_option maxHeartbeats 4000000 in
theorem kX11_at (l : Launch)  {r0 : Nat} (hr0 : isArrD FULL r0) (a1 : Int32) (s : St) : CN l yX11_at cX11_at 2 (some .int) 1 FULL (fun ad => [.ref (ad r0), .int a1]) s (fX11_at r0 a1 s) := by
  refine cn_of (by decide) (fun _ => (Nat.le_of_ble_eq_true rfl)) (fun X hC hR hl hN => ?_)
  subst hl
  show Zr X (QFN X (some .int)) 0 s 0 [(0, .ref (X_ad X r0)), (1, .int a1)] [] _
  rw [fX11_at]
  refine zr_aload_n (pc := 0) (i := 0) 0 hC dX11_at_0 rfl rfl ?_
  refine zr_ifnull (pc := 1) hC dX11_at_1 ?_
  refine zr_iload_n (pc := 4) (i := 1) 1 hC dX11_at_4 rfl rfl ?_
  refine zr_if_lt (pc := 5) (tgt := 20) hC dX11_at_5 (by decide) (fun c_ => ?_) (fun c_ => ?_)
  · refine zr_iconst (pc := 20) (v := (0 : Int32)) hC dX11_at_20 ic_0 ?_
    exact zr_iret (pc := 21) hC hR dX11_at_21
  · refine zr_iload_n (pc := 8) (i := 1) 1 hC dX11_at_8 rfl rfl ?_
    refine zr_aload_n (pc := 9) (i := 0) 0 hC dX11_at_9 rfl rfl ?_
    refine zr_alen (pc := 10) hC hr0.1 hr0.2 dX11_at_10 ?_
    refine zr_icmp_ge (pc := 11) (tgt := 20) hC dX11_at_11 (by decide) (fun c_ => ?_) (fun c_ => ?_)
    · refine zr_iconst (pc := 20) (v := (0 : Int32)) hC dX11_at_20 ic_0 ?_
      exact zr_iret (pc := 21) hC hR dX11_at_21
    · refine zr_aload_n (pc := 14) (i := 0) 0 hC dX11_at_14 rfl rfl ?_
      refine zr_iload_n (pc := 15) (i := 1) 1 hC dX11_at_15 rfl rfl ?_
      refine zr_iald (pc := 16) hC hr0.1 hr0.2 dX11_at_16 ?_
      refine zr_goto (pc := 17) (tgt := 21) hC dX11_at_17 (by decide) ?_
      exact zr_iret (pc := 21) hC hR dX11_at_21
def fX8_refuse (o : Nat) (a1 : Int32) (s : St) : Option (Int32 × St) :=
  bd (fX11_at (o + 6) a1 s) (fun y_1 s_1 =>
    bd (fX11_put (o + 6) a1 (y_1 + (1 : Int32)) s_1) (fun y_2 s_2 =>
    some (0, s_2)))
set_option maxRecDepth 100000 in
set_option maxHeartbeats 4000000 in
theorem kX8_refuse (l : Launch)  {o : Nat} (ho : isStory o) (a1 : Int32) (s : St) : CN l yX8_refuse cX8_refuse 2 none 2 FULL (fun ad => [.ref (ad o), .int a1]) s (fX8_refuse o a1 s) := by
  refine cn_of (by decide) (fun _ => (Nat.le_of_ble_eq_true rfl)) (fun X hC hR hl hN => ?_)
  subst hl
  show Zr X (QFN X none) 0 s 0 [(0, .ref (X_ad X o)), (1, .int a1)] [] _
  rw [fX8_refuse]
  refine zr_aload_n (pc := 0) (i := 0) 0 hC dX8_refuse_0 rfl rfl ?_
  refine zr_getR (pc := 1) (j := 7) (k1 := (o + 6)) hC ho.1.1 ho.1.2 rfl rfl (Nat.le_of_ble_eq_true rfl) iX8 m_227 dX8_refuse_1 ?_
  refine zr_iload_n (pc := 4) (i := 1) 1 hC dX8_refuse_4 rfl rfl ?_
  refine zr_aload_n (pc := 5) (i := 0) 0 hC dX8_refuse_5 rfl rfl ?_
  refine zr_getR (pc := 6) (j := 7) (k1 := (o + 6)) hC ho.1.1 ho.1.2 rfl rfl (Nat.le_of_ble_eq_true rfl) iX8 m_227 dX8_refuse_6 ?_
  refine zr_iload_n (pc := 9) (i := 1) 1 hC dX8_refuse_9 rfl rfl ?_
  refine zr_callSN (pc := 10) (As := fun ad => [.ref (ad (o + 6)), .int a1]) (st1 := [.int a1, .ref (X_ad X (o + 6))]) hC (Nat.le_of_ble_eq_true rfl) (kX11_at _ (isArr_of ho.2.2.2.2.2) a1 _) (Nat.le_of_ble_eq_true rfl) mc_yX11_at m_452 m_453 rfl rfl (Nat.le_of_ble_eq_true rfl) dX8_refuse_10 (fun y_1 s_1 => ?_)
  refine zr_iconst (pc := 13) (v := (1 : Int32)) hC dX8_refuse_13 ic_1 ?_
  refine zr_iadd (pc := 14) hC dX8_refuse_14 ?_
  refine zr_callSNv (pc := 15) (As := fun ad => [.ref (ad (o + 6)), .int a1, .int (y_1 + (1 : Int32))]) (st1 := []) hC (Nat.le_of_ble_eq_true rfl) (kX11_put _ (isArr_of ho.2.2.2.2.2) a1 (y_1 + (1 : Int32)) _) (Nat.le_of_ble_eq_true rfl) mc_yX11_put m_455 m_141 rfl rfl (Nat.le_of_ble_eq_true rfl) dX8_refuse_15 (fun y_2 s_2 => ?_)
  exact zr_vret (pc := 18) hC hR dX8_refuse_18
def fX11_refusedAct (s : St) : Option (Int32 × St) :=
  bd (fX8_refuse 32 (1 : Int32) s) (fun y_1 s_1 =>
    some ((-1 : Int32), s_1))
set_option maxRecDepth 100000 in
set_option maxHeartbeats 4000000 in
theorem kX11_refusedAct (l : Launch)  (s : St) : CN l yX11_refusedAct cX11_refusedAct 1 (some .int) 3 FULL (fun ad => [.ref (ad 0)]) s (fX11_refusedAct s) := by
  refine cn_of (by decide) (fun _ => (Nat.le_of_ble_eq_true rfl)) (fun X hC hR hl hN => ?_)
  subst hl
  show Zr X (QFN X (some .int)) 0 s 0 [(0, .ref (X_ad X 0))] [] _
  rw [fX11_refusedAct]
  refine zr_aload_n (pc := 0) (i := 0) 0 hC dX11_refusedAct_0 rfl rfl ?_
  refine zr_getR (pc := 1) (j := 5) (k1 := 32) hC mem_0 lay_0 rfl rfl (Nat.le_of_ble_eq_true rfl) iX11 m_387 dX11_refusedAct_1 ?_
  refine zr_iconst (pc := 4) (v := (1 : Int32)) hC dX11_refusedAct_4 ic_1 ?_
  refine zr_callVv (pc := 5) (As := fun ad => [.int (1 : Int32)]) (st1 := []) hC (Nat.le_of_ble_eq_true rfl) (kX8_refuse _ is_32 (1 : Int32) _) (Nat.le_of_ble_eq_true rfl) mc_yX8_refuse m_448 m_449 m_450 mem_32 lay_32 rfl rfl rfl rfl (Nat.le_of_ble_eq_true rfl) dX11_refusedAct_5 (fun y_1 s_1 => ?_)
  refine zr_iconst (pc := 8) (v := (-1 : Int32)) hC dX11_refusedAct_8 ic_m1 ?_
  exact zr_iret (pc := 9) hC hR dX11_refusedAct_9
def fX11_copyCells (r0 : Nat) (a1 : Int32) (r2 : Nat) (a3 : Int32) (a4 : Int32) (s : St) : Option (Int32 × St) :=
  if a4 < 0 then
    (some (0, s))
  else
    (if a1 < 0 then
    (some (0, s))
  else
    (if 0 ≤ a3 then
    (if ((Int32.ofNat (LN r0)) - a4) < a1 then
    (some (0, s))
  else
    (if ((Int32.ofNat (LN r2)) - a4) < a3 then
    (some (0, s))
  else
    (if ¬ a1 < 0 ∧ ¬ a3 < 0 ∧ ¬ a4 < 0 ∧ a1.toNatClampNeg + a4.toNatClampNeg ≤ (LN r0) ∧ a3.toNatClampNeg + a4.toNatClampNeg ≤ (LN r2) then
    (let s_1 := cpy s r0 a1.toNatClampNeg r2 a3.toNatClampNeg a4.toNatClampNeg;
    some (0, s_1)) else none)))
  else
    (some (0, s))))
set_option maxRecDepth 100000 in
set_option maxHeartbeats 4000000 in
theorem kX11_copyCells (l : Launch)  {r0 : Nat} {r2 : Nat} (hr0 : isArrD FULL r0) (hr2 : isArrD FULL r2) (a1 : Int32) (a3 : Int32) (a4 : Int32) (s : St) : CN l yX11_copyCells cX11_copyCells 5 none 7 FULL (fun ad => [.ref (ad r0), .int a1, .ref (ad r2), .int a3, .int a4]) s (fX11_copyCells r0 a1 r2 a3 a4 s) := by
  refine cn_of (by decide) (fun _ => (Nat.le_of_ble_eq_true rfl)) (fun X hC hR hl hN => ?_)
  subst hl
  show Zr X (QFN X none) 0 s 0 [(0, .ref (X_ad X r0)), (1, .int a1), (2, .ref (X_ad X r2)), (3, .int a3), (4, .int a4)] [] _
  rw [fX11_copyCells]
  refine zr_aload_n (pc := 0) (i := 0) 0 hC dX11_copyCells_0 rfl rfl ?_
  refine zr_ifnull (pc := 1) hC dX11_copyCells_1 ?_
  refine zr_aload_n (pc := 4) (i := 2) 2 hC dX11_copyCells_4 rfl rfl ?_
  refine zr_ifnull (pc := 5) hC dX11_copyCells_5 ?_
  refine zr_iload (pc := 8) 4 hC dX11_copyCells_8 rfl ?_
  refine zr_if_lt (pc := 10) (tgt := 21) hC dX11_copyCells_10 (by decide) (fun c_ => ?_) (fun c_ => ?_)
  · exact zr_vret (pc := 21) hC hR dX11_copyCells_21
  · refine zr_iload_n (pc := 13) (i := 1) 1 hC dX11_copyCells_13 rfl rfl ?_
    refine zr_if_lt (pc := 14) (tgt := 21) hC dX11_copyCells_14 (by decide) (fun c_ => ?_) (fun c_ => ?_)
    · exact zr_vret (pc := 21) hC hR dX11_copyCells_21
    · refine zr_iload_n (pc := 17) (i := 3) 3 hC dX11_copyCells_17 rfl rfl ?_
      refine zr_if_ge (pc := 18) (tgt := 22) hC dX11_copyCells_18 (by decide) (fun c_ => ?_) (fun c_ => ?_)
      · refine zr_iload_n (pc := 22) (i := 1) 1 hC dX11_copyCells_22 rfl rfl ?_
        refine zr_aload_n (pc := 23) (i := 0) 0 hC dX11_copyCells_23 rfl rfl ?_
        refine zr_alen (pc := 24) hC hr0.1 hr0.2 dX11_copyCells_24 ?_
        refine zr_iload (pc := 25) 4 hC dX11_copyCells_25 rfl ?_
        refine zr_isub (pc := 27) hC dX11_copyCells_27 ?_
        refine zr_icmp_gt (pc := 28) (tgt := 49) hC dX11_copyCells_28 (by decide) (fun c_ => ?_) (fun c_ => ?_)
        · exact zr_vret (pc := 49) hC hR dX11_copyCells_49
        · refine zr_iload_n (pc := 31) (i := 3) 3 hC dX11_copyCells_31 rfl rfl ?_
          refine zr_aload_n (pc := 32) (i := 2) 2 hC dX11_copyCells_32 rfl rfl ?_
          refine zr_alen (pc := 33) hC hr2.1 hr2.2 dX11_copyCells_33 ?_
          refine zr_iload (pc := 34) 4 hC dX11_copyCells_34 rfl ?_
          refine zr_isub (pc := 36) hC dX11_copyCells_36 ?_
          refine zr_icmp_gt (pc := 37) (tgt := 49) hC dX11_copyCells_37 (by decide) (fun c_ => ?_) (fun c_ => ?_)
          · exact zr_vret (pc := 49) hC hR dX11_copyCells_49
          · refine zr_aload_n (pc := 40) (i := 0) 0 hC dX11_copyCells_40 rfl rfl ?_
            refine zr_iload_n (pc := 41) (i := 1) 1 hC dX11_copyCells_41 rfl rfl ?_
            refine zr_aload_n (pc := 42) (i := 2) 2 hC dX11_copyCells_42 rfl rfl ?_
            refine zr_iload_n (pc := 43) (i := 3) 3 hC dX11_copyCells_43 rfl rfl ?_
            refine zr_iload (pc := 44) 4 hC dX11_copyCells_44 rfl ?_
            refine zr_copy (pc := 46) hC (Nat.le_of_ble_eq_true rfl) m_467 m_469 m_468 m_22 hr0.1 hr2.1 hr0.2 hr2.2 (Nat.le_of_ble_eq_true rfl) dX11_copyCells_46 ?_
            exact zr_vret (pc := 49) hC hR dX11_copyCells_49
      · exact zr_vret (pc := 21) hC hR dX11_copyCells_21
def fX10_saveTo (w : Nat) (r1 : Nat) (a2 : Int32) (s : St) : Option (Int32 × St) :=
  bd (fX11_copyCells (w + 1) (0 : Int32) r1 (a2 * (94 : Int32)) (94 : Int32) s) (fun y_1 s_1 =>
    some (0, s_1))
set_option maxRecDepth 100000 in
set_option maxHeartbeats 4000000 in
theorem kX10_saveTo (l : Launch)  {w : Nat} {r1 : Nat} (hw : isWd w) (hr1 : isArrD FULL r1) (a2 : Int32) (s : St) : CN l yX10_saveTo cX10_saveTo 3 none 8 FULL (fun ad => [.ref (ad w), .ref (ad r1), .int a2]) s (fX10_saveTo w r1 a2 s) := by
  refine cn_of (by decide) (fun _ => (Nat.le_of_ble_eq_true rfl)) (fun X hC hR hl hN => ?_)
  subst hl
  show Zr X (QFN X none) 0 s 0 [(0, .ref (X_ad X w)), (1, .ref (X_ad X r1)), (2, .int a2)] [] _
  rw [fX10_saveTo]
  refine zr_aload_n (pc := 0) (i := 0) 0 hC dX10_saveTo_0 rfl rfl ?_
  refine zr_getR (pc := 1) (j := 0) (k1 := (w + 1)) hC hw.1.1 hw.1.2 rfl rfl (Nat.le_of_ble_eq_true rfl) iX10 m_143 dX10_saveTo_1 ?_
  refine zr_iconst (pc := 4) (v := (0 : Int32)) hC dX10_saveTo_4 ic_0 ?_
  refine zr_aload_n (pc := 5) (i := 1) 1 hC dX10_saveTo_5 rfl rfl ?_
  refine zr_iload_n (pc := 6) (i := 2) 2 hC dX10_saveTo_6 rfl rfl ?_
  refine zr_bipush (pc := 7) (v := (94 : Int32)) hC dX10_saveTo_7 bi_94 ?_
  refine zr_imul (pc := 9) hC dX10_saveTo_9 ?_
  refine zr_bipush (pc := 10) (v := (94 : Int32)) hC dX10_saveTo_10 bi_94 ?_
  refine zr_callSNv (pc := 12) (As := fun ad => [.ref (ad (w + 1)), .int (0 : Int32), .ref (ad r1), .int (a2 * (94 : Int32)), .int (94 : Int32)]) (st1 := []) hC (Nat.le_of_ble_eq_true rfl) (kX11_copyCells _ (isArr_of hw.2) hr1 (0 : Int32) (a2 * (94 : Int32)) (94 : Int32) _) (Nat.le_of_ble_eq_true rfl) mc_yX11_copyCells m_464 m_465 rfl rfl (Nat.le_of_ble_eq_true rfl) dX10_saveTo_12 (fun y_1 s_1 => ?_)
  exact zr_vret (pc := 15) hC hR dX10_saveTo_15
def fX8_keepAct (o : Nat) (s : St) : Option (Int32 × St) :=
  bd (fX10_saveTo (o + 1) (o + 3) (jrem ((s o 2) + (s o 3)) (40 : Int32)) s) (fun y_1 s_1 =>
    if (40 : Int32) ≤ (s_1 o 3) then
    (let s_2 := wr s_1 o 2 (jrem ((s_1 o 2) + (1 : Int32)) (40 : Int32));
    some (0, s_2))
  else
    (let s_3 := wr s_1 o 3 ((s_1 o 3) + (1 : Int32));
    some (0, s_3)))
set_option maxRecDepth 100000 in
set_option maxHeartbeats 4000000 in
theorem kX8_keepAct (l : Launch)  {o : Nat} (ho : isStory o) (s : St) : CN l yX8_keepAct cX8_keepAct 1 none 9 FULL (fun ad => [.ref (ad o)]) s (fX8_keepAct o s) := by
  refine cn_of (by decide) (fun _ => (Nat.le_of_ble_eq_true rfl)) (fun X hC hR hl hN => ?_)
  subst hl
  show Zr X (QFN X none) 0 s 0 [(0, .ref (X_ad X o))] [] _
  rw [fX8_keepAct]
  refine zr_aload_n (pc := 0) (i := 0) 0 hC dX8_keepAct_0 rfl rfl ?_
  refine zr_getR (pc := 1) (j := 0) (k1 := (o + 1)) hC ho.1.1 ho.1.2 rfl rfl (Nat.le_of_ble_eq_true rfl) iX8 m_213 dX8_keepAct_1 ?_
  refine zr_aload_n (pc := 4) (i := 0) 0 hC dX8_keepAct_4 rfl rfl ?_
  refine zr_getR (pc := 5) (j := 1) (k1 := (o + 3)) hC ho.1.1 ho.1.2 rfl rfl (Nat.le_of_ble_eq_true rfl) iX8 m_216 dX8_keepAct_5 ?_
  refine zr_aload_n (pc := 8) (i := 0) 0 hC dX8_keepAct_8 rfl rfl ?_
  refine zr_getI (pc := 9) (j := 2) hC ho.1.1 ho.1.2 rfl rfl (Nat.le_of_ble_eq_true rfl) iX8 m_217 dX8_keepAct_9 ?_
  refine zr_aload_n (pc := 12) (i := 0) 0 hC dX8_keepAct_12 rfl rfl ?_
  refine zr_getI (pc := 13) (j := 3) hC ho.1.1 ho.1.2 rfl rfl (Nat.le_of_ble_eq_true rfl) iX8 m_218 dX8_keepAct_13 ?_
  refine zr_iadd (pc := 16) hC dX8_keepAct_16 ?_
  refine zr_bipush (pc := 17) (v := (40 : Int32)) hC dX8_keepAct_17 bi_40 ?_
  refine zr_iremL (by decide) (pc := 19) hC dX8_keepAct_19 ?_
  refine zr_callVv (pc := 20) (As := fun ad => [.ref (ad (o + 3)), .int (jrem ((s o 2) + (s o 3)) (40 : Int32))]) (st1 := []) hC (Nat.le_of_ble_eq_true rfl) (kX10_saveTo _ ho.2.1 (isArr_of ho.2.2.1) (jrem ((s o 2) + (s o 3)) (40 : Int32)) _) (Nat.le_of_ble_eq_true rfl) mc_yX10_saveTo m_460 m_461 m_462 ho.2.1.1.1 ho.2.1.1.2 rfl rfl rfl rfl (Nat.le_of_ble_eq_true rfl) dX8_keepAct_20 (fun y_1 s_1 => ?_)
  refine zr_aload_n (pc := 23) (i := 0) 0 hC dX8_keepAct_23 rfl rfl ?_
  refine zr_getI (pc := 24) (j := 3) hC ho.1.1 ho.1.2 rfl rfl (Nat.le_of_ble_eq_true rfl) iX8 m_218 dX8_keepAct_24 ?_
  refine zr_bipush (pc := 27) (v := (40 : Int32)) hC dX8_keepAct_27 bi_40 ?_
  refine zr_icmp_ge (pc := 29) (tgt := 45) hC dX8_keepAct_29 (by decide) (fun c_ => ?_) (fun c_ => ?_)
  · refine zr_aload_n (pc := 45) (i := 0) 0 hC dX8_keepAct_45 rfl rfl ?_
    refine zr_aload_n (pc := 46) (i := 0) 0 hC dX8_keepAct_46 rfl rfl ?_
    refine zr_getI (pc := 47) (j := 2) hC ho.1.1 ho.1.2 rfl rfl (Nat.le_of_ble_eq_true rfl) iX8 m_217 dX8_keepAct_47 ?_
    refine zr_iconst (pc := 50) (v := (1 : Int32)) hC dX8_keepAct_50 ic_1 ?_
    refine zr_iadd (pc := 51) hC dX8_keepAct_51 ?_
    refine zr_bipush (pc := 52) (v := (40 : Int32)) hC dX8_keepAct_52 bi_40 ?_
    refine zr_iremL (by decide) (pc := 54) hC dX8_keepAct_54 ?_
    refine zr_putInt (pc := 55) (j := 2) hC ho.1.1 ho.1.2 rfl rfl (Nat.le_of_ble_eq_true rfl) iX8 tyX8_ok nmX8 m_217 rfl (by decide +kernel) dX8_keepAct_55 ?_
    exact zr_vret (pc := 58) hC hR dX8_keepAct_58
  · refine zr_aload_n (pc := 32) (i := 0) 0 hC dX8_keepAct_32 rfl rfl ?_
    refine zr_dup (pc := 33) hC dX8_keepAct_33 rfl ?_
    refine zr_getI (pc := 34) (j := 3) hC ho.1.1 ho.1.2 rfl rfl (Nat.le_of_ble_eq_true rfl) iX8 m_218 dX8_keepAct_34 ?_
    refine zr_iconst (pc := 37) (v := (1 : Int32)) hC dX8_keepAct_37 ic_1 ?_
    refine zr_iadd (pc := 38) hC dX8_keepAct_38 ?_
    refine zr_putInt (pc := 39) (j := 3) hC ho.1.1 ho.1.2 rfl rfl (Nat.le_of_ble_eq_true rfl) iX8 tyX8_ok nmX8 m_218 rfl (by decide +kernel) dX8_keepAct_39 ?_
    refine zr_goto (pc := 42) (tgt := 58) hC dX8_keepAct_42 (by decide) ?_
    exact zr_vret (pc := 58) hC hR dX8_keepAct_58
def fX10_got (w : Nat) (a1 : Int32) (a2 : Int32) (s : St) : Option (Int32 × St) :=
  bd (fX11_at (w + 1) (((72 : Int32) + (a1 * (2 : Int32))) + a2) s) (fun y_1 s_1 =>
    some (y_1, s_1))
set_option maxRecDepth 100000 in
set_option maxHeartbeats 4000000 in
theorem kX10_got (l : Launch)  {w : Nat} (hw : isWd w) (a1 : Int32) (a2 : Int32) (s : St) : CN l yX10_got cX10_got 3 (some .int) 2 FULL (fun ad => [.ref (ad w), .int a1, .int a2]) s (fX10_got w a1 a2 s) := by
  refine cn_of (by decide) (fun _ => (Nat.le_of_ble_eq_true rfl)) (fun X hC hR hl hN => ?_)
  subst hl
  show Zr X (QFN X (some .int)) 0 s 0 [(0, .ref (X_ad X w)), (1, .int a1), (2, .int a2)] [] _
  rw [fX10_got]
  refine zr_aload_n (pc := 0) (i := 0) 0 hC dX10_got_0 rfl rfl ?_
  refine zr_getR (pc := 1) (j := 0) (k1 := (w + 1)) hC hw.1.1 hw.1.2 rfl rfl (Nat.le_of_ble_eq_true rfl) iX10 m_143 dX10_got_1 ?_
  refine zr_bipush (pc := 4) (v := (72 : Int32)) hC dX10_got_4 bi_72 ?_
  refine zr_iload_n (pc := 6) (i := 1) 1 hC dX10_got_6 rfl rfl ?_
  refine zr_iconst (pc := 7) (v := (2 : Int32)) hC dX10_got_7 ic_2 ?_
  refine zr_imul (pc := 8) hC dX10_got_8 ?_
  refine zr_iadd (pc := 9) hC dX10_got_9 ?_
  refine zr_iload_n (pc := 10) (i := 2) 2 hC dX10_got_10 rfl rfl ?_
  refine zr_iadd (pc := 11) hC dX10_got_11 ?_
  refine zr_callSN (pc := 12) (As := fun ad => [.ref (ad (w + 1)), .int (((72 : Int32) + (a1 * (2 : Int32))) + a2)]) (st1 := []) hC (Nat.le_of_ble_eq_true rfl) (kX11_at _ (isArr_of hw.2) (((72 : Int32) + (a1 * (2 : Int32))) + a2) _) (Nat.le_of_ble_eq_true rfl) mc_yX11_at m_478 m_453 rfl rfl (Nat.le_of_ble_eq_true rfl) dX10_got_12 (fun y_1 s_1 => ?_)
  exact zr_iret (pc := 15) hC hR dX10_got_15
def fX10_noons (w : Nat) (a1 : Int32) (s : St) : Option (Int32 × St) :=
  bd (fX11_at (w + 1) ((84 : Int32) + a1) s) (fun y_1 s_1 =>
    some (y_1, s_1))
set_option maxRecDepth 100000 in
set_option maxHeartbeats 4000000 in
theorem kX10_noons (l : Launch)  {w : Nat} (hw : isWd w) (a1 : Int32) (s : St) : CN l yX10_noons cX10_noons 2 (some .int) 2 FULL (fun ad => [.ref (ad w), .int a1]) s (fX10_noons w a1 s) := by
  refine cn_of (by decide) (fun _ => (Nat.le_of_ble_eq_true rfl)) (fun X hC hR hl hN => ?_)
  subst hl
  show Zr X (QFN X (some .int)) 0 s 0 [(0, .ref (X_ad X w)), (1, .int a1)] [] _
  rw [fX10_noons]
  refine zr_aload_n (pc := 0) (i := 0) 0 hC dX10_noons_0 rfl rfl ?_
  refine zr_getR (pc := 1) (j := 0) (k1 := (w + 1)) hC hw.1.1 hw.1.2 rfl rfl (Nat.le_of_ble_eq_true rfl) iX10 m_143 dX10_noons_1 ?_
  refine zr_bipush (pc := 4) (v := (84 : Int32)) hC dX10_noons_4 bi_84 ?_
  refine zr_iload_n (pc := 6) (i := 1) 1 hC dX10_noons_6 rfl rfl ?_
  refine zr_iadd (pc := 7) hC dX10_noons_7 ?_
  refine zr_callSN (pc := 8) (As := fun ad => [.ref (ad (w + 1)), .int ((84 : Int32) + a1)]) (st1 := []) hC (Nat.le_of_ble_eq_true rfl) (kX11_at _ (isArr_of hw.2) ((84 : Int32) + a1) _) (Nat.le_of_ble_eq_true rfl) mc_yX11_at m_478 m_453 rfl rfl (Nat.le_of_ble_eq_true rfl) dX10_noons_8 (fun y_1 s_1 => ?_)
  exact zr_iret (pc := 11) hC hR dX10_noons_11
def fX10_place (w : Nat) (a1 : Int32) (s : St) : Option (Int32 × St) :=
  bd (fX11_at (w + 1) ((48 : Int32) + a1) s) (fun y_1 s_1 =>
    some (y_1, s_1))
set_option maxRecDepth 100000 in
set_option maxHeartbeats 4000000 in
theorem kX10_place (l : Launch)  {w : Nat} (hw : isWd w) (a1 : Int32) (s : St) : CN l yX10_place cX10_place 2 (some .int) 2 FULL (fun ad => [.ref (ad w), .int a1]) s (fX10_place w a1 s) := by
  refine cn_of (by decide) (fun _ => (Nat.le_of_ble_eq_true rfl)) (fun X hC hR hl hN => ?_)
  subst hl
  show Zr X (QFN X (some .int)) 0 s 0 [(0, .ref (X_ad X w)), (1, .int a1)] [] _
  rw [fX10_place]
  refine zr_aload_n (pc := 0) (i := 0) 0 hC dX10_place_0 rfl rfl ?_
  refine zr_getR (pc := 1) (j := 0) (k1 := (w + 1)) hC hw.1.1 hw.1.2 rfl rfl (Nat.le_of_ble_eq_true rfl) iX10 m_143 dX10_place_1 ?_
  refine zr_bipush (pc := 4) (v := (48 : Int32)) hC dX10_place_4 bi_48 ?_
  refine zr_iload_n (pc := 6) (i := 1) 1 hC dX10_place_6 rfl rfl ?_
  refine zr_iadd (pc := 7) hC dX10_place_7 ?_
  refine zr_callSN (pc := 8) (As := fun ad => [.ref (ad (w + 1)), .int ((48 : Int32) + a1)]) (st1 := []) hC (Nat.le_of_ble_eq_true rfl) (kX11_at _ (isArr_of hw.2) ((48 : Int32) + a1) _) (Nat.le_of_ble_eq_true rfl) mc_yX11_at m_478 m_453 rfl rfl (Nat.le_of_ble_eq_true rfl) dX10_place_8 (fun y_1 s_1 => ?_)
  exact zr_iret (pc := 11) hC hR dX10_place_11
def fX10_part (w : Nat) (a1 : Int32) (a2 : Int32) (s : St) : Option (Int32 × St) :=
  bd (fX11_at (w + 1) ((a1 * (4 : Int32)) + a2) s) (fun y_1 s_1 =>
    some (y_1, s_1))
set_option maxRecDepth 100000 in
set_option maxHeartbeats 4000000 in
theorem kX10_part (l : Launch)  {w : Nat} (hw : isWd w) (a1 : Int32) (a2 : Int32) (s : St) : CN l yX10_part cX10_part 3 (some .int) 2 FULL (fun ad => [.ref (ad w), .int a1, .int a2]) s (fX10_part w a1 a2 s) := by
  refine cn_of (by decide) (fun _ => (Nat.le_of_ble_eq_true rfl)) (fun X hC hR hl hN => ?_)
  subst hl
  show Zr X (QFN X (some .int)) 0 s 0 [(0, .ref (X_ad X w)), (1, .int a1), (2, .int a2)] [] _
  rw [fX10_part]
  refine zr_aload_n (pc := 0) (i := 0) 0 hC dX10_part_0 rfl rfl ?_
  refine zr_getR (pc := 1) (j := 0) (k1 := (w + 1)) hC hw.1.1 hw.1.2 rfl rfl (Nat.le_of_ble_eq_true rfl) iX10 m_143 dX10_part_1 ?_
  refine zr_iload_n (pc := 4) (i := 1) 1 hC dX10_part_4 rfl rfl ?_
  refine zr_iconst (pc := 5) (v := (4 : Int32)) hC dX10_part_5 ic_4 ?_
  refine zr_imul (pc := 6) hC dX10_part_6 ?_
  refine zr_iload_n (pc := 7) (i := 2) 2 hC dX10_part_7 rfl rfl ?_
  refine zr_iadd (pc := 8) hC dX10_part_8 ?_
  refine zr_callSN (pc := 9) (As := fun ad => [.ref (ad (w + 1)), .int ((a1 * (4 : Int32)) + a2)]) (st1 := []) hC (Nat.le_of_ble_eq_true rfl) (kX11_at _ (isArr_of hw.2) ((a1 * (4 : Int32)) + a2) _) (Nat.le_of_ble_eq_true rfl) mc_yX11_at m_478 m_453 rfl rfl (Nat.le_of_ble_eq_true rfl) dX10_part_9 (fun y_1 s_1 => ?_)
  exact zr_iret (pc := 12) hC hR dX10_part_12
def fX10_falls_L20 (w : Nat) (c1 : Int32) (c2 : Int32) : Nat → Int32 → Int32 → St → Option (Int32 × St)
  | 0, _, _, _ => none
  | n + 1, v3, v4, s =>
    if (12 : Int32) ≤ v4 then
    (some (v3, s))
  else
    (bd (fX10_place w v4 s) (fun y_1 s_1 =>
    if y_1 = c1 then
    (bd (fX10_part w v4 c2 s_1) (fun y_2 s_2 =>
    fX10_falls_L20 w c1 c2 n (v3 + y_2) (v4 + (1 : Int32)) s_2))
  else
    (fX10_falls_L20 w c1 c2 n v3 (v4 + (1 : Int32)) s_1)))
set_option maxRecDepth 100000 in
set_option maxHeartbeats 4000000 in
theorem tX10_falls_L20 (w : Nat) (c1 : Int32) (c2 : Int32) (X : KX) (hC : Ctx X RX10 cX10_falls FULL 3 0) (hR : RC X (some .int)) (hN : X_nL X = 5) (hw : isWd w) : ∀ (n : Nat) (v3 : Int32) (v4 : Int32) (s : St), Zr X (QFN X (some .int)) 0 s 20 [(0, .ref (X_ad X w)), (1, .int c1), (2, .int c2), (3, .int v3), (4, .int v4)] [] (fX10_falls_L20 w c1 c2 n v3 v4 s) := by
  intro n
  induction n with
  | zero =>
    intro v3 v4 s
    exact zr_none
  | succ n ih =>
    intro v3 v4 s
    rw [fX10_falls_L20]
    refine zr_iload (pc := 20) 4 hC dX10_falls_20 rfl ?_
    refine zr_bipush (pc := 22) (v := (12 : Int32)) hC dX10_falls_22 bi_12 ?_
    refine zr_icmp_ge (pc := 24) (tgt := 53) hC dX10_falls_24 (by decide) (fun c_ => ?_) (fun c_ => ?_)
    · refine zr_iload_n (pc := 53) (i := 3) 3 hC dX10_falls_53 rfl rfl ?_
      exact zr_iret (pc := 54) hC hR dX10_falls_54
    · refine zr_aload_n (pc := 27) (i := 0) 0 hC dX10_falls_27 rfl rfl ?_
      refine zr_iload (pc := 28) 4 hC dX10_falls_28 rfl ?_
      refine zr_callV (pc := 30) (As := fun ad => [.int v4]) (st1 := []) hC (Nat.le_of_ble_eq_true rfl) (kX10_place _ hw v4 _) (Nat.le_of_ble_eq_true rfl) mc_yX10_place m_487 m_488 m_489 hw.1.1 hw.1.2 rfl rfl rfl rfl (Nat.le_of_ble_eq_true rfl) dX10_falls_30 (fun y_1 s_1 => ?_)
      refine zr_iload_n (pc := 33) (i := 1) 1 hC dX10_falls_33 rfl rfl ?_
      refine zr_icmp_ne (pc := 34) (tgt := 47) hC dX10_falls_34 (by decide) (fun c_ => ?_) (fun c_ => ?_)
      · refine zr_iload_n (pc := 37) (i := 3) 3 hC dX10_falls_37 rfl rfl ?_
        refine zr_aload_n (pc := 38) (i := 0) 0 hC dX10_falls_38 rfl rfl ?_
        refine zr_iload (pc := 39) 4 hC dX10_falls_39 rfl ?_
        refine zr_iload_n (pc := 41) (i := 2) 2 hC dX10_falls_41 rfl rfl ?_
        refine zr_callV (pc := 42) (As := fun ad => [.int v4, .int c2]) (st1 := [.int v3]) hC (Nat.le_of_ble_eq_true rfl) (kX10_part _ hw v4 c2 _) (Nat.le_of_ble_eq_true rfl) mc_yX10_part m_491 m_492 m_493 hw.1.1 hw.1.2 rfl rfl rfl rfl (Nat.le_of_ble_eq_true rfl) dX10_falls_42 (fun y_2 s_2 => ?_)
        refine zr_iadd (pc := 45) hC dX10_falls_45 ?_
        refine zr_istore_n (pc := 46) (i := 3) (ls' := [(3, _), (0, _), (1, _), (2, _), (4, _)]) hC dX10_falls_46 rfl (nlt hN (Nat.le_of_ble_eq_true rfl)) rfl ?_
        refine zr_iinc (pc := 47) (q := 4) (ls' := [(4, _), (3, _), (0, _), (1, _), (2, _)]) hC dX10_falls_47 rfl (inc_1 _) (nlt hN (Nat.le_of_ble_eq_true rfl)) rfl ?_
        refine zr_goto (pc := 50) (tgt := 20) hC dX10_falls_50 (by decide) ?_
        refine zr_sub (ls' := [(0, _), (1, _), (2, _), (3, _), (4, _)]) [2, 3, 4, 1, 0] rfl ?_
        exact ih (v3 + y_2) (v4 + (1 : Int32)) s_2
      · refine zr_iinc (pc := 47) (q := 4) (ls' := [(4, _), (0, _), (1, _), (2, _), (3, _)]) hC dX10_falls_47 rfl (inc_1 _) (nlt hN (Nat.le_of_ble_eq_true rfl)) rfl ?_
        refine zr_goto (pc := 50) (tgt := 20) hC dX10_falls_50 (by decide) ?_
        refine zr_sub (ls' := [(0, _), (1, _), (2, _), (3, _), (4, _)]) [1, 2, 3, 4, 0] rfl ?_
        exact ih v3 (v4 + (1 : Int32)) s_1
def fX10_falls_J16 (w : Nat) (v1 : Int32) (v2 : Int32) (q0 : Int32) (s : St) : Option (Int32 × St) :=
  fX10_falls_L20 w v1 v2 FU q0 (0 : Int32) s
set_option maxRecDepth 100000 in
set_option maxHeartbeats 4000000 in
theorem tX10_falls_J16 (w : Nat) (v1 : Int32) (v2 : Int32) (q0 : Int32) (X : KX) (hC : Ctx X RX10 cX10_falls FULL 3 0) (hR : RC X (some .int)) (hN : X_nL X = 5) (hw : isWd w) (s : St) : Zr X (QFN X (some .int)) 0 s 16 [(0, .ref (X_ad X w)), (1, .int v1), (2, .int v2)] [.int q0] (fX10_falls_J16 w v1 v2 q0 s) := by
  rw [fX10_falls_J16]
  refine zr_istore_n (pc := 16) (i := 3) (ls' := [(3, _), (0, _), (1, _), (2, _)]) hC dX10_falls_16 rfl (nlt hN (Nat.le_of_ble_eq_true rfl)) rfl ?_
  refine zr_iconst (pc := 17) (v := (0 : Int32)) hC dX10_falls_17 ic_0 ?_
  refine zr_istore (pc := 18) (ls' := [(4, _), (3, _), (0, _), (1, _), (2, _)]) hC dX10_falls_18 (nlt hN (Nat.le_of_ble_eq_true rfl)) rfl ?_
  refine zr_sub (ls' := [(0, _), (1, _), (2, _), (3, _), (4, _)]) [2, 3, 4, 1, 0] rfl ?_
  exact tX10_falls_L20 w v1 v2 X hC hR hN hw FU q0 (0 : Int32) _
def fX10_falls (w : Nat) (a1 : Int32) (a2 : Int32) (s : St) : Option (Int32 × St) :=
  if a2 = 0 then
    (bd (fX10_noons w a1 s) (fun y_3 s_3 =>
    fX10_falls_J16 w a1 a2 ((10 : Int32) * y_3) s_3))
  else
    (fX10_falls_J16 w a1 a2 (0 : Int32) s)
set_option maxRecDepth 100000 in
set_option maxHeartbeats 4000000 in
theorem kX10_falls (l : Launch)  {w : Nat} (hw : isWd w) (a1 : Int32) (a2 : Int32) (s : St) : CN l yX10_falls cX10_falls 5 (some .int) 3 FULL (fun ad => [.ref (ad w), .int a1, .int a2]) s (fX10_falls w a1 a2 s) := by
  refine cn_of (by decide) (fun _ => (Nat.le_of_ble_eq_true rfl)) (fun X hC hR hl hN => ?_)
  subst hl
  show Zr X (QFN X (some .int)) 0 s 0 [(0, .ref (X_ad X w)), (1, .int a1), (2, .int a2)] [] _
  rw [fX10_falls]
  refine zr_iload_n (pc := 0) (i := 2) 2 hC dX10_falls_0 rfl rfl ?_
  refine zr_if_ne (pc := 1) (tgt := 15) hC dX10_falls_1 (by decide) (fun c_ => ?_) (fun c_ => ?_)
  · refine zr_bipush (pc := 4) (v := (10 : Int32)) hC dX10_falls_4 bi_10 ?_
    refine zr_aload_n (pc := 6) (i := 0) 0 hC dX10_falls_6 rfl rfl ?_
    refine zr_iload_n (pc := 7) (i := 1) 1 hC dX10_falls_7 rfl rfl ?_
    refine zr_callV (pc := 8) (As := fun ad => [.int a1]) (st1 := [.int (10 : Int32)]) hC (Nat.le_of_ble_eq_true rfl) (kX10_noons _ hw a1 _) (Nat.le_of_ble_eq_true rfl) mc_yX10_noons m_483 m_484 m_485 hw.1.1 hw.1.2 rfl rfl rfl rfl (Nat.le_of_ble_eq_true rfl) dX10_falls_8 (fun y_3 s_3 => ?_)
    refine zr_imul (pc := 11) hC dX10_falls_11 ?_
    refine zr_goto (pc := 12) (tgt := 16) hC dX10_falls_12 (by decide) ?_
    exact tX10_falls_J16 w a1 a2 ((10 : Int32) * y_3) X hC hR hN hw  _
  · refine zr_iconst (pc := 15) (v := (0 : Int32)) hC dX10_falls_15 ic_0 ?_
    exact tX10_falls_J16 w a1 a2 (0 : Int32) X hC hR hN hw  _
def fX10_passDays_L13 (k75 : St → Option (Int32 × St)) (w : Nat) (g : Nat) (c2 : Int32) (c3 : Int32) : Nat → Int32 → St → Option (Int32 × St)
  | 0, _, _ => none
  | n + 1, v4, s =>
    if (1 : Int32) < v4 then
    (k75 s)
  else
    (bd (fX10_got w c3 v4 s) (fun y_1 s_1 =>
    bd (fX11_at (g + 5) c3 s_1) (fun y_2 s_2 =>
    bd (fX10_falls w y_2 v4 s_2) (fun y_3 s_3 =>
    bd (fX11_put (w + 1) (((72 : Int32) + (c3 * (2 : Int32))) + v4) (jmin (9999 : Int32) (y_1 + (c2 * y_3))) s_3) (fun y_4 s_4 =>
    fX10_passDays_L13 k75 w g c2 c3 n (v4 + (1 : Int32)) s_4)))))
set_option maxRecDepth 100000 in
set_option maxHeartbeats 4000000 in
theorem tX10_passDays_L13 (w : Nat) (g : Nat) (c2 : Int32) (c3 : Int32) (k75 : St → Option (Int32 × St)) (X : KX) (hC : Ctx X RX10 cX10_passDays FULL 7 0) (hR : RC X none) (hN : X_nL X = 6) (hw : isWd w) (hg : isLand g) (hk75 : ∀ (s : St), Zr X (QFN X none) 0 s 75 [(0, .ref (X_ad X w)), (1, .ref (X_ad X g)), (2, .int c2), (3, .int c3)] [] (k75 s)) : ∀ (n : Nat) (v4 : Int32) (s : St), Zr X (QFN X none) 0 s 13 [(0, .ref (X_ad X w)), (1, .ref (X_ad X g)), (2, .int c2), (3, .int c3), (4, .int v4)] [] (fX10_passDays_L13 k75 w g c2 c3 n v4 s) := by
  intro n
  induction n with
  | zero =>
    intro v4 s
    exact zr_none
  | succ n ih =>
    intro v4 s
    rw [fX10_passDays_L13]
    refine zr_iload (pc := 13) 4 hC dX10_passDays_13 rfl ?_
    refine zr_iconst (pc := 15) (v := (1 : Int32)) hC dX10_passDays_15 ic_1 ?_
    refine zr_icmp_gt (pc := 16) (tgt := 75) hC dX10_passDays_16 (by decide) (fun c_ => ?_) (fun c_ => ?_)
    · refine zr_sub (ls' := [(0, _), (1, _), (2, _), (3, _)]) [0, 1, 2, 3] rfl ?_
      exact hk75 s
    · refine zr_aload_n (pc := 19) (i := 0) 0 hC dX10_passDays_19 rfl rfl ?_
      refine zr_iload_n (pc := 20) (i := 3) 3 hC dX10_passDays_20 rfl rfl ?_
      refine zr_iload (pc := 21) 4 hC dX10_passDays_21 rfl ?_
      refine zr_callV (pc := 23) (As := fun ad => [.int c3, .int v4]) (st1 := []) hC (Nat.le_of_ble_eq_true rfl) (kX10_got _ hw c3 v4 _) (Nat.le_of_ble_eq_true rfl) mc_yX10_got m_474 m_475 m_476 hw.1.1 hw.1.2 rfl rfl rfl rfl (Nat.le_of_ble_eq_true rfl) dX10_passDays_23 (fun y_1 s_1 => ?_)
      refine zr_iload_n (pc := 26) (i := 2) 2 hC dX10_passDays_26 rfl rfl ?_
      refine zr_aload_n (pc := 27) (i := 0) 0 hC dX10_passDays_27 rfl rfl ?_
      refine zr_aload_n (pc := 28) (i := 1) 1 hC dX10_passDays_28 rfl rfl ?_
      refine zr_getR (pc := 29) (j := 7) (k1 := (g + 5)) hC hg.1.1 hg.1.2 rfl rfl (Nat.le_of_ble_eq_true rfl) iX4 m_90 dX10_passDays_29 ?_
      refine zr_iload_n (pc := 32) (i := 3) 3 hC dX10_passDays_32 rfl rfl ?_
      refine zr_callSN (pc := 33) (As := fun ad => [.ref (ad (g + 5)), .int c3]) (st1 := [.ref (X_ad X w), .int c2, .int y_1]) hC (Nat.le_of_ble_eq_true rfl) (kX11_at _ (isArr_of hg.2.2.2.2.2.1) c3 _) (Nat.le_of_ble_eq_true rfl) mc_yX11_at m_478 m_453 rfl rfl (Nat.le_of_ble_eq_true rfl) dX10_passDays_33 (fun y_2 s_2 => ?_)
      refine zr_iload (pc := 36) 4 hC dX10_passDays_36 rfl ?_
      refine zr_callV (pc := 38) (As := fun ad => [.int y_2, .int v4]) (st1 := [.int c2, .int y_1]) hC (Nat.le_of_ble_eq_true rfl) (kX10_falls _ hw y_2 v4 _) (Nat.le_of_ble_eq_true rfl) mc_yX10_falls m_479 m_480 m_481 hw.1.1 hw.1.2 rfl rfl rfl rfl (Nat.le_of_ble_eq_true rfl) dX10_passDays_38 (fun y_3 s_3 => ?_)
      refine zr_imul (pc := 41) hC dX10_passDays_41 ?_
      refine zr_iadd (pc := 42) hC dX10_passDays_42 ?_
      refine zr_istore (pc := 43) (ls' := [(5, _), (0, _), (1, _), (2, _), (3, _), (4, _)]) hC dX10_passDays_43 (nlt hN (Nat.le_of_ble_eq_true rfl)) rfl ?_
      refine zr_aload_n (pc := 45) (i := 0) 1 hC dX10_passDays_45 rfl rfl ?_
      refine zr_getR (pc := 46) (j := 0) (k1 := (w + 1)) hC hw.1.1 hw.1.2 rfl rfl (Nat.le_of_ble_eq_true rfl) iX10 m_143 dX10_passDays_46 ?_
      refine zr_bipush (pc := 49) (v := (72 : Int32)) hC dX10_passDays_49 bi_72 ?_
      refine zr_iload_n (pc := 51) (i := 3) 4 hC dX10_passDays_51 rfl rfl ?_
      refine zr_iconst (pc := 52) (v := (2 : Int32)) hC dX10_passDays_52 ic_2 ?_
      refine zr_imul (pc := 53) hC dX10_passDays_53 ?_
      refine zr_iadd (pc := 54) hC dX10_passDays_54 ?_
      refine zr_iload (pc := 55) 5 hC dX10_passDays_55 rfl ?_
      refine zr_iadd (pc := 57) hC dX10_passDays_57 ?_
      refine zr_sipush (pc := 58) (v := (9999 : Int32)) hC dX10_passDays_58 si_9999 ?_
      refine zr_iload (pc := 61) 0 hC dX10_passDays_61 rfl ?_
      refine zr_mmin (pc := 63) hC (Nat.le_of_ble_eq_true rfl) (Nat.le_of_ble_eq_true rfl) m_495 m_496 m_23 m_497 (Nat.le_of_ble_eq_true rfl) dX10_passDays_63 ?_
      refine zr_callSNv (pc := 66) (As := fun ad => [.ref (ad (w + 1)), .int (((72 : Int32) + (c3 * (2 : Int32))) + v4), .int (jmin (9999 : Int32) (y_1 + (c2 * y_3)))]) (st1 := []) hC (Nat.le_of_ble_eq_true rfl) (kX11_put _ (isArr_of hw.2) (((72 : Int32) + (c3 * (2 : Int32))) + v4) (jmin (9999 : Int32) (y_1 + (c2 * y_3))) _) (Nat.le_of_ble_eq_true rfl) mc_yX11_put m_498 m_141 rfl rfl (Nat.le_of_ble_eq_true rfl) dX10_passDays_66 (fun y_4 s_4 => ?_)
      refine zr_iinc (pc := 69) (q := 5) (ls' := [(4, _), (5, _), (0, _), (1, _), (2, _), (3, _)]) hC dX10_passDays_69 rfl (inc_1 _) (nlt hN (Nat.le_of_ble_eq_true rfl)) rfl ?_
      refine zr_goto (pc := 72) (tgt := 13) hC dX10_passDays_72 (by decide) ?_
      refine zr_sub (ls' := [(0, _), (1, _), (2, _), (3, _), (4, _)]) [2, 3, 4, 5, 0] rfl ?_
      exact ih (v4 + (1 : Int32)) s_4
def fX10_passDays_L2 (w : Nat) (g : Nat) (c2 : Int32) : Nat → Int32 → St → Option (Int32 × St)
  | 0, _, _ => none
  | n + 1, v3, s =>
    if (s g 6) ≤ v3 then
    (some (0, s))
  else
    (fX10_passDays_L13 (fun s_5 => fX10_passDays_L2 w g c2 n (v3 + (1 : Int32)) s_5) w g c2 v3 FU (0 : Int32) s)
set_option maxRecDepth 100000 in
set_option maxHeartbeats 4000000 in
theorem tX10_passDays_L2 (w : Nat) (g : Nat) (c2 : Int32) (X : KX) (hC : Ctx X RX10 cX10_passDays FULL 7 0) (hR : RC X none) (hN : X_nL X = 6) (hw : isWd w) (hg : isLand g) : ∀ (n : Nat) (v3 : Int32) (s : St), Zr X (QFN X none) 0 s 2 [(0, .ref (X_ad X w)), (1, .ref (X_ad X g)), (2, .int c2), (3, .int v3)] [] (fX10_passDays_L2 w g c2 n v3 s) := by
  intro n
  induction n with
  | zero =>
    intro v3 s
    exact zr_none
  | succ n ih =>
    intro v3 s
    rw [fX10_passDays_L2]
    refine zr_iload_n (pc := 2) (i := 3) 3 hC dX10_passDays_2 rfl rfl ?_
    refine zr_aload_n (pc := 3) (i := 1) 1 hC dX10_passDays_3 rfl rfl ?_
    refine zr_getI (pc := 4) (j := 6) hC hg.1.1 hg.1.2 rfl rfl (Nat.le_of_ble_eq_true rfl) iX4 m_86 dX10_passDays_4 ?_
    refine zr_icmp_ge (pc := 7) (tgt := 81) hC dX10_passDays_7 (by decide) (fun c_ => ?_) (fun c_ => ?_)
    · exact zr_vret (pc := 81) hC hR dX10_passDays_81
    · refine zr_iconst (pc := 10) (v := (0 : Int32)) hC dX10_passDays_10 ic_0 ?_
      refine zr_istore (pc := 11) (ls' := [(4, _), (0, _), (1, _), (2, _), (3, _)]) hC dX10_passDays_11 (nlt hN (Nat.le_of_ble_eq_true rfl)) rfl ?_
      refine zr_sub (ls' := [(0, _), (1, _), (2, _), (3, _), (4, _)]) [1, 2, 3, 4, 0] rfl ?_
      refine tX10_passDays_L13 w g c2 v3 _ X hC hR hN hw hg (fun s_5 => ?_) FU (0 : Int32) _
      · refine zr_iinc (pc := 75) (q := 3) (ls' := [(3, _), (0, _), (1, _), (2, _)]) hC dX10_passDays_75 rfl (inc_1 _) (nlt hN (Nat.le_of_ble_eq_true rfl)) rfl ?_
        refine zr_goto (pc := 78) (tgt := 2) hC dX10_passDays_78 (by decide) ?_
        refine zr_sub (ls' := [(0, _), (1, _), (2, _), (3, _)]) [1, 2, 3, 0] rfl ?_
        exact ih (v3 + (1 : Int32)) s_5
def fX10_passDays (w : Nat) (g : Nat) (a2 : Int32) (s : St) : Option (Int32 × St) :=
  fX10_passDays_L2 w g a2 FU (0 : Int32) s
set_option maxRecDepth 100000 in
set_option maxHeartbeats 4000000 in
theorem kX10_passDays (l : Launch)  {w : Nat} {g : Nat} (hw : isWd w) (hg : isLand g) (a2 : Int32) (s : St) : CN l yX10_passDays cX10_passDays 6 none 7 FULL (fun ad => [.ref (ad w), .ref (ad g), .int a2]) s (fX10_passDays w g a2 s) := by
  refine cn_of (by decide) (fun _ => (Nat.le_of_ble_eq_true rfl)) (fun X hC hR hl hN => ?_)
  subst hl
  show Zr X (QFN X none) 0 s 0 [(0, .ref (X_ad X w)), (1, .ref (X_ad X g)), (2, .int a2)] [] _
  rw [fX10_passDays]
  refine zr_iconst (pc := 0) (v := (0 : Int32)) hC dX10_passDays_0 ic_0 ?_
  refine zr_istore_n (pc := 1) (i := 3) (ls' := [(3, _), (0, _), (1, _), (2, _)]) hC dX10_passDays_1 rfl (nlt hN (Nat.le_of_ble_eq_true rfl)) rfl ?_
  refine zr_sub (ls' := [(0, _), (1, _), (2, _), (3, _)]) [1, 2, 3, 0] rfl ?_
  exact tX10_passDays_L2 w g a2 X hC hR hN hw hg FU (0 : Int32) _
def fX10_ripe (w : Nat) (g : Nat) (a2 : Int32) (s : St) : Option (Int32 × St) :=
  bd (fX10_got w a2 (0 : Int32) s) (fun y_1 s_1 =>
    bd (fX11_at (g + 6) a2 s_1) (fun y_2 s_2 =>
    if y_1 < y_2 then
    (some ((0 : Int32), s_2))
  else
    (bd (fX10_got w a2 (1 : Int32) s_2) (fun y_3 s_3 =>
    bd (fX11_at (g + 7) a2 s_3) (fun y_4 s_4 =>
    if y_3 < y_4 then
    (some ((0 : Int32), s_4))
  else
    (some ((1 : Int32), s_4)))))))
set_option maxRecDepth 100000 in
set_option maxHeartbeats 4000000 in
theorem kX10_ripe (l : Launch)  {w : Nat} {g : Nat} (hw : isWd w) (hg : isLand g) (a2 : Int32) (s : St) : CN l yX10_ripe cX10_ripe 3 (some .boolean) 3 FULL (fun ad => [.ref (ad w), .ref (ad g), .int a2]) s (fX10_ripe w g a2 s) := by
  refine cn_of (by decide) (fun _ => (Nat.le_of_ble_eq_true rfl)) (fun X hC hR hl hN => ?_)
  subst hl
  show Zr X (QFN X (some .boolean)) 0 s 0 [(0, .ref (X_ad X w)), (1, .ref (X_ad X g)), (2, .int a2)] [] _
  rw [fX10_ripe]
  refine zr_aload_n (pc := 0) (i := 0) 0 hC dX10_ripe_0 rfl rfl ?_
  refine zr_iload_n (pc := 1) (i := 2) 2 hC dX10_ripe_1 rfl rfl ?_
  refine zr_iconst (pc := 2) (v := (0 : Int32)) hC dX10_ripe_2 ic_0 ?_
  refine zr_callV (pc := 3) (As := fun ad => [.int a2, .int (0 : Int32)]) (st1 := []) hC (Nat.le_of_ble_eq_true rfl) (kX10_got _ hw a2 (0 : Int32) _) (Nat.le_of_ble_eq_true rfl) mc_yX10_got m_474 m_475 m_476 hw.1.1 hw.1.2 rfl rfl rfl rfl (Nat.le_of_ble_eq_true rfl) dX10_ripe_3 (fun y_1 s_1 => ?_)
  refine zr_aload_n (pc := 6) (i := 1) 1 hC dX10_ripe_6 rfl rfl ?_
  refine zr_getR (pc := 7) (j := 8) (k1 := (g + 6)) hC hg.1.1 hg.1.2 rfl rfl (Nat.le_of_ble_eq_true rfl) iX4 m_94 dX10_ripe_7 ?_
  refine zr_iload_n (pc := 10) (i := 2) 2 hC dX10_ripe_10 rfl rfl ?_
  refine zr_callSN (pc := 11) (As := fun ad => [.ref (ad (g + 6)), .int a2]) (st1 := [.int y_1]) hC (Nat.le_of_ble_eq_true rfl) (kX11_at _ (isArr_of hg.2.2.2.2.2.2.1) a2 _) (Nat.le_of_ble_eq_true rfl) mc_yX11_at m_478 m_453 rfl rfl (Nat.le_of_ble_eq_true rfl) dX10_ripe_11 (fun y_2 s_2 => ?_)
  refine zr_icmp_lt (pc := 14) (tgt := 38) hC dX10_ripe_14 (by decide) (fun c_ => ?_) (fun c_ => ?_)
  · refine zr_iconst (pc := 38) (v := (0 : Int32)) hC dX10_ripe_38 ic_0 ?_
    exact zr_zret (pc := 39) (by decide) hC hR dX10_ripe_39
  · refine zr_aload_n (pc := 17) (i := 0) 0 hC dX10_ripe_17 rfl rfl ?_
    refine zr_iload_n (pc := 18) (i := 2) 2 hC dX10_ripe_18 rfl rfl ?_
    refine zr_iconst (pc := 19) (v := (1 : Int32)) hC dX10_ripe_19 ic_1 ?_
    refine zr_callV (pc := 20) (As := fun ad => [.int a2, .int (1 : Int32)]) (st1 := []) hC (Nat.le_of_ble_eq_true rfl) (kX10_got _ hw a2 (1 : Int32) _) (Nat.le_of_ble_eq_true rfl) mc_yX10_got m_474 m_475 m_476 hw.1.1 hw.1.2 rfl rfl rfl rfl (Nat.le_of_ble_eq_true rfl) dX10_ripe_20 (fun y_3 s_3 => ?_)
    refine zr_aload_n (pc := 23) (i := 1) 1 hC dX10_ripe_23 rfl rfl ?_
    refine zr_getR (pc := 24) (j := 9) (k1 := (g + 7)) hC hg.1.1 hg.1.2 rfl rfl (Nat.le_of_ble_eq_true rfl) iX4 m_98 dX10_ripe_24 ?_
    refine zr_iload_n (pc := 27) (i := 2) 2 hC dX10_ripe_27 rfl rfl ?_
    refine zr_callSN (pc := 28) (As := fun ad => [.ref (ad (g + 7)), .int a2]) (st1 := [.int y_3]) hC (Nat.le_of_ble_eq_true rfl) (kX11_at _ (isArr_of hg.2.2.2.2.2.2.2.1) a2 _) (Nat.le_of_ble_eq_true rfl) mc_yX11_at m_478 m_453 rfl rfl (Nat.le_of_ble_eq_true rfl) dX10_ripe_28 (fun y_4 s_4 => ?_)
    refine zr_icmp_lt (pc := 31) (tgt := 38) hC dX10_ripe_31 (by decide) (fun c_ => ?_) (fun c_ => ?_)
    · refine zr_iconst (pc := 38) (v := (0 : Int32)) hC dX10_ripe_38 ic_0 ?_
      exact zr_zret (pc := 39) (by decide) hC hR dX10_ripe_39
    · refine zr_iconst (pc := 34) (v := (1 : Int32)) hC dX10_ripe_34 ic_1 ?_
      refine zr_goto (pc := 35) (tgt := 39) hC dX10_ripe_35 (by decide) ?_
      exact zr_zret (pc := 39) (by decide) hC hR dX10_ripe_39
def fX10_manyRipe_L4 (w : Nat) (g : Nat) : Nat → Int32 → Int32 → St → Option (Int32 × St)
  | 0, _, _, _ => none
  | n + 1, v2, v3, s =>
    if (s g 6) ≤ v3 then
    (some (v2, s))
  else
    (bd (fX10_ripe w g v3 s) (fun y_1 s_1 =>
    if y_1 = 0 then
    (fX10_manyRipe_L4 w g n (v2 + (0 : Int32)) (v3 + (1 : Int32)) s_1)
  else
    (fX10_manyRipe_L4 w g n (v2 + (1 : Int32)) (v3 + (1 : Int32)) s_1)))
set_option maxRecDepth 100000 in
set_option maxHeartbeats 4000000 in
theorem tX10_manyRipe_L4 (w : Nat) (g : Nat) (X : KX) (hC : Ctx X RX10 cX10_manyRipe FULL 4 0) (hR : RC X (some .int)) (hN : X_nL X = 4) (hw : isWd w) (hg : isLand g) : ∀ (n : Nat) (v2 : Int32) (v3 : Int32) (s : St), Zr X (QFN X (some .int)) 0 s 4 [(0, .ref (X_ad X w)), (1, .ref (X_ad X g)), (2, .int v2), (3, .int v3)] [] (fX10_manyRipe_L4 w g n v2 v3 s) := by
  intro n
  induction n with
  | zero =>
    intro v2 v3 s
    exact zr_none
  | succ n ih =>
    intro v2 v3 s
    rw [fX10_manyRipe_L4]
    refine zr_iload_n (pc := 4) (i := 3) 3 hC dX10_manyRipe_4 rfl rfl ?_
    refine zr_aload_n (pc := 5) (i := 1) 1 hC dX10_manyRipe_5 rfl rfl ?_
    refine zr_getI (pc := 6) (j := 6) hC hg.1.1 hg.1.2 rfl rfl (Nat.le_of_ble_eq_true rfl) iX4 m_86 dX10_manyRipe_6 ?_
    refine zr_icmp_ge (pc := 9) (tgt := 35) hC dX10_manyRipe_9 (by decide) (fun c_ => ?_) (fun c_ => ?_)
    · refine zr_iload_n (pc := 35) (i := 2) 2 hC dX10_manyRipe_35 rfl rfl ?_
      exact zr_iret (pc := 36) hC hR dX10_manyRipe_36
    · refine zr_iload_n (pc := 12) (i := 2) 2 hC dX10_manyRipe_12 rfl rfl ?_
      refine zr_aload_n (pc := 13) (i := 0) 0 hC dX10_manyRipe_13 rfl rfl ?_
      refine zr_aload_n (pc := 14) (i := 1) 1 hC dX10_manyRipe_14 rfl rfl ?_
      refine zr_iload_n (pc := 15) (i := 3) 3 hC dX10_manyRipe_15 rfl rfl ?_
      refine zr_callV (pc := 16) (As := fun ad => [.ref (ad g), .int v3]) (st1 := [.int v2]) hC (Nat.le_of_ble_eq_true rfl) (kX10_ripe _ hw hg v3 _) (Nat.le_of_ble_eq_true rfl) mc_yX10_ripe m_503 m_504 m_505 hw.1.1 hw.1.2 rfl rfl rfl rfl (Nat.le_of_ble_eq_true rfl) dX10_manyRipe_16 (fun y_1 s_1 => ?_)
      refine zr_if_eq (pc := 19) (tgt := 26) hC dX10_manyRipe_19 (by decide) (fun c_ => ?_) (fun c_ => ?_)
      · refine zr_iconst (pc := 26) (v := (0 : Int32)) hC dX10_manyRipe_26 ic_0 ?_
        refine zr_iadd (pc := 27) hC dX10_manyRipe_27 ?_
        refine zr_istore_n (pc := 28) (i := 2) (ls' := [(2, _), (0, _), (1, _), (3, _)]) hC dX10_manyRipe_28 rfl (nlt hN (Nat.le_of_ble_eq_true rfl)) rfl ?_
        refine zr_iinc (pc := 29) (q := 3) (ls' := [(3, _), (2, _), (0, _), (1, _)]) hC dX10_manyRipe_29 rfl (inc_1 _) (nlt hN (Nat.le_of_ble_eq_true rfl)) rfl ?_
        refine zr_goto (pc := 32) (tgt := 4) hC dX10_manyRipe_32 (by decide) ?_
        refine zr_sub (ls' := [(0, _), (1, _), (2, _), (3, _)]) [2, 3, 1, 0] rfl ?_
        exact ih (v2 + (0 : Int32)) (v3 + (1 : Int32)) s_1
      · refine zr_iconst (pc := 22) (v := (1 : Int32)) hC dX10_manyRipe_22 ic_1 ?_
        refine zr_goto (pc := 23) (tgt := 27) hC dX10_manyRipe_23 (by decide) ?_
        refine zr_iadd (pc := 27) hC dX10_manyRipe_27 ?_
        refine zr_istore_n (pc := 28) (i := 2) (ls' := [(2, _), (0, _), (1, _), (3, _)]) hC dX10_manyRipe_28 rfl (nlt hN (Nat.le_of_ble_eq_true rfl)) rfl ?_
        refine zr_iinc (pc := 29) (q := 3) (ls' := [(3, _), (2, _), (0, _), (1, _)]) hC dX10_manyRipe_29 rfl (inc_1 _) (nlt hN (Nat.le_of_ble_eq_true rfl)) rfl ?_
        refine zr_goto (pc := 32) (tgt := 4) hC dX10_manyRipe_32 (by decide) ?_
        refine zr_sub (ls' := [(0, _), (1, _), (2, _), (3, _)]) [2, 3, 1, 0] rfl ?_
        exact ih (v2 + (1 : Int32)) (v3 + (1 : Int32)) s_1
def fX10_manyRipe (w : Nat) (g : Nat) (s : St) : Option (Int32 × St) :=
  fX10_manyRipe_L4 w g FU (0 : Int32) (0 : Int32) s
set_option maxRecDepth 100000 in
set_option maxHeartbeats 4000000 in
theorem kX10_manyRipe (l : Launch)  {w : Nat} {g : Nat} (hw : isWd w) (hg : isLand g) (s : St) : CN l yX10_manyRipe cX10_manyRipe 4 (some .int) 4 FULL (fun ad => [.ref (ad w), .ref (ad g)]) s (fX10_manyRipe w g s) := by
  refine cn_of (by decide) (fun _ => (Nat.le_of_ble_eq_true rfl)) (fun X hC hR hl hN => ?_)
  subst hl
  show Zr X (QFN X (some .int)) 0 s 0 [(0, .ref (X_ad X w)), (1, .ref (X_ad X g))] [] _
  rw [fX10_manyRipe]
  refine zr_iconst (pc := 0) (v := (0 : Int32)) hC dX10_manyRipe_0 ic_0 ?_
  refine zr_istore_n (pc := 1) (i := 2) (ls' := [(2, _), (0, _), (1, _)]) hC dX10_manyRipe_1 rfl (nlt hN (Nat.le_of_ble_eq_true rfl)) rfl ?_
  refine zr_iconst (pc := 2) (v := (0 : Int32)) hC dX10_manyRipe_2 ic_0 ?_
  refine zr_istore_n (pc := 3) (i := 3) (ls' := [(3, _), (2, _), (0, _), (1, _)]) hC dX10_manyRipe_3 rfl (nlt hN (Nat.le_of_ble_eq_true rfl)) rfl ?_
  refine zr_sub (ls' := [(0, _), (1, _), (2, _), (3, _)]) [2, 3, 1, 0] rfl ?_
  exact tX10_manyRipe_L4 w g X hC hR hN hw hg FU (0 : Int32) (0 : Int32) _
def fX11_days (a1 : Int32) (s : St) : Option (Int32 × St) :=
  if a1 < (1 : Int32) then
    (bd (fX11_refusedAct s) (fun y_1 s_1 =>
    some (y_1, s_1)))
  else
    (if a1 ≤ (100 : Int32) then
    (bd (fX8_keepAct 32 s) (fun y_2 s_2 =>
    bd (fX10_passDays 33 21 a1 s_2) (fun y_3 s_3 =>
    bd (fX10_manyRipe 33 21 s_3) (fun y_4 s_4 =>
    some (y_4, s_4)))))
  else
    (bd (fX11_refusedAct s) (fun y_5 s_5 =>
    some (y_5, s_5))))
set_option maxRecDepth 100000 in
set_option maxHeartbeats 4000000 in
theorem kX11_days (l : Launch)  (a1 : Int32) (s : St) : CN l yX11_days cX11_days 2 (some .int) 10 FULL (fun ad => [.ref (ad 0), .int a1]) s (fX11_days a1 s) := by
  refine cn_of (by decide) (fun _ => (Nat.le_of_ble_eq_true rfl)) (fun X hC hR hl hN => ?_)
  subst hl
  show Zr X (QFN X (some .int)) 0 s 0 [(0, .ref (X_ad X 0)), (1, .int a1)] [] _
  rw [fX11_days]
  refine zr_iload_n (pc := 0) (i := 1) 1 hC dX11_days_0 rfl rfl ?_
  refine zr_iconst (pc := 1) (v := (1 : Int32)) hC dX11_days_1 ic_1 ?_
  refine zr_icmp_lt (pc := 2) (tgt := 11) hC dX11_days_2 (by decide) (fun c_ => ?_) (fun c_ => ?_)
  · refine zr_aload_n (pc := 11) (i := 0) 0 hC dX11_days_11 rfl rfl ?_
    refine zr_callV (pc := 12) (As := fun ad => []) (st1 := []) hC (Nat.le_of_ble_eq_true rfl) (kX11_refusedAct _  _) (Nat.le_of_ble_eq_true rfl) mc_yX11_refusedAct m_444 m_446 m_p1 mem_0 lay_0 rfl rfl rfl rfl (Nat.le_of_ble_eq_true rfl) dX11_days_12 (fun y_1 s_1 => ?_)
    exact zr_iret (pc := 15) hC hR dX11_days_15
  · refine zr_iload_n (pc := 5) (i := 1) 1 hC dX11_days_5 rfl rfl ?_
    refine zr_bipush (pc := 6) (v := (100 : Int32)) hC dX11_days_6 bi_100 ?_
    refine zr_icmp_le (pc := 8) (tgt := 16) hC dX11_days_8 (by decide) (fun c_ => ?_) (fun c_ => ?_)
    · refine zr_aload_n (pc := 16) (i := 0) 0 hC dX11_days_16 rfl rfl ?_
      refine zr_getR (pc := 17) (j := 5) (k1 := 32) hC mem_0 lay_0 rfl rfl (Nat.le_of_ble_eq_true rfl) iX11 m_387 dX11_days_17 ?_
      refine zr_callVv (pc := 20) (As := fun ad => []) (st1 := []) hC (Nat.le_of_ble_eq_true rfl) (kX8_keepAct _ is_32 _) (Nat.le_of_ble_eq_true rfl) mc_yX8_keepAct m_456 m_457 m_458 mem_32 lay_32 rfl rfl rfl rfl (Nat.le_of_ble_eq_true rfl) dX11_days_20 (fun y_2 s_2 => ?_)
      refine zr_aload_n (pc := 23) (i := 0) 0 hC dX11_days_23 rfl rfl ?_
      refine zr_getR (pc := 24) (j := 5) (k1 := 32) hC mem_0 lay_0 rfl rfl (Nat.le_of_ble_eq_true rfl) iX11 m_387 dX11_days_24 ?_
      refine zr_getR (pc := 27) (j := 0) (k1 := 33) hC mem_32 lay_32 rfl rfl (Nat.le_of_ble_eq_true rfl) iX8 m_215 dX11_days_27 ?_
      refine zr_aload_n (pc := 30) (i := 0) 0 hC dX11_days_30 rfl rfl ?_
      refine zr_getR (pc := 31) (j := 4) (k1 := 21) hC mem_0 lay_0 rfl rfl (Nat.le_of_ble_eq_true rfl) iX11 m_386 dX11_days_31 ?_
      refine zr_iload_n (pc := 34) (i := 1) 1 hC dX11_days_34 rfl rfl ?_
      refine zr_callVv (pc := 35) (As := fun ad => [.ref (ad 21), .int a1]) (st1 := []) hC (Nat.le_of_ble_eq_true rfl) (kX10_passDays _ is_33 is_21 a1 _) (Nat.le_of_ble_eq_true rfl) mc_yX10_passDays m_470 m_471 m_472 mem_33 lay_33 rfl rfl rfl rfl (Nat.le_of_ble_eq_true rfl) dX11_days_35 (fun y_3 s_3 => ?_)
      refine zr_aload_n (pc := 38) (i := 0) 0 hC dX11_days_38 rfl rfl ?_
      refine zr_getR (pc := 39) (j := 5) (k1 := 32) hC mem_0 lay_0 rfl rfl (Nat.le_of_ble_eq_true rfl) iX11 m_387 dX11_days_39 ?_
      refine zr_getR (pc := 42) (j := 0) (k1 := 33) hC mem_32 lay_32 rfl rfl (Nat.le_of_ble_eq_true rfl) iX8 m_215 dX11_days_42 ?_
      refine zr_aload_n (pc := 45) (i := 0) 0 hC dX11_days_45 rfl rfl ?_
      refine zr_getR (pc := 46) (j := 4) (k1 := 21) hC mem_0 lay_0 rfl rfl (Nat.le_of_ble_eq_true rfl) iX11 m_386 dX11_days_46 ?_
      refine zr_callV (pc := 49) (As := fun ad => [.ref (ad 21)]) (st1 := []) hC (Nat.le_of_ble_eq_true rfl) (kX10_manyRipe _ is_33 is_21 _) (Nat.le_of_ble_eq_true rfl) mc_yX10_manyRipe m_499 m_500 m_501 mem_33 lay_33 rfl rfl rfl rfl (Nat.le_of_ble_eq_true rfl) dX11_days_49 (fun y_4 s_4 => ?_)
      exact zr_iret (pc := 52) hC hR dX11_days_52
    · refine zr_aload_n (pc := 11) (i := 0) 0 hC dX11_days_11 rfl rfl ?_
      refine zr_callV (pc := 12) (As := fun ad => []) (st1 := []) hC (Nat.le_of_ble_eq_true rfl) (kX11_refusedAct _  _) (Nat.le_of_ble_eq_true rfl) mc_yX11_refusedAct m_444 m_446 m_p1 mem_0 lay_0 rfl rfl rfl rfl (Nat.le_of_ble_eq_true rfl) dX11_days_12 (fun y_5 s_5 => ?_)
      exact zr_iret (pc := 15) hC hR dX11_days_15
def fX10_loadFrom (w : Nat) (r1 : Nat) (a2 : Int32) (s : St) : Option (Int32 × St) :=
  bd (fX11_copyCells r1 (a2 * (94 : Int32)) (w + 1) (0 : Int32) (94 : Int32) s) (fun y_1 s_1 =>
    some (0, s_1))
set_option maxRecDepth 100000 in
set_option maxHeartbeats 4000000 in
theorem kX10_loadFrom (l : Launch)  {w : Nat} {r1 : Nat} (hw : isWd w) (hr1 : isArrD FULL r1) (a2 : Int32) (s : St) : CN l yX10_loadFrom cX10_loadFrom 3 none 8 FULL (fun ad => [.ref (ad w), .ref (ad r1), .int a2]) s (fX10_loadFrom w r1 a2 s) := by
  refine cn_of (by decide) (fun _ => (Nat.le_of_ble_eq_true rfl)) (fun X hC hR hl hN => ?_)
  subst hl
  show Zr X (QFN X none) 0 s 0 [(0, .ref (X_ad X w)), (1, .ref (X_ad X r1)), (2, .int a2)] [] _
  rw [fX10_loadFrom]
  refine zr_aload_n (pc := 0) (i := 1) 1 hC dX10_loadFrom_0 rfl rfl ?_
  refine zr_iload_n (pc := 1) (i := 2) 2 hC dX10_loadFrom_1 rfl rfl ?_
  refine zr_bipush (pc := 2) (v := (94 : Int32)) hC dX10_loadFrom_2 bi_94 ?_
  refine zr_imul (pc := 4) hC dX10_loadFrom_4 ?_
  refine zr_aload_n (pc := 5) (i := 0) 0 hC dX10_loadFrom_5 rfl rfl ?_
  refine zr_getR (pc := 6) (j := 0) (k1 := (w + 1)) hC hw.1.1 hw.1.2 rfl rfl (Nat.le_of_ble_eq_true rfl) iX10 m_143 dX10_loadFrom_6 ?_
  refine zr_iconst (pc := 9) (v := (0 : Int32)) hC dX10_loadFrom_9 ic_0 ?_
  refine zr_bipush (pc := 10) (v := (94 : Int32)) hC dX10_loadFrom_10 bi_94 ?_
  refine zr_callSNv (pc := 12) (As := fun ad => [.ref (ad r1), .int (a2 * (94 : Int32)), .ref (ad (w + 1)), .int (0 : Int32), .int (94 : Int32)]) (st1 := []) hC (Nat.le_of_ble_eq_true rfl) (kX11_copyCells _ hr1 (isArr_of hw.2) (a2 * (94 : Int32)) (0 : Int32) (94 : Int32) _) (Nat.le_of_ble_eq_true rfl) mc_yX11_copyCells m_464 m_465 rfl rfl (Nat.le_of_ble_eq_true rfl) dX10_loadFrom_12 (fun y_1 s_1 => ?_)
  exact zr_vret (pc := 15) hC hR dX10_loadFrom_15
def fX8_takeBackAct (o : Nat) (s : St) : Option (Int32 × St) :=
  if (1 : Int32) ≤ (s o 3) then
    (let s_1 := wr s o 3 ((s o 3) - (1 : Int32));
    bd (fX10_loadFrom (o + 1) (o + 3) (jrem ((s_1 o 2) + (s_1 o 3)) (40 : Int32)) s_1) (fun y_2 s_2 =>
    some ((1 : Int32), s_2)))
  else
    (some ((0 : Int32), s))
set_option maxRecDepth 100000 in
set_option maxHeartbeats 4000000 in
theorem kX8_takeBackAct (l : Launch)  {o : Nat} (ho : isStory o) (s : St) : CN l yX8_takeBackAct cX8_takeBackAct 1 (some .boolean) 9 FULL (fun ad => [.ref (ad o)]) s (fX8_takeBackAct o s) := by
  refine cn_of (by decide) (fun _ => (Nat.le_of_ble_eq_true rfl)) (fun X hC hR hl hN => ?_)
  subst hl
  show Zr X (QFN X (some .boolean)) 0 s 0 [(0, .ref (X_ad X o))] [] _
  rw [fX8_takeBackAct]
  refine zr_aload_n (pc := 0) (i := 0) 0 hC dX8_takeBackAct_0 rfl rfl ?_
  refine zr_getI (pc := 1) (j := 3) hC ho.1.1 ho.1.2 rfl rfl (Nat.le_of_ble_eq_true rfl) iX8 m_218 dX8_takeBackAct_1 ?_
  refine zr_iconst (pc := 4) (v := (1 : Int32)) hC dX8_takeBackAct_4 ic_1 ?_
  refine zr_icmp_ge (pc := 5) (tgt := 10) hC dX8_takeBackAct_5 (by decide) (fun c_ => ?_) (fun c_ => ?_)
  · refine zr_aload_n (pc := 10) (i := 0) 0 hC dX8_takeBackAct_10 rfl rfl ?_
    refine zr_dup (pc := 11) hC dX8_takeBackAct_11 rfl ?_
    refine zr_getI (pc := 12) (j := 3) hC ho.1.1 ho.1.2 rfl rfl (Nat.le_of_ble_eq_true rfl) iX8 m_218 dX8_takeBackAct_12 ?_
    refine zr_iconst (pc := 15) (v := (1 : Int32)) hC dX8_takeBackAct_15 ic_1 ?_
    refine zr_isub (pc := 16) hC dX8_takeBackAct_16 ?_
    refine zr_putInt (pc := 17) (j := 3) hC ho.1.1 ho.1.2 rfl rfl (Nat.le_of_ble_eq_true rfl) iX8 tyX8_ok nmX8 m_218 rfl (by decide +kernel) dX8_takeBackAct_17 ?_
    refine zr_aload_n (pc := 20) (i := 0) 0 hC dX8_takeBackAct_20 rfl rfl ?_
    refine zr_getR (pc := 21) (j := 0) (k1 := (o + 1)) hC ho.1.1 ho.1.2 rfl rfl (Nat.le_of_ble_eq_true rfl) iX8 m_213 dX8_takeBackAct_21 ?_
    refine zr_aload_n (pc := 24) (i := 0) 0 hC dX8_takeBackAct_24 rfl rfl ?_
    refine zr_getR (pc := 25) (j := 1) (k1 := (o + 3)) hC ho.1.1 ho.1.2 rfl rfl (Nat.le_of_ble_eq_true rfl) iX8 m_216 dX8_takeBackAct_25 ?_
    refine zr_aload_n (pc := 28) (i := 0) 0 hC dX8_takeBackAct_28 rfl rfl ?_
    refine zr_getI (pc := 29) (j := 2) hC ho.1.1 ho.1.2 rfl rfl (Nat.le_of_ble_eq_true rfl) iX8 m_217 dX8_takeBackAct_29 ?_
    refine zr_aload_n (pc := 32) (i := 0) 0 hC dX8_takeBackAct_32 rfl rfl ?_
    refine zr_getI (pc := 33) (j := 3) hC ho.1.1 ho.1.2 rfl rfl (Nat.le_of_ble_eq_true rfl) iX8 m_218 dX8_takeBackAct_33 ?_
    refine zr_iadd (pc := 36) hC dX8_takeBackAct_36 ?_
    refine zr_bipush (pc := 37) (v := (40 : Int32)) hC dX8_takeBackAct_37 bi_40 ?_
    refine zr_iremL (by decide) (pc := 39) hC dX8_takeBackAct_39 ?_
    refine zr_callVv (pc := 40) (As := fun ad => [.ref (ad (o + 3)), .int (jrem (((wr s o 3 ((s o 3) - (1 : Int32))) o 2) + ((wr s o 3 ((s o 3) - (1 : Int32))) o 3)) (40 : Int32))]) (st1 := []) hC (Nat.le_of_ble_eq_true rfl) (kX10_loadFrom _ ho.2.1 (isArr_of ho.2.2.1) (jrem (((wr s o 3 ((s o 3) - (1 : Int32))) o 2) + ((wr s o 3 ((s o 3) - (1 : Int32))) o 3)) (40 : Int32)) _) (Nat.le_of_ble_eq_true rfl) mc_yX10_loadFrom m_515 m_516 m_517 ho.2.1.1.1 ho.2.1.1.2 rfl rfl rfl rfl (Nat.le_of_ble_eq_true rfl) dX8_takeBackAct_40 (fun y_2 s_2 => ?_)
    refine zr_iconst (pc := 43) (v := (1 : Int32)) hC dX8_takeBackAct_43 ic_1 ?_
    exact zr_zret (pc := 44) (by decide) hC hR dX8_takeBackAct_44
  · refine zr_iconst (pc := 8) (v := (0 : Int32)) hC dX8_takeBackAct_8 ic_0 ?_
    exact zr_zret (pc := 9) (by decide) hC hR dX8_takeBackAct_9
def fX11_undo (s : St) : Option (Int32 × St) :=
  bd (fX8_takeBackAct 32 s) (fun y_1 s_1 =>
    if y_1 = 0 then
    (some ((-1 : Int32), s_1))
  else
    (some ((s_1 32 3), s_1)))
set_option maxRecDepth 100000 in
set_option maxHeartbeats 4000000 in
theorem kX11_undo (l : Launch)  (s : St) : CN l yX11_undo cX11_undo 1 (some .int) 10 FULL (fun ad => [.ref (ad 0)]) s (fX11_undo s) := by
  refine cn_of (by decide) (fun _ => (Nat.le_of_ble_eq_true rfl)) (fun X hC hR hl hN => ?_)
  subst hl
  show Zr X (QFN X (some .int)) 0 s 0 [(0, .ref (X_ad X 0))] [] _
  rw [fX11_undo]
  refine zr_aload_n (pc := 0) (i := 0) 0 hC dX11_undo_0 rfl rfl ?_
  refine zr_getR (pc := 1) (j := 5) (k1 := 32) hC mem_0 lay_0 rfl rfl (Nat.le_of_ble_eq_true rfl) iX11 m_387 dX11_undo_1 ?_
  refine zr_callV (pc := 4) (As := fun ad => []) (st1 := []) hC (Nat.le_of_ble_eq_true rfl) (kX8_takeBackAct _ is_32 _) (Nat.le_of_ble_eq_true rfl) mc_yX8_takeBackAct m_511 m_512 m_513 mem_32 lay_32 rfl rfl rfl rfl (Nat.le_of_ble_eq_true rfl) dX11_undo_4 (fun y_1 s_1 => ?_)
  refine zr_if_eq (pc := 7) (tgt := 20) hC dX11_undo_7 (by decide) (fun c_ => ?_) (fun c_ => ?_)
  · refine zr_iconst (pc := 20) (v := (-1 : Int32)) hC dX11_undo_20 ic_m1 ?_
    exact zr_iret (pc := 21) hC hR dX11_undo_21
  · refine zr_aload_n (pc := 10) (i := 0) 0 hC dX11_undo_10 rfl rfl ?_
    refine zr_getR (pc := 11) (j := 5) (k1 := 32) hC mem_0 lay_0 rfl rfl (Nat.le_of_ble_eq_true rfl) iX11 m_387 dX11_undo_11 ?_
    refine zr_getI (pc := 14) (j := 3) hC mem_32 lay_32 rfl rfl (Nat.le_of_ble_eq_true rfl) iX8 m_219 dX11_undo_14 ?_
    refine zr_goto (pc := 17) (tgt := 21) hC dX11_undo_17 (by decide) ?_
    exact zr_iret (pc := 21) hC hR dX11_undo_21
def fX10_alive (w : Nat) (a1 : Int32) (s : St) : Option (Int32 × St) :=
  bd (fX11_at (w + 1) ((48 : Int32) + a1) s) (fun y_1 s_1 =>
    if y_1 = (-1 : Int32) then
    (some ((0 : Int32), s_1))
  else
    (some ((1 : Int32), s_1)))
set_option maxRecDepth 100000 in
set_option maxHeartbeats 4000000 in
theorem kX10_alive (l : Launch)  {w : Nat} (hw : isWd w) (a1 : Int32) (s : St) : CN l yX10_alive cX10_alive 2 (some .boolean) 2 FULL (fun ad => [.ref (ad w), .int a1]) s (fX10_alive w a1 s) := by
  refine cn_of (by decide) (fun _ => (Nat.le_of_ble_eq_true rfl)) (fun X hC hR hl hN => ?_)
  subst hl
  show Zr X (QFN X (some .boolean)) 0 s 0 [(0, .ref (X_ad X w)), (1, .int a1)] [] _
  rw [fX10_alive]
  refine zr_aload_n (pc := 0) (i := 0) 0 hC dX10_alive_0 rfl rfl ?_
  refine zr_getR (pc := 1) (j := 0) (k1 := (w + 1)) hC hw.1.1 hw.1.2 rfl rfl (Nat.le_of_ble_eq_true rfl) iX10 m_143 dX10_alive_1 ?_
  refine zr_bipush (pc := 4) (v := (48 : Int32)) hC dX10_alive_4 bi_48 ?_
  refine zr_iload_n (pc := 6) (i := 1) 1 hC dX10_alive_6 rfl rfl ?_
  refine zr_iadd (pc := 7) hC dX10_alive_7 ?_
  refine zr_callSN (pc := 8) (As := fun ad => [.ref (ad (w + 1)), .int ((48 : Int32) + a1)]) (st1 := []) hC (Nat.le_of_ble_eq_true rfl) (kX11_at _ (isArr_of hw.2) ((48 : Int32) + a1) _) (Nat.le_of_ble_eq_true rfl) mc_yX11_at m_478 m_453 rfl rfl (Nat.le_of_ble_eq_true rfl) dX10_alive_8 (fun y_1 s_1 => ?_)
  refine zr_iconst (pc := 11) (v := (-1 : Int32)) hC dX10_alive_11 ic_m1 ?_
  refine zr_icmp_eq (pc := 12) (tgt := 19) hC dX10_alive_12 (by decide) (fun c_ => ?_) (fun c_ => ?_)
  · refine zr_iconst (pc := 19) (v := (0 : Int32)) hC dX10_alive_19 ic_0 ?_
    exact zr_zret (pc := 20) (by decide) hC hR dX10_alive_20
  · refine zr_iconst (pc := 15) (v := (1 : Int32)) hC dX10_alive_15 ic_1 ?_
    refine zr_goto (pc := 16) (tgt := 20) hC dX10_alive_16 (by decide) ?_
    exact zr_zret (pc := 20) (by decide) hC hR dX10_alive_20
def fX4_left (g : Nat) (a1 : Int32) (a2 : Int32) (s : St) : Option (Int32 × St) :=
  bd (fX11_at (g + 4) ((a1 * (12 : Int32)) + a2) s) (fun y_1 s_1 =>
    some (y_1, s_1))
set_option maxRecDepth 100000 in
set_option maxHeartbeats 4000000 in
theorem kX4_left (l : Launch)  {g : Nat} (hg : isLand g) (a1 : Int32) (a2 : Int32) (s : St) : CN l yX4_left cX4_left 3 (some .int) 2 FULL (fun ad => [.ref (ad g), .int a1, .int a2]) s (fX4_left g a1 a2 s) := by
  refine cn_of (by decide) (fun _ => (Nat.le_of_ble_eq_true rfl)) (fun X hC hR hl hN => ?_)
  subst hl
  show Zr X (QFN X (some .int)) 0 s 0 [(0, .ref (X_ad X g)), (1, .int a1), (2, .int a2)] [] _
  rw [fX4_left]
  refine zr_aload_n (pc := 0) (i := 0) 0 hC dX4_left_0 rfl rfl ?_
  refine zr_getR (pc := 1) (j := 5) (k1 := (g + 4)) hC hg.1.1 hg.1.2 rfl rfl (Nat.le_of_ble_eq_true rfl) iX4 m_81 dX4_left_1 ?_
  refine zr_iload_n (pc := 4) (i := 1) 1 hC dX4_left_4 rfl rfl ?_
  refine zr_bipush (pc := 5) (v := (12 : Int32)) hC dX4_left_5 bi_12 ?_
  refine zr_imul (pc := 7) hC dX4_left_7 ?_
  refine zr_iload_n (pc := 8) (i := 2) 2 hC dX4_left_8 rfl rfl ?_
  refine zr_iadd (pc := 9) hC dX4_left_9 ?_
  refine zr_callSN (pc := 10) (As := fun ad => [.ref (ad (g + 4)), .int ((a1 * (12 : Int32)) + a2)]) (st1 := []) hC (Nat.le_of_ble_eq_true rfl) (kX11_at _ (isArr_of hg.2.2.2.2.1) ((a1 * (12 : Int32)) + a2) _) (Nat.le_of_ble_eq_true rfl) mc_yX11_at m_535 m_453 rfl rfl (Nat.le_of_ble_eq_true rfl) dX4_left_10 (fun y_1 s_1 => ?_)
  exact zr_iret (pc := 13) hC hR dX4_left_13
def fX4_hasWill_L2 (g : Nat) (c1 : Int32) : Nat → Int32 → St → Option (Int32 × St)
  | 0, _, _ => none
  | n + 1, v2, s =>
    if (s g 0) ≤ v2 then
    (some ((0 : Int32), s))
  else
    (bd (fX4_left g c1 v2 s) (fun y_1 s_1 =>
    if y_1 ≤ 0 then
    (fX4_hasWill_L2 g c1 n (v2 + (1 : Int32)) s_1)
  else
    (some ((1 : Int32), s_1))))
set_option maxRecDepth 100000 in
set_option maxHeartbeats 4000000 in
theorem tX4_hasWill_L2 (g : Nat) (c1 : Int32) (X : KX) (hC : Ctx X RX4 cX4_hasWill FULL 3 0) (hR : RC X (some .boolean)) (hN : X_nL X = 3) (hg : isLand g) : ∀ (n : Nat) (v2 : Int32) (s : St), Zr X (QFN X (some .boolean)) 0 s 2 [(0, .ref (X_ad X g)), (1, .int c1), (2, .int v2)] [] (fX4_hasWill_L2 g c1 n v2 s) := by
  intro n
  induction n with
  | zero =>
    intro v2 s
    exact zr_none
  | succ n ih =>
    intro v2 s
    rw [fX4_hasWill_L2]
    refine zr_iload_n (pc := 2) (i := 2) 2 hC dX4_hasWill_2 rfl rfl ?_
    refine zr_aload_n (pc := 3) (i := 0) 0 hC dX4_hasWill_3 rfl rfl ?_
    refine zr_getI (pc := 4) (j := 0) hC hg.1.1 hg.1.2 rfl rfl (Nat.le_of_ble_eq_true rfl) iX4 m_66 dX4_hasWill_4 ?_
    refine zr_icmp_ge (pc := 7) (tgt := 27) hC dX4_hasWill_7 (by decide) (fun c_ => ?_) (fun c_ => ?_)
    · refine zr_iconst (pc := 27) (v := (0 : Int32)) hC dX4_hasWill_27 ic_0 ?_
      exact zr_zret (pc := 28) (by decide) hC hR dX4_hasWill_28
    · refine zr_aload_n (pc := 10) (i := 0) 0 hC dX4_hasWill_10 rfl rfl ?_
      refine zr_iload_n (pc := 11) (i := 1) 1 hC dX4_hasWill_11 rfl rfl ?_
      refine zr_iload_n (pc := 12) (i := 2) 2 hC dX4_hasWill_12 rfl rfl ?_
      refine zr_callV (pc := 13) (As := fun ad => [.int c1, .int v2]) (st1 := []) hC (Nat.le_of_ble_eq_true rfl) (kX4_left _ hg c1 v2 _) (Nat.le_of_ble_eq_true rfl) mc_yX4_left m_531 m_532 m_533 hg.1.1 hg.1.2 rfl rfl rfl rfl (Nat.le_of_ble_eq_true rfl) dX4_hasWill_13 (fun y_1 s_1 => ?_)
      refine zr_if_le (pc := 16) (tgt := 21) hC dX4_hasWill_16 (by decide) (fun c_ => ?_) (fun c_ => ?_)
      · refine zr_iinc (pc := 21) (q := 2) (ls' := [(2, _), (0, _), (1, _)]) hC dX4_hasWill_21 rfl (inc_1 _) (nlt hN (Nat.le_of_ble_eq_true rfl)) rfl ?_
        refine zr_goto (pc := 24) (tgt := 2) hC dX4_hasWill_24 (by decide) ?_
        refine zr_sub (ls' := [(0, _), (1, _), (2, _)]) [1, 2, 0] rfl ?_
        exact ih (v2 + (1 : Int32)) s_1
      · refine zr_iconst (pc := 19) (v := (1 : Int32)) hC dX4_hasWill_19 ic_1 ?_
        exact zr_zret (pc := 20) (by decide) hC hR dX4_hasWill_20
def fX4_hasWill (g : Nat) (a1 : Int32) (s : St) : Option (Int32 × St) :=
  fX4_hasWill_L2 g a1 FU (0 : Int32) s
set_option maxRecDepth 100000 in
set_option maxHeartbeats 4000000 in
theorem kX4_hasWill (l : Launch)  {g : Nat} (hg : isLand g) (a1 : Int32) (s : St) : CN l yX4_hasWill cX4_hasWill 3 (some .boolean) 3 FULL (fun ad => [.ref (ad g), .int a1]) s (fX4_hasWill g a1 s) := by
  refine cn_of (by decide) (fun _ => (Nat.le_of_ble_eq_true rfl)) (fun X hC hR hl hN => ?_)
  subst hl
  show Zr X (QFN X (some .boolean)) 0 s 0 [(0, .ref (X_ad X g)), (1, .int a1)] [] _
  rw [fX4_hasWill]
  refine zr_iconst (pc := 0) (v := (0 : Int32)) hC dX4_hasWill_0 ic_0 ?_
  refine zr_istore_n (pc := 1) (i := 2) (ls' := [(2, _), (0, _), (1, _)]) hC dX4_hasWill_1 rfl (nlt hN (Nat.le_of_ble_eq_true rfl)) rfl ?_
  refine zr_sub (ls' := [(0, _), (1, _), (2, _)]) [1, 2, 0] rfl ?_
  exact tX4_hasWill_L2 g a1 X hC hR hN hg FU (0 : Int32) _
def fX11_hasWillToAlive_L2 (c1 : Int32) : Nat → Int32 → St → Option (Int32 × St)
  | 0, _, _ => none
  | n + 1, v2, s =>
    if (s 21 0) ≤ v2 then
    (some ((0 : Int32), s))
  else
    (bd (fX10_alive 33 v2 s) (fun y_1 s_1 =>
    if y_1 = 0 then
    (fX11_hasWillToAlive_L2 c1 n (v2 + (1 : Int32)) s_1)
  else
    (bd (fX4_left 21 c1 v2 s_1) (fun y_2 s_2 =>
    if y_2 ≤ 0 then
    (fX11_hasWillToAlive_L2 c1 n (v2 + (1 : Int32)) s_2)
  else
    (some ((1 : Int32), s_2))))))
set_option maxRecDepth 100000 in
set_option maxHeartbeats 4000000 in
theorem tX11_hasWillToAlive_L2 (c1 : Int32) (X : KX) (hC : Ctx X RX11 cX11_hasWillToAlive FULL 3 0) (hR : RC X (some .boolean)) (hN : X_nL X = 3) : ∀ (n : Nat) (v2 : Int32) (s : St), Zr X (QFN X (some .boolean)) 0 s 2 [(0, .ref (X_ad X 0)), (1, .int c1), (2, .int v2)] [] (fX11_hasWillToAlive_L2 c1 n v2 s) := by
  intro n
  induction n with
  | zero =>
    intro v2 s
    exact zr_none
  | succ n ih =>
    intro v2 s
    rw [fX11_hasWillToAlive_L2]
    refine zr_iload_n (pc := 2) (i := 2) 2 hC dX11_hasWillToAlive_2 rfl rfl ?_
    refine zr_aload_n (pc := 3) (i := 0) 0 hC dX11_hasWillToAlive_3 rfl rfl ?_
    refine zr_getR (pc := 4) (j := 4) (k1 := 21) hC mem_0 lay_0 rfl rfl (Nat.le_of_ble_eq_true rfl) iX11 m_386 dX11_hasWillToAlive_4 ?_
    refine zr_getI (pc := 7) (j := 0) hC mem_21 lay_21 rfl rfl (Nat.le_of_ble_eq_true rfl) iX4 m_70 dX11_hasWillToAlive_7 ?_
    refine zr_icmp_ge (pc := 10) (tgt := 47) hC dX11_hasWillToAlive_10 (by decide) (fun c_ => ?_) (fun c_ => ?_)
    · refine zr_iconst (pc := 47) (v := (0 : Int32)) hC dX11_hasWillToAlive_47 ic_0 ?_
      exact zr_zret (pc := 48) (by decide) hC hR dX11_hasWillToAlive_48
    · refine zr_aload_n (pc := 13) (i := 0) 0 hC dX11_hasWillToAlive_13 rfl rfl ?_
      refine zr_getR (pc := 14) (j := 5) (k1 := 32) hC mem_0 lay_0 rfl rfl (Nat.le_of_ble_eq_true rfl) iX11 m_387 dX11_hasWillToAlive_14 ?_
      refine zr_getR (pc := 17) (j := 0) (k1 := 33) hC mem_32 lay_32 rfl rfl (Nat.le_of_ble_eq_true rfl) iX8 m_215 dX11_hasWillToAlive_17 ?_
      refine zr_iload_n (pc := 20) (i := 2) 2 hC dX11_hasWillToAlive_20 rfl rfl ?_
      refine zr_callV (pc := 21) (As := fun ad => [.int v2]) (st1 := []) hC (Nat.le_of_ble_eq_true rfl) (kX10_alive _ is_33 v2 _) (Nat.le_of_ble_eq_true rfl) mc_yX10_alive m_523 m_524 m_525 mem_33 lay_33 rfl rfl rfl rfl (Nat.le_of_ble_eq_true rfl) dX11_hasWillToAlive_21 (fun y_1 s_1 => ?_)
      refine zr_if_eq (pc := 24) (tgt := 41) hC dX11_hasWillToAlive_24 (by decide) (fun c_ => ?_) (fun c_ => ?_)
      · refine zr_iinc (pc := 41) (q := 2) (ls' := [(2, _), (0, _), (1, _)]) hC dX11_hasWillToAlive_41 rfl (inc_1 _) (nlt hN (Nat.le_of_ble_eq_true rfl)) rfl ?_
        refine zr_goto (pc := 44) (tgt := 2) hC dX11_hasWillToAlive_44 (by decide) ?_
        refine zr_sub (ls' := [(0, _), (1, _), (2, _)]) [1, 2, 0] rfl ?_
        exact ih (v2 + (1 : Int32)) s_1
      · refine zr_aload_n (pc := 27) (i := 0) 0 hC dX11_hasWillToAlive_27 rfl rfl ?_
        refine zr_getR (pc := 28) (j := 4) (k1 := 21) hC mem_0 lay_0 rfl rfl (Nat.le_of_ble_eq_true rfl) iX11 m_386 dX11_hasWillToAlive_28 ?_
        refine zr_iload_n (pc := 31) (i := 1) 1 hC dX11_hasWillToAlive_31 rfl rfl ?_
        refine zr_iload_n (pc := 32) (i := 2) 2 hC dX11_hasWillToAlive_32 rfl rfl ?_
        refine zr_callV (pc := 33) (As := fun ad => [.int c1, .int v2]) (st1 := []) hC (Nat.le_of_ble_eq_true rfl) (kX4_left _ is_21 c1 v2 _) (Nat.le_of_ble_eq_true rfl) mc_yX4_left m_540 m_532 m_533 mem_21 lay_21 rfl rfl rfl rfl (Nat.le_of_ble_eq_true rfl) dX11_hasWillToAlive_33 (fun y_2 s_2 => ?_)
        refine zr_if_le (pc := 36) (tgt := 41) hC dX11_hasWillToAlive_36 (by decide) (fun c_ => ?_) (fun c_ => ?_)
        · refine zr_iinc (pc := 41) (q := 2) (ls' := [(2, _), (0, _), (1, _)]) hC dX11_hasWillToAlive_41 rfl (inc_1 _) (nlt hN (Nat.le_of_ble_eq_true rfl)) rfl ?_
          refine zr_goto (pc := 44) (tgt := 2) hC dX11_hasWillToAlive_44 (by decide) ?_
          refine zr_sub (ls' := [(0, _), (1, _), (2, _)]) [1, 2, 0] rfl ?_
          exact ih (v2 + (1 : Int32)) s_2
        · refine zr_iconst (pc := 39) (v := (1 : Int32)) hC dX11_hasWillToAlive_39 ic_1 ?_
          exact zr_zret (pc := 40) (by decide) hC hR dX11_hasWillToAlive_40
def fX11_hasWillToAlive (a1 : Int32) (s : St) : Option (Int32 × St) :=
  fX11_hasWillToAlive_L2 a1 FU (0 : Int32) s
set_option maxRecDepth 100000 in
set_option maxHeartbeats 4000000 in
theorem kX11_hasWillToAlive (l : Launch)  (a1 : Int32) (s : St) : CN l yX11_hasWillToAlive cX11_hasWillToAlive 3 (some .boolean) 3 FULL (fun ad => [.ref (ad 0), .int a1]) s (fX11_hasWillToAlive a1 s) := by
  refine cn_of (by decide) (fun _ => (Nat.le_of_ble_eq_true rfl)) (fun X hC hR hl hN => ?_)
  subst hl
  show Zr X (QFN X (some .boolean)) 0 s 0 [(0, .ref (X_ad X 0)), (1, .int a1)] [] _
  rw [fX11_hasWillToAlive]
  refine zr_iconst (pc := 0) (v := (0 : Int32)) hC dX11_hasWillToAlive_0 ic_0 ?_
  refine zr_istore_n (pc := 1) (i := 2) (ls' := [(2, _), (0, _), (1, _)]) hC dX11_hasWillToAlive_1 rfl (nlt hN (Nat.le_of_ble_eq_true rfl)) rfl ?_
  refine zr_sub (ls' := [(0, _), (1, _), (2, _)]) [1, 2, 0] rfl ?_
  exact tX11_hasWillToAlive_L2 a1 X hC hR hN FU (0 : Int32) _
def fX11_failing_L4 : Nat → Int32 → Int32 → St → Option (Int32 × St)
  | 0, _, _, _ => none
  | n + 1, v1, v2, s =>
    if (s 21 0) ≤ v2 then
    (some (v1, s))
  else
    (bd (fX10_alive 33 v2 s) (fun y_1 s_1 =>
    if y_1 = 0 then
    (fX11_failing_L4 n v1 (v2 + (1 : Int32)) s_1)
  else
    (bd (fX4_hasWill 21 v2 s_1) (fun y_2 s_2 =>
    if y_2 = 0 then
    (fX11_failing_L4 n v1 (v2 + (1 : Int32)) s_2)
  else
    (bd (fX11_hasWillToAlive v2 s_2) (fun y_3 s_3 =>
    if y_3 = 0 then
    (fX11_failing_L4 n (v1 ||| (jshl (1 : Int32) v2)) (v2 + (1 : Int32)) s_3)
  else
    (fX11_failing_L4 n v1 (v2 + (1 : Int32)) s_3)))))))
set_option maxRecDepth 100000 in
set_option maxHeartbeats 4000000 in
theorem tX11_failing_L4 (X : KX) (hC : Ctx X RX11 cX11_failing FULL 4 0) (hR : RC X (some .int)) (hN : X_nL X = 3) : ∀ (n : Nat) (v1 : Int32) (v2 : Int32) (s : St), Zr X (QFN X (some .int)) 0 s 4 [(0, .ref (X_ad X 0)), (1, .int v1), (2, .int v2)] [] (fX11_failing_L4 n v1 v2 s) := by
  intro n
  induction n with
  | zero =>
    intro v1 v2 s
    exact zr_none
  | succ n ih =>
    intro v1 v2 s
    rw [fX11_failing_L4]
    refine zr_iload_n (pc := 4) (i := 2) 2 hC dX11_failing_4 rfl rfl ?_
    refine zr_aload_n (pc := 5) (i := 0) 0 hC dX11_failing_5 rfl rfl ?_
    refine zr_getR (pc := 6) (j := 4) (k1 := 21) hC mem_0 lay_0 rfl rfl (Nat.le_of_ble_eq_true rfl) iX11 m_386 dX11_failing_6 ?_
    refine zr_getI (pc := 9) (j := 0) hC mem_21 lay_21 rfl rfl (Nat.le_of_ble_eq_true rfl) iX4 m_70 dX11_failing_9 ?_
    refine zr_icmp_ge (pc := 12) (tgt := 60) hC dX11_failing_12 (by decide) (fun c_ => ?_) (fun c_ => ?_)
    · refine zr_iload_n (pc := 60) (i := 1) 1 hC dX11_failing_60 rfl rfl ?_
      exact zr_iret (pc := 61) hC hR dX11_failing_61
    · refine zr_aload_n (pc := 15) (i := 0) 0 hC dX11_failing_15 rfl rfl ?_
      refine zr_getR (pc := 16) (j := 5) (k1 := 32) hC mem_0 lay_0 rfl rfl (Nat.le_of_ble_eq_true rfl) iX11 m_387 dX11_failing_16 ?_
      refine zr_getR (pc := 19) (j := 0) (k1 := 33) hC mem_32 lay_32 rfl rfl (Nat.le_of_ble_eq_true rfl) iX8 m_215 dX11_failing_19 ?_
      refine zr_iload_n (pc := 22) (i := 2) 2 hC dX11_failing_22 rfl rfl ?_
      refine zr_callV (pc := 23) (As := fun ad => [.int v2]) (st1 := []) hC (Nat.le_of_ble_eq_true rfl) (kX10_alive _ is_33 v2 _) (Nat.le_of_ble_eq_true rfl) mc_yX10_alive m_523 m_524 m_525 mem_33 lay_33 rfl rfl rfl rfl (Nat.le_of_ble_eq_true rfl) dX11_failing_23 (fun y_1 s_1 => ?_)
      refine zr_if_eq (pc := 26) (tgt := 54) hC dX11_failing_26 (by decide) (fun c_ => ?_) (fun c_ => ?_)
      · refine zr_iinc (pc := 54) (q := 2) (ls' := [(2, _), (0, _), (1, _)]) hC dX11_failing_54 rfl (inc_1 _) (nlt hN (Nat.le_of_ble_eq_true rfl)) rfl ?_
        refine zr_goto (pc := 57) (tgt := 4) hC dX11_failing_57 (by decide) ?_
        refine zr_sub (ls' := [(0, _), (1, _), (2, _)]) [1, 2, 0] rfl ?_
        exact ih v1 (v2 + (1 : Int32)) s_1
      · refine zr_aload_n (pc := 29) (i := 0) 0 hC dX11_failing_29 rfl rfl ?_
        refine zr_getR (pc := 30) (j := 4) (k1 := 21) hC mem_0 lay_0 rfl rfl (Nat.le_of_ble_eq_true rfl) iX11 m_386 dX11_failing_30 ?_
        refine zr_iload_n (pc := 33) (i := 2) 2 hC dX11_failing_33 rfl rfl ?_
        refine zr_callV (pc := 34) (As := fun ad => [.int v2]) (st1 := []) hC (Nat.le_of_ble_eq_true rfl) (kX4_hasWill _ is_21 v2 _) (Nat.le_of_ble_eq_true rfl) mc_yX4_hasWill m_527 m_528 m_529 mem_21 lay_21 rfl rfl rfl rfl (Nat.le_of_ble_eq_true rfl) dX11_failing_34 (fun y_2 s_2 => ?_)
        refine zr_if_eq (pc := 37) (tgt := 54) hC dX11_failing_37 (by decide) (fun c_ => ?_) (fun c_ => ?_)
        · refine zr_iinc (pc := 54) (q := 2) (ls' := [(2, _), (0, _), (1, _)]) hC dX11_failing_54 rfl (inc_1 _) (nlt hN (Nat.le_of_ble_eq_true rfl)) rfl ?_
          refine zr_goto (pc := 57) (tgt := 4) hC dX11_failing_57 (by decide) ?_
          refine zr_sub (ls' := [(0, _), (1, _), (2, _)]) [1, 2, 0] rfl ?_
          exact ih v1 (v2 + (1 : Int32)) s_2
        · refine zr_aload_n (pc := 40) (i := 0) 0 hC dX11_failing_40 rfl rfl ?_
          refine zr_iload_n (pc := 41) (i := 2) 2 hC dX11_failing_41 rfl rfl ?_
          refine zr_callV (pc := 42) (As := fun ad => [.int v2]) (st1 := []) hC (Nat.le_of_ble_eq_true rfl) (kX11_hasWillToAlive _ v2 _) (Nat.le_of_ble_eq_true rfl) mc_yX11_hasWillToAlive m_536 m_538 m_p2 mem_0 lay_0 rfl rfl rfl rfl (Nat.le_of_ble_eq_true rfl) dX11_failing_42 (fun y_3 s_3 => ?_)
          refine zr_if_ne (pc := 45) (tgt := 54) hC dX11_failing_45 (by decide) (fun c_ => ?_) (fun c_ => ?_)
          · refine zr_iload_n (pc := 48) (i := 1) 1 hC dX11_failing_48 rfl rfl ?_
            refine zr_iconst (pc := 49) (v := (1 : Int32)) hC dX11_failing_49 ic_1 ?_
            refine zr_iload_n (pc := 50) (i := 2) 2 hC dX11_failing_50 rfl rfl ?_
            refine zr_ishl (pc := 51) hC dX11_failing_51 ?_
            refine zr_ior (pc := 52) hC dX11_failing_52 ?_
            refine zr_istore_n (pc := 53) (i := 1) (ls' := [(1, _), (0, _), (2, _)]) hC dX11_failing_53 rfl (nlt hN (Nat.le_of_ble_eq_true rfl)) rfl ?_
            refine zr_iinc (pc := 54) (q := 2) (ls' := [(2, _), (1, _), (0, _)]) hC dX11_failing_54 rfl (inc_1 _) (nlt hN (Nat.le_of_ble_eq_true rfl)) rfl ?_
            refine zr_goto (pc := 57) (tgt := 4) hC dX11_failing_57 (by decide) ?_
            refine zr_sub (ls' := [(0, _), (1, _), (2, _)]) [2, 1, 0] rfl ?_
            exact ih (v1 ||| (jshl (1 : Int32) v2)) (v2 + (1 : Int32)) s_3
          · refine zr_iinc (pc := 54) (q := 2) (ls' := [(2, _), (0, _), (1, _)]) hC dX11_failing_54 rfl (inc_1 _) (nlt hN (Nat.le_of_ble_eq_true rfl)) rfl ?_
            refine zr_goto (pc := 57) (tgt := 4) hC dX11_failing_57 (by decide) ?_
            refine zr_sub (ls' := [(0, _), (1, _), (2, _)]) [1, 2, 0] rfl ?_
            exact ih v1 (v2 + (1 : Int32)) s_3
def fX11_failing (s : St) : Option (Int32 × St) :=
  fX11_failing_L4 FU (0 : Int32) (0 : Int32) s
set_option maxRecDepth 100000 in
set_option maxHeartbeats 4000000 in
theorem kX11_failing (l : Launch)  (s : St) : CN l yX11_failing cX11_failing 3 (some .int) 4 FULL (fun ad => [.ref (ad 0)]) s (fX11_failing s) := by
  refine cn_of (by decide) (fun _ => (Nat.le_of_ble_eq_true rfl)) (fun X hC hR hl hN => ?_)
  subst hl
  show Zr X (QFN X (some .int)) 0 s 0 [(0, .ref (X_ad X 0))] [] _
  rw [fX11_failing]
  refine zr_iconst (pc := 0) (v := (0 : Int32)) hC dX11_failing_0 ic_0 ?_
  refine zr_istore_n (pc := 1) (i := 1) (ls' := [(1, _), (0, _)]) hC dX11_failing_1 rfl (nlt hN (Nat.le_of_ble_eq_true rfl)) rfl ?_
  refine zr_iconst (pc := 2) (v := (0 : Int32)) hC dX11_failing_2 ic_0 ?_
  refine zr_istore_n (pc := 3) (i := 2) (ls' := [(2, _), (1, _), (0, _)]) hC dX11_failing_3 rfl (nlt hN (Nat.le_of_ble_eq_true rfl)) rfl ?_
  refine zr_sub (ls' := [(0, _), (1, _), (2, _)]) [2, 1, 0] rfl ?_
  exact tX11_failing_L4  X hC hR hN FU (0 : Int32) (0 : Int32) _
def fX10_manyAlive_L4 (w : Nat) : Nat → Int32 → Int32 → St → Option (Int32 × St)
  | 0, _, _, _ => none
  | n + 1, v1, v2, s =>
    if (12 : Int32) ≤ v2 then
    (some (v1, s))
  else
    (bd (fX10_alive w v2 s) (fun y_1 s_1 =>
    if y_1 = 0 then
    (fX10_manyAlive_L4 w n (v1 + (0 : Int32)) (v2 + (1 : Int32)) s_1)
  else
    (fX10_manyAlive_L4 w n (v1 + (1 : Int32)) (v2 + (1 : Int32)) s_1)))
set_option maxRecDepth 100000 in
set_option maxHeartbeats 4000000 in
theorem tX10_manyAlive_L4 (w : Nat) (X : KX) (hC : Ctx X RX10 cX10_manyAlive FULL 3 0) (hR : RC X (some .int)) (hN : X_nL X = 3) (hw : isWd w) : ∀ (n : Nat) (v1 : Int32) (v2 : Int32) (s : St), Zr X (QFN X (some .int)) 0 s 4 [(0, .ref (X_ad X w)), (1, .int v1), (2, .int v2)] [] (fX10_manyAlive_L4 w n v1 v2 s) := by
  intro n
  induction n with
  | zero =>
    intro v1 v2 s
    exact zr_none
  | succ n ih =>
    intro v1 v2 s
    rw [fX10_manyAlive_L4]
    refine zr_iload_n (pc := 4) (i := 2) 2 hC dX10_manyAlive_4 rfl rfl ?_
    refine zr_bipush (pc := 5) (v := (12 : Int32)) hC dX10_manyAlive_5 bi_12 ?_
    refine zr_icmp_ge (pc := 7) (tgt := 32) hC dX10_manyAlive_7 (by decide) (fun c_ => ?_) (fun c_ => ?_)
    · refine zr_iload_n (pc := 32) (i := 1) 1 hC dX10_manyAlive_32 rfl rfl ?_
      exact zr_iret (pc := 33) hC hR dX10_manyAlive_33
    · refine zr_iload_n (pc := 10) (i := 1) 1 hC dX10_manyAlive_10 rfl rfl ?_
      refine zr_aload_n (pc := 11) (i := 0) 0 hC dX10_manyAlive_11 rfl rfl ?_
      refine zr_iload_n (pc := 12) (i := 2) 2 hC dX10_manyAlive_12 rfl rfl ?_
      refine zr_callV (pc := 13) (As := fun ad => [.int v2]) (st1 := [.int v1]) hC (Nat.le_of_ble_eq_true rfl) (kX10_alive _ hw v2 _) (Nat.le_of_ble_eq_true rfl) mc_yX10_alive m_549 m_524 m_525 hw.1.1 hw.1.2 rfl rfl rfl rfl (Nat.le_of_ble_eq_true rfl) dX10_manyAlive_13 (fun y_1 s_1 => ?_)
      refine zr_if_eq (pc := 16) (tgt := 23) hC dX10_manyAlive_16 (by decide) (fun c_ => ?_) (fun c_ => ?_)
      · refine zr_iconst (pc := 23) (v := (0 : Int32)) hC dX10_manyAlive_23 ic_0 ?_
        refine zr_iadd (pc := 24) hC dX10_manyAlive_24 ?_
        refine zr_istore_n (pc := 25) (i := 1) (ls' := [(1, _), (0, _), (2, _)]) hC dX10_manyAlive_25 rfl (nlt hN (Nat.le_of_ble_eq_true rfl)) rfl ?_
        refine zr_iinc (pc := 26) (q := 2) (ls' := [(2, _), (1, _), (0, _)]) hC dX10_manyAlive_26 rfl (inc_1 _) (nlt hN (Nat.le_of_ble_eq_true rfl)) rfl ?_
        refine zr_goto (pc := 29) (tgt := 4) hC dX10_manyAlive_29 (by decide) ?_
        refine zr_sub (ls' := [(0, _), (1, _), (2, _)]) [2, 1, 0] rfl ?_
        exact ih (v1 + (0 : Int32)) (v2 + (1 : Int32)) s_1
      · refine zr_iconst (pc := 19) (v := (1 : Int32)) hC dX10_manyAlive_19 ic_1 ?_
        refine zr_goto (pc := 20) (tgt := 24) hC dX10_manyAlive_20 (by decide) ?_
        refine zr_iadd (pc := 24) hC dX10_manyAlive_24 ?_
        refine zr_istore_n (pc := 25) (i := 1) (ls' := [(1, _), (0, _), (2, _)]) hC dX10_manyAlive_25 rfl (nlt hN (Nat.le_of_ble_eq_true rfl)) rfl ?_
        refine zr_iinc (pc := 26) (q := 2) (ls' := [(2, _), (1, _), (0, _)]) hC dX10_manyAlive_26 rfl (inc_1 _) (nlt hN (Nat.le_of_ble_eq_true rfl)) rfl ?_
        refine zr_goto (pc := 29) (tgt := 4) hC dX10_manyAlive_29 (by decide) ?_
        refine zr_sub (ls' := [(0, _), (1, _), (2, _)]) [2, 1, 0] rfl ?_
        exact ih (v1 + (1 : Int32)) (v2 + (1 : Int32)) s_1
def fX10_manyAlive (w : Nat) (s : St) : Option (Int32 × St) :=
  fX10_manyAlive_L4 w FU (0 : Int32) (0 : Int32) s
set_option maxRecDepth 100000 in
set_option maxHeartbeats 4000000 in
theorem kX10_manyAlive (l : Launch)  {w : Nat} (hw : isWd w) (s : St) : CN l yX10_manyAlive cX10_manyAlive 3 (some .int) 3 FULL (fun ad => [.ref (ad w)]) s (fX10_manyAlive w s) := by
  refine cn_of (by decide) (fun _ => (Nat.le_of_ble_eq_true rfl)) (fun X hC hR hl hN => ?_)
  subst hl
  show Zr X (QFN X (some .int)) 0 s 0 [(0, .ref (X_ad X w))] [] _
  rw [fX10_manyAlive]
  refine zr_iconst (pc := 0) (v := (0 : Int32)) hC dX10_manyAlive_0 ic_0 ?_
  refine zr_istore_n (pc := 1) (i := 1) (ls' := [(1, _), (0, _)]) hC dX10_manyAlive_1 rfl (nlt hN (Nat.le_of_ble_eq_true rfl)) rfl ?_
  refine zr_iconst (pc := 2) (v := (0 : Int32)) hC dX10_manyAlive_2 ic_0 ?_
  refine zr_istore_n (pc := 3) (i := 2) (ls' := [(2, _), (1, _), (0, _)]) hC dX10_manyAlive_3 rfl (nlt hN (Nat.le_of_ble_eq_true rfl)) rfl ?_
  refine zr_sub (ls' := [(0, _), (1, _), (2, _)]) [2, 1, 0] rfl ?_
  exact tX10_manyAlive_L4 w X hC hR hN hw FU (0 : Int32) (0 : Int32) _
def fX11_copyRow (r0 : Nat) (r1 : Nat) (s : St) : Option (Int32 × St) :=
  bd (fX11_copyCells r0 (0 : Int32) r1 (0 : Int32) (Int32.ofNat (LN r0)) s) (fun y_1 s_1 =>
    some (0, s_1))
set_option maxRecDepth 100000 in
set_option maxHeartbeats 4000000 in
theorem kX11_copyRow (l : Launch)  {r0 : Nat} {r1 : Nat} (hr0 : isArrD FULL r0) (hr1 : isArrD FULL r1) (s : St) : CN l yX11_copyRow cX11_copyRow 2 none 8 FULL (fun ad => [.ref (ad r0), .ref (ad r1)]) s (fX11_copyRow r0 r1 s) := by
  refine cn_of (by decide) (fun _ => (Nat.le_of_ble_eq_true rfl)) (fun X hC hR hl hN => ?_)
  subst hl
  show Zr X (QFN X none) 0 s 0 [(0, .ref (X_ad X r0)), (1, .ref (X_ad X r1))] [] _
  rw [fX11_copyRow]
  refine zr_aload_n (pc := 0) (i := 0) 0 hC dX11_copyRow_0 rfl rfl ?_
  refine zr_iconst (pc := 1) (v := (0 : Int32)) hC dX11_copyRow_1 ic_0 ?_
  refine zr_aload_n (pc := 2) (i := 1) 1 hC dX11_copyRow_2 rfl rfl ?_
  refine zr_iconst (pc := 3) (v := (0 : Int32)) hC dX11_copyRow_3 ic_0 ?_
  refine zr_aload_n (pc := 4) (i := 0) 0 hC dX11_copyRow_4 rfl rfl ?_
  refine zr_ifnonnull (pc := 5) (tgt := 12) hC dX11_copyRow_5 (by decide) ?_
  refine zr_aload_n (pc := 12) (i := 0) 0 hC dX11_copyRow_12 rfl rfl ?_
  refine zr_alen (pc := 13) hC hr0.1 hr0.2 dX11_copyRow_13 ?_
  refine zr_callSv (pc := 14) (As := fun ad => [.ref (ad r0), .int (0 : Int32), .ref (ad r1), .int (0 : Int32), .int (Int32.ofNat (LN r0))]) (st1 := []) hC (Nat.le_of_ble_eq_true rfl) (kX11_copyCells _ hr0 hr1 (0 : Int32) (0 : Int32) (Int32.ofNat (LN r0)) _) (Nat.le_of_ble_eq_true rfl) mc_yX11_copyCells m_569 m_465 rfl rfl rfl (Nat.le_of_ble_eq_true rfl) dX11_copyRow_14 (fun y_1 s_1 => ?_)
  exact zr_vret (pc := 17) hC hR dX11_copyRow_17
def fX0_weigh_L4 (k59 : Int32 → St → Option (Int32 × St)) (g : Nat) : Nat → Int32 → Int32 → St → Option (Int32 × St)
  | 0, _, _, _ => none
  | n + 1, v2, v3, s =>
    if (s g 6) ≤ v3 then
    (k59 v2 s)
  else
    (bd (fX11_at 60 v3 s) (fun y_1 s_1 =>
    bd (fX11_at (g + 6) v3 s_1) (fun y_2 s_2 =>
    if y_1 < y_2 then
    (fX0_weigh_L4 k59 g n v2 (v3 + (1 : Int32)) s_2)
  else
    (bd (fX11_at 61 v3 s_2) (fun y_3 s_3 =>
    bd (fX11_at (g + 7) v3 s_3) (fun y_4 s_4 =>
    if y_3 < y_4 then
    (fX0_weigh_L4 k59 g n v2 (v3 + (1 : Int32)) s_4)
  else
    (fX0_weigh_L4 k59 g n (v2 + (1 : Int32)) (v3 + (1 : Int32)) s_4)))))))
set_option maxRecDepth 100000 in
set_option maxHeartbeats 4000000 in
theorem tX0_weigh_L4 (g : Nat) (k59 : Int32 → St → Option (Int32 × St)) (X : KX) (hC : Ctx X RX0 cX0_weigh FULL 9 0) (hR : RC X none) (hN : X_nL X = 4) (hg : isLand g) (hk59 : ∀ (v2 : Int32) (s : St), Zr X (QFN X none) 0 s 59 [(0, .ref (X_ad X 57)), (2, .int v2)] [] (k59 v2 s)) : ∀ (n : Nat) (v2 : Int32) (v3 : Int32) (s : St), Zr X (QFN X none) 0 s 4 [(0, .ref (X_ad X 57)), (1, .ref (X_ad X g)), (2, .int v2), (3, .int v3)] [] (fX0_weigh_L4 k59 g n v2 v3 s) := by
  intro n
  induction n with
  | zero =>
    intro v2 v3 s
    exact zr_none
  | succ n ih =>
    intro v2 v3 s
    rw [fX0_weigh_L4]
    refine zr_iload_n (pc := 4) (i := 3) 3 hC dX0_weigh_4 rfl rfl ?_
    refine zr_aload_n (pc := 5) (i := 1) 1 hC dX0_weigh_5 rfl rfl ?_
    refine zr_getI (pc := 6) (j := 6) hC hg.1.1 hg.1.2 rfl rfl (Nat.le_of_ble_eq_true rfl) iX4 m_83 dX0_weigh_6 ?_
    refine zr_icmp_ge (pc := 9) (tgt := 59) hC dX0_weigh_9 (by decide) (fun c_ => ?_) (fun c_ => ?_)
    · refine zr_sub (ls' := [(0, _), (2, _)]) [0, 2] rfl ?_
      exact hk59 v2 s
    · refine zr_aload_n (pc := 12) (i := 0) 0 hC dX0_weigh_12 rfl rfl ?_
      refine zr_getR (pc := 13) (j := 3) (k1 := 60) hC mem_57 lay_57 rfl rfl (Nat.le_of_ble_eq_true rfl) iX0 m_317 dX0_weigh_13 ?_
      refine zr_iload_n (pc := 16) (i := 3) 3 hC dX0_weigh_16 rfl rfl ?_
      refine zr_callSN (pc := 17) (As := fun ad => [.ref (ad 60), .int v3]) (st1 := []) hC (Nat.le_of_ble_eq_true rfl) (kX11_at _ ar_60 v3 _) (Nat.le_of_ble_eq_true rfl) mc_yX11_at m_555 m_453 rfl rfl (Nat.le_of_ble_eq_true rfl) dX0_weigh_17 (fun y_1 s_1 => ?_)
      refine zr_aload_n (pc := 20) (i := 1) 1 hC dX0_weigh_20 rfl rfl ?_
      refine zr_getR (pc := 21) (j := 8) (k1 := (g + 6)) hC hg.1.1 hg.1.2 rfl rfl (Nat.le_of_ble_eq_true rfl) iX4 m_92 dX0_weigh_21 ?_
      refine zr_iload_n (pc := 24) (i := 3) 3 hC dX0_weigh_24 rfl rfl ?_
      refine zr_callSN (pc := 25) (As := fun ad => [.ref (ad (g + 6)), .int v3]) (st1 := [.int y_1]) hC (Nat.le_of_ble_eq_true rfl) (kX11_at _ (isArr_of hg.2.2.2.2.2.2.1) v3 _) (Nat.le_of_ble_eq_true rfl) mc_yX11_at m_555 m_453 rfl rfl (Nat.le_of_ble_eq_true rfl) dX0_weigh_25 (fun y_2 s_2 => ?_)
      refine zr_icmp_lt (pc := 28) (tgt := 53) hC dX0_weigh_28 (by decide) (fun c_ => ?_) (fun c_ => ?_)
      · refine zr_iinc (pc := 53) (q := 3) (ls' := [(3, _), (0, _), (1, _), (2, _)]) hC dX0_weigh_53 rfl (inc_1 _) (nlt hN (Nat.le_of_ble_eq_true rfl)) rfl ?_
        refine zr_goto (pc := 56) (tgt := 4) hC dX0_weigh_56 (by decide) ?_
        refine zr_sub (ls' := [(0, _), (1, _), (2, _), (3, _)]) [1, 2, 3, 0] rfl ?_
        exact ih v2 (v3 + (1 : Int32)) s_2
      · refine zr_aload_n (pc := 31) (i := 0) 0 hC dX0_weigh_31 rfl rfl ?_
        refine zr_getR (pc := 32) (j := 4) (k1 := 61) hC mem_57 lay_57 rfl rfl (Nat.le_of_ble_eq_true rfl) iX0 m_318 dX0_weigh_32 ?_
        refine zr_iload_n (pc := 35) (i := 3) 3 hC dX0_weigh_35 rfl rfl ?_
        refine zr_callSN (pc := 36) (As := fun ad => [.ref (ad 61), .int v3]) (st1 := []) hC (Nat.le_of_ble_eq_true rfl) (kX11_at _ ar_61 v3 _) (Nat.le_of_ble_eq_true rfl) mc_yX11_at m_555 m_453 rfl rfl (Nat.le_of_ble_eq_true rfl) dX0_weigh_36 (fun y_3 s_3 => ?_)
        refine zr_aload_n (pc := 39) (i := 1) 1 hC dX0_weigh_39 rfl rfl ?_
        refine zr_getR (pc := 40) (j := 9) (k1 := (g + 7)) hC hg.1.1 hg.1.2 rfl rfl (Nat.le_of_ble_eq_true rfl) iX4 m_96 dX0_weigh_40 ?_
        refine zr_iload_n (pc := 43) (i := 3) 3 hC dX0_weigh_43 rfl rfl ?_
        refine zr_callSN (pc := 44) (As := fun ad => [.ref (ad (g + 7)), .int v3]) (st1 := [.int y_3]) hC (Nat.le_of_ble_eq_true rfl) (kX11_at _ (isArr_of hg.2.2.2.2.2.2.2.1) v3 _) (Nat.le_of_ble_eq_true rfl) mc_yX11_at m_555 m_453 rfl rfl (Nat.le_of_ble_eq_true rfl) dX0_weigh_44 (fun y_4 s_4 => ?_)
        refine zr_icmp_lt (pc := 47) (tgt := 53) hC dX0_weigh_47 (by decide) (fun c_ => ?_) (fun c_ => ?_)
        · refine zr_iinc (pc := 53) (q := 3) (ls' := [(3, _), (0, _), (1, _), (2, _)]) hC dX0_weigh_53 rfl (inc_1 _) (nlt hN (Nat.le_of_ble_eq_true rfl)) rfl ?_
          refine zr_goto (pc := 56) (tgt := 4) hC dX0_weigh_56 (by decide) ?_
          refine zr_sub (ls' := [(0, _), (1, _), (2, _), (3, _)]) [1, 2, 3, 0] rfl ?_
          exact ih v2 (v3 + (1 : Int32)) s_4
        · refine zr_iinc (pc := 50) (q := 2) (ls' := [(2, _), (0, _), (1, _), (3, _)]) hC dX0_weigh_50 rfl (inc_1 _) (nlt hN (Nat.le_of_ble_eq_true rfl)) rfl ?_
          refine zr_iinc (pc := 53) (q := 3) (ls' := [(3, _), (2, _), (0, _), (1, _)]) hC dX0_weigh_53 rfl (inc_1 _) (nlt hN (Nat.le_of_ble_eq_true rfl)) rfl ?_
          refine zr_goto (pc := 56) (tgt := 4) hC dX0_weigh_56 (by decide) ?_
          refine zr_sub (ls' := [(0, _), (1, _), (2, _), (3, _)]) [2, 3, 1, 0] rfl ?_
          exact ih (v2 + (1 : Int32)) (v3 + (1 : Int32)) s_4
def fX0_weigh (g : Nat) (s : St) : Option (Int32 × St) :=
  fX0_weigh_L4 (fun v2_5 s_5 => if v2_5 ≤ (s_5 57 5) then
    (some (0, s_5))
  else
    (let s_6 := wr s_5 57 5 v2_5;
    bd (fX11_copyRow 58 59 s_6) (fun y_7 s_7 =>
    some (0, s_7)))) g FU (0 : Int32) (0 : Int32) s
set_option maxRecDepth 100000 in
set_option maxHeartbeats 4000000 in
theorem kX0_weigh (l : Launch)  {g : Nat} (hg : isLand g) (s : St) : CN l yX0_weigh cX0_weigh 4 none 9 FULL (fun ad => [.ref (ad 57), .ref (ad g)]) s (fX0_weigh g s) := by
  refine cn_of (by decide) (fun _ => (Nat.le_of_ble_eq_true rfl)) (fun X hC hR hl hN => ?_)
  subst hl
  show Zr X (QFN X none) 0 s 0 [(0, .ref (X_ad X 57)), (1, .ref (X_ad X g))] [] _
  rw [fX0_weigh]
  refine zr_iconst (pc := 0) (v := (0 : Int32)) hC dX0_weigh_0 ic_0 ?_
  refine zr_istore_n (pc := 1) (i := 2) (ls' := [(2, _), (0, _), (1, _)]) hC dX0_weigh_1 rfl (nlt hN (Nat.le_of_ble_eq_true rfl)) rfl ?_
  refine zr_iconst (pc := 2) (v := (0 : Int32)) hC dX0_weigh_2 ic_0 ?_
  refine zr_istore_n (pc := 3) (i := 3) (ls' := [(3, _), (2, _), (0, _), (1, _)]) hC dX0_weigh_3 rfl (nlt hN (Nat.le_of_ble_eq_true rfl)) rfl ?_
  refine zr_sub (ls' := [(0, _), (1, _), (2, _), (3, _)]) [2, 3, 1, 0] rfl ?_
  refine tX0_weigh_L4 g _ X hC hR hN hg (fun v2_5 s_5 => ?_) FU (0 : Int32) (0 : Int32) _
  · refine zr_iload_n (pc := 59) (i := 2) 1 hC dX0_weigh_59 rfl rfl ?_
    refine zr_aload_n (pc := 60) (i := 0) 0 hC dX0_weigh_60 rfl rfl ?_
    refine zr_getI (pc := 61) (j := 5) hC mem_57 lay_57 rfl rfl (Nat.le_of_ble_eq_true rfl) iX0 m_319 dX0_weigh_61 ?_
    refine zr_icmp_le (pc := 64) (tgt := 83) hC dX0_weigh_64 (by decide) (fun c_ => ?_) (fun c_ => ?_)
    · exact zr_vret (pc := 83) hC hR dX0_weigh_83
    · refine zr_aload_n (pc := 67) (i := 0) 0 hC dX0_weigh_67 rfl rfl ?_
      refine zr_iload_n (pc := 68) (i := 2) 1 hC dX0_weigh_68 rfl rfl ?_
      refine zr_putInt (pc := 69) (j := 5) hC mem_57 lay_57 rfl rfl (Nat.le_of_ble_eq_true rfl) iX0 tyX0_ok nmX0 m_319 rfl (by decide +kernel) dX0_weigh_69 ?_
      refine zr_aload_n (pc := 72) (i := 0) 0 hC dX0_weigh_72 rfl rfl ?_
      refine zr_getR (pc := 73) (j := 0) (k1 := 58) hC mem_57 lay_57 rfl rfl (Nat.le_of_ble_eq_true rfl) iX0 m_312 dX0_weigh_73 ?_
      refine zr_aload_n (pc := 76) (i := 0) 0 hC dX0_weigh_76 rfl rfl ?_
      refine zr_getR (pc := 77) (j := 1) (k1 := 59) hC mem_57 lay_57 rfl rfl (Nat.le_of_ble_eq_true rfl) iX0 m_313 dX0_weigh_77 ?_
      refine zr_callSNv (pc := 80) (As := fun ad => [.ref (ad 58), .ref (ad 59)]) (st1 := []) hC (Nat.le_of_ble_eq_true rfl) (kX11_copyRow _ ar_58 ar_59 _) (Nat.le_of_ble_eq_true rfl) mc_yX11_copyRow m_566 m_567 rfl rfl (Nat.le_of_ble_eq_true rfl) dX0_weigh_80 (fun y_7 s_7 => ?_)
      exact zr_vret (pc := 83) hC hR dX0_weigh_83
def fX0_add (a1 : Int32) (a2 : Int32) (a3 : Int32) (s : St) : Option (Int32 × St) :=
  bd (fX11_at 60 a1 s) (fun y_1 s_1 =>
    bd (fX11_put 60 a1 (y_1 + a2) s_1) (fun y_2 s_2 =>
    bd (fX11_at 61 a1 s_2) (fun y_3 s_3 =>
    bd (fX11_put 61 a1 (y_3 + a3) s_3) (fun y_4 s_4 =>
    some (0, s_4)))))
set_option maxRecDepth 100000 in
set_option maxHeartbeats 4000000 in
theorem kX0_add (l : Launch)  (a1 : Int32) (a2 : Int32) (a3 : Int32) (s : St) : CN l yX0_add cX0_add 4 none 2 FULL (fun ad => [.ref (ad 57), .int a1, .int a2, .int a3]) s (fX0_add a1 a2 a3 s) := by
  refine cn_of (by decide) (fun _ => (Nat.le_of_ble_eq_true rfl)) (fun X hC hR hl hN => ?_)
  subst hl
  show Zr X (QFN X none) 0 s 0 [(0, .ref (X_ad X 57)), (1, .int a1), (2, .int a2), (3, .int a3)] [] _
  rw [fX0_add]
  refine zr_aload_n (pc := 0) (i := 0) 0 hC dX0_add_0 rfl rfl ?_
  refine zr_getR (pc := 1) (j := 3) (k1 := 60) hC mem_57 lay_57 rfl rfl (Nat.le_of_ble_eq_true rfl) iX0 m_317 dX0_add_1 ?_
  refine zr_iload_n (pc := 4) (i := 1) 1 hC dX0_add_4 rfl rfl ?_
  refine zr_aload_n (pc := 5) (i := 0) 0 hC dX0_add_5 rfl rfl ?_
  refine zr_getR (pc := 6) (j := 3) (k1 := 60) hC mem_57 lay_57 rfl rfl (Nat.le_of_ble_eq_true rfl) iX0 m_317 dX0_add_6 ?_
  refine zr_iload_n (pc := 9) (i := 1) 1 hC dX0_add_9 rfl rfl ?_
  refine zr_callSN (pc := 10) (As := fun ad => [.ref (ad 60), .int a1]) (st1 := [.int a1, .ref (X_ad X 60)]) hC (Nat.le_of_ble_eq_true rfl) (kX11_at _ ar_60 a1 _) (Nat.le_of_ble_eq_true rfl) mc_yX11_at m_555 m_453 rfl rfl (Nat.le_of_ble_eq_true rfl) dX0_add_10 (fun y_1 s_1 => ?_)
  refine zr_iload_n (pc := 13) (i := 2) 2 hC dX0_add_13 rfl rfl ?_
  refine zr_iadd (pc := 14) hC dX0_add_14 ?_
  refine zr_callSNv (pc := 15) (As := fun ad => [.ref (ad 60), .int a1, .int (y_1 + a2)]) (st1 := []) hC (Nat.le_of_ble_eq_true rfl) (kX11_put _ ar_60 a1 (y_1 + a2) _) (Nat.le_of_ble_eq_true rfl) mc_yX11_put m_557 m_141 rfl rfl (Nat.le_of_ble_eq_true rfl) dX0_add_15 (fun y_2 s_2 => ?_)
  refine zr_aload_n (pc := 18) (i := 0) 0 hC dX0_add_18 rfl rfl ?_
  refine zr_getR (pc := 19) (j := 4) (k1 := 61) hC mem_57 lay_57 rfl rfl (Nat.le_of_ble_eq_true rfl) iX0 m_318 dX0_add_19 ?_
  refine zr_iload_n (pc := 22) (i := 1) 1 hC dX0_add_22 rfl rfl ?_
  refine zr_aload_n (pc := 23) (i := 0) 0 hC dX0_add_23 rfl rfl ?_
  refine zr_getR (pc := 24) (j := 4) (k1 := 61) hC mem_57 lay_57 rfl rfl (Nat.le_of_ble_eq_true rfl) iX0 m_318 dX0_add_24 ?_
  refine zr_iload_n (pc := 27) (i := 1) 1 hC dX0_add_27 rfl rfl ?_
  refine zr_callSN (pc := 28) (As := fun ad => [.ref (ad 61), .int a1]) (st1 := [.int a1, .ref (X_ad X 61)]) hC (Nat.le_of_ble_eq_true rfl) (kX11_at _ ar_61 a1 _) (Nat.le_of_ble_eq_true rfl) mc_yX11_at m_555 m_453 rfl rfl (Nat.le_of_ble_eq_true rfl) dX0_add_28 (fun y_3 s_3 => ?_)
  refine zr_iload_n (pc := 31) (i := 3) 3 hC dX0_add_31 rfl rfl ?_
  refine zr_iadd (pc := 32) hC dX0_add_32 ?_
  refine zr_callSNv (pc := 33) (As := fun ad => [.ref (ad 61), .int a1, .int (y_3 + a3)]) (st1 := []) hC (Nat.le_of_ble_eq_true rfl) (kX11_put _ ar_61 a1 (y_3 + a3) _) (Nat.le_of_ble_eq_true rfl) mc_yX11_put m_557 m_141 rfl rfl (Nat.le_of_ble_eq_true rfl) dX0_add_33 (fun y_4 s_4 => ?_)
  exact zr_vret (pc := 36) hC hR dX0_add_36
def fX0_choose_L47 (rc : Int32 → St → Option (Int32 × St)) (g : Nat) (w : Nat) (c3 : Int32) : Nat → Int32 → St → Option (Int32 × St)
  | 0, _, _ => none
  | n + 1, v4, s =>
    if (s g 6) ≤ v4 then
    (some (0, s))
  else
    (bd (fX10_alive w c3 s) (fun y_3 s_3 =>
    if y_3 = 0 then
    (some (0, s_3))
  else
    (bd (fX11_put 58 c3 v4 s_3) (fun y_4 s_4 =>
    bd (fX10_part w c3 (0 : Int32) s_4) (fun y_5 s_5 =>
    bd (fX10_part w c3 (1 : Int32) s_5) (fun y_6 s_6 =>
    bd (fX0_add v4 y_5 y_6 s_6) (fun y_7 s_7 =>
    bd (rc (c3 + (1 : Int32)) s_7) (fun y_8 s_8 =>
    bd (fX10_part w c3 (0 : Int32) s_8) (fun y_9 s_9 =>
    bd (fX10_part w c3 (1 : Int32) s_9) (fun y_10 s_10 =>
    bd (fX0_add v4 (-y_9) (-y_10) s_10) (fun y_11 s_11 =>
    fX0_choose_L47 rc g w c3 n (v4 + (1 : Int32)) s_11)))))))))))
set_option maxRecDepth 100000 in
set_option maxHeartbeats 4000000 in
theorem tX0_choose_L47 (rc : Int32 → St → Option (Int32 × St)) (g : Nat) (w : Nat) (c3 : Int32) (dd : Nat) (hdd : 9 ≤ dd) (X : KX) (hC : Ctx X RX0 cX0_choose FULL (dd + 1) 0) (hR : RC X none) (hN : X_nL X = 5) (hg : isLand g) (hw : isWd w) (hrc : ∀ (z0 : Int32) (s : St), CN (X_l X) yX0_choose cX0_choose 5 none dd FULL (fun ad => [.ref (ad 57), .ref (ad g), .ref (ad w), .int z0]) s (rc z0 s)) : ∀ (n : Nat) (v4 : Int32) (s : St), Zr X (QFN X none) 0 s 47 [(0, .ref (X_ad X 57)), (1, .ref (X_ad X g)), (2, .ref (X_ad X w)), (3, .int c3), (4, .int v4)] [] (fX0_choose_L47 rc g w c3 n v4 s) := by
  intro n
  induction n with
  | zero =>
    intro v4 s
    exact zr_none
  | succ n ih =>
    intro v4 s
    rw [fX0_choose_L47]
    refine zr_iload (pc := 47) 4 hC dX0_choose_47 rfl ?_
    refine zr_aload_n (pc := 49) (i := 1) 1 hC dX0_choose_49 rfl rfl ?_
    refine zr_getI (pc := 50) (j := 6) hC hg.1.1 hg.1.2 rfl rfl (Nat.le_of_ble_eq_true rfl) iX4 m_83 dX0_choose_50 ?_
    refine zr_icmp_ge (pc := 53) (tgt := 127) hC dX0_choose_53 (by decide) (fun c_ => ?_) (fun c_ => ?_)
    · exact zr_vret (pc := 127) hC hR dX0_choose_127
    · refine zr_aload_n (pc := 56) (i := 2) 2 hC dX0_choose_56 rfl rfl ?_
      refine zr_iload_n (pc := 57) (i := 3) 3 hC dX0_choose_57 rfl rfl ?_
      refine zr_callV (pc := 58) (As := fun ad => [.int c3]) (st1 := []) hC (Nat.le_of_ble_eq_true rfl) (kX10_alive _ hw c3 _) (by omega) mc_yX10_alive m_554 m_524 m_525 hw.1.1 hw.1.2 rfl rfl rfl rfl (Nat.le_of_ble_eq_true rfl) dX0_choose_58 (fun y_3 s_3 => ?_)
      refine zr_if_eq (pc := 61) (tgt := 127) hC dX0_choose_61 (by decide) (fun c_ => ?_) (fun c_ => ?_)
      · exact zr_vret (pc := 127) hC hR dX0_choose_127
      · refine zr_aload_n (pc := 64) (i := 0) 0 hC dX0_choose_64 rfl rfl ?_
        refine zr_getR (pc := 65) (j := 0) (k1 := 58) hC mem_57 lay_57 rfl rfl (Nat.le_of_ble_eq_true rfl) iX0 m_312 dX0_choose_65 ?_
        refine zr_iload_n (pc := 68) (i := 3) 3 hC dX0_choose_68 rfl rfl ?_
        refine zr_iload (pc := 69) 4 hC dX0_choose_69 rfl ?_
        refine zr_callSNv (pc := 71) (As := fun ad => [.ref (ad 58), .int c3, .int v4]) (st1 := []) hC (Nat.le_of_ble_eq_true rfl) (kX11_put _ ar_58 c3 v4 _) (by omega) mc_yX11_put m_557 m_141 rfl rfl (Nat.le_of_ble_eq_true rfl) dX0_choose_71 (fun y_4 s_4 => ?_)
        refine zr_aload_n (pc := 74) (i := 0) 0 hC dX0_choose_74 rfl rfl ?_
        refine zr_iload (pc := 75) 4 hC dX0_choose_75 rfl ?_
        refine zr_aload_n (pc := 77) (i := 2) 2 hC dX0_choose_77 rfl rfl ?_
        refine zr_iload_n (pc := 78) (i := 3) 3 hC dX0_choose_78 rfl rfl ?_
        refine zr_iconst (pc := 79) (v := (0 : Int32)) hC dX0_choose_79 ic_0 ?_
        refine zr_callV (pc := 80) (As := fun ad => [.int c3, .int (0 : Int32)]) (st1 := [.int v4, .ref (X_ad X 57)]) hC (Nat.le_of_ble_eq_true rfl) (kX10_part _ hw c3 (0 : Int32) _) (by omega) mc_yX10_part m_570 m_492 m_493 hw.1.1 hw.1.2 rfl rfl rfl rfl (Nat.le_of_ble_eq_true rfl) dX0_choose_80 (fun y_5 s_5 => ?_)
        refine zr_aload_n (pc := 83) (i := 2) 2 hC dX0_choose_83 rfl rfl ?_
        refine zr_iload_n (pc := 84) (i := 3) 3 hC dX0_choose_84 rfl rfl ?_
        refine zr_iconst (pc := 85) (v := (1 : Int32)) hC dX0_choose_85 ic_1 ?_
        refine zr_callV (pc := 86) (As := fun ad => [.int c3, .int (1 : Int32)]) (st1 := [.int y_5, .int v4, .ref (X_ad X 57)]) hC (Nat.le_of_ble_eq_true rfl) (kX10_part _ hw c3 (1 : Int32) _) (by omega) mc_yX10_part m_570 m_492 m_493 hw.1.1 hw.1.2 rfl rfl rfl rfl (Nat.le_of_ble_eq_true rfl) dX0_choose_86 (fun y_6 s_6 => ?_)
        refine zr_callVv (pc := 89) (As := fun ad => [.int v4, .int y_5, .int y_6]) (st1 := []) hC (Nat.le_of_ble_eq_true rfl) (kX0_add _ v4 y_5 y_6 _) (by omega) mc_yX0_add m_571 m_573 m_p5 mem_57 lay_57 rfl rfl rfl rfl (Nat.le_of_ble_eq_true rfl) dX0_choose_89 (fun y_7 s_7 => ?_)
        refine zr_aload_n (pc := 92) (i := 0) 0 hC dX0_choose_92 rfl rfl ?_
        refine zr_aload_n (pc := 93) (i := 1) 1 hC dX0_choose_93 rfl rfl ?_
        refine zr_aload_n (pc := 94) (i := 2) 2 hC dX0_choose_94 rfl rfl ?_
        refine zr_iload_n (pc := 95) (i := 3) 3 hC dX0_choose_95 rfl rfl ?_
        refine zr_iconst (pc := 96) (v := (1 : Int32)) hC dX0_choose_96 ic_1 ?_
        refine zr_iadd (pc := 97) hC dX0_choose_97 ?_
        refine zr_callVv (pc := 98) (As := fun ad => [.ref (ad g), .ref (ad w), .int (c3 + (1 : Int32))]) (st1 := []) hC (Nat.le_of_ble_eq_true rfl) (hrc (c3 + (1 : Int32)) _) (by omega) mc_yX0_choose m_558 m_560 m_p3 mem_57 lay_57 rfl rfl rfl rfl (Nat.le_of_ble_eq_true rfl) dX0_choose_98 (fun y_8 s_8 => ?_)
        refine zr_aload_n (pc := 101) (i := 0) 0 hC dX0_choose_101 rfl rfl ?_
        refine zr_iload (pc := 102) 4 hC dX0_choose_102 rfl ?_
        refine zr_aload_n (pc := 104) (i := 2) 2 hC dX0_choose_104 rfl rfl ?_
        refine zr_iload_n (pc := 105) (i := 3) 3 hC dX0_choose_105 rfl rfl ?_
        refine zr_iconst (pc := 106) (v := (0 : Int32)) hC dX0_choose_106 ic_0 ?_
        refine zr_callV (pc := 107) (As := fun ad => [.int c3, .int (0 : Int32)]) (st1 := [.int v4, .ref (X_ad X 57)]) hC (Nat.le_of_ble_eq_true rfl) (kX10_part _ hw c3 (0 : Int32) _) (by omega) mc_yX10_part m_570 m_492 m_493 hw.1.1 hw.1.2 rfl rfl rfl rfl (Nat.le_of_ble_eq_true rfl) dX0_choose_107 (fun y_9 s_9 => ?_)
        refine zr_ineg (pc := 110) hC dX0_choose_110 ?_
        refine zr_aload_n (pc := 111) (i := 2) 2 hC dX0_choose_111 rfl rfl ?_
        refine zr_iload_n (pc := 112) (i := 3) 3 hC dX0_choose_112 rfl rfl ?_
        refine zr_iconst (pc := 113) (v := (1 : Int32)) hC dX0_choose_113 ic_1 ?_
        refine zr_callV (pc := 114) (As := fun ad => [.int c3, .int (1 : Int32)]) (st1 := [.int (-y_9), .int v4, .ref (X_ad X 57)]) hC (Nat.le_of_ble_eq_true rfl) (kX10_part _ hw c3 (1 : Int32) _) (by omega) mc_yX10_part m_570 m_492 m_493 hw.1.1 hw.1.2 rfl rfl rfl rfl (Nat.le_of_ble_eq_true rfl) dX0_choose_114 (fun y_10 s_10 => ?_)
        refine zr_ineg (pc := 117) hC dX0_choose_117 ?_
        refine zr_callVv (pc := 118) (As := fun ad => [.int v4, .int (-y_9), .int (-y_10)]) (st1 := []) hC (Nat.le_of_ble_eq_true rfl) (kX0_add _ v4 (-y_9) (-y_10) _) (by omega) mc_yX0_add m_571 m_573 m_p5 mem_57 lay_57 rfl rfl rfl rfl (Nat.le_of_ble_eq_true rfl) dX0_choose_118 (fun y_11 s_11 => ?_)
        refine zr_iinc (pc := 121) (q := 4) (ls' := [(4, _), (0, _), (1, _), (2, _), (3, _)]) hC dX0_choose_121 rfl (inc_1 _) (nlt hN (Nat.le_of_ble_eq_true rfl)) rfl ?_
        refine zr_goto (pc := 124) (tgt := 47) hC dX0_choose_124 (by decide) ?_
        refine zr_sub (ls' := [(0, _), (1, _), (2, _), (3, _), (4, _)]) [1, 2, 3, 4, 0] rfl ?_
        exact ih (v4 + (1 : Int32)) s_11
def gX0_choose (rc : Int32 → St → Option (Int32 × St)) (g : Nat) (w : Nat) (a3 : Int32) (s : St) : Option (Int32 × St) :=
  if (s 57 5) < (s g 6) then
    (if a3 < (s g 0) then
    (bd (fX11_put 58 a3 (-1 : Int32) s) (fun y_1 s_1 =>
    bd (rc (a3 + (1 : Int32)) s_1) (fun y_2 s_2 =>
    fX0_choose_L47 rc g w a3 FU (0 : Int32) s_2)))
  else
    (bd (fX0_weigh g s) (fun y_12 s_12 =>
    some (0, s_12))))
  else
    (some (0, s))
set_option maxRecDepth 100000 in
set_option maxHeartbeats 4000000 in
theorem gkX0_choose (l : Launch) (rc : Int32 → St → Option (Int32 × St)) (dd : Nat) (hdd : 9 ≤ dd)  {g : Nat} {w : Nat} (hrc : ∀ (z0 : Int32) (s : St), CN l yX0_choose cX0_choose 5 none dd FULL (fun ad => [.ref (ad 57), .ref (ad g), .ref (ad w), .int z0]) s (rc z0 s)) (hg : isLand g) (hw : isWd w) (a3 : Int32) (s : St) : CN l yX0_choose cX0_choose 5 none (dd + 1) FULL (fun ad => [.ref (ad 57), .ref (ad g), .ref (ad w), .int a3]) s (gX0_choose rc g w a3 s) := by
  refine cn_of (by decide) (fun _ => (Nat.le_of_ble_eq_true rfl)) (fun X hC hR hl hN => ?_)
  subst hl
  show Zr X (QFN X none) 0 s 0 [(0, .ref (X_ad X 57)), (1, .ref (X_ad X g)), (2, .ref (X_ad X w)), (3, .int a3)] [] _
  rw [gX0_choose]
  refine zr_aload_n (pc := 0) (i := 0) 0 hC dX0_choose_0 rfl rfl ?_
  refine zr_getI (pc := 1) (j := 5) hC mem_57 lay_57 rfl rfl (Nat.le_of_ble_eq_true rfl) iX0 m_319 dX0_choose_1 ?_
  refine zr_aload_n (pc := 4) (i := 1) 1 hC dX0_choose_4 rfl rfl ?_
  refine zr_getI (pc := 5) (j := 6) hC hg.1.1 hg.1.2 rfl rfl (Nat.le_of_ble_eq_true rfl) iX4 m_83 dX0_choose_5 ?_
  refine zr_icmp_lt (pc := 8) (tgt := 12) hC dX0_choose_8 (by decide) (fun c_ => ?_) (fun c_ => ?_)
  · refine zr_iload_n (pc := 12) (i := 3) 3 hC dX0_choose_12 rfl rfl ?_
    refine zr_aload_n (pc := 13) (i := 1) 1 hC dX0_choose_13 rfl rfl ?_
    refine zr_getI (pc := 14) (j := 0) hC hg.1.1 hg.1.2 rfl rfl (Nat.le_of_ble_eq_true rfl) iX4 m_67 dX0_choose_14 ?_
    refine zr_icmp_lt (pc := 17) (tgt := 26) hC dX0_choose_17 (by decide) (fun c_ => ?_) (fun c_ => ?_)
    · refine zr_aload_n (pc := 26) (i := 0) 0 hC dX0_choose_26 rfl rfl ?_
      refine zr_getR (pc := 27) (j := 0) (k1 := 58) hC mem_57 lay_57 rfl rfl (Nat.le_of_ble_eq_true rfl) iX0 m_312 dX0_choose_27 ?_
      refine zr_iload_n (pc := 30) (i := 3) 3 hC dX0_choose_30 rfl rfl ?_
      refine zr_iconst (pc := 31) (v := (-1 : Int32)) hC dX0_choose_31 ic_m1 ?_
      refine zr_callSNv (pc := 32) (As := fun ad => [.ref (ad 58), .int a3, .int (-1 : Int32)]) (st1 := []) hC (Nat.le_of_ble_eq_true rfl) (kX11_put _ ar_58 a3 (-1 : Int32) _) (by omega) mc_yX11_put m_557 m_141 rfl rfl (Nat.le_of_ble_eq_true rfl) dX0_choose_32 (fun y_1 s_1 => ?_)
      refine zr_aload_n (pc := 35) (i := 0) 0 hC dX0_choose_35 rfl rfl ?_
      refine zr_aload_n (pc := 36) (i := 1) 1 hC dX0_choose_36 rfl rfl ?_
      refine zr_aload_n (pc := 37) (i := 2) 2 hC dX0_choose_37 rfl rfl ?_
      refine zr_iload_n (pc := 38) (i := 3) 3 hC dX0_choose_38 rfl rfl ?_
      refine zr_iconst (pc := 39) (v := (1 : Int32)) hC dX0_choose_39 ic_1 ?_
      refine zr_iadd (pc := 40) hC dX0_choose_40 ?_
      refine zr_callVv (pc := 41) (As := fun ad => [.ref (ad g), .ref (ad w), .int (a3 + (1 : Int32))]) (st1 := []) hC (Nat.le_of_ble_eq_true rfl) (hrc (a3 + (1 : Int32)) _) (by omega) mc_yX0_choose m_558 m_560 m_p3 mem_57 lay_57 rfl rfl rfl rfl (Nat.le_of_ble_eq_true rfl) dX0_choose_41 (fun y_2 s_2 => ?_)
      refine zr_iconst (pc := 44) (v := (0 : Int32)) hC dX0_choose_44 ic_0 ?_
      refine zr_istore (pc := 45) (ls' := [(4, _), (0, _), (1, _), (2, _), (3, _)]) hC dX0_choose_45 (nlt hN (Nat.le_of_ble_eq_true rfl)) rfl ?_
      refine zr_sub (ls' := [(0, _), (1, _), (2, _), (3, _), (4, _)]) [1, 2, 3, 4, 0] rfl ?_
      exact tX0_choose_L47 rc g w a3 dd hdd X hC hR hN hg hw hrc FU (0 : Int32) _
    · refine zr_aload_n (pc := 20) (i := 0) 0 hC dX0_choose_20 rfl rfl ?_
      refine zr_aload_n (pc := 21) (i := 1) 1 hC dX0_choose_21 rfl rfl ?_
      refine zr_callVv (pc := 22) (As := fun ad => [.ref (ad g)]) (st1 := []) hC (Nat.le_of_ble_eq_true rfl) (kX0_weigh _ hg _) (by omega) mc_yX0_weigh m_562 m_564 m_p4 mem_57 lay_57 rfl rfl rfl rfl (Nat.le_of_ble_eq_true rfl) dX0_choose_22 (fun y_12 s_12 => ?_)
      exact zr_vret (pc := 25) hC hR dX0_choose_25
  · exact zr_vret (pc := 11) hC hR dX0_choose_11
def fX0_choose (g : Nat) (w : Nat) : Nat → Int32 → St → Option (Int32 × St)
  | 0, _, _ => none
  | n + 1, a3, s => gX0_choose (fX0_choose g w n) g w a3 s
theorem kX0_choose (l : Launch) {g : Nat} {w : Nat} (hg : isLand g) (hw : isWd w) : ∀ (n : Nat) (a3 : Int32) (s : St), CN l yX0_choose cX0_choose 5 none (9 + 1 * n) FULL (fun ad => [.ref (ad 57), .ref (ad g), .ref (ad w), .int a3]) s (fX0_choose g w n a3 s)
  | 0, _, _ => fun _ _ h => by cases h
  | n + 1, a3, s => gkX0_choose l (fX0_choose g w n) (9 + 1 * n) (Nat.le_add_right _ _) (fun z0 s => kX0_choose l hg hw n z0 s) hg hw a3 s
def fX0_search_L7 (k45 : St → Option (Int32 × St)) (g : Nat) (w : Nat) : Nat → Int32 → St → Option (Int32 × St)
  | 0, _, _ => none
  | n + 1, v3, s =>
    if (s g 0) ≤ v3 then
    (k45 s)
  else
    (bd (fX10_alive w v3 s) (fun y_2 s_2 =>
    if y_2 = 0 then
    (let s_3 := wr s_2 57 2 ((s 57 2) ||| (0 : Int32));
    fX0_search_L7 k45 g w n (v3 + (1 : Int32)) s_3)
  else
    (let s_4 := wr s_2 57 2 ((s 57 2) ||| (jshl (1 : Int32) v3));
    fX0_search_L7 k45 g w n (v3 + (1 : Int32)) s_4)))
set_option maxRecDepth 100000 in
set_option maxHeartbeats 4000000 in
theorem tX0_search_L7 (g : Nat) (w : Nat) (k45 : St → Option (Int32 × St)) (X : KX) (hC : Ctx X RX0 cX0_search FULL 25 0) (hR : RC X (some .int)) (hN : X_nL X = 4) (hg : isLand g) (hw : isWd w) (hk45 : ∀ (s : St), Zr X (QFN X (some .int)) 0 s 45 [(0, .ref (X_ad X 57)), (1, .ref (X_ad X g)), (2, .ref (X_ad X w))] [] (k45 s)) : ∀ (n : Nat) (v3 : Int32) (s : St), Zr X (QFN X (some .int)) 0 s 7 [(0, .ref (X_ad X 57)), (1, .ref (X_ad X g)), (2, .ref (X_ad X w)), (3, .int v3)] [] (fX0_search_L7 k45 g w n v3 s) := by
  intro n
  induction n with
  | zero =>
    intro v3 s
    exact zr_none
  | succ n ih =>
    intro v3 s
    rw [fX0_search_L7]
    refine zr_iload_n (pc := 7) (i := 3) 3 hC dX0_search_7 rfl rfl ?_
    refine zr_aload_n (pc := 8) (i := 1) 1 hC dX0_search_8 rfl rfl ?_
    refine zr_getI (pc := 9) (j := 0) hC hg.1.1 hg.1.2 rfl rfl (Nat.le_of_ble_eq_true rfl) iX4 m_67 dX0_search_9 ?_
    refine zr_icmp_ge (pc := 12) (tgt := 45) hC dX0_search_12 (by decide) (fun c_ => ?_) (fun c_ => ?_)
    · refine zr_sub (ls' := [(0, _), (1, _), (2, _)]) [0, 1, 2] rfl ?_
      exact hk45 s
    · refine zr_aload_n (pc := 15) (i := 0) 0 hC dX0_search_15 rfl rfl ?_
      refine zr_dup (pc := 16) hC dX0_search_16 rfl ?_
      refine zr_getI (pc := 17) (j := 2) hC mem_57 lay_57 rfl rfl (Nat.le_of_ble_eq_true rfl) iX0 m_315 dX0_search_17 ?_
      refine zr_aload_n (pc := 20) (i := 2) 2 hC dX0_search_20 rfl rfl ?_
      refine zr_iload_n (pc := 21) (i := 3) 3 hC dX0_search_21 rfl rfl ?_
      refine zr_callV (pc := 22) (As := fun ad => [.int v3]) (st1 := [.int (s 57 2), .ref (X_ad X 57)]) hC (Nat.le_of_ble_eq_true rfl) (kX10_alive _ hw v3 _) (Nat.le_of_ble_eq_true rfl) mc_yX10_alive m_554 m_524 m_525 hw.1.1 hw.1.2 rfl rfl rfl rfl (Nat.le_of_ble_eq_true rfl) dX0_search_22 (fun y_2 s_2 => ?_)
      refine zr_if_eq (pc := 25) (tgt := 34) hC dX0_search_25 (by decide) (fun c_ => ?_) (fun c_ => ?_)
      · refine zr_iconst (pc := 34) (v := (0 : Int32)) hC dX0_search_34 ic_0 ?_
        refine zr_ior (pc := 35) hC dX0_search_35 ?_
        refine zr_putInt (pc := 36) (j := 2) hC mem_57 lay_57 rfl rfl (Nat.le_of_ble_eq_true rfl) iX0 tyX0_ok nmX0 m_315 rfl (by decide +kernel) dX0_search_36 ?_
        refine zr_iinc (pc := 39) (q := 3) (ls' := [(3, _), (0, _), (1, _), (2, _)]) hC dX0_search_39 rfl (inc_1 _) (nlt hN (Nat.le_of_ble_eq_true rfl)) rfl ?_
        refine zr_goto (pc := 42) (tgt := 7) hC dX0_search_42 (by decide) ?_
        refine zr_sub (ls' := [(0, _), (1, _), (2, _), (3, _)]) [1, 2, 3, 0] rfl ?_
        exact ih (v3 + (1 : Int32)) (wr s_2 57 2 ((s 57 2) ||| (0 : Int32)))
      · refine zr_iconst (pc := 28) (v := (1 : Int32)) hC dX0_search_28 ic_1 ?_
        refine zr_iload_n (pc := 29) (i := 3) 3 hC dX0_search_29 rfl rfl ?_
        refine zr_ishl (pc := 30) hC dX0_search_30 ?_
        refine zr_goto (pc := 31) (tgt := 35) hC dX0_search_31 (by decide) ?_
        refine zr_ior (pc := 35) hC dX0_search_35 ?_
        refine zr_putInt (pc := 36) (j := 2) hC mem_57 lay_57 rfl rfl (Nat.le_of_ble_eq_true rfl) iX0 tyX0_ok nmX0 m_315 rfl (by decide +kernel) dX0_search_36 ?_
        refine zr_iinc (pc := 39) (q := 3) (ls' := [(3, _), (0, _), (1, _), (2, _)]) hC dX0_search_39 rfl (inc_1 _) (nlt hN (Nat.le_of_ble_eq_true rfl)) rfl ?_
        refine zr_goto (pc := 42) (tgt := 7) hC dX0_search_42 (by decide) ?_
        refine zr_sub (ls' := [(0, _), (1, _), (2, _), (3, _)]) [1, 2, 3, 0] rfl ?_
        exact ih (v3 + (1 : Int32)) (wr s_2 57 2 ((s 57 2) ||| (jshl (1 : Int32) v3)))
def fX0_search_L47 (k93 : St → Option (Int32 × St)) (g : Nat) (w : Nat) : Nat → Int32 → St → Option (Int32 × St)
  | 0, _, _ => none
  | n + 1, v3, s =>
    if (s g 6) ≤ v3 then
    (k93 s)
  else
    (bd (fX11_at (g + 5) v3 s) (fun y_6 s_6 =>
    bd (fX10_noons w y_6 s_6) (fun y_7 s_7 =>
    bd (fX11_put 60 v3 ((10 : Int32) * y_7) s_7) (fun y_8 s_8 =>
    bd (fX11_put 61 v3 (0 : Int32) s_8) (fun y_9 s_9 =>
    fX0_search_L47 k93 g w n (v3 + (1 : Int32)) s_9)))))
set_option maxRecDepth 100000 in
set_option maxHeartbeats 4000000 in
theorem tX0_search_L47 (g : Nat) (w : Nat) (k93 : St → Option (Int32 × St)) (X : KX) (hC : Ctx X RX0 cX0_search FULL 25 0) (hR : RC X (some .int)) (hN : X_nL X = 4) (hg : isLand g) (hw : isWd w) (hk93 : ∀ (s : St), Zr X (QFN X (some .int)) 0 s 93 [(0, .ref (X_ad X 57)), (1, .ref (X_ad X g)), (2, .ref (X_ad X w))] [] (k93 s)) : ∀ (n : Nat) (v3 : Int32) (s : St), Zr X (QFN X (some .int)) 0 s 47 [(0, .ref (X_ad X 57)), (1, .ref (X_ad X g)), (2, .ref (X_ad X w)), (3, .int v3)] [] (fX0_search_L47 k93 g w n v3 s) := by
  intro n
  induction n with
  | zero =>
    intro v3 s
    exact zr_none
  | succ n ih =>
    intro v3 s
    rw [fX0_search_L47]
    refine zr_iload_n (pc := 47) (i := 3) 3 hC dX0_search_47 rfl rfl ?_
    refine zr_aload_n (pc := 48) (i := 1) 1 hC dX0_search_48 rfl rfl ?_
    refine zr_getI (pc := 49) (j := 6) hC hg.1.1 hg.1.2 rfl rfl (Nat.le_of_ble_eq_true rfl) iX4 m_83 dX0_search_49 ?_
    refine zr_icmp_ge (pc := 52) (tgt := 93) hC dX0_search_52 (by decide) (fun c_ => ?_) (fun c_ => ?_)
    · refine zr_sub (ls' := [(0, _), (1, _), (2, _)]) [0, 1, 2] rfl ?_
      exact hk93 s
    · refine zr_aload_n (pc := 55) (i := 0) 0 hC dX0_search_55 rfl rfl ?_
      refine zr_getR (pc := 56) (j := 3) (k1 := 60) hC mem_57 lay_57 rfl rfl (Nat.le_of_ble_eq_true rfl) iX0 m_317 dX0_search_56 ?_
      refine zr_iload_n (pc := 59) (i := 3) 3 hC dX0_search_59 rfl rfl ?_
      refine zr_bipush (pc := 60) (v := (10 : Int32)) hC dX0_search_60 bi_10 ?_
      refine zr_aload_n (pc := 62) (i := 2) 2 hC dX0_search_62 rfl rfl ?_
      refine zr_aload_n (pc := 63) (i := 1) 1 hC dX0_search_63 rfl rfl ?_
      refine zr_getR (pc := 64) (j := 7) (k1 := (g + 5)) hC hg.1.1 hg.1.2 rfl rfl (Nat.le_of_ble_eq_true rfl) iX4 m_88 dX0_search_64 ?_
      refine zr_iload_n (pc := 67) (i := 3) 3 hC dX0_search_67 rfl rfl ?_
      refine zr_callSN (pc := 68) (As := fun ad => [.ref (ad (g + 5)), .int v3]) (st1 := [.ref (X_ad X w), .int (10 : Int32), .int v3, .ref (X_ad X 60)]) hC (Nat.le_of_ble_eq_true rfl) (kX11_at _ (isArr_of hg.2.2.2.2.2.1) v3 _) (Nat.le_of_ble_eq_true rfl) mc_yX11_at m_555 m_453 rfl rfl (Nat.le_of_ble_eq_true rfl) dX0_search_68 (fun y_6 s_6 => ?_)
      refine zr_callV (pc := 71) (As := fun ad => [.int y_6]) (st1 := [.int (10 : Int32), .int v3, .ref (X_ad X 60)]) hC (Nat.le_of_ble_eq_true rfl) (kX10_noons _ hw y_6 _) (Nat.le_of_ble_eq_true rfl) mc_yX10_noons m_556 m_484 m_485 hw.1.1 hw.1.2 rfl rfl rfl rfl (Nat.le_of_ble_eq_true rfl) dX0_search_71 (fun y_7 s_7 => ?_)
      refine zr_imul (pc := 74) hC dX0_search_74 ?_
      refine zr_callSNv (pc := 75) (As := fun ad => [.ref (ad 60), .int v3, .int ((10 : Int32) * y_7)]) (st1 := []) hC (Nat.le_of_ble_eq_true rfl) (kX11_put _ ar_60 v3 ((10 : Int32) * y_7) _) (Nat.le_of_ble_eq_true rfl) mc_yX11_put m_557 m_141 rfl rfl (Nat.le_of_ble_eq_true rfl) dX0_search_75 (fun y_8 s_8 => ?_)
      refine zr_aload_n (pc := 78) (i := 0) 0 hC dX0_search_78 rfl rfl ?_
      refine zr_getR (pc := 79) (j := 4) (k1 := 61) hC mem_57 lay_57 rfl rfl (Nat.le_of_ble_eq_true rfl) iX0 m_318 dX0_search_79 ?_
      refine zr_iload_n (pc := 82) (i := 3) 3 hC dX0_search_82 rfl rfl ?_
      refine zr_iconst (pc := 83) (v := (0 : Int32)) hC dX0_search_83 ic_0 ?_
      refine zr_callSNv (pc := 84) (As := fun ad => [.ref (ad 61), .int v3, .int (0 : Int32)]) (st1 := []) hC (Nat.le_of_ble_eq_true rfl) (kX11_put _ ar_61 v3 (0 : Int32) _) (Nat.le_of_ble_eq_true rfl) mc_yX11_put m_557 m_141 rfl rfl (Nat.le_of_ble_eq_true rfl) dX0_search_84 (fun y_9 s_9 => ?_)
      refine zr_iinc (pc := 87) (q := 3) (ls' := [(3, _), (0, _), (1, _), (2, _)]) hC dX0_search_87 rfl (inc_1 _) (nlt hN (Nat.le_of_ble_eq_true rfl)) rfl ?_
      refine zr_goto (pc := 90) (tgt := 47) hC dX0_search_90 (by decide) ?_
      refine zr_sub (ls' := [(0, _), (1, _), (2, _), (3, _)]) [1, 2, 3, 0] rfl ?_
      exact ih (v3 + (1 : Int32)) s_9
def fX0_search (g : Nat) (w : Nat) (s : St) : Option (Int32 × St) :=
  let s_1 := wr s 57 2 (0 : Int32);
    fX0_search_L7 (fun s_5 => fX0_search_L47 (fun s_10 => let s_11 := wr s_10 57 5 (-1 : Int32);
    bd (fX0_choose g w 14 (0 : Int32) s_11) (fun y_12 s_12 =>
    some ((s_12 57 5), s_12))) g w FU (0 : Int32) s_5) g w FU (0 : Int32) s_1
set_option maxRecDepth 100000 in
set_option maxHeartbeats 4000000 in
theorem kX0_search (l : Launch)  {g : Nat} {w : Nat} (hg : isLand g) (hw : isWd w) (s : St) : CN l yX0_search cX0_search 4 (some .int) 25 FULL (fun ad => [.ref (ad 57), .ref (ad g), .ref (ad w)]) s (fX0_search g w s) := by
  refine cn_of (by decide) (fun _ => (Nat.le_of_ble_eq_true rfl)) (fun X hC hR hl hN => ?_)
  subst hl
  show Zr X (QFN X (some .int)) 0 s 0 [(0, .ref (X_ad X 57)), (1, .ref (X_ad X g)), (2, .ref (X_ad X w))] [] _
  rw [fX0_search]
  refine zr_aload_n (pc := 0) (i := 0) 0 hC dX0_search_0 rfl rfl ?_
  refine zr_iconst (pc := 1) (v := (0 : Int32)) hC dX0_search_1 ic_0 ?_
  refine zr_putInt (pc := 2) (j := 2) hC mem_57 lay_57 rfl rfl (Nat.le_of_ble_eq_true rfl) iX0 tyX0_ok nmX0 m_315 rfl (by decide +kernel) dX0_search_2 ?_
  refine zr_iconst (pc := 5) (v := (0 : Int32)) hC dX0_search_5 ic_0 ?_
  refine zr_istore_n (pc := 6) (i := 3) (ls' := [(3, _), (0, _), (1, _), (2, _)]) hC dX0_search_6 rfl (nlt hN (Nat.le_of_ble_eq_true rfl)) rfl ?_
  refine zr_sub (ls' := [(0, _), (1, _), (2, _), (3, _)]) [1, 2, 3, 0] rfl ?_
  refine tX0_search_L7 g w _ X hC hR hN hg hw (fun s_5 => ?_) FU (0 : Int32) _
  · refine zr_iconst (pc := 45) (v := (0 : Int32)) hC dX0_search_45 ic_0 ?_
    refine zr_istore_n (pc := 46) (i := 3) (ls' := [(3, _), (0, _), (1, _), (2, _)]) hC dX0_search_46 rfl (nlt hN (Nat.le_of_ble_eq_true rfl)) rfl ?_
    refine zr_sub (ls' := [(0, _), (1, _), (2, _), (3, _)]) [1, 2, 3, 0] rfl ?_
    refine tX0_search_L47 g w _ X hC hR hN hg hw (fun s_10 => ?_) FU (0 : Int32) _
    · refine zr_aload_n (pc := 93) (i := 0) 0 hC dX0_search_93 rfl rfl ?_
      refine zr_iconst (pc := 94) (v := (-1 : Int32)) hC dX0_search_94 ic_m1 ?_
      refine zr_putInt (pc := 95) (j := 5) hC mem_57 lay_57 rfl rfl (Nat.le_of_ble_eq_true rfl) iX0 tyX0_ok nmX0 m_319 rfl (by decide +kernel) dX0_search_95 ?_
      refine zr_aload_n (pc := 98) (i := 0) 0 hC dX0_search_98 rfl rfl ?_
      refine zr_aload_n (pc := 99) (i := 1) 1 hC dX0_search_99 rfl rfl ?_
      refine zr_aload_n (pc := 100) (i := 2) 2 hC dX0_search_100 rfl rfl ?_
      refine zr_iconst (pc := 101) (v := (0 : Int32)) hC dX0_search_101 ic_0 ?_
      refine zr_callVv (pc := 102) (As := fun ad => [.ref (ad g), .ref (ad w), .int (0 : Int32)]) (st1 := []) hC (Nat.le_of_ble_eq_true rfl) (kX0_choose _ hg hw 14 (0 : Int32) _) (Nat.le_of_ble_eq_true rfl) mc_yX0_choose m_558 m_560 m_p3 mem_57 lay_57 rfl rfl rfl rfl (Nat.le_of_ble_eq_true rfl) dX0_search_102 (fun y_12 s_12 => ?_)
      refine zr_aload_n (pc := 105) (i := 0) 0 hC dX0_search_105 rfl rfl ?_
      refine zr_getI (pc := 106) (j := 5) hC mem_57 lay_57 rfl rfl (Nat.le_of_ble_eq_true rfl) iX0 m_319 dX0_search_106 ?_
      exact zr_iret (pc := 109) hC hR dX0_search_109
def fX11_arrange (s : St) : Option (Int32 × St) :=
  bd (fX10_manyAlive 33 s) (fun y_1 s_1 =>
    if (6 : Int32) < y_1 then
    (some ((-2 : Int32), s_1))
  else
    (if (s_1 21 6) ≤ (4 : Int32) then
    (bd (fX0_search 21 33 s_1) (fun y_2 s_2 =>
    some (y_2, s_2)))
  else
    (some ((-2 : Int32), s_1))))
set_option maxRecDepth 100000 in
set_option maxHeartbeats 4000000 in
theorem kX11_arrange (l : Launch)  (s : St) : CN l yX11_arrange cX11_arrange 1 (some .int) 26 FULL (fun ad => [.ref (ad 0)]) s (fX11_arrange s) := by
  refine cn_of (by decide) (fun _ => (Nat.le_of_ble_eq_true rfl)) (fun X hC hR hl hN => ?_)
  subst hl
  show Zr X (QFN X (some .int)) 0 s 0 [(0, .ref (X_ad X 0))] [] _
  rw [fX11_arrange]
  refine zr_aload_n (pc := 0) (i := 0) 0 hC dX11_arrange_0 rfl rfl ?_
  refine zr_getR (pc := 1) (j := 5) (k1 := 32) hC mem_0 lay_0 rfl rfl (Nat.le_of_ble_eq_true rfl) iX11 m_387 dX11_arrange_1 ?_
  refine zr_getR (pc := 4) (j := 0) (k1 := 33) hC mem_32 lay_32 rfl rfl (Nat.le_of_ble_eq_true rfl) iX8 m_215 dX11_arrange_4 ?_
  refine zr_callV (pc := 7) (As := fun ad => []) (st1 := []) hC (Nat.le_of_ble_eq_true rfl) (kX10_manyAlive _ is_33 _) (Nat.le_of_ble_eq_true rfl) mc_yX10_manyAlive m_545 m_546 m_547 mem_33 lay_33 rfl rfl rfl rfl (Nat.le_of_ble_eq_true rfl) dX11_arrange_7 (fun y_1 s_1 => ?_)
  refine zr_bipush (pc := 10) (v := (6 : Int32)) hC dX11_arrange_10 bi_6 ?_
  refine zr_icmp_gt (pc := 12) (tgt := 26) hC dX11_arrange_12 (by decide) (fun c_ => ?_) (fun c_ => ?_)
  · refine zr_bipush (pc := 26) (v := (-2 : Int32)) hC dX11_arrange_26 bi_m2 ?_
    exact zr_iret (pc := 28) hC hR dX11_arrange_28
  · refine zr_aload_n (pc := 15) (i := 0) 0 hC dX11_arrange_15 rfl rfl ?_
    refine zr_getR (pc := 16) (j := 4) (k1 := 21) hC mem_0 lay_0 rfl rfl (Nat.le_of_ble_eq_true rfl) iX11 m_386 dX11_arrange_16 ?_
    refine zr_getI (pc := 19) (j := 6) hC mem_21 lay_21 rfl rfl (Nat.le_of_ble_eq_true rfl) iX4 m_84 dX11_arrange_19 ?_
    refine zr_iconst (pc := 22) (v := (4 : Int32)) hC dX11_arrange_22 ic_4 ?_
    refine zr_icmp_le (pc := 23) (tgt := 29) hC dX11_arrange_23 (by decide) (fun c_ => ?_) (fun c_ => ?_)
    · refine zr_aload_n (pc := 29) (i := 0) 0 hC dX11_arrange_29 rfl rfl ?_
      refine zr_getR (pc := 30) (j := 11) (k1 := 57) hC mem_0 lay_0 rfl rfl (Nat.le_of_ble_eq_true rfl) iX11 m_393 dX11_arrange_30 ?_
      refine zr_aload_n (pc := 33) (i := 0) 0 hC dX11_arrange_33 rfl rfl ?_
      refine zr_getR (pc := 34) (j := 4) (k1 := 21) hC mem_0 lay_0 rfl rfl (Nat.le_of_ble_eq_true rfl) iX11 m_386 dX11_arrange_34 ?_
      refine zr_aload_n (pc := 37) (i := 0) 0 hC dX11_arrange_37 rfl rfl ?_
      refine zr_getR (pc := 38) (j := 5) (k1 := 32) hC mem_0 lay_0 rfl rfl (Nat.le_of_ble_eq_true rfl) iX11 m_387 dX11_arrange_38 ?_
      refine zr_getR (pc := 41) (j := 0) (k1 := 33) hC mem_32 lay_32 rfl rfl (Nat.le_of_ble_eq_true rfl) iX8 m_215 dX11_arrange_41 ?_
      refine zr_callV (pc := 44) (As := fun ad => [.ref (ad 21), .ref (ad 33)]) (st1 := []) hC (Nat.le_of_ble_eq_true rfl) (kX0_search _ is_21 is_33 _) (Nat.le_of_ble_eq_true rfl) mc_yX0_search m_550 m_551 m_552 mem_57 lay_57 rfl rfl rfl rfl (Nat.le_of_ble_eq_true rfl) dX11_arrange_44 (fun y_2 s_2 => ?_)
      exact zr_iret (pc := 47) hC hR dX11_arrange_47
    · refine zr_bipush (pc := 26) (v := (-2 : Int32)) hC dX11_arrange_26 bi_m2 ?_
      exact zr_iret (pc := 28) hC hR dX11_arrange_28
def fX10_apart_L5 (w : Nat) (c1 : Int32) (c2 : Int32) : Nat → Int32 → Int32 → St → Option (Int32 × St)
  | 0, _, _, _ => none
  | n + 1, v3, v4, s =>
    if (4 : Int32) ≤ v4 then
    (some (v3, s))
  else
    (bd (fX10_part w c1 v4 s) (fun y_1 s_1 =>
    bd (fX10_part w c2 v4 s_1) (fun y_2 s_2 =>
    fX10_apart_L5 w c1 c2 n (v3 + (jabs (y_1 - y_2))) (v4 + (1 : Int32)) s_2)))
set_option maxRecDepth 100000 in
set_option maxHeartbeats 4000000 in
theorem tX10_apart_L5 (w : Nat) (c1 : Int32) (c2 : Int32) (X : KX) (hC : Ctx X RX10 cX10_apart FULL 7 0) (hR : RC X (some .int)) (hN : X_nL X = 5) (hw : isWd w) : ∀ (n : Nat) (v3 : Int32) (v4 : Int32) (s : St), Zr X (QFN X (some .int)) 0 s 5 [(0, .ref (X_ad X w)), (1, .int c1), (2, .int c2), (3, .int v3), (4, .int v4)] [] (fX10_apart_L5 w c1 c2 n v3 v4 s) := by
  intro n
  induction n with
  | zero =>
    intro v3 v4 s
    exact zr_none
  | succ n ih =>
    intro v3 v4 s
    rw [fX10_apart_L5]
    refine zr_iload (pc := 5) 4 hC dX10_apart_5 rfl ?_
    refine zr_iconst (pc := 7) (v := (4 : Int32)) hC dX10_apart_7 ic_4 ?_
    refine zr_icmp_ge (pc := 8) (tgt := 38) hC dX10_apart_8 (by decide) (fun c_ => ?_) (fun c_ => ?_)
    · refine zr_iload_n (pc := 38) (i := 3) 3 hC dX10_apart_38 rfl rfl ?_
      exact zr_iret (pc := 39) hC hR dX10_apart_39
    · refine zr_iload_n (pc := 11) (i := 3) 3 hC dX10_apart_11 rfl rfl ?_
      refine zr_aload_n (pc := 12) (i := 0) 0 hC dX10_apart_12 rfl rfl ?_
      refine zr_iload_n (pc := 13) (i := 1) 1 hC dX10_apart_13 rfl rfl ?_
      refine zr_iload (pc := 14) 4 hC dX10_apart_14 rfl ?_
      refine zr_callV (pc := 16) (As := fun ad => [.int c1, .int v4]) (st1 := [.int v3]) hC (Nat.le_of_ble_eq_true rfl) (kX10_part _ hw c1 v4 _) (Nat.le_of_ble_eq_true rfl) mc_yX10_part m_491 m_492 m_493 hw.1.1 hw.1.2 rfl rfl rfl rfl (Nat.le_of_ble_eq_true rfl) dX10_apart_16 (fun y_1 s_1 => ?_)
      refine zr_aload_n (pc := 19) (i := 0) 0 hC dX10_apart_19 rfl rfl ?_
      refine zr_iload_n (pc := 20) (i := 2) 2 hC dX10_apart_20 rfl rfl ?_
      refine zr_iload (pc := 21) 4 hC dX10_apart_21 rfl ?_
      refine zr_callV (pc := 23) (As := fun ad => [.int c2, .int v4]) (st1 := [.int y_1, .int v3]) hC (Nat.le_of_ble_eq_true rfl) (kX10_part _ hw c2 v4 _) (Nat.le_of_ble_eq_true rfl) mc_yX10_part m_491 m_492 m_493 hw.1.1 hw.1.2 rfl rfl rfl rfl (Nat.le_of_ble_eq_true rfl) dX10_apart_23 (fun y_2 s_2 => ?_)
      refine zr_isub (pc := 26) hC dX10_apart_26 ?_
      refine zr_mabs (pc := 27) hC (Nat.le_of_ble_eq_true rfl) (Nat.le_of_ble_eq_true rfl) m_598 m_599 m_23 m_600 (Nat.le_of_ble_eq_true rfl) dX10_apart_27 ?_
      refine zr_iadd (pc := 30) hC dX10_apart_30 ?_
      refine zr_istore_n (pc := 31) (i := 3) (ls' := [(3, _), (0, _), (1, _), (2, _), (4, _)]) hC dX10_apart_31 rfl (nlt hN (Nat.le_of_ble_eq_true rfl)) rfl ?_
      refine zr_iinc (pc := 32) (q := 4) (ls' := [(4, _), (3, _), (0, _), (1, _), (2, _)]) hC dX10_apart_32 rfl (inc_1 _) (nlt hN (Nat.le_of_ble_eq_true rfl)) rfl ?_
      refine zr_goto (pc := 35) (tgt := 5) hC dX10_apart_35 (by decide) ?_
      refine zr_sub (ls' := [(0, _), (1, _), (2, _), (3, _), (4, _)]) [2, 3, 4, 1, 0] rfl ?_
      exact ih (v3 + (jabs (y_1 - y_2))) (v4 + (1 : Int32)) s_2
def fX10_apart (w : Nat) (a1 : Int32) (a2 : Int32) (s : St) : Option (Int32 × St) :=
  fX10_apart_L5 w a1 a2 FU (0 : Int32) (0 : Int32) s
set_option maxRecDepth 100000 in
set_option maxHeartbeats 4000000 in
theorem kX10_apart (l : Launch)  {w : Nat} (hw : isWd w) (a1 : Int32) (a2 : Int32) (s : St) : CN l yX10_apart cX10_apart 5 (some .int) 7 FULL (fun ad => [.ref (ad w), .int a1, .int a2]) s (fX10_apart w a1 a2 s) := by
  refine cn_of (by decide) (fun _ => (Nat.le_of_ble_eq_true rfl)) (fun X hC hR hl hN => ?_)
  subst hl
  show Zr X (QFN X (some .int)) 0 s 0 [(0, .ref (X_ad X w)), (1, .int a1), (2, .int a2)] [] _
  rw [fX10_apart]
  refine zr_iconst (pc := 0) (v := (0 : Int32)) hC dX10_apart_0 ic_0 ?_
  refine zr_istore_n (pc := 1) (i := 3) (ls' := [(3, _), (0, _), (1, _), (2, _)]) hC dX10_apart_1 rfl (nlt hN (Nat.le_of_ble_eq_true rfl)) rfl ?_
  refine zr_iconst (pc := 2) (v := (0 : Int32)) hC dX10_apart_2 ic_0 ?_
  refine zr_istore (pc := 3) (ls' := [(4, _), (3, _), (0, _), (1, _), (2, _)]) hC dX10_apart_3 (nlt hN (Nat.le_of_ble_eq_true rfl)) rfl ?_
  refine zr_sub (ls' := [(0, _), (1, _), (2, _), (3, _), (4, _)]) [2, 3, 4, 1, 0] rfl ?_
  exact tX10_apart_L5 w a1 a2 X hC hR hN hw FU (0 : Int32) (0 : Int32) _
def fX7_isFront (g : Nat) (w : Nat) (a2 : Int32) (a3 : Int32) (s : St) : Option (Int32 × St) :=
  bd (fX10_apart w a2 a3 s) (fun y_1 s_1 =>
    if y_1 < (s_1 g 10) then
    (some ((0 : Int32), s_1))
  else
    (some ((1 : Int32), s_1)))
set_option maxRecDepth 100000 in
set_option maxHeartbeats 4000000 in
theorem kX7_isFront (l : Launch)  {g : Nat} {w : Nat} (hg : isLand g) (hw : isWd w) (a2 : Int32) (a3 : Int32) (s : St) : CN l yX7_isFront cX7_isFront 4 (some .boolean) 8 FULL (fun ad => [.ref (ad g), .ref (ad w), .int a2, .int a3]) s (fX7_isFront g w a2 a3 s) := by
  refine cn_of (by decide) (fun _ => (Nat.le_of_ble_eq_true rfl)) (fun X hC hR hl hN => ?_)
  subst hl
  show Zr X (QFN X (some .boolean)) 0 s 0 [(0, .ref (X_ad X g)), (1, .ref (X_ad X w)), (2, .int a2), (3, .int a3)] [] _
  rw [fX7_isFront]
  refine zr_aload_n (pc := 0) (i := 1) 1 hC dX7_isFront_0 rfl rfl ?_
  refine zr_iload_n (pc := 1) (i := 2) 2 hC dX7_isFront_1 rfl rfl ?_
  refine zr_iload_n (pc := 2) (i := 3) 3 hC dX7_isFront_2 rfl rfl ?_
  refine zr_callV (pc := 3) (As := fun ad => [.int a2, .int a3]) (st1 := []) hC (Nat.le_of_ble_eq_true rfl) (kX10_apart _ hw a2 a3 _) (Nat.le_of_ble_eq_true rfl) mc_yX10_apart m_594 m_595 m_596 hw.1.1 hw.1.2 rfl rfl rfl rfl (Nat.le_of_ble_eq_true rfl) dX7_isFront_3 (fun y_1 s_1 => ?_)
  refine zr_aload_n (pc := 6) (i := 0) 0 hC dX7_isFront_6 rfl rfl ?_
  refine zr_getI (pc := 7) (j := 10) hC hg.1.1 hg.1.2 rfl rfl (Nat.le_of_ble_eq_true rfl) iX4 m_100 dX7_isFront_7 ?_
  refine zr_icmp_lt (pc := 10) (tgt := 17) hC dX7_isFront_10 (by decide) (fun c_ => ?_) (fun c_ => ?_)
  · refine zr_iconst (pc := 17) (v := (0 : Int32)) hC dX7_isFront_17 ic_0 ?_
    exact zr_zret (pc := 18) (by decide) hC hR dX7_isFront_18
  · refine zr_iconst (pc := 13) (v := (1 : Int32)) hC dX7_isFront_13 ic_1 ?_
    refine zr_goto (pc := 14) (tgt := 18) hC dX7_isFront_14 (by decide) ?_
    exact zr_zret (pc := 18) (by decide) hC hR dX7_isFront_18
