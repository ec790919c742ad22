theorem mc_yJ0_coder_7d493 : MC yJ0_coder_7d493 cJ0_coder_7d493 1 (Option.some FieldType.byte) 0 := ⟨m_739, m_18, Nat.le_of_ble_eq_true rfl, by decide, by decide, by decide +kernel⟩
theorem mc_yJ0_isLatin1_aae02 : MC yJ0_isLatin1_aae02 cJ0_isLatin1_aae02 1 (some .boolean) 0 := ⟨m_749, m_18, Nat.le_of_ble_eq_true rfl, by decide, by decide, by decide +kernel⟩
theorem mc_yJ0_length_8abf5 : MC yJ0_length_8abf5 cJ0_length_8abf5 1 (some .int) 0 := ⟨m_735, m_18, Nat.le_of_ble_eq_true rfl, by decide, by decide, by decide +kernel⟩
theorem mc_yJ0_charAt_5068e : MC yJ0_charAt_5068e cJ0_charAt_5068e 2 (Option.some FieldType.char) 1 := ⟨m_745, m_18, Nat.le_of_ble_eq_true rfl, by decide, by decide, by decide +kernel⟩
theorem mc_yJ1_charAt_3b067 : MC yJ1_charAt_3b067 cJ1_charAt_3b067 2 (Option.some FieldType.char) 2 := ⟨m_752, m_19, Nat.le_of_ble_eq_true rfl, by decide, by decide, by decide +kernel⟩
theorem mc_yJ0_checkIndex_df160 : MC yJ0_checkIndex_df160 cJ0_checkIndex_df160 2 none 2 := ⟨m_755, m_18, Nat.le_of_ble_eq_true rfl, by decide, by decide, by decide +kernel⟩
theorem mc_yJ3_checkIndex_8e157 : MC yJ3_checkIndex_8e157 cJ3_checkIndex_8e157 3 (some .int) 3 := ⟨m_760, m_20, Nat.le_of_ble_eq_true rfl, by decide, by decide, by decide +kernel⟩
/-! ===== the JDK's own methods of constant texts; new exceptions ===== -/
theorem zr_kret {X : KX} {σ : St} {pc : Nat} {ls : List (Nat × Value)} {own : String} {cc : ByteArray} {Dl : List Nat} {d : Nat} {v : Int32} {ty : FieldType} (hn : narrow ty (.int v) = .int v) (hC : Ctx X own cc Dl d 0) (hR : RC X (some ty)) (hd : decode cc pc = .ok (.ireturn, 1)) : Zr X (QFN X (some ty)) 0 σ pc ls [.int v] (some (v, σ)) := fun o σ' e H locs la hP hS h => by
  cases e
  have hS' := hS
  rw [hC.2.2.2.2.2.2.2.2.2.2.2] at hS'
  exact W.zret hC.1 hC.2.1 hR.1 hn (fun t ht hW => ⟨⟨v, (), rfl, rfl, (by show va_P _ _ _ t.heap; rw [ht]; exact hP)⟩, hS'.F ht⟩) hS.2.2 hd hR.2
theorem kJ_coder (l : Launch) {Dl : List Nat} {t : Nat} (ht : t < STRT.length) (s : St) : CN l yJ0_coder_7d493 cJ0_coder_7d493 1 (some .byte) 1 Dl (fun ad => [.ref (ad (1000 + t))]) s (some (0, s)) := by
  refine cn_of (by decide) (fun _ => Nat.le_of_ble_eq_true rfl) (fun X hC hR hl hN => ?_)
  subst hl
  show Zr X (QFN X (some .byte)) 0 s 0 [(0, .ref (X_ad X (1000 + t)))] [] _
  refine zr_jcom (pc := 0) hC m_740 dJ0_coder_7d493_0 ?_
  refine zr_eq (r1 := if (1 : Int32) = 0 then none else some (0, s)) (by rw [if_neg (by decide)]) ?_
  refine zr_if_eq (pc := 3) (tgt := 13) hC dJ0_coder_7d493_3 (by decide) (fun c => absurd c (by decide)) (fun _ => ?_)
  refine zr_aload_n (pc := 6) (i := 0) 0 hC dJ0_coder_7d493_6 rfl rfl ?_
  refine zr_jcod (pc := 7) hC ht m_2029 dJ0_coder_7d493_7 ?_
  refine zr_goto (pc := 10) (tgt := 14) hC dJ0_coder_7d493_10 (by decide) ?_
  exact zr_kret (pc := 14) rfl hC hR dJ0_coder_7d493_14
theorem kJ_isLatin1 (l : Launch) {Dl : List Nat} {t : Nat} (ht : t < STRT.length) (s : St) : CN l yJ0_isLatin1_aae02 cJ0_isLatin1_aae02 1 (some .boolean) 1 Dl (fun ad => [.ref (ad (1000 + t))]) s (some (1, s)) := by
  refine cn_of (by decide) (fun _ => Nat.le_of_ble_eq_true rfl) (fun X hC hR hl hN => ?_)
  subst hl
  show Zr X (QFN X (some .boolean)) 0 s 0 [(0, .ref (X_ad X (1000 + t)))] [] _
  refine zr_jcom (pc := 0) hC m_740 dJ0_isLatin1_aae02_0 ?_
  refine zr_eq (r1 := if (1 : Int32) = 0 then none else some (1, s)) (by rw [if_neg (by decide)]) ?_
  refine zr_if_eq (pc := 3) (tgt := 17) hC dJ0_isLatin1_aae02_3 (by decide) (fun c => absurd c (by decide)) (fun _ => ?_)
  refine zr_aload_n (pc := 6) (i := 0) 0 hC dJ0_isLatin1_aae02_6 rfl rfl ?_
  refine zr_jcod (pc := 7) hC ht m_2029 dJ0_isLatin1_aae02_7 ?_
  refine zr_eq (r1 := if (0 : Int32) = 0 then some (1, s) else none) (by rw [if_pos rfl]) ?_
  refine zr_if_ne (pc := 10) (tgt := 17) hC dJ0_isLatin1_aae02_10 (by decide) (fun _ => ?_) (fun c => absurd rfl c)
  refine zr_iconst (pc := 13) (v := (1 : Int32)) hC dJ0_isLatin1_aae02_13 (by decide) ?_
  refine zr_goto (pc := 14) (tgt := 18) hC dJ0_isLatin1_aae02_14 (by decide) ?_
  exact zr_zret (pc := 18) (by decide) hC hR dJ0_isLatin1_aae02_18
theorem kJ_length (l : Launch) {Dl : List Nat} {t : Nat} (ht : t < STRT.length) (s : St) : CN l yJ0_length_8abf5 cJ0_length_8abf5 1 (some .int) 2 Dl (fun ad => [.ref (ad (1000 + t))]) s (some (Int32.ofNat (STRL.getD t 0), s)) := by
  refine cn_of (by decide) (fun _ => Nat.le_of_ble_eq_true rfl) (fun X hC hR hl hN => ?_)
  subst hl
  show Zr X (QFN X (some .int)) 0 s 0 [(0, .ref (X_ad X (1000 + t)))] [] _
  refine zr_aload_n (pc := 0) (i := 0) 0 hC dJ0_length_8abf5_0 rfl rfl ?_
  refine zr_jval (pc := 1) hC ht m_2028 dJ0_length_8abf5_1 ?_
  refine zr_jlen (pc := 4) hC ht dJ0_length_8abf5_4 ?_
  refine zr_aload_n (pc := 5) (i := 0) 0 hC dJ0_length_8abf5_5 rfl rfl ?_
  refine zr_eq (r1 := bd (some ((0 : Int32), s)) (fun v s1 => some (jshr (Int32.ofNat (STRL.getD t 0)) v, s1))) ?_ ?_
  · have : jshr (Int32.ofNat (STRL.getD t 0)) 0 = Int32.ofNat (STRL.getD t 0) := by
      unfold jshr
      exact Int32.toInt_inj.mp (by rw [pk_shr _ _ 0 (by decide)]; simp)
    simp only [bd, this]
  · refine zr_callT (pc := 6) (As := fun ad => []) (st1 := [.int (Int32.ofNat (STRL.getD t 0))]) hC (Nat.le_refl 0) ht (kJ_coder _ ht s) (Nat.le_of_ble_eq_true rfl) mc_yJ0_coder_7d493 m_736 m_737 m_738 rfl rfl rfl (Nat.le_of_ble_eq_true rfl) dJ0_length_8abf5_6 (fun v s1 => ?_)
    refine zr_ishr (pc := 9) hC dJ0_length_8abf5_9 ?_
    exact zr_iret (pc := 10) hC hR dJ0_length_8abf5_10
theorem kJ_pre (l : Launch) {Dl : List Nat} (i n : Int32) (v : Value) (hv : v = .null ∨ ∃ a, v = .ref a) (s : St) : CN l yJ3_checkIndex_8e157 cJ3_checkIndex_8e157 3 (some .int) 1 Dl (fun ad => [.int i, .int n, v]) s (if i < 0 then none else if i < n then some (i, s) else none) := by
  refine cn_of (by decide) (fun _ => ?_) (fun X hC hR hl hN => ?_)
  · rcases hv with rfl | ⟨a, rfl⟩ <;> exact Nat.le_of_ble_eq_true rfl
  subst hl
  have hls : lv_args 0 [.int i, .int n, v] = [(0, .int i), (1, .int n), (2, v)] := by rcases hv with rfl | ⟨a, rfl⟩ <;> rfl
  rw [hls]
  refine zr_iload_n (pc := 0) (i := 0) 0 hC dJ3_checkIndex_8e157_0 rfl rfl ?_
  refine zr_if_lt (pc := 1) (tgt := 9) hC dJ3_checkIndex_8e157_1 (by decide) (fun _ => zr_none) (fun _ => ?_)
  refine zr_iload_n (pc := 4) (i := 0) 0 hC dJ3_checkIndex_8e157_4 rfl rfl ?_
  refine zr_iload_n (pc := 5) (i := 1) 1 hC dJ3_checkIndex_8e157_5 rfl rfl ?_
  refine zr_icmp_lt (pc := 6) (tgt := 16) hC dJ3_checkIndex_8e157_6 (by decide) (fun _ => ?_) (fun _ => zr_none)
  refine zr_iload_n (pc := 16) (i := 0) 0 hC dJ3_checkIndex_8e157_16 rfl rfl ?_
  exact zr_iret (pc := 17) hC hR dJ3_checkIndex_8e157_17
theorem kJ_check (l : Launch) {Dl : List Nat} (i n : Int32) (s : St) : CN l yJ0_checkIndex_df160 cJ0_checkIndex_df160 2 none 2 Dl (fun ad => [.int i, .int n]) s (bd (if i < 0 then none else if i < n then some (i, s) else none) (fun _ s1 => some (0, s1))) := by
  refine cn_of (by decide) (fun _ => Nat.le_of_ble_eq_true rfl) (fun X hC hR hl hN => ?_)
  subst hl
  show Zr X (QFN X none) 0 s 0 [(0, .int i), (1, .int n)] [] _
  refine zr_iload_n (pc := 0) (i := 0) 0 hC dJ0_checkIndex_df160_0 rfl rfl ?_
  refine zr_iload_n (pc := 1) (i := 1) 1 hC dJ0_checkIndex_df160_1 rfl rfl ?_
  refine zr_jfmt (pc := 2) hC m_756 dJ0_checkIndex_df160_2 (fun v hv => ?_)
  refine zr_callO (pc := 5) (As := fun ad => [.int i, .int n, v]) (st1 := []) hC (Nat.le_refl 0) (kJ_pre _ i n v hv s) (Nat.le_of_ble_eq_true rfl) mc_yJ3_checkIndex_8e157 m_758 m_759 rfl rfl (Nat.le_of_ble_eq_true rfl) dJ0_checkIndex_df160_5 (fun y s1 => ?_)
  refine zr_pop (pc := 8) hC dJ0_checkIndex_df160_8 rfl ?_
  exact zr_vret (pc := 9) hC hR dJ0_checkIndex_df160_9
theorem getD_mem {L : List Int32} {n : Nat} (h : n < L.length) : L.getD n 0 ∈ L := by
  rw [List.getD_eq_getElem?_getD, List.getElem?_eq_getElem h]
  exact List.getElem_mem h
theorem strb_ok : ∀ t, t < STRT.length → STRL.getD t 0 = (STRB.getD t []).length ∧ STRL.getD t 0 < 2 ^ 31 ∧ ∀ b ∈ STRB.getD t [], (((b &&& 255).toUInt32 % 65536).toInt32 = b) := by decide +kernel
theorem kJ_latin (l : Launch) {Dl : List Nat} {t : Nat} (ht : t < STRT.length) (i : Int32) (s : St) : CN l yJ1_charAt_3b067 cJ1_charAt_3b067 2 (some .char) 3 Dl (fun ad => [.ref (ad (2000 + t)), .int i]) s (if 0 ≤ i.toInt ∧ i.toInt < (STRL.getD t 0 : Nat) then some ((STRB.getD t []).getD i.toNatClampNeg 0, s) else none) := by
  refine cn_of (by decide) (fun _ => Nat.le_of_ble_eq_true rfl) (fun X hC hR hl hN => ?_)
  subst hl
  show Zr X (QFN X (some .char)) 0 s 0 [(0, .ref (X_ad X (2000 + t))), (1, .int i)] [] _
  obtain ⟨e1, e2, e3⟩ := strb_ok t ht
  by_cases hi : 0 ≤ i.toInt ∧ i.toInt < (STRL.getD t 0 : Nat)
  · rw [if_pos hi]
    refine zr_iload_n (pc := 0) (i := 1) 1 hC dJ1_charAt_3b067_0 rfl rfl ?_
    refine zr_aload_n (pc := 1) (i := 0) 0 hC dJ1_charAt_3b067_1 rfl rfl ?_
    refine zr_jlen (pc := 2) hC ht dJ1_charAt_3b067_2 ?_
    refine zr_eq (r1 := bd (bd (if i < 0 then none else if i < Int32.ofNat (STRL.getD t 0) then some (i, s) else none) (fun _ s1 => some ((0 : Int32), s1))) (fun _ s1 => some ((STRB.getD t []).getD i.toNatClampNeg 0, s1))) ?_ ?_
    · have h1 : ¬ i < 0 := by
        intro h
        have := Int32.lt_iff_toInt_lt.mp h
        rw [Int32.toInt_zero] at this
        omega
      have h2 : i < Int32.ofNat (STRL.getD t 0) := by
        rw [Int32.lt_iff_toInt_lt, Int32.toInt_ofNat_of_lt e2]
        exact hi.2
      rw [if_neg h1, if_pos h2]
      rfl
    · refine zr_callOv (pc := 3) (As := fun ad => [.int i, .int (Int32.ofNat (STRL.getD t 0))]) (st1 := []) hC (Nat.le_refl 0) (kJ_check _ i _ s) (Nat.le_of_ble_eq_true rfl) mc_yJ0_checkIndex_df160 m_753 m_754 rfl rfl (Nat.le_of_ble_eq_true rfl) dJ1_charAt_3b067_3 (fun y s1 => ?_)
      refine zr_aload_n (pc := 6) (i := 0) 0 hC dJ1_charAt_3b067_6 rfl rfl ?_
      refine zr_iload_n (pc := 7) (i := 1) 1 hC dJ1_charAt_3b067_7 rfl rfl ?_
      refine zr_jbyt (pc := 8) hC ht hi dJ1_charAt_3b067_8 ?_
      refine zr_sipush (pc := 9) (v := (255 : Int32)) hC dJ1_charAt_3b067_9 (by decide) ?_
      refine zr_iand (pc := 12) hC dJ1_charAt_3b067_12 ?_
      refine zr_i2c (pc := 13) hC dJ1_charAt_3b067_13 ?_
      have hlt : i.toNatClampNeg < (STRB.getD t []).length := by
        rw [← e1]
        have : (i.toNatClampNeg : Int) = i.toInt := by
          have := hi.1
          simp only [Int32.toNatClampNeg]
          omega
        omega
      have hb : (((STRB.getD t []).getD i.toNatClampNeg 0 &&& 255).toUInt32 % 65536).toInt32 = (STRB.getD t []).getD i.toNatClampNeg 0 := by
        refine e3 _ ?_
        exact getD_mem hlt
      rw [hb]
      refine zr_kret (pc := 14) ?_ hC hR dJ1_charAt_3b067_14
      rw [← hb]
      exact pk_nc _
  · rw [if_neg hi]
    exact zr_none
theorem kJ_charAt (l : Launch) {Dl : List Nat} {t : Nat} (ht : t < STRT.length) (i : Int32) (s : St) : CN l yJ0_charAt_5068e cJ0_charAt_5068e 2 (some .char) 4 Dl (fun ad => [.ref (ad (1000 + t)), .int i]) s (if 0 ≤ i.toInt ∧ i.toInt < (STRL.getD t 0 : Nat) then some ((STRB.getD t []).getD i.toNatClampNeg 0, s) else none) := by
  refine cn_of (by decide) (fun _ => Nat.le_of_ble_eq_true rfl) (fun X hC hR hl hN => ?_)
  subst hl
  show Zr X (QFN X (some .char)) 0 s 0 [(0, .ref (X_ad X (1000 + t))), (1, .int i)] [] _
  refine zr_aload_n (pc := 0) (i := 0) 0 hC dJ0_charAt_5068e_0 rfl rfl ?_
  obtain ⟨e1, e2, e3⟩ := strb_ok t ht
  by_cases hi : 0 ≤ i.toInt ∧ i.toInt < (STRL.getD t 0 : Nat)
  · have hlt : i.toNatClampNeg < (STRB.getD t []).length := by
      rw [← e1]
      have : (i.toNatClampNeg : Int) = i.toInt := by
        have := hi.1
        simp only [Int32.toNatClampNeg]
        omega
      omega
    have hb : (((STRB.getD t []).getD i.toNatClampNeg 0 &&& 255).toUInt32 % 65536).toInt32 = (STRB.getD t []).getD i.toNatClampNeg 0 := by
      refine e3 _ ?_
      exact getD_mem hlt
    have hn : narrow .char (.int ((STRB.getD t []).getD i.toNatClampNeg 0)) = .int ((STRB.getD t []).getD i.toNatClampNeg 0) := by
      rw [← hb]
      exact pk_nc _
    rw [if_pos hi]
    refine zr_eq (r1 := bd (some ((1 : Int32), s)) (fun v s1 => if v = 0 then none else bd (if 0 ≤ i.toInt ∧ i.toInt < (STRL.getD t 0 : Nat) then some ((STRB.getD t []).getD i.toNatClampNeg 0, s1) else none) (fun v s1 => if v = (STRB.getD t []).getD i.toNatClampNeg 0 then some (v, s1) else none))) ?_ ?_
    · simp only [bd]
      rw [if_neg (by decide), if_pos hi]
      simp
    · refine zr_callT (pc := 1) (As := fun ad => []) (st1 := []) hC (Nat.le_refl 0) ht (kJ_isLatin1 _ ht s) (Nat.le_of_ble_eq_true rfl) mc_yJ0_isLatin1_aae02 m_746 m_747 m_748 rfl rfl rfl (Nat.le_of_ble_eq_true rfl) dJ0_charAt_5068e_1 (fun v s1 => ?_)
      refine zr_if_eq (pc := 4) (tgt := 16) hC dJ0_charAt_5068e_4 (by decide) (fun _ => zr_none) (fun _ => ?_)
      refine zr_aload_n (pc := 7) (i := 0) 0 hC dJ0_charAt_5068e_7 rfl rfl ?_
      refine zr_jval (pc := 8) hC ht m_2028 dJ0_charAt_5068e_8 ?_
      refine zr_iload_n (pc := 11) (i := 1) 1 hC dJ0_charAt_5068e_11 rfl rfl ?_
      refine zr_callO (pc := 12) (As := fun ad => [.ref (ad (2000 + t)), .int i]) (st1 := []) hC (Nat.le_refl 0) (kJ_latin _ ht i s1) (Nat.le_of_ble_eq_true rfl) mc_yJ1_charAt_3b067 m_750 m_751 rfl rfl (Nat.le_of_ble_eq_true rfl) dJ0_charAt_5068e_12 (fun v s2 => ?_)
      by_cases hv : v = (STRB.getD t []).getD i.toNatClampNeg 0
      · rw [if_pos hv]
        exact zr_kret (pc := 15) (by rw [hv]; exact hn) hC hR dJ0_charAt_5068e_15
      · rw [if_neg hv]
        exact zr_none
  · rw [if_neg hi]
    exact zr_none
section TEXTS2
variable {α : Type} {X : KX} {QF : α → St → State → Prop} {x : Nat} {σ : St} {pc : Nat} {ls : List (Nat × Value)} {st st1 : List Value} {r r1 r2 : Option (α × St)} {own : String} {cc : ByteArray} {d xm : Nat}
theorem isStr_ix {t : Nat} (h : isStr t) : t - 1000 < STRT.length ∧ 1000 + (t - 1000) = t := by
  unfold isStr at h
  omega
theorem zr_callTk {y : MethodName} {bytes : ByteArray} {maxL d' n index t : Nat} {ty : FieldType} {As : (Nat → Nat) → List Value} {v0 : Int32} (hC : Ctx X own cc FULL d xm) (hxm : x ≤ xm) (ht : t < STRT.length) (hM : CN (X_l X) y bytes maxL (some ty) d' FULL (fun ad => .ref (ad (1000 + t)) :: As ad) σ (some (v0, σ))) (hd' : d' + 1 ≤ d) (hmc : MC y bytes maxL (some ty) n) (hli : Cond.methodLink own index y ∈ WS) (hin : Cond.instanceMethod y ∈ WS) (hse : Cond.selects y.cls y y ∈ WS) (hcy : y.cls = "java/lang/String") (hAs : (As (X_ad X)).length = n) (hst : st = (As (X_ad X)).reverse ++ .ref (X_ad X (1000 + t)) :: st1) (hcat : (st1.map fun v => v.category).sum ≤ 8) (hdg : decode cc pc = .ok (.invokevirtual index, 3))
    (kk : Zr X QF x σ (pc + 3) ls (.int v0 :: st1) r) : Zr X QF x σ pc ls st r := fun o σ' e H locs la hP hS h => by
  have hrec := vk_recv (i := t) (zr_vkS hC) ht (zr_SS hC hS)
  rw [← hcy] at hrec
  have hT : GoodIn WS (wsV own index y.cls y (wsC y bytes maxL (some ty))) := by
    intro w hwm
    rcases List.mem_append.mp hwm with e | e
    · have := vWi hli hin hse hmc.2.1 w e
      exact ⟨this, good_of_word (List.mem_filter.mp this).2⟩
    · exact WS_good hmc.1 w e
  have hA := free_of hC hS
  refine va_calli (a := (Value.ref (X_ad X (1000 + t)) :: As (X_ad X)).toArray) (va_runV (As := As (X_ad X)) (rest := st1) (Ts := WS) ⟨hC.1, hC.2.1, hC.2.2.1, hC.2.2.2.1, hC.2.2.2.2.1⟩ (hM v0 σ rfl (X_D X) (X_cI X) (X_cS X) (X_ad X) H.size) (cwV n hC.2.2.2.2.1 hT rfl rfl rfl ⟨rfl, hmc.2.2.2⟩ (room_of hC hd' hmc.2.2.1)) ⟨pre_blind, hrec, fun U hU hW => ⟨rfl, pre_of hC hP hS hU hW⟩⟩ rfl hAs h.1 hst (lv_room hcat) hdg ⟨by rw [hC.2.2.2.2.2.2.1]; simp only [rmK]; omega, by rw [hC.2.2.2.2.2.2.1]; simp only [rmK]; omega⟩) hS (fun q _ hq => hA q hq) hA (fun r0 u t1 H1 locs1 ht1 hvm hw hB hz1 hk1 hS1 => ?_)
  subst hw
  have hB' : va_P (X_D X) vwCl (wsOf (X_cI X) (X_cS X) (X_ad X) σ FULL) t1.heap := hB
  rw [ht1, ← hC.2.2.2.2.2.1] at hB'
  exact kk o σ' e H1 locs1 la hB' hS1 h
theorem zr_slen {t index : Nat} (hC : Ctx X own cc FULL d xm) (hxm : x ≤ xm) (hd6 : 6 ≤ d) (ht : isStr t) (hli : Cond.methodLink own index yJ0_length_8abf5 ∈ WS) (hdg : decode cc pc = .ok (.invokevirtual index, 3)) (hcat : (st.map fun v => v.category).sum ≤ 8) (kk : Zr X QF x σ (pc + 3) ls (.int (strLen t) :: st) r) : Zr X QF x σ pc ls (.ref (X_ad X t) :: st) r := by
  obtain ⟨h1, h2⟩ := isStr_ix ht
  refine zr_callTk (As := fun ad => []) (st1 := st) hC hxm h1 (kJ_length _ h1 σ) (by omega) mc_yJ0_length_8abf5 hli m_733 m_734 rfl rfl (by rw [h2]; rfl) hcat hdg kk
theorem zr_schar {t index : Nat} {i : Int32} (hC : Ctx X own cc FULL d xm) (hxm : x ≤ xm) (hd6 : 6 ≤ d) (ht : isStr t) (hli : Cond.methodLink own index yJ0_charAt_5068e ∈ WS) (hdg : decode cc pc = .ok (.invokevirtual index, 3)) (hcat : (st.map fun v => v.category).sum ≤ 8) (kk : Zr X QF x σ (pc + 3) ls (.int (strAt t i.toNatClampNeg) :: st) r) : Zr X QF x σ pc ls (.int i :: .ref (X_ad X t) :: st) (if 0 ≤ i.toInt ∧ i.toInt < (strLen t).toInt then r else none) := by
  obtain ⟨h1, h2⟩ := isStr_ix ht
  by_cases hi : 0 ≤ i.toInt ∧ i.toInt < (strLen t).toInt
  · rw [if_pos hi]
    have hi2 : 0 ≤ i.toInt ∧ i.toInt < (STRL.getD (t - 1000) 0 : Nat) := by
      have := hi.2
      unfold strLen at this
      rw [Int32.toInt_ofNat_of_lt (strb_ok _ h1).2.1] at this
      exact ⟨hi.1, this⟩
    have hM := kJ_charAt (X_l X) (Dl := FULL) h1 i σ
    rw [if_pos hi2] at hM
    refine zr_callTk (As := fun ad => [.int i]) (st1 := st) hC hxm h1 hM (by omega) mc_yJ0_charAt_5068e hli m_743 m_744 rfl rfl (by rw [h2]; rfl) hcat hdg kk
  · rw [if_neg hi]
    exact zr_none
end TEXTS2
theorem thr_0 : (vx_at0 RX11 167 (excN 0) ["java/lang/RuntimeException", "java/lang/Exception"]).all (fun w => decide (w ∈ WS) || decide (w ∈ NW)) = true := by decide +kernel
theorem thr_1 : (vx_at0 RX11 103 (excN 1) ["java/lang/RuntimeException", "java/lang/Exception"]).all (fun w => decide (w ∈ WS) || decide (w ∈ NW)) = true := by decide +kernel
section THR
variable {X : KX} {x : Nat} {σ : St} {pc : Nat} {ls : List (Nat × Value)} {st st1 : List Value} {cc : ByteArray} {d xm : Nat} {ret : Option FieldType}
theorem zx_thr0 (hC : Ctx X RX11 cc FULL d xm) (hx : x + 1 ≤ xm) (hR : RX X ret) (hdd : 6 ≤ d) (hcat : (st.map fun v => v.category).sum ≤ 8) (d0 : decode cc pc = .ok (.new 165, 3)) (d3 : decode cc (pc + 3) = .ok (.dup, 1)) (d4 : decode cc (pc + 4) = .ok (.invokespecial 167, 3)) (d7 : decode cc (pc + 7) = .ok (.athrow, 1)) : Zr X (QFX X ret xm) x σ pc ls st (some (.inr 0, σ)) := by
  refine zx_throw (k0 := 0) (ik := 165) (ic := 167) (names := ["java/lang/RuntimeException", "java/lang/Exception"]) hC hx hR hdd rfl (by decide +kernel) (by decide +kernel) m_991 m_24 (fun w hw => ?_) (by decide +kernel) hcat d0 d3 d4 d7
  have := List.all_eq_true.mp thr_0 w hw
  simpa only [Bool.or_eq_true, decide_eq_true_eq] using this
theorem zx_thr1 (hC : Ctx X RX11 cc FULL d xm) (hx : x + 1 ≤ xm) (hR : RX X ret) (hdd : 6 ≤ d) (hcat : (st.map fun v => v.category).sum ≤ 8) (d0 : decode cc pc = .ok (.new 101, 3)) (d3 : decode cc (pc + 3) = .ok (.dup, 1)) (d4 : decode cc (pc + 4) = .ok (.invokespecial 103, 3)) (d7 : decode cc (pc + 7) = .ok (.athrow, 1)) : Zr X (QFX X ret xm) x σ pc ls st (some (.inr 1, σ)) := by
  refine zx_throw (k0 := 1) (ik := 101) (ic := 103) (names := ["java/lang/RuntimeException", "java/lang/Exception"]) hC hx hR hdd rfl (by decide +kernel) (by decide +kernel) m_636 m_17 (fun w hw => ?_) (by decide +kernel) hcat d0 d3 d4 d7
  have := List.all_eq_true.mp thr_1 w hw
  simpa only [Bool.or_eq_true, decide_eq_true_eq] using this
end THR
