/-! ===== the layout, slot by slot ===== -/
def FU : Nat := 20000
abbrev inA (i : Int32) (n : Nat) : Prop := 0 ≤ i.toInt ∧ i.toInt < n
def isA (k n : Nat) : Prop := k ∈ FULL ∧ LAY k = .inr (.inl n)
def isArrD (Dl : List Nat) (k : Nat) : Prop := k ∈ Dl ∧ LAY k = .inr (.inl (LN k))
theorem isArr_of {k n : Nat} (h : isA k n) : isArrD FULL k := ⟨h.1, by rw [LN_of h.2]; exact h.2⟩
theorem nlt {X : KX} {n i : Nat} (h : X_nL X = n) (h2 : i < n) : i < X_nL X := h ▸ h2
theorem zr_idivL {α : Type} {X : KX} {QF : α → St → State → Prop} {x : Nat} {σ : St} {pc : Nat} {ls : List (Nat × Value)} {st : List Value} {r : Option (α × St)} {own : String} {cc : ByteArray} {Dl : List Nat} {d xm : Nat} {a b : Int32} (h0 : ¬ b = 0) (hC : Ctx X own cc Dl d xm) (hd : decode cc pc = .ok (.idiv, 1)) (k : Zr X QF x σ (pc + 1) ls (.int (a / b) :: st) r) : Zr X QF x σ pc ls (.int b :: .int a :: st) r := fun o σ' e => zr_idiv hC hd k o σ' (by rw [if_neg h0]; exact e)
theorem zr_iremL {α : Type} {X : KX} {QF : α → St → State → Prop} {x : Nat} {σ : St} {pc : Nat} {ls : List (Nat × Value)} {st : List Value} {r : Option (α × St)} {own : String} {cc : ByteArray} {Dl : List Nat} {d xm : Nat} {a b : Int32} (h0 : ¬ b = 0) (hC : Ctx X own cc Dl d xm) (hd : decode cc pc = .ok (.irem, 1)) (k : Zr X QF x σ (pc + 1) ls (.int (jrem a b) :: st) r) : Zr X QF x σ pc ls (.int b :: .int a :: st) r := fun o σ' e => zr_irem hC hd k o σ' (by rw [if_neg h0]; exact e)
theorem mem_0 : 0 ∈ FULL := List.mem_range.mpr (Nat.le_of_ble_eq_true rfl)
theorem lay_0 : LAY 0 = .inl (11, [some 1, none, none, some 2, some 21, some 32, some 39, none, some 46, some 48, some 51, some 57, some 62, some 65, some 68]) := rfl
theorem mem_1 : 1 ∈ FULL := List.mem_range.mpr (Nat.le_of_ble_eq_true rfl)
theorem lay_1 : LAY 1 = .inr (.inl 700) := rfl
theorem ar_1 : isArrD FULL 1 := isArr_of ⟨mem_1, lay_1⟩
theorem mem_2 : 2 ∈ FULL := List.mem_range.mpr (Nat.le_of_ble_eq_true rfl)
theorem lay_2 : LAY 2 = .inl (6, [some 3, some 14, none, some 16, none, none, none, none, none]) := rfl
theorem mem_3 : 3 ∈ FULL := List.mem_range.mpr (Nat.le_of_ble_eq_true rfl)
theorem lay_3 : LAY 3 = .inl (4, [none, some 4, some 5, some 6, none, some 7, none, some 8, some 9, some 10, none, some 11]) := rfl
theorem mem_4 : 4 ∈ FULL := List.mem_range.mpr (Nat.le_of_ble_eq_true rfl)
theorem lay_4 : LAY 4 = .inr (.inl 12) := rfl
theorem ar_4 : isArrD FULL 4 := isArr_of ⟨mem_4, lay_4⟩
theorem mem_5 : 5 ∈ FULL := List.mem_range.mpr (Nat.le_of_ble_eq_true rfl)
theorem lay_5 : LAY 5 = .inr (.inl 12) := rfl
theorem ar_5 : isArrD FULL 5 := isArr_of ⟨mem_5, lay_5⟩
theorem mem_6 : 6 ∈ FULL := List.mem_range.mpr (Nat.le_of_ble_eq_true rfl)
theorem lay_6 : LAY 6 = .inr (.inl 12) := rfl
theorem ar_6 : isArrD FULL 6 := isArr_of ⟨mem_6, lay_6⟩
theorem mem_7 : 7 ∈ FULL := List.mem_range.mpr (Nat.le_of_ble_eq_true rfl)
theorem lay_7 : LAY 7 = .inr (.inl 144) := rfl
theorem ar_7 : isArrD FULL 7 := isArr_of ⟨mem_7, lay_7⟩
theorem mem_8 : 8 ∈ FULL := List.mem_range.mpr (Nat.le_of_ble_eq_true rfl)
theorem lay_8 : LAY 8 = .inr (.inl 6) := rfl
theorem ar_8 : isArrD FULL 8 := isArr_of ⟨mem_8, lay_8⟩
theorem mem_9 : 9 ∈ FULL := List.mem_range.mpr (Nat.le_of_ble_eq_true rfl)
theorem lay_9 : LAY 9 = .inr (.inl 6) := rfl
theorem ar_9 : isArrD FULL 9 := isArr_of ⟨mem_9, lay_9⟩
theorem mem_10 : 10 ∈ FULL := List.mem_range.mpr (Nat.le_of_ble_eq_true rfl)
theorem lay_10 : LAY 10 = .inr (.inl 6) := rfl
theorem ar_10 : isArrD FULL 10 := isArr_of ⟨mem_10, lay_10⟩
theorem mem_11 : 11 ∈ FULL := List.mem_range.mpr (Nat.le_of_ble_eq_true rfl)
theorem lay_11 : LAY 11 = .inl (5, [some 12, some 13, none, none]) := rfl
theorem mem_12 : 12 ∈ FULL := List.mem_range.mpr (Nat.le_of_ble_eq_true rfl)
theorem lay_12 : LAY 12 = .inr (.inl 700) := rfl
theorem ar_12 : isArrD FULL 12 := isArr_of ⟨mem_12, lay_12⟩
theorem mem_13 : 13 ∈ FULL := List.mem_range.mpr (Nat.le_of_ble_eq_true rfl)
theorem lay_13 : LAY 13 = .inr (.inl 64) := rfl
theorem ar_13 : isArrD FULL 13 := isArr_of ⟨mem_13, lay_13⟩
theorem mem_14 : 14 ∈ FULL := List.mem_range.mpr (Nat.le_of_ble_eq_true rfl)
theorem lay_14 : LAY 14 = .inl (10, [some 15]) := rfl
theorem mem_15 : 15 ∈ FULL := List.mem_range.mpr (Nat.le_of_ble_eq_true rfl)
theorem lay_15 : LAY 15 = .inr (.inl 94) := rfl
theorem ar_15 : isArrD FULL 15 := isArr_of ⟨mem_15, lay_15⟩
theorem mem_16 : 16 ∈ FULL := List.mem_range.mpr (Nat.le_of_ble_eq_true rfl)
theorem lay_16 : LAY 16 = .inl (9, [some 17, some 18, some 19, some 20, none]) := rfl
theorem mem_17 : 17 ∈ FULL := List.mem_range.mpr (Nat.le_of_ble_eq_true rfl)
theorem lay_17 : LAY 17 = .inr (.inl 701) := rfl
theorem ar_17 : isArrD FULL 17 := isArr_of ⟨mem_17, lay_17⟩
theorem mem_18 : 18 ∈ FULL := List.mem_range.mpr (Nat.le_of_ble_eq_true rfl)
theorem lay_18 : LAY 18 = .inr (.inl 701) := rfl
theorem ar_18 : isArrD FULL 18 := isArr_of ⟨mem_18, lay_18⟩
theorem mem_19 : 19 ∈ FULL := List.mem_range.mpr (Nat.le_of_ble_eq_true rfl)
theorem lay_19 : LAY 19 = .inr (.inl 701) := rfl
theorem ar_19 : isArrD FULL 19 := isArr_of ⟨mem_19, lay_19⟩
theorem mem_20 : 20 ∈ FULL := List.mem_range.mpr (Nat.le_of_ble_eq_true rfl)
theorem lay_20 : LAY 20 = .inr (.inl 701) := rfl
theorem ar_20 : isArrD FULL 20 := isArr_of ⟨mem_20, lay_20⟩
theorem mem_21 : 21 ∈ FULL := List.mem_range.mpr (Nat.le_of_ble_eq_true rfl)
theorem lay_21 : LAY 21 = .inl (4, [none, some 22, some 23, some 24, none, some 25, none, some 26, some 27, some 28, none, some 29]) := rfl
theorem mem_22 : 22 ∈ FULL := List.mem_range.mpr (Nat.le_of_ble_eq_true rfl)
theorem lay_22 : LAY 22 = .inr (.inl 12) := rfl
theorem ar_22 : isArrD FULL 22 := isArr_of ⟨mem_22, lay_22⟩
theorem mem_23 : 23 ∈ FULL := List.mem_range.mpr (Nat.le_of_ble_eq_true rfl)
theorem lay_23 : LAY 23 = .inr (.inl 12) := rfl
theorem ar_23 : isArrD FULL 23 := isArr_of ⟨mem_23, lay_23⟩
theorem mem_24 : 24 ∈ FULL := List.mem_range.mpr (Nat.le_of_ble_eq_true rfl)
theorem lay_24 : LAY 24 = .inr (.inl 12) := rfl
theorem ar_24 : isArrD FULL 24 := isArr_of ⟨mem_24, lay_24⟩
theorem mem_25 : 25 ∈ FULL := List.mem_range.mpr (Nat.le_of_ble_eq_true rfl)
theorem lay_25 : LAY 25 = .inr (.inl 144) := rfl
theorem ar_25 : isArrD FULL 25 := isArr_of ⟨mem_25, lay_25⟩
theorem mem_26 : 26 ∈ FULL := List.mem_range.mpr (Nat.le_of_ble_eq_true rfl)
theorem lay_26 : LAY 26 = .inr (.inl 6) := rfl
theorem ar_26 : isArrD FULL 26 := isArr_of ⟨mem_26, lay_26⟩
theorem mem_27 : 27 ∈ FULL := List.mem_range.mpr (Nat.le_of_ble_eq_true rfl)
theorem lay_27 : LAY 27 = .inr (.inl 6) := rfl
theorem ar_27 : isArrD FULL 27 := isArr_of ⟨mem_27, lay_27⟩
theorem mem_28 : 28 ∈ FULL := List.mem_range.mpr (Nat.le_of_ble_eq_true rfl)
theorem lay_28 : LAY 28 = .inr (.inl 6) := rfl
theorem ar_28 : isArrD FULL 28 := isArr_of ⟨mem_28, lay_28⟩
theorem mem_29 : 29 ∈ FULL := List.mem_range.mpr (Nat.le_of_ble_eq_true rfl)
theorem lay_29 : LAY 29 = .inl (5, [some 30, some 31, none, none]) := rfl
theorem mem_30 : 30 ∈ FULL := List.mem_range.mpr (Nat.le_of_ble_eq_true rfl)
theorem lay_30 : LAY 30 = .inr (.inl 700) := rfl
theorem ar_30 : isArrD FULL 30 := isArr_of ⟨mem_30, lay_30⟩
theorem mem_31 : 31 ∈ FULL := List.mem_range.mpr (Nat.le_of_ble_eq_true rfl)
theorem lay_31 : LAY 31 = .inr (.inl 64) := rfl
theorem ar_31 : isArrD FULL 31 := isArr_of ⟨mem_31, lay_31⟩
theorem mem_32 : 32 ∈ FULL := List.mem_range.mpr (Nat.le_of_ble_eq_true rfl)
theorem lay_32 : LAY 32 = .inl (8, [some 33, some 35, none, none, some 36, some 37, none, some 38]) := rfl
theorem mem_33 : 33 ∈ FULL := List.mem_range.mpr (Nat.le_of_ble_eq_true rfl)
theorem lay_33 : LAY 33 = .inl (10, [some 34]) := rfl
theorem mem_34 : 34 ∈ FULL := List.mem_range.mpr (Nat.le_of_ble_eq_true rfl)
theorem lay_34 : LAY 34 = .inr (.inl 94) := rfl
theorem ar_34 : isArrD FULL 34 := isArr_of ⟨mem_34, lay_34⟩
theorem mem_35 : 35 ∈ FULL := List.mem_range.mpr (Nat.le_of_ble_eq_true rfl)
theorem lay_35 : LAY 35 = .inr (.inl 3760) := rfl
theorem ar_35 : isArrD FULL 35 := isArr_of ⟨mem_35, lay_35⟩
theorem mem_36 : 36 ∈ FULL := List.mem_range.mpr (Nat.le_of_ble_eq_true rfl)
theorem lay_36 : LAY 36 = .inr (.inl 4) := rfl
theorem ar_36 : isArrD FULL 36 := isArr_of ⟨mem_36, lay_36⟩
theorem mem_37 : 37 ∈ FULL := List.mem_range.mpr (Nat.le_of_ble_eq_true rfl)
theorem lay_37 : LAY 37 = .inr (.inl 4) := rfl
theorem ar_37 : isArrD FULL 37 := isArr_of ⟨mem_37, lay_37⟩
theorem mem_38 : 38 ∈ FULL := List.mem_range.mpr (Nat.le_of_ble_eq_true rfl)
theorem lay_38 : LAY 38 = .inr (.inl 3) := rfl
theorem ar_38 : isArrD FULL 38 := isArr_of ⟨mem_38, lay_38⟩
theorem mem_39 : 39 ∈ FULL := List.mem_range.mpr (Nat.le_of_ble_eq_true rfl)
theorem lay_39 : LAY 39 = .inl (8, [some 40, some 42, none, none, some 43, some 44, none, some 45]) := rfl
theorem mem_40 : 40 ∈ FULL := List.mem_range.mpr (Nat.le_of_ble_eq_true rfl)
theorem lay_40 : LAY 40 = .inl (10, [some 41]) := rfl
theorem mem_41 : 41 ∈ FULL := List.mem_range.mpr (Nat.le_of_ble_eq_true rfl)
theorem lay_41 : LAY 41 = .inr (.inl 94) := rfl
theorem ar_41 : isArrD FULL 41 := isArr_of ⟨mem_41, lay_41⟩
theorem mem_42 : 42 ∈ FULL := List.mem_range.mpr (Nat.le_of_ble_eq_true rfl)
theorem lay_42 : LAY 42 = .inr (.inl 3760) := rfl
theorem ar_42 : isArrD FULL 42 := isArr_of ⟨mem_42, lay_42⟩
theorem mem_43 : 43 ∈ FULL := List.mem_range.mpr (Nat.le_of_ble_eq_true rfl)
theorem lay_43 : LAY 43 = .inr (.inl 4) := rfl
theorem ar_43 : isArrD FULL 43 := isArr_of ⟨mem_43, lay_43⟩
theorem mem_44 : 44 ∈ FULL := List.mem_range.mpr (Nat.le_of_ble_eq_true rfl)
theorem lay_44 : LAY 44 = .inr (.inl 4) := rfl
theorem ar_44 : isArrD FULL 44 := isArr_of ⟨mem_44, lay_44⟩
theorem mem_45 : 45 ∈ FULL := List.mem_range.mpr (Nat.le_of_ble_eq_true rfl)
theorem lay_45 : LAY 45 = .inr (.inl 3) := rfl
theorem ar_45 : isArrD FULL 45 := isArr_of ⟨mem_45, lay_45⟩
theorem mem_46 : 46 ∈ FULL := List.mem_range.mpr (Nat.le_of_ble_eq_true rfl)
theorem lay_46 : LAY 46 = .inl (10, [some 47]) := rfl
theorem mem_47 : 47 ∈ FULL := List.mem_range.mpr (Nat.le_of_ble_eq_true rfl)
theorem lay_47 : LAY 47 = .inr (.inl 94) := rfl
theorem ar_47 : isArrD FULL 47 := isArr_of ⟨mem_47, lay_47⟩
theorem mem_48 : 48 ∈ FULL := List.mem_range.mpr (Nat.le_of_ble_eq_true rfl)
theorem lay_48 : LAY 48 = .inl (2, [some 49, some 50, none, none, none]) := rfl
theorem mem_49 : 49 ∈ FULL := List.mem_range.mpr (Nat.le_of_ble_eq_true rfl)
theorem lay_49 : LAY 49 = .inr (.inl 144) := rfl
theorem ar_49 : isArrD FULL 49 := isArr_of ⟨mem_49, lay_49⟩
theorem mem_50 : 50 ∈ FULL := List.mem_range.mpr (Nat.le_of_ble_eq_true rfl)
theorem lay_50 : LAY 50 = .inr (.inl 12) := rfl
theorem ar_50 : isArrD FULL 50 := isArr_of ⟨mem_50, lay_50⟩
theorem mem_51 : 51 ∈ FULL := List.mem_range.mpr (Nat.le_of_ble_eq_true rfl)
theorem lay_51 : LAY 51 = .inl (1, [some 52, some 54, some 55, some 56, none, none, none, none]) := rfl
theorem mem_52 : 52 ∈ FULL := List.mem_range.mpr (Nat.le_of_ble_eq_true rfl)
theorem lay_52 : LAY 52 = .inl (10, [some 53]) := rfl
theorem mem_53 : 53 ∈ FULL := List.mem_range.mpr (Nat.le_of_ble_eq_true rfl)
theorem lay_53 : LAY 53 = .inr (.inl 94) := rfl
theorem ar_53 : isArrD FULL 53 := isArr_of ⟨mem_53, lay_53⟩
theorem mem_54 : 54 ∈ FULL := List.mem_range.mpr (Nat.le_of_ble_eq_true rfl)
theorem lay_54 : LAY 54 = .inr (.inl 282) := rfl
theorem ar_54 : isArrD FULL 54 := isArr_of ⟨mem_54, lay_54⟩
theorem mem_55 : 55 ∈ FULL := List.mem_range.mpr (Nat.le_of_ble_eq_true rfl)
theorem lay_55 : LAY 55 = .inr (.inl 3) := rfl
theorem ar_55 : isArrD FULL 55 := isArr_of ⟨mem_55, lay_55⟩
theorem mem_56 : 56 ∈ FULL := List.mem_range.mpr (Nat.le_of_ble_eq_true rfl)
theorem lay_56 : LAY 56 = .inr (.inl 3) := rfl
theorem ar_56 : isArrD FULL 56 := isArr_of ⟨mem_56, lay_56⟩
theorem mem_57 : 57 ∈ FULL := List.mem_range.mpr (Nat.le_of_ble_eq_true rfl)
theorem lay_57 : LAY 57 = .inl (0, [some 58, some 59, none, some 60, some 61, none]) := rfl
theorem mem_58 : 58 ∈ FULL := List.mem_range.mpr (Nat.le_of_ble_eq_true rfl)
theorem lay_58 : LAY 58 = .inr (.inl 12) := rfl
theorem ar_58 : isArrD FULL 58 := isArr_of ⟨mem_58, lay_58⟩
theorem mem_59 : 59 ∈ FULL := List.mem_range.mpr (Nat.le_of_ble_eq_true rfl)
theorem lay_59 : LAY 59 = .inr (.inl 12) := rfl
theorem ar_59 : isArrD FULL 59 := isArr_of ⟨mem_59, lay_59⟩
theorem mem_60 : 60 ∈ FULL := List.mem_range.mpr (Nat.le_of_ble_eq_true rfl)
theorem lay_60 : LAY 60 = .inr (.inl 6) := rfl
theorem ar_60 : isArrD FULL 60 := isArr_of ⟨mem_60, lay_60⟩
theorem mem_61 : 61 ∈ FULL := List.mem_range.mpr (Nat.le_of_ble_eq_true rfl)
theorem lay_61 : LAY 61 = .inr (.inl 6) := rfl
theorem ar_61 : isArrD FULL 61 := isArr_of ⟨mem_61, lay_61⟩
theorem mem_62 : 62 ∈ FULL := List.mem_range.mpr (Nat.le_of_ble_eq_true rfl)
theorem lay_62 : LAY 62 = .inl (7, [some 63, some 64, none, none, none]) := rfl
theorem mem_63 : 63 ∈ FULL := List.mem_range.mpr (Nat.le_of_ble_eq_true rfl)
theorem lay_63 : LAY 63 = .inr (.inl 7) := rfl
theorem ar_63 : isArrD FULL 63 := isArr_of ⟨mem_63, lay_63⟩
theorem mem_64 : 64 ∈ FULL := List.mem_range.mpr (Nat.le_of_ble_eq_true rfl)
theorem lay_64 : LAY 64 = .inr (.inl 7) := rfl
theorem ar_64 : isArrD FULL 64 := isArr_of ⟨mem_64, lay_64⟩
theorem mem_65 : 65 ∈ FULL := List.mem_range.mpr (Nat.le_of_ble_eq_true rfl)
theorem lay_65 : LAY 65 = .inl (3, [some 66, some 67, none, none, none]) := rfl
theorem mem_66 : 66 ∈ FULL := List.mem_range.mpr (Nat.le_of_ble_eq_true rfl)
theorem lay_66 : LAY 66 = .inr (.inl 4) := rfl
theorem ar_66 : isArrD FULL 66 := isArr_of ⟨mem_66, lay_66⟩
theorem mem_67 : 67 ∈ FULL := List.mem_range.mpr (Nat.le_of_ble_eq_true rfl)
theorem lay_67 : LAY 67 = .inr (.inl 12) := rfl
theorem ar_67 : isArrD FULL 67 := isArr_of ⟨mem_67, lay_67⟩
theorem mem_68 : 68 ∈ FULL := List.mem_range.mpr (Nat.le_of_ble_eq_true rfl)
theorem lay_68 : LAY 68 = .inr (.inl 6) := rfl
theorem ar_68 : isArrD FULL 68 := isArr_of ⟨mem_68, lay_68⟩
theorem mem_69 : 69 ∈ FULL := List.mem_range.mpr (Nat.le_of_ble_eq_true rfl)
theorem lay_69 : LAY 69 = .inl (12, [some 70, none, some 71, some 72, some 73, some 74, some 75, some 76, some 77, some 78, some 79, some 80, some 81, some 82, some 83, some 84, some 85, none, some 86, none, none, none, none, none, none, none, none, none, none, some 87, some 88, some 89, none, none, some 90, some 91, some 92, none, none, some 93, some 94, some 95, some 96, some 97, none, some 98, some 99, none, none, some 100, some 101, none, none, some 102, some 103, some 104, some 105, none, none, none, none, some 106, some 107, some 108, some 109, some 110]) := rfl
theorem mem_70 : 70 ∈ FULL := List.mem_range.mpr (Nat.le_of_ble_eq_true rfl)
theorem lay_70 : LAY 70 = .inr (.inr (.inl [1000, 1001, 1002, 1003, 1004, 1005, 1006])) := rfl
theorem mem_71 : 71 ∈ FULL := List.mem_range.mpr (Nat.le_of_ble_eq_true rfl)
theorem lay_71 : LAY 71 = .inr (.inl 10) := rfl
theorem ar_71 : isArrD FULL 71 := isArr_of ⟨mem_71, lay_71⟩
theorem mem_72 : 72 ∈ FULL := List.mem_range.mpr (Nat.le_of_ble_eq_true rfl)
theorem lay_72 : LAY 72 = .inr (.inl 96) := rfl
theorem ar_72 : isArrD FULL 72 := isArr_of ⟨mem_72, lay_72⟩
theorem mem_73 : 73 ∈ FULL := List.mem_range.mpr (Nat.le_of_ble_eq_true rfl)
theorem lay_73 : LAY 73 = .inr (.inl 24) := rfl
theorem ar_73 : isArrD FULL 73 := isArr_of ⟨mem_73, lay_73⟩
theorem mem_74 : 74 ∈ FULL := List.mem_range.mpr (Nat.le_of_ble_eq_true rfl)
theorem lay_74 : LAY 74 = .inr (.inl 24) := rfl
theorem ar_74 : isArrD FULL 74 := isArr_of ⟨mem_74, lay_74⟩
theorem mem_75 : 75 ∈ FULL := List.mem_range.mpr (Nat.le_of_ble_eq_true rfl)
theorem lay_75 : LAY 75 = .inr (.inl 24) := rfl
theorem ar_75 : isArrD FULL 75 := isArr_of ⟨mem_75, lay_75⟩
theorem mem_76 : 76 ∈ FULL := List.mem_range.mpr (Nat.le_of_ble_eq_true rfl)
theorem lay_76 : LAY 76 = .inr (.inl 24) := rfl
theorem ar_76 : isArrD FULL 76 := isArr_of ⟨mem_76, lay_76⟩
theorem mem_77 : 77 ∈ FULL := List.mem_range.mpr (Nat.le_of_ble_eq_true rfl)
theorem lay_77 : LAY 77 = .inr (.inl 24) := rfl
theorem ar_77 : isArrD FULL 77 := isArr_of ⟨mem_77, lay_77⟩
theorem mem_78 : 78 ∈ FULL := List.mem_range.mpr (Nat.le_of_ble_eq_true rfl)
theorem lay_78 : LAY 78 = .inr (.inl 24) := rfl
theorem ar_78 : isArrD FULL 78 := isArr_of ⟨mem_78, lay_78⟩
theorem mem_79 : 79 ∈ FULL := List.mem_range.mpr (Nat.le_of_ble_eq_true rfl)
theorem lay_79 : LAY 79 = .inr (.inl 24) := rfl
theorem ar_79 : isArrD FULL 79 := isArr_of ⟨mem_79, lay_79⟩
theorem mem_80 : 80 ∈ FULL := List.mem_range.mpr (Nat.le_of_ble_eq_true rfl)
theorem lay_80 : LAY 80 = .inr (.inl 24) := rfl
theorem ar_80 : isArrD FULL 80 := isArr_of ⟨mem_80, lay_80⟩
theorem mem_81 : 81 ∈ FULL := List.mem_range.mpr (Nat.le_of_ble_eq_true rfl)
theorem lay_81 : LAY 81 = .inr (.inl 12) := rfl
theorem ar_81 : isArrD FULL 81 := isArr_of ⟨mem_81, lay_81⟩
theorem mem_82 : 82 ∈ FULL := List.mem_range.mpr (Nat.le_of_ble_eq_true rfl)
theorem lay_82 : LAY 82 = .inr (.inl 12) := rfl
theorem ar_82 : isArrD FULL 82 := isArr_of ⟨mem_82, lay_82⟩
theorem mem_83 : 83 ∈ FULL := List.mem_range.mpr (Nat.le_of_ble_eq_true rfl)
theorem lay_83 : LAY 83 = .inr (.inl 12) := rfl
theorem ar_83 : isArrD FULL 83 := isArr_of ⟨mem_83, lay_83⟩
theorem mem_84 : 84 ∈ FULL := List.mem_range.mpr (Nat.le_of_ble_eq_true rfl)
theorem lay_84 : LAY 84 = .inr (.inl 1400) := rfl
theorem ar_84 : isArrD FULL 84 := isArr_of ⟨mem_84, lay_84⟩
theorem mem_85 : 85 ∈ FULL := List.mem_range.mpr (Nat.le_of_ble_eq_true rfl)
theorem lay_85 : LAY 85 = .inr (.inl 3) := rfl
theorem ar_85 : isArrD FULL 85 := isArr_of ⟨mem_85, lay_85⟩
theorem mem_86 : 86 ∈ FULL := List.mem_range.mpr (Nat.le_of_ble_eq_true rfl)
theorem lay_86 : LAY 86 = .inr (.inl 700) := rfl
theorem ar_86 : isArrD FULL 86 := isArr_of ⟨mem_86, lay_86⟩
theorem mem_87 : 87 ∈ FULL := List.mem_range.mpr (Nat.le_of_ble_eq_true rfl)
theorem lay_87 : LAY 87 = .inr (.inl 12) := rfl
theorem ar_87 : isArrD FULL 87 := isArr_of ⟨mem_87, lay_87⟩
theorem mem_88 : 88 ∈ FULL := List.mem_range.mpr (Nat.le_of_ble_eq_true rfl)
theorem lay_88 : LAY 88 = .inr (.inl 10) := rfl
theorem ar_88 : isArrD FULL 88 := isArr_of ⟨mem_88, lay_88⟩
theorem mem_89 : 89 ∈ FULL := List.mem_range.mpr (Nat.le_of_ble_eq_true rfl)
theorem lay_89 : LAY 89 = .inr (.inl 3800) := rfl
theorem ar_89 : isArrD FULL 89 := isArr_of ⟨mem_89, lay_89⟩
theorem mem_90 : 90 ∈ FULL := List.mem_range.mpr (Nat.le_of_ble_eq_true rfl)
theorem lay_90 : LAY 90 = .inr (.inl 7) := rfl
theorem ar_90 : isArrD FULL 90 := isArr_of ⟨mem_90, lay_90⟩
theorem mem_91 : 91 ∈ FULL := List.mem_range.mpr (Nat.le_of_ble_eq_true rfl)
theorem lay_91 : LAY 91 = .inr (.inl 64) := rfl
theorem ar_91 : isArrD FULL 91 := isArr_of ⟨mem_91, lay_91⟩
theorem mem_92 : 92 ∈ FULL := List.mem_range.mpr (Nat.le_of_ble_eq_true rfl)
theorem lay_92 : LAY 92 = .inr (.inl 12) := rfl
theorem ar_92 : isArrD FULL 92 := isArr_of ⟨mem_92, lay_92⟩
theorem mem_93 : 93 ∈ FULL := List.mem_range.mpr (Nat.le_of_ble_eq_true rfl)
theorem lay_93 : LAY 93 = .inr (.inl 12) := rfl
theorem ar_93 : isArrD FULL 93 := isArr_of ⟨mem_93, lay_93⟩
theorem mem_94 : 94 ∈ FULL := List.mem_range.mpr (Nat.le_of_ble_eq_true rfl)
theorem lay_94 : LAY 94 = .inr (.inl 12) := rfl
theorem ar_94 : isArrD FULL 94 := isArr_of ⟨mem_94, lay_94⟩
theorem mem_95 : 95 ∈ FULL := List.mem_range.mpr (Nat.le_of_ble_eq_true rfl)
theorem lay_95 : LAY 95 = .inr (.inl 380) := rfl
theorem ar_95 : isArrD FULL 95 := isArr_of ⟨mem_95, lay_95⟩
theorem mem_96 : 96 ∈ FULL := List.mem_range.mpr (Nat.le_of_ble_eq_true rfl)
theorem lay_96 : LAY 96 = .inr (.inl 3) := rfl
theorem ar_96 : isArrD FULL 96 := isArr_of ⟨mem_96, lay_96⟩
theorem mem_97 : 97 ∈ FULL := List.mem_range.mpr (Nat.le_of_ble_eq_true rfl)
theorem lay_97 : LAY 97 = .inr (.inl 3) := rfl
theorem ar_97 : isArrD FULL 97 := isArr_of ⟨mem_97, lay_97⟩
theorem mem_98 : 98 ∈ FULL := List.mem_range.mpr (Nat.le_of_ble_eq_true rfl)
theorem lay_98 : LAY 98 = .inr (.inl 12) := rfl
theorem ar_98 : isArrD FULL 98 := isArr_of ⟨mem_98, lay_98⟩
theorem mem_99 : 99 ∈ FULL := List.mem_range.mpr (Nat.le_of_ble_eq_true rfl)
theorem lay_99 : LAY 99 = .inr (.inl 12) := rfl
theorem ar_99 : isArrD FULL 99 := isArr_of ⟨mem_99, lay_99⟩
theorem mem_100 : 100 ∈ FULL := List.mem_range.mpr (Nat.le_of_ble_eq_true rfl)
theorem lay_100 : LAY 100 = .inr (.inl 7) := rfl
theorem ar_100 : isArrD FULL 100 := isArr_of ⟨mem_100, lay_100⟩
theorem mem_101 : 101 ∈ FULL := List.mem_range.mpr (Nat.le_of_ble_eq_true rfl)
theorem lay_101 : LAY 101 = .inr (.inl 7) := rfl
theorem ar_101 : isArrD FULL 101 := isArr_of ⟨mem_101, lay_101⟩
theorem mem_102 : 102 ∈ FULL := List.mem_range.mpr (Nat.le_of_ble_eq_true rfl)
theorem lay_102 : LAY 102 = .inr (.inl 4) := rfl
theorem ar_102 : isArrD FULL 102 := isArr_of ⟨mem_102, lay_102⟩
theorem mem_103 : 103 ∈ FULL := List.mem_range.mpr (Nat.le_of_ble_eq_true rfl)
theorem lay_103 : LAY 103 = .inr (.inl 4) := rfl
theorem ar_103 : isArrD FULL 103 := isArr_of ⟨mem_103, lay_103⟩
theorem mem_104 : 104 ∈ FULL := List.mem_range.mpr (Nat.le_of_ble_eq_true rfl)
theorem lay_104 : LAY 104 = .inr (.inl 12) := rfl
theorem ar_104 : isArrD FULL 104 := isArr_of ⟨mem_104, lay_104⟩
theorem mem_105 : 105 ∈ FULL := List.mem_range.mpr (Nat.le_of_ble_eq_true rfl)
theorem lay_105 : LAY 105 = .inr (.inl 95) := rfl
theorem ar_105 : isArrD FULL 105 := isArr_of ⟨mem_105, lay_105⟩
theorem mem_106 : 106 ∈ FULL := List.mem_range.mpr (Nat.le_of_ble_eq_true rfl)
theorem lay_106 : LAY 106 = .inr (.inl 95) := rfl
theorem ar_106 : isArrD FULL 106 := isArr_of ⟨mem_106, lay_106⟩
theorem mem_107 : 107 ∈ FULL := List.mem_range.mpr (Nat.le_of_ble_eq_true rfl)
theorem lay_107 : LAY 107 = .inr (.inl 3800) := rfl
theorem ar_107 : isArrD FULL 107 := isArr_of ⟨mem_107, lay_107⟩
theorem mem_108 : 108 ∈ FULL := List.mem_range.mpr (Nat.le_of_ble_eq_true rfl)
theorem lay_108 : LAY 108 = .inr (.inl 4) := rfl
theorem ar_108 : isArrD FULL 108 := isArr_of ⟨mem_108, lay_108⟩
theorem mem_109 : 109 ∈ FULL := List.mem_range.mpr (Nat.le_of_ble_eq_true rfl)
theorem lay_109 : LAY 109 = .inr (.inl 4) := rfl
theorem ar_109 : isArrD FULL 109 := isArr_of ⟨mem_109, lay_109⟩
theorem mem_110 : 110 ∈ FULL := List.mem_range.mpr (Nat.le_of_ble_eq_true rfl)
theorem lay_110 : LAY 110 = .inr (.inl 3) := rfl
theorem ar_110 : isArrD FULL 110 := isArr_of ⟨mem_110, lay_110⟩
theorem mem_111 : 111 ∈ FULL := List.mem_range.mpr (Nat.le_of_ble_eq_true rfl)
theorem lay_111 : LAY 111 = .inr (.inr (.inr 1)) := rfl
def isWd (w : Nat) : Prop := (w ∈ FULL ∧ LAY w = .inl (10, [some (w + 1)])) ∧ isA (w + 1) 94
theorem is_14 : isWd 14 := ⟨⟨mem_14, lay_14⟩, ⟨mem_15, lay_15⟩⟩
theorem is_33 : isWd 33 := ⟨⟨mem_33, lay_33⟩, ⟨mem_34, lay_34⟩⟩
theorem is_40 : isWd 40 := ⟨⟨mem_40, lay_40⟩, ⟨mem_41, lay_41⟩⟩
theorem is_46 : isWd 46 := ⟨⟨mem_46, lay_46⟩, ⟨mem_47, lay_47⟩⟩
theorem is_52 : isWd 52 := ⟨⟨mem_52, lay_52⟩, ⟨mem_53, lay_53⟩⟩
def isLaw (w : Nat) : Prop := (w ∈ FULL ∧ LAY w = .inl (5, [some (w + 1), some (w + 2), none, none])) ∧ isA (w + 1) 700 ∧ isA (w + 2) 64
theorem is_11 : isLaw 11 := ⟨⟨mem_11, lay_11⟩, ⟨mem_12, lay_12⟩, ⟨mem_13, lay_13⟩⟩
theorem is_29 : isLaw 29 := ⟨⟨mem_29, lay_29⟩, ⟨mem_30, lay_30⟩, ⟨mem_31, lay_31⟩⟩
def isLand (w : Nat) : Prop := (w ∈ FULL ∧ LAY w = .inl (4, [none, some (w + 1), some (w + 2), some (w + 3), none, some (w + 4), none, some (w + 5), some (w + 6), some (w + 7), none, some (w + 8)])) ∧ isA (w + 1) 12 ∧ isA (w + 2) 12 ∧ isA (w + 3) 12 ∧ isA (w + 4) 144 ∧ isA (w + 5) 6 ∧ isA (w + 6) 6 ∧ isA (w + 7) 6 ∧ isLaw (w + 8)
theorem is_3 : isLand 3 := ⟨⟨mem_3, lay_3⟩, ⟨mem_4, lay_4⟩, ⟨mem_5, lay_5⟩, ⟨mem_6, lay_6⟩, ⟨mem_7, lay_7⟩, ⟨mem_8, lay_8⟩, ⟨mem_9, lay_9⟩, ⟨mem_10, lay_10⟩, is_11⟩
theorem is_21 : isLand 21 := ⟨⟨mem_21, lay_21⟩, ⟨mem_22, lay_22⟩, ⟨mem_23, lay_23⟩, ⟨mem_24, lay_24⟩, ⟨mem_25, lay_25⟩, ⟨mem_26, lay_26⟩, ⟨mem_27, lay_27⟩, ⟨mem_28, lay_28⟩, is_29⟩
def isStory (w : Nat) : Prop := (w ∈ FULL ∧ LAY w = .inl (8, [some (w + 1), some (w + 3), none, none, some (w + 4), some (w + 5), none, some (w + 6)])) ∧ isWd (w + 1) ∧ isA (w + 3) 3760 ∧ isA (w + 4) 4 ∧ isA (w + 5) 4 ∧ isA (w + 6) 3
theorem is_32 : isStory 32 := ⟨⟨mem_32, lay_32⟩, is_33, ⟨mem_35, lay_35⟩, ⟨mem_36, lay_36⟩, ⟨mem_37, lay_37⟩, ⟨mem_38, lay_38⟩⟩
theorem is_39 : isStory 39 := ⟨⟨mem_39, lay_39⟩, is_40, ⟨mem_42, lay_42⟩, ⟨mem_43, lay_43⟩, ⟨mem_44, lay_44⟩, ⟨mem_45, lay_45⟩⟩
theorem bi_10 : (Int8.ofInt (10)).toInt32 = (10 : Int32) := by decide
theorem bi_100 : (Int8.ofInt (100)).toInt32 = (100 : Int32) := by decide
theorem bi_11 : (Int8.ofInt (11)).toInt32 = (11 : Int32) := by decide
theorem bi_12 : (Int8.ofInt (12)).toInt32 = (12 : Int32) := by decide
theorem bi_122 : (Int8.ofInt (122)).toInt32 = (122 : Int32) := by decide
theorem bi_16 : (Int8.ofInt (16)).toInt32 = (16 : Int32) := by decide
theorem bi_20 : (Int8.ofInt (20)).toInt32 = (20 : Int32) := by decide
theorem bi_24 : (Int8.ofInt (24)).toInt32 = (24 : Int32) := by decide
theorem bi_32 : (Int8.ofInt (32)).toInt32 = (32 : Int32) := by decide
theorem bi_40 : (Int8.ofInt (40)).toInt32 = (40 : Int32) := by decide
theorem bi_41 : (Int8.ofInt (41)).toInt32 = (41 : Int32) := by decide
theorem bi_42 : (Int8.ofInt (42)).toInt32 = (42 : Int32) := by decide
theorem bi_43 : (Int8.ofInt (43)).toInt32 = (43 : Int32) := by decide
theorem bi_45 : (Int8.ofInt (45)).toInt32 = (45 : Int32) := by decide
theorem bi_47 : (Int8.ofInt (47)).toInt32 = (47 : Int32) := by decide
theorem bi_48 : (Int8.ofInt (48)).toInt32 = (48 : Int32) := by decide
theorem bi_57 : (Int8.ofInt (57)).toInt32 = (57 : Int32) := by decide
theorem bi_59 : (Int8.ofInt (59)).toInt32 = (59 : Int32) := by decide
theorem bi_6 : (Int8.ofInt (6)).toInt32 = (6 : Int32) := by decide
theorem bi_60 : (Int8.ofInt (60)).toInt32 = (60 : Int32) := by decide
theorem bi_61 : (Int8.ofInt (61)).toInt32 = (61 : Int32) := by decide
theorem bi_7 : (Int8.ofInt (7)).toInt32 = (7 : Int32) := by decide
theorem bi_72 : (Int8.ofInt (72)).toInt32 = (72 : Int32) := by decide
theorem bi_8 : (Int8.ofInt (8)).toInt32 = (8 : Int32) := by decide
theorem bi_84 : (Int8.ofInt (84)).toInt32 = (84 : Int32) := by decide
theorem bi_9 : (Int8.ofInt (9)).toInt32 = (9 : Int32) := by decide
theorem bi_94 : (Int8.ofInt (94)).toInt32 = (94 : Int32) := by decide
theorem bi_95 : (Int8.ofInt (95)).toInt32 = (95 : Int32) := by decide
theorem bi_97 : (Int8.ofInt (97)).toInt32 = (97 : Int32) := by decide
theorem bi_99 : (Int8.ofInt (99)).toInt32 = (99 : Int32) := by decide
theorem bi_m11 : (Int8.ofInt (-11)).toInt32 = (-11 : Int32) := by decide
theorem bi_m12 : (Int8.ofInt (-12)).toInt32 = (-12 : Int32) := by decide
theorem bi_m13 : (Int8.ofInt (-13)).toInt32 = (-13 : Int32) := by decide
theorem bi_m14 : (Int8.ofInt (-14)).toInt32 = (-14 : Int32) := by decide
theorem bi_m15 : (Int8.ofInt (-15)).toInt32 = (-15 : Int32) := by decide
theorem bi_m16 : (Int8.ofInt (-16)).toInt32 = (-16 : Int32) := by decide
theorem bi_m17 : (Int8.ofInt (-17)).toInt32 = (-17 : Int32) := by decide
theorem bi_m18 : (Int8.ofInt (-18)).toInt32 = (-18 : Int32) := by decide
theorem bi_m19 : (Int8.ofInt (-19)).toInt32 = (-19 : Int32) := by decide
theorem bi_m2 : (Int8.ofInt (-2)).toInt32 = (-2 : Int32) := by decide
theorem bi_m20 : (Int8.ofInt (-20)).toInt32 = (-20 : Int32) := by decide
theorem bi_m21 : (Int8.ofInt (-21)).toInt32 = (-21 : Int32) := by decide
theorem bi_m22 : (Int8.ofInt (-22)).toInt32 = (-22 : Int32) := by decide
theorem bi_m23 : (Int8.ofInt (-23)).toInt32 = (-23 : Int32) := by decide
theorem bi_m24 : (Int8.ofInt (-24)).toInt32 = (-24 : Int32) := by decide
theorem bi_m25 : (Int8.ofInt (-25)).toInt32 = (-25 : Int32) := by decide
theorem bi_m26 : (Int8.ofInt (-26)).toInt32 = (-26 : Int32) := by decide
theorem bi_m27 : (Int8.ofInt (-27)).toInt32 = (-27 : Int32) := by decide
theorem bi_m28 : (Int8.ofInt (-28)).toInt32 = (-28 : Int32) := by decide
theorem bi_m3 : (Int8.ofInt (-3)).toInt32 = (-3 : Int32) := by decide
theorem bi_m4 : (Int8.ofInt (-4)).toInt32 = (-4 : Int32) := by decide
theorem bi_m5 : (Int8.ofInt (-5)).toInt32 = (-5 : Int32) := by decide
theorem bi_m6 : (Int8.ofInt (-6)).toInt32 = (-6 : Int32) := by decide
theorem bi_m7 : (Int8.ofInt (-7)).toInt32 = (-7 : Int32) := by decide
theorem ic_0 : Int32.ofInt (0) = (0 : Int32) := by decide
theorem ic_1 : Int32.ofInt (1) = (1 : Int32) := by decide
theorem ic_2 : Int32.ofInt (2) = (2 : Int32) := by decide
theorem ic_3 : Int32.ofInt (3) = (3 : Int32) := by decide
theorem ic_4 : Int32.ofInt (4) = (4 : Int32) := by decide
theorem ic_5 : Int32.ofInt (5) = (5 : Int32) := by decide
theorem ic_m1 : Int32.ofInt (-1) = (-1 : Int32) := by decide
theorem inc_1 (v : Int32) : v + Int32.ofInt (1) = v + (1 : Int32) := by rw [show Int32.ofInt (1) = (1 : Int32) from by decide]
theorem inc_12 (v : Int32) : v + Int32.ofInt (12) = v + (12 : Int32) := by rw [show Int32.ofInt (12) = (12 : Int32) from by decide]
theorem inc_24 (v : Int32) : v + Int32.ofInt (24) = v + (24 : Int32) := by rw [show Int32.ofInt (24) = (24 : Int32) from by decide]
theorem inc_48 (v : Int32) : v + Int32.ofInt (48) = v + (48 : Int32) := by rw [show Int32.ofInt (48) = (48 : Int32) from by decide]
theorem inc_m1 (v : Int32) : v + Int32.ofInt (-1) = v + (-1 : Int32) := by rw [show Int32.ofInt (-1) = (-1 : Int32) from by decide]
theorem inc_m8 (v : Int32) : v + Int32.ofInt (-8) = v + (-8 : Int32) := by rw [show Int32.ofInt (-8) = (-8 : Int32) from by decide]
theorem si_12345 : (Int16.ofInt (12345)).toInt32 = (12345 : Int32) := by decide
theorem si_144 : (Int16.ofInt (144)).toInt32 = (144 : Int32) := by decide
theorem si_200 : (Int16.ofInt (200)).toInt32 = (200 : Int32) := by decide
theorem si_255 : (Int16.ofInt (255)).toInt32 = (255 : Int32) := by decide
theorem si_300 : (Int16.ofInt (300)).toInt32 = (300 : Int32) := by decide
theorem si_301 : (Int16.ofInt (301)).toInt32 = (301 : Int32) := by decide
theorem si_302 : (Int16.ofInt (302)).toInt32 = (302 : Int32) := by decide
theorem si_303 : (Int16.ofInt (303)).toInt32 = (303 : Int32) := by decide
theorem si_304 : (Int16.ofInt (304)).toInt32 = (304 : Int32) := by decide
theorem si_305 : (Int16.ofInt (305)).toInt32 = (305 : Int32) := by decide
theorem si_306 : (Int16.ofInt (306)).toInt32 = (306 : Int32) := by decide
theorem si_307 : (Int16.ofInt (307)).toInt32 = (307 : Int32) := by decide
theorem si_308 : (Int16.ofInt (308)).toInt32 = (308 : Int32) := by decide
theorem si_309 : (Int16.ofInt (309)).toInt32 = (309 : Int32) := by decide
theorem si_310 : (Int16.ofInt (310)).toInt32 = (310 : Int32) := by decide
theorem si_311 : (Int16.ofInt (311)).toInt32 = (311 : Int32) := by decide
theorem si_312 : (Int16.ofInt (312)).toInt32 = (312 : Int32) := by decide
theorem si_313 : (Int16.ofInt (313)).toInt32 = (313 : Int32) := by decide
theorem si_314 : (Int16.ofInt (314)).toInt32 = (314 : Int32) := by decide
theorem si_315 : (Int16.ofInt (315)).toInt32 = (315 : Int32) := by decide
theorem si_316 : (Int16.ofInt (316)).toInt32 = (316 : Int32) := by decide
theorem si_32767 : (Int16.ofInt (32767)).toInt32 = (32767 : Int32) := by decide
theorem si_3996 : (Int16.ofInt (3996)).toInt32 = (3996 : Int32) := by decide
theorem si_4095 : (Int16.ofInt (4095)).toInt32 = (4095 : Int32) := by decide
theorem si_700 : (Int16.ofInt (700)).toInt32 = (700 : Int32) := by decide
theorem si_999 : (Int16.ofInt (999)).toInt32 = (999 : Int32) := by decide
theorem si_9999 : (Int16.ofInt (9999)).toInt32 = (9999 : Int32) := by decide
theorem mc_yX11_init : MC yX11_init cX11_init 1 none 0 := ⟨m_29, m_1, Nat.le_of_ble_eq_true rfl, by decide, by decide, by decide +kernel⟩
theorem mc_yX6_init : MC yX6_init cX6_init 1 none 0 := ⟨m_37, m_2, Nat.le_of_ble_eq_true rfl, by decide, by decide, by decide +kernel⟩
theorem mc_yX4_init : MC yX4_init cX4_init 1 none 0 := ⟨m_43, m_3, Nat.le_of_ble_eq_true rfl, by decide, by decide, by decide +kernel⟩
theorem mc_yX5_init : MC yX5_init cX5_init 1 none 0 := ⟨m_49, m_4, Nat.le_of_ble_eq_true rfl, by decide, by decide, by decide +kernel⟩
theorem mc_yX10_init : MC yX10_init cX10_init 1 none 0 := ⟨m_135, m_5, Nat.le_of_ble_eq_true rfl, by decide, by decide, by decide +kernel⟩
theorem mc_yX11_fill : MC yX11_fill cX11_fill 5 none 4 := ⟨m_139, m_1, Nat.le_of_ble_eq_true rfl, by decide, by decide, by decide +kernel⟩
theorem mc_yX11_put : MC yX11_put cX11_put 3 none 3 := ⟨m_142, m_1, Nat.le_of_ble_eq_true rfl, by decide, by decide, by decide +kernel⟩
theorem mc_yX9_init : MC yX9_init cX9_init 1 none 0 := ⟨m_151, m_6, Nat.le_of_ble_eq_true rfl, by decide, by decide, by decide +kernel⟩
theorem mc_yX8_init : MC yX8_init cX8_init 1 none 0 := ⟨m_209, m_7, Nat.le_of_ble_eq_true rfl, by decide, by decide, by decide +kernel⟩
theorem mc_yX2_init : MC yX2_init cX2_init 1 none 0 := ⟨m_252, m_8, Nat.le_of_ble_eq_true rfl, by decide, by decide, by decide +kernel⟩
theorem mc_yX1_init : MC yX1_init cX1_init 1 none 0 := ⟨m_275, m_9, Nat.le_of_ble_eq_true rfl, by decide, by decide, by decide +kernel⟩
theorem mc_yX0_init : MC yX0_init cX0_init 1 none 0 := ⟨m_310, m_10, Nat.le_of_ble_eq_true rfl, by decide, by decide, by decide +kernel⟩
theorem mc_yX7_init : MC yX7_init cX7_init 1 none 0 := ⟨m_337, m_11, Nat.le_of_ble_eq_true rfl, by decide, by decide, by decide +kernel⟩
theorem mc_yX3_init : MC yX3_init cX3_init 1 none 0 := ⟨m_361, m_12, Nat.le_of_ble_eq_true rfl, by decide, by decide, by decide +kernel⟩
theorem mc_yX11_feed : MC yX11_feed cX11_feed 6 (some .int) 5 := ⟨m_431, m_1, Nat.le_of_ble_eq_true rfl, by decide, by decide, by decide +kernel⟩
theorem mc_yX11_append : MC yX11_append cX11_append 3 none 1 := ⟨m_435, m_1, Nat.le_of_ble_eq_true rfl, by decide, by decide, by decide +kernel⟩
theorem mc_yX11_fault : MC yX11_fault cX11_fault 1 (some .int) 0 := ⟨m_439, m_1, Nat.le_of_ble_eq_true rfl, by decide, by decide, by decide +kernel⟩
theorem mc_yX11_days : MC yX11_days cX11_days 2 (some .int) 1 := ⟨m_443, m_1, Nat.le_of_ble_eq_true rfl, by decide, by decide, by decide +kernel⟩
theorem mc_yX11_refusedAct : MC yX11_refusedAct cX11_refusedAct 1 (some .int) 0 := ⟨m_447, m_1, Nat.le_of_ble_eq_true rfl, by decide, by decide, by decide +kernel⟩
theorem mc_yX8_refuse : MC yX8_refuse cX8_refuse 2 none 1 := ⟨m_451, m_7, Nat.le_of_ble_eq_true rfl, by decide, by decide, by decide +kernel⟩
theorem mc_yX11_at : MC yX11_at cX11_at 2 (some .int) 2 := ⟨m_454, m_1, Nat.le_of_ble_eq_true rfl, by decide, by decide, by decide +kernel⟩
theorem mc_yX8_keepAct : MC yX8_keepAct cX8_keepAct 1 none 0 := ⟨m_459, m_7, Nat.le_of_ble_eq_true rfl, by decide, by decide, by decide +kernel⟩
theorem mc_yX10_saveTo : MC yX10_saveTo cX10_saveTo 3 none 2 := ⟨m_463, m_5, Nat.le_of_ble_eq_true rfl, by decide, by decide, by decide +kernel⟩
theorem mc_yX11_copyCells : MC yX11_copyCells cX11_copyCells 5 none 5 := ⟨m_466, m_1, Nat.le_of_ble_eq_true rfl, by decide, by decide, by decide +kernel⟩
theorem mc_yX10_passDays : MC yX10_passDays cX10_passDays 6 none 2 := ⟨m_473, m_5, Nat.le_of_ble_eq_true rfl, by decide, by decide, by decide +kernel⟩
theorem mc_yX10_got : MC yX10_got cX10_got 3 (some .int) 2 := ⟨m_477, m_5, Nat.le_of_ble_eq_true rfl, by decide, by decide, by decide +kernel⟩
theorem mc_yX10_falls : MC yX10_falls cX10_falls 5 (some .int) 2 := ⟨m_482, m_5, Nat.le_of_ble_eq_true rfl, by decide, by decide, by decide +kernel⟩
theorem mc_yX10_noons : MC yX10_noons cX10_noons 2 (some .int) 1 := ⟨m_486, m_5, Nat.le_of_ble_eq_true rfl, by decide, by decide, by decide +kernel⟩
theorem mc_yX10_place : MC yX10_place cX10_place 2 (some .int) 1 := ⟨m_490, m_5, Nat.le_of_ble_eq_true rfl, by decide, by decide, by decide +kernel⟩
theorem mc_yX10_part : MC yX10_part cX10_part 3 (some .int) 2 := ⟨m_494, m_5, Nat.le_of_ble_eq_true rfl, by decide, by decide, by decide +kernel⟩
theorem mc_yX10_manyRipe : MC yX10_manyRipe cX10_manyRipe 4 (some .int) 1 := ⟨m_502, m_5, Nat.le_of_ble_eq_true rfl, by decide, by decide, by decide +kernel⟩
theorem mc_yX10_ripe : MC yX10_ripe cX10_ripe 3 (some .boolean) 2 := ⟨m_506, m_5, Nat.le_of_ble_eq_true rfl, by decide, by decide, by decide +kernel⟩
theorem mc_yX11_undo : MC yX11_undo cX11_undo 1 (some .int) 0 := ⟨m_510, m_1, Nat.le_of_ble_eq_true rfl, by decide, by decide, by decide +kernel⟩
theorem mc_yX8_takeBackAct : MC yX8_takeBackAct cX8_takeBackAct 1 (some .boolean) 0 := ⟨m_514, m_7, Nat.le_of_ble_eq_true rfl, by decide, by decide, by decide +kernel⟩
theorem mc_yX10_loadFrom : MC yX10_loadFrom cX10_loadFrom 3 none 2 := ⟨m_518, m_5, Nat.le_of_ble_eq_true rfl, by decide, by decide, by decide +kernel⟩
theorem mc_yX11_failing : MC yX11_failing cX11_failing 3 (some .int) 0 := ⟨m_522, m_1, Nat.le_of_ble_eq_true rfl, by decide, by decide, by decide +kernel⟩
theorem mc_yX10_alive : MC yX10_alive cX10_alive 2 (some .boolean) 1 := ⟨m_526, m_5, Nat.le_of_ble_eq_true rfl, by decide, by decide, by decide +kernel⟩
theorem mc_yX4_hasWill : MC yX4_hasWill cX4_hasWill 3 (some .boolean) 1 := ⟨m_530, m_3, Nat.le_of_ble_eq_true rfl, by decide, by decide, by decide +kernel⟩
theorem mc_yX4_left : MC yX4_left cX4_left 3 (some .int) 2 := ⟨m_534, m_3, Nat.le_of_ble_eq_true rfl, by decide, by decide, by decide +kernel⟩
theorem mc_yX11_hasWillToAlive : MC yX11_hasWillToAlive cX11_hasWillToAlive 3 (some .boolean) 1 := ⟨m_539, m_1, Nat.le_of_ble_eq_true rfl, by decide, by decide, by decide +kernel⟩
theorem mc_yX11_arrange : MC yX11_arrange cX11_arrange 1 (some .int) 0 := ⟨m_544, m_1, Nat.le_of_ble_eq_true rfl, by decide, by decide, by decide +kernel⟩
theorem mc_yX10_manyAlive : MC yX10_manyAlive cX10_manyAlive 3 (some .int) 0 := ⟨m_548, m_5, Nat.le_of_ble_eq_true rfl, by decide, by decide, by decide +kernel⟩
theorem mc_yX0_search : MC yX0_search cX0_search 4 (some .int) 2 := ⟨m_553, m_10, Nat.le_of_ble_eq_true rfl, by decide, by decide, by decide +kernel⟩
theorem mc_yX0_choose : MC yX0_choose cX0_choose 5 none 3 := ⟨m_561, m_10, Nat.le_of_ble_eq_true rfl, by decide, by decide, by decide +kernel⟩
theorem mc_yX0_weigh : MC yX0_weigh cX0_weigh 4 none 1 := ⟨m_565, m_10, Nat.le_of_ble_eq_true rfl, by decide, by decide, by decide +kernel⟩
theorem mc_yX11_copyRow : MC yX11_copyRow cX11_copyRow 2 none 2 := ⟨m_568, m_1, Nat.le_of_ble_eq_true rfl, by decide, by decide, by decide +kernel⟩
theorem mc_yX0_add : MC yX0_add cX0_add 4 none 3 := ⟨m_574, m_10, Nat.le_of_ble_eq_true rfl, by decide, by decide, by decide +kernel⟩
theorem mc_yX11_seatings : MC yX11_seatings cX11_seatings 2 (some .int) 0 := ⟨m_578, m_1, Nat.le_of_ble_eq_true rfl, by decide, by decide, by decide +kernel⟩
theorem mc_yX7_search : MC yX7_search cX7_search 4 (some .int) 2 := ⟨m_582, m_11, Nat.le_of_ble_eq_true rfl, by decide, by decide, by decide +kernel⟩
theorem mc_yX7_fillFrom : MC yX7_fillFrom cX7_fillFrom 8 none 4 := ⟨m_589, m_11, Nat.le_of_ble_eq_true rfl, by decide, by decide, by decide +kernel⟩
theorem mc_yX7_isFront : MC yX7_isFront cX7_isFront 4 (some .boolean) 4 := ⟨m_593, m_11, Nat.le_of_ble_eq_true rfl, by decide, by decide, by decide +kernel⟩
theorem mc_yX10_apart : MC yX10_apart cX10_apart 5 (some .int) 2 := ⟨m_597, m_5, Nat.le_of_ble_eq_true rfl, by decide, by decide, by decide +kernel⟩
theorem mc_yX7_countRow : MC yX7_countRow cX7_countRow 1 none 0 := ⟨m_604, m_11, Nat.le_of_ble_eq_true rfl, by decide, by decide, by decide +kernel⟩
theorem mc_yX11_forget : MC yX11_forget cX11_forget 1 (some .int) 0 := ⟨m_609, m_1, Nat.le_of_ble_eq_true rfl, by decide, by decide, by decide +kernel⟩
theorem mc_yX11_image : MC yX11_image cX11_image 1 none 0 := ⟨m_613, m_1, Nat.le_of_ble_eq_true rfl, by decide, by decide, by decide +kernel⟩
theorem mc_yX8_copyFrom : MC yX8_copyFrom cX8_copyFrom 2 none 1 := ⟨m_617, m_7, Nat.le_of_ble_eq_true rfl, by decide, by decide, by decide +kernel⟩
theorem mc_yX10_copyFrom : MC yX10_copyFrom cX10_copyFrom 2 none 1 := ⟨m_621, m_5, Nat.le_of_ble_eq_true rfl, by decide, by decide, by decide +kernel⟩
theorem mc_yX11_restore : MC yX11_restore cX11_restore 1 (some .boolean) 0 := ⟨m_627, m_1, Nat.le_of_ble_eq_true rfl, by decide, by decide, by decide +kernel⟩
theorem mc_yX11_land : MC yX11_land cX11_land 3 (some .int) 1 := ⟨m_635, m_1, Nat.le_of_ble_eq_true rfl, by decide, by decide, by decide +kernel⟩
theorem mc_yX6_read : MC yX6_read cX6_read 4 (some .int) 2 := ⟨m_701, m_2, Nat.le_of_ble_eq_true rfl, by decide, by decide, by decide +kernel⟩
theorem mc_yX9_cut : MC yX9_cut cX9_cut 7 none 2 := ⟨m_705, m_6, Nat.le_of_ble_eq_true rfl, by decide, by decide, by decide +kernel⟩
theorem mc_yX9_kindOf : MC yX9_kindOf cX9_kindOf 1 (some .int) 1 := ⟨m_709, m_6, Nat.le_of_ble_eq_true rfl, by decide, by decide, by decide +kernel⟩
theorem mc_yX9_add : MC yX9_add cX9_add 3 none 2 := ⟨m_714, m_6, Nat.le_of_ble_eq_true rfl, by decide, by decide, by decide +kernel⟩
theorem mc_yX9_tell : MC yX9_tell cX9_tell 3 none 2 := ⟨m_718, m_6, Nat.le_of_ble_eq_true rfl, by decide, by decide, by decide +kernel⟩
theorem mc_yX9_valueAt : MC yX9_valueAt cX9_valueAt 5 (some .int) 3 := ⟨m_721, m_6, Nat.le_of_ble_eq_true rfl, by decide, by decide, by decide +kernel⟩
theorem mc_yX9_wordAt : MC yX9_wordAt cX9_wordAt 4 (some .int) 3 := ⟨m_724, m_6, Nat.le_of_ble_eq_true rfl, by decide, by decide, by decide +kernel⟩
theorem mc_yX9_lineWordAt : MC yX9_lineWordAt cX9_lineWordAt 3 (some .int) 3 := ⟨m_727, m_6, Nat.le_of_ble_eq_true rfl, by decide, by decide, by decide +kernel⟩
theorem mc_yX9_spells : MC yX9_spells cX9_spells 5 (some .boolean) 4 := ⟨m_731, m_6, Nat.le_of_ble_eq_true rfl, by decide, by decide, by decide +kernel⟩
theorem mc_yX4_clear : MC yX4_clear cX4_clear 1 none 0 := ⟨m_798, m_3, Nat.le_of_ble_eq_true rfl, by decide, by decide, by decide +kernel⟩
theorem mc_yX5_clear : MC yX5_clear cX5_clear 1 none 0 := ⟨m_803, m_4, Nat.le_of_ble_eq_true rfl, by decide, by decide, by decide +kernel⟩
theorem mc_yX10_clear : MC yX10_clear cX10_clear 1 none 0 := ⟨m_807, m_5, Nat.le_of_ble_eq_true rfl, by decide, by decide, by decide +kernel⟩
theorem mc_yX6_advance : MC yX6_advance cX6_advance 1 none 0 := ⟨m_811, m_2, Nat.le_of_ble_eq_true rfl, by decide, by decide, by decide +kernel⟩
theorem mc_yX6_readLine : MC yX6_readLine cX6_readLine 1 none 0 := ⟨m_816, m_2, Nat.le_of_ble_eq_true rfl, by decide, by decide, by decide +kernel⟩
theorem mc_yX6_readPerson : MC yX6_readPerson cX6_readPerson 7 none 1 := ⟨m_820, m_2, Nat.le_of_ble_eq_true rfl, by decide, by decide, by decide +kernel⟩
theorem mc_yX6_takeFirst : MC yX6_takeFirst cX6_takeFirst 3 none 2 := ⟨m_824, m_2, Nat.le_of_ble_eq_true rfl, by decide, by decide, by decide +kernel⟩
theorem mc_yX6_refuse : MC yX6_refuse cX6_refuse 2 none 1 := ⟨m_828, m_2, Nat.le_of_ble_eq_true rfl, by decide, by decide, by decide +kernel⟩
theorem mc_yX6_takePerson : MC yX6_takePerson cX6_takePerson 3 (some .int) 1 := ⟨m_832, m_2, Nat.le_of_ble_eq_true rfl, by decide, by decide, by decide +kernel⟩
theorem mc_yX6_lookPerson : MC yX6_lookPerson cX6_lookPerson 3 (some .int) 1 := ⟨m_836, m_2, Nat.le_of_ble_eq_true rfl, by decide, by decide, by decide +kernel⟩
theorem mc_yX6_lookNumber : MC yX6_lookNumber cX6_lookNumber 3 (some .int) 2 := ⟨m_840, m_2, Nat.le_of_ble_eq_true rfl, by decide, by decide, by decide +kernel⟩
theorem mc_yX6_takeNumber : MC yX6_takeNumber cX6_takeNumber 4 (some .int) 2 := ⟨m_844, m_2, Nat.le_of_ble_eq_true rfl, by decide, by decide, by decide +kernel⟩
theorem mc_yX10_setPart : MC yX10_setPart cX10_setPart 4 none 3 := ⟨m_848, m_5, Nat.le_of_ble_eq_true rfl, by decide, by decide, by decide +kernel⟩
theorem mc_yX10_setPlace : MC yX10_setPlace cX10_setPlace 3 none 2 := ⟨m_852, m_5, Nat.le_of_ble_eq_true rfl, by decide, by decide, by decide +kernel⟩
theorem mc_yX4_addPerson : MC yX4_addPerson cX4_addPerson 4 none 3 := ⟨m_856, m_3, Nat.le_of_ble_eq_true rfl, by decide, by decide, by decide +kernel⟩
theorem mc_yX6_readWed : MC yX6_readWed cX6_readWed 3 none 0 := ⟨m_861, m_2, Nat.le_of_ble_eq_true rfl, by decide, by decide, by decide +kernel⟩
theorem mc_yX6_takeSpouse : MC yX6_takeSpouse cX6_takeSpouse 3 (some .int) 1 := ⟨m_865, m_2, Nat.le_of_ble_eq_true rfl, by decide, by decide, by decide +kernel⟩
theorem mc_yX10_spouse : MC yX10_spouse cX10_spouse 2 (some .int) 1 := ⟨m_869, m_5, Nat.le_of_ble_eq_true rfl, by decide, by decide, by decide +kernel⟩
theorem mc_yX10_join : MC yX10_join cX10_join 3 none 2 := ⟨m_873, m_5, Nat.le_of_ble_eq_true rfl, by decide, by decide, by decide +kernel⟩
theorem mc_yX10_setSpouse : MC yX10_setSpouse cX10_setSpouse 3 none 2 := ⟨m_877, m_5, Nat.le_of_ble_eq_true rfl, by decide, by decide, by decide +kernel⟩
theorem mc_yX6_readWill : MC yX6_readWill cX6_readWill 4 none 0 := ⟨m_881, m_2, Nat.le_of_ble_eq_true rfl, by decide, by decide, by decide +kernel⟩
theorem mc_yX4_addWill : MC yX4_addWill cX4_addWill 4 none 3 := ⟨m_886, m_3, Nat.le_of_ble_eq_true rfl, by decide, by decide, by decide +kernel⟩
theorem mc_yX6_readField : MC yX6_readField cX6_readField 4 none 0 := ⟨m_890, m_2, Nat.le_of_ble_eq_true rfl, by decide, by decide, by decide +kernel⟩
theorem mc_yX4_hasFieldAt : MC yX4_hasFieldAt cX4_hasFieldAt 3 (some .boolean) 1 := ⟨m_894, m_3, Nat.le_of_ble_eq_true rfl, by decide, by decide, by decide +kernel⟩
theorem mc_yX4_addField : MC yX4_addField cX4_addField 4 none 3 := ⟨m_898, m_3, Nat.le_of_ble_eq_true rfl, by decide, by decide, by decide +kernel⟩
theorem mc_yX6_readFront : MC yX6_readFront cX6_readFront 2 none 0 := ⟨m_902, m_2, Nat.le_of_ble_eq_true rfl, by decide, by decide, by decide +kernel⟩
theorem mc_yX6_readLaw : MC yX6_readLaw cX6_readLaw 1 none 0 := ⟨m_906, m_2, Nat.le_of_ble_eq_true rfl, by decide, by decide, by decide +kernel⟩
theorem mc_yX6_readExpr : MC yX6_readExpr cX6_readExpr 4 none 1 := ⟨m_910, m_2, Nat.le_of_ble_eq_true rfl, by decide, by decide, by decide +kernel⟩
theorem mc_yX6_readAnd : MC yX6_readAnd cX6_readAnd 3 none 1 := ⟨m_914, m_2, Nat.le_of_ble_eq_true rfl, by decide, by decide, by decide +kernel⟩
theorem mc_yX6_readNot : MC yX6_readNot cX6_readNot 4 none 1 := ⟨m_918, m_2, Nat.le_of_ble_eq_true rfl, by decide, by decide, by decide +kernel⟩
theorem mc_yX6_readTest : MC yX6_readTest cX6_readTest 3 none 1 := ⟨m_922, m_2, Nat.le_of_ble_eq_true rfl, by decide, by decide, by decide +kernel⟩
theorem mc_yX6_readSum : MC yX6_readSum cX6_readSum 4 none 1 := ⟨m_926, m_2, Nat.le_of_ble_eq_true rfl, by decide, by decide, by decide +kernel⟩
theorem mc_yX6_readProduct : MC yX6_readProduct cX6_readProduct 4 none 1 := ⟨m_930, m_2, Nat.le_of_ble_eq_true rfl, by decide, by decide, by decide +kernel⟩
theorem mc_yX6_readPart : MC yX6_readPart cX6_readPart 2 none 1 := ⟨m_934, m_2, Nat.le_of_ble_eq_true rfl, by decide, by decide, by decide +kernel⟩
theorem mc_yX6_take : MC yX6_take cX6_take 2 none 1 := ⟨m_938, m_2, Nat.le_of_ble_eq_true rfl, by decide, by decide, by decide +kernel⟩
theorem mc_yX6_readValue : MC yX6_readValue cX6_readValue 2 none 0 := ⟨m_942, m_2, Nat.le_of_ble_eq_true rfl, by decide, by decide, by decide +kernel⟩
theorem mc_yX6_valueStep : MC yX6_valueStep cX6_valueStep 1 (some .int) 1 := ⟨m_945, m_2, Nat.le_of_ble_eq_true rfl, by decide, by decide, by decide +kernel⟩
theorem mc_yX5_add : MC yX5_add cX5_add 2 none 1 := ⟨m_949, m_4, Nat.le_of_ble_eq_true rfl, by decide, by decide, by decide +kernel⟩
theorem mc_yX4_copyFrom : MC yX4_copyFrom cX4_copyFrom 2 none 1 := ⟨m_954, m_3, Nat.le_of_ble_eq_true rfl, by decide, by decide, by decide +kernel⟩
theorem mc_yX5_copyFrom : MC yX5_copyFrom cX5_copyFrom 2 none 1 := ⟨m_959, m_4, Nat.le_of_ble_eq_true rfl, by decide, by decide, by decide +kernel⟩
theorem mc_yX8_begin : MC yX8_begin cX8_begin 2 none 1 := ⟨m_964, m_7, Nat.le_of_ble_eq_true rfl, by decide, by decide, by decide +kernel⟩
theorem mc_yX1_forgetRow : MC yX1_forgetRow cX1_forgetRow 1 none 0 := ⟨m_968, m_9, Nat.le_of_ble_eq_true rfl, by decide, by decide, by decide +kernel⟩
theorem mc_yX0_forgetRow : MC yX0_forgetRow cX0_forgetRow 1 none 0 := ⟨m_972, m_10, Nat.le_of_ble_eq_true rfl, by decide, by decide, by decide +kernel⟩
theorem mc_yX7_forgetRow : MC yX7_forgetRow cX7_forgetRow 1 none 0 := ⟨m_976, m_11, Nat.le_of_ble_eq_true rfl, by decide, by decide, by decide +kernel⟩
theorem mc_yX11_count : MC yX11_count cX11_count 2 (some .int) 1 := ⟨m_985, m_1, Nat.le_of_ble_eq_true rfl, by decide, by decide, by decide +kernel⟩
theorem mc_yX10_allNoons : MC yX10_allNoons cX10_allNoons 3 (some .int) 0 := ⟨m_989, m_5, Nat.le_of_ble_eq_true rfl, by decide, by decide, by decide +kernel⟩
theorem mc_yX11_person : MC yX11_person cX11_person 3 (some .int) 2 := ⟨m_1012, m_1, Nat.le_of_ble_eq_true rfl, by decide, by decide, by decide +kernel⟩
theorem mc_yX11_needPerson : MC yX11_needPerson cX11_needPerson 2 none 1 := ⟨m_1016, m_1, Nat.le_of_ble_eq_true rfl, by decide, by decide, by decide +kernel⟩
theorem mc_yX4_manyParents : MC yX4_manyParents cX4_manyParents 4 (some .int) 1 := ⟨m_1021, m_3, Nat.le_of_ble_eq_true rfl, by decide, by decide, by decide +kernel⟩
theorem mc_yX11_sky : MC yX11_sky cX11_sky 3 (some .int) 2 := ⟨m_1029, m_1, Nat.le_of_ble_eq_true rfl, by decide, by decide, by decide +kernel⟩
theorem mc_yX11_needPart : MC yX11_needPart cX11_needPart 1 none 1 := ⟨m_1032, m_1, Nat.le_of_ble_eq_true rfl, by decide, by decide, by decide +kernel⟩
theorem mc_yX11_weather : MC yX11_weather cX11_weather 3 (some .int) 2 := ⟨m_1040, m_1, Nat.le_of_ble_eq_true rfl, by decide, by decide, by decide +kernel⟩
theorem mc_yX11_isPlace : MC yX11_isPlace cX11_isPlace 1 (some .boolean) 1 := ⟨m_1043, m_1, Nat.le_of_ble_eq_true rfl, by decide, by decide, by decide +kernel⟩
theorem mc_yX10_kind : MC yX10_kind cX10_kind 4 (some .int) 1 := ⟨m_1048, m_5, Nat.le_of_ble_eq_true rfl, by decide, by decide, by decide +kernel⟩
theorem mc_yX11_greatest : MC yX11_greatest cX11_greatest 5 (some .int) 4 := ⟨m_1051, m_1, Nat.le_of_ble_eq_true rfl, by decide, by decide, by decide +kernel⟩
theorem mc_yX10_manyThere : MC yX10_manyThere cX10_manyThere 4 (some .int) 1 := ⟨m_1058, m_5, Nat.le_of_ble_eq_true rfl, by decide, by decide, by decide +kernel⟩
theorem mc_yX11_field : MC yX11_field cX11_field 3 (some .int) 2 := ⟨m_1066, m_1, Nat.le_of_ble_eq_true rfl, by decide, by decide, by decide +kernel⟩
theorem mc_yX11_front : MC yX11_front cX11_front 4 (some .int) 2 := ⟨m_1075, m_1, Nat.le_of_ble_eq_true rfl, by decide, by decide, by decide +kernel⟩
theorem mc_yX11_needTwoAlive : MC yX11_needTwoAlive cX11_needTwoAlive 3 none 2 := ⟨m_1079, m_1, Nat.le_of_ble_eq_true rfl, by decide, by decide, by decide +kernel⟩
theorem mc_yX11_kin : MC yX11_kin cX11_kin 5 (some .int) 2 := ⟨m_1087, m_1, Nat.le_of_ble_eq_true rfl, by decide, by decide, by decide +kernel⟩
theorem mc_yX11_stepFurther : MC yX11_stepFurther cX11_stepFurther 4 (some .int) 1 := ⟨m_1091, m_1, Nat.le_of_ble_eq_true rfl, by decide, by decide, by decide +kernel⟩
theorem mc_yX11_nextOfKin : MC yX11_nextOfKin cX11_nextOfKin 4 (some .int) 1 := ⟨m_1095, m_1, Nat.le_of_ble_eq_true rfl, by decide, by decide, by decide +kernel⟩
theorem mc_yX4_isParent : MC yX4_isParent cX4_isParent 3 (some .boolean) 2 := ⟨m_1099, m_3, Nat.le_of_ble_eq_true rfl, by decide, by decide, by decide +kernel⟩
theorem mc_yX11_go : MC yX11_go cX11_go 4 (some .int) 2 := ⟨m_1106, m_1, Nat.le_of_ble_eq_true rfl, by decide, by decide, by decide +kernel⟩
theorem mc_yX11_wed : MC yX11_wed cX11_wed 3 (some .boolean) 2 := ⟨m_1114, m_1, Nat.le_of_ble_eq_true rfl, by decide, by decide, by decide +kernel⟩
theorem mc_yX10_free : MC yX10_free cX10_free 3 (some .boolean) 1 := ⟨m_1118, m_5, Nat.le_of_ble_eq_true rfl, by decide, by decide, by decide +kernel⟩
theorem mc_yX10_leaveSpouse : MC yX10_leaveSpouse cX10_leaveSpouse 3 none 1 := ⟨m_1123, m_5, Nat.le_of_ble_eq_true rfl, by decide, by decide, by decide +kernel⟩
theorem mc_yX11_die : MC yX11_die cX11_die 2 (some .int) 1 := ⟨m_1131, m_1, Nat.le_of_ble_eq_true rfl, by decide, by decide, by decide +kernel⟩
theorem mc_yX11_bury : MC yX11_bury cX11_bury 3 (some .int) 2 := ⟨m_1135, m_1, Nat.le_of_ble_eq_true rfl, by decide, by decide, by decide +kernel⟩
theorem mc_yX2_learn : MC yX2_learn cX2_learn 6 none 3 := ⟨m_1139, m_8, Nat.le_of_ble_eq_true rfl, by decide, by decide, by decide +kernel⟩
theorem mc_yX5_gives : MC yX5_gives cX5_gives 8 (some .int) 4 := ⟨m_1144, m_4, Nat.le_of_ble_eq_true rfl, by decide, by decide, by decide +kernel⟩
theorem mc_yX5_valueOf : MC yX5_valueOf cX5_valueOf 5 (some .int) 5 := ⟨m_1149, m_4, Nat.le_of_ble_eq_true rfl, by decide, by decide, by decide +kernel⟩
theorem mc_yX4_isAdopted : MC yX4_isAdopted cX4_isAdopted 2 (some .boolean) 1 := ⟨m_1153, m_3, Nat.le_of_ble_eq_true rfl, by decide, by decide, by decide +kernel⟩
theorem mc_yX4_areSiblings : MC yX4_areSiblings cX4_areSiblings 5 (some .boolean) 2 := ⟨m_1158, m_3, Nat.le_of_ble_eq_true rfl, by decide, by decide, by decide +kernel⟩
theorem mc_yX4_isOneOf : MC yX4_isOneOf cX4_isOneOf 3 (some .boolean) 3 := ⟨m_1161, m_3, Nat.le_of_ble_eq_true rfl, by decide, by decide, by decide +kernel⟩
theorem mc_yX5_joined : MC yX5_joined cX5_joined 3 (some .int) 3 := ⟨m_1165, m_4, Nat.le_of_ble_eq_true rfl, by decide, by decide, by decide +kernel⟩
theorem mc_yX2_settle : MC yX2_settle cX2_settle 5 none 3 := ⟨m_1172, m_8, Nat.le_of_ble_eq_true rfl, by decide, by decide, by decide +kernel⟩
theorem mc_yX2_begin : MC yX2_begin cX2_begin 1 none 0 := ⟨m_1176, m_8, Nat.le_of_ble_eq_true rfl, by decide, by decide, by decide +kernel⟩
theorem mc_yX2_addShare : MC yX2_addShare cX2_addShare 5 none 3 := ⟨m_1181, m_8, Nat.le_of_ble_eq_true rfl, by decide, by decide, by decide +kernel⟩
theorem mc_yX2_settleByLaw : MC yX2_settleByLaw cX2_settleByLaw 4 none 2 := ⟨m_1185, m_8, Nat.le_of_ble_eq_true rfl, by decide, by decide, by decide +kernel⟩
theorem mc_yX2_handOver : MC yX2_handOver cX2_handOver 4 none 2 := ⟨m_1190, m_8, Nat.le_of_ble_eq_true rfl, by decide, by decide, by decide +kernel⟩
theorem mc_yX2_handOverPart : MC yX2_handOverPart cX2_handOverPart 7 none 3 := ⟨m_1195, m_8, Nat.le_of_ble_eq_true rfl, by decide, by decide, by decide +kernel⟩
theorem mc_yX2_cut : MC yX2_cut cX2_cut 3 (some .int) 2 := ⟨m_1199, m_8, Nat.le_of_ble_eq_true rfl, by decide, by decide, by decide +kernel⟩
theorem mc_yX10_addPart : MC yX10_addPart cX10_addPart 4 none 3 := ⟨m_1203, m_5, Nat.le_of_ble_eq_true rfl, by decide, by decide, by decide +kernel⟩
theorem mc_yX10_addNoon : MC yX10_addNoon cX10_addNoon 2 none 1 := ⟨m_1210, m_5, Nat.le_of_ble_eq_true rfl, by decide, by decide, by decide +kernel⟩
theorem mc_yX11_pawn : MC yX11_pawn cX11_pawn 6 (some .int) 4 := ⟨m_1218, m_1, Nat.le_of_ble_eq_true rfl, by decide, by decide, by decide +kernel⟩
theorem mc_yX11_heir : MC yX11_heir cX11_heir 4 (some .int) 3 := ⟨m_1226, m_1, Nat.le_of_ble_eq_true rfl, by decide, by decide, by decide +kernel⟩
theorem mc_yX2_portion : MC yX2_portion cX2_portion 4 (some .int) 2 := ⟨m_1230, m_8, Nat.le_of_ble_eq_true rfl, by decide, by decide, by decide +kernel⟩
theorem mc_yX2_leftOver : MC yX2_leftOver cX2_leftOver 4 (some .int) 1 := ⟨m_1234, m_8, Nat.le_of_ble_eq_true rfl, by decide, by decide, by decide +kernel⟩
theorem mc_yX11_contested : MC yX11_contested cX11_contested 5 (some .int) 1 := ⟨m_1241, m_1, Nat.le_of_ble_eq_true rfl, by decide, by decide, by decide +kernel⟩
theorem mc_yX2_portions : MC yX2_portions cX2_portions 6 (some .int) 3 := ⟨m_1245, m_8, Nat.le_of_ble_eq_true rfl, by decide, by decide, by decide +kernel⟩
theorem mc_yX11_deaths : MC yX11_deaths cX11_deaths 5 (some .int) 3 := ⟨m_1254, m_1, Nat.le_of_ble_eq_true rfl, by decide, by decide, by decide +kernel⟩
theorem mc_yX1_aim : MC yX1_aim cX1_aim 4 none 3 := ⟨m_1258, m_9, Nat.le_of_ble_eq_true rfl, by decide, by decide, by decide +kernel⟩
theorem mc_yX1_find : MC yX1_find cX1_find 5 (some .int) 3 := ⟨m_1262, m_9, Nat.le_of_ble_eq_true rfl, by decide, by decide, by decide +kernel⟩
theorem mc_yX1_reaches : MC yX1_reaches cX1_reaches 6 (some .boolean) 4 := ⟨m_1267, m_9, Nat.le_of_ble_eq_true rfl, by decide, by decide, by decide +kernel⟩
theorem mc_yX11_death : MC yX11_death cX11_death 2 (some .int) 1 := ⟨m_1282, m_1, Nat.le_of_ble_eq_true rfl, by decide, by decide, by decide +kernel⟩
theorem mc_yX11_post : MC yX11_post cX11_post 2 (some .int) 1 := ⟨m_1289, m_1, Nat.le_of_ble_eq_true rfl, by decide, by decide, by decide +kernel⟩
theorem mc_yX11_seat : MC yX11_seat cX11_seat 2 (some .int) 1 := ⟨m_1296, m_1, Nat.le_of_ble_eq_true rfl, by decide, by decide, by decide +kernel⟩
theorem mc_yX11_see : MC yX11_see cX11_see 3 (some .int) 2 := ⟨m_1303, m_1, Nat.le_of_ble_eq_true rfl, by decide, by decide, by decide +kernel⟩
theorem mc_yX8_addSeen : MC yX8_addSeen cX8_addSeen 3 none 2 := ⟨m_1307, m_7, Nat.le_of_ble_eq_true rfl, by decide, by decide, by decide +kernel⟩
theorem mc_yX11_fits : MC yX11_fits cX11_fits 2 (some .int) 1 := ⟨m_1314, m_1, Nat.le_of_ble_eq_true rfl, by decide, by decide, by decide +kernel⟩
theorem mc_yX3_search : MC yX3_search cX3_search 2 none 1 := ⟨m_1318, m_12, Nat.le_of_ble_eq_true rfl, by decide, by decide, by decide +kernel⟩
theorem mc_yX3_descend : MC yX3_descend cX3_descend 4 none 3 := ⟨m_1324, m_12, Nat.le_of_ble_eq_true rfl, by decide, by decide, by decide +kernel⟩
theorem mc_yX3_countSet : MC yX3_countSet cX3_countSet 4 none 2 := ⟨m_1328, m_12, Nat.le_of_ble_eq_true rfl, by decide, by decide, by decide +kernel⟩
theorem mc_yX3_take : MC yX3_take cX3_take 7 (some .boolean) 3 := ⟨m_1335, m_12, Nat.le_of_ble_eq_true rfl, by decide, by decide, by decide +kernel⟩
theorem mc_yX3_askNext : MC yX3_askNext cX3_askNext 6 (some .int) 1 := ⟨m_1340, m_12, Nat.le_of_ble_eq_true rfl, by decide, by decide, by decide +kernel⟩
theorem mc_yX11_suitors : MC yX11_suitors cX11_suitors 8 (some .int) 3 := ⟨m_1348, m_1, Nat.le_of_ble_eq_true rfl, by decide, by decide, by decide +kernel⟩
theorem mc_yX11_surveyGround : MC yX11_surveyGround cX11_surveyGround 6 none 2 := ⟨m_1352, m_1, Nat.le_of_ble_eq_true rfl, by decide, by decide, by decide +kernel⟩
theorem mc_yX11_contentAt : MC yX11_contentAt cX11_contentAt 5 (some .boolean) 2 := ⟨m_1356, m_1, Nat.le_of_ble_eq_true rfl, by decide, by decide, by decide +kernel⟩
theorem mc_yX11_gainAt : MC yX11_gainAt cX11_gainAt 4 (some .int) 2 := ⟨m_1360, m_1, Nat.le_of_ble_eq_true rfl, by decide, by decide, by decide +kernel⟩
theorem mc_yX11_century : MC yX11_century cX11_century 6 (some .int) 3 := ⟨m_1367, m_1, Nat.le_of_ble_eq_true rfl, by decide, by decide, by decide +kernel⟩
theorem mc_yX11_passFate : MC yX11_passFate cX11_passFate 5 (some .int) 1 := ⟨m_1372, m_1, Nat.le_of_ble_eq_true rfl, by decide, by decide, by decide +kernel⟩
theorem mc_yX11_nextSeed : MC yX11_nextSeed cX11_nextSeed 1 (some .int) 1 := ⟨m_1375, m_1, Nat.le_of_ble_eq_true rfl, by decide, by decide, by decide +kernel⟩
theorem mc_yX11_draw : MC yX11_draw cX11_draw 2 (some .int) 2 := ⟨m_1379, m_1, Nat.le_of_ble_eq_true rfl, by decide, by decide, by decide +kernel⟩
theorem mc_yX12_init : MC yX12_init cX12_init 1 none 0 := ⟨m_1384, m_13, Nat.le_of_ble_eq_true rfl, by decide, by decide, by decide +kernel⟩
theorem mc_yX12_thrown : MC yX12_thrown cX12_thrown 1 (some .int) 0 := ⟨m_1597, m_13, Nat.le_of_ble_eq_true rfl, by decide, by decide, by decide +kernel⟩
theorem mc_yX12_feed : MC yX12_feed cX12_feed 8 (some .int) 5 := ⟨m_1601, m_13, Nat.le_of_ble_eq_true rfl, by decide, by decide, by decide +kernel⟩
theorem mc_yX12_land : MC yX12_land cX12_land 3 (some .int) 1 := ⟨m_1605, m_13, Nat.le_of_ble_eq_true rfl, by decide, by decide, by decide +kernel⟩
theorem mc_yX12_fail : MC yX12_fail cX12_fail 2 (some .int) 1 := ⟨m_1609, m_13, Nat.le_of_ble_eq_true rfl, by decide, by decide, by decide +kernel⟩
theorem mc_yX12_stepOn : MC yX12_stepOn cX12_stepOn 2 none 0 := ⟨m_1613, m_13, Nat.le_of_ble_eq_true rfl, by decide, by decide, by decide +kernel⟩
theorem mc_yX12_byteAt : MC yX12_byteAt cX12_byteAt 2 (some .int) 1 := ⟨m_1617, m_13, Nat.le_of_ble_eq_true rfl, by decide, by decide, by decide +kernel⟩
theorem mc_yX12_isLetter : MC yX12_isLetter cX12_isLetter 1 (some .boolean) 1 := ⟨m_1620, m_13, Nat.le_of_ble_eq_true rfl, by decide, by decide, by decide +kernel⟩
theorem mc_yX12_isDigit : MC yX12_isDigit cX12_isDigit 1 (some .boolean) 1 := ⟨m_1623, m_13, Nat.le_of_ble_eq_true rfl, by decide, by decide, by decide +kernel⟩
theorem mc_yX12_isMark : MC yX12_isMark cX12_isMark 1 (some .boolean) 1 := ⟨m_1628, m_13, Nat.le_of_ble_eq_true rfl, by decide, by decide, by decide +kernel⟩
theorem mc_yX12_readLine : MC yX12_readLine cX12_readLine 4 (some .int) 1 := ⟨m_1632, m_13, Nat.le_of_ble_eq_true rfl, by decide, by decide, by decide +kernel⟩
theorem mc_yX12_is : MC yX12_is cX12_is 4 (some .boolean) 1 := ⟨m_1637, m_13, Nat.le_of_ble_eq_true rfl, by decide, by decide, by decide +kernel⟩
theorem mc_yX12_wrong : MC yX12_wrong cX12_wrong 2 none 1 := ⟨m_1645, m_13, Nat.le_of_ble_eq_true rfl, by decide, by decide, by decide +kernel⟩
theorem mc_yX12_readNumber : MC yX12_readNumber cX12_readNumber 4 (some .int) 2 := ⟨m_1649, m_13, Nat.le_of_ble_eq_true rfl, by decide, by decide, by decide +kernel⟩
theorem mc_yX12_numberNow : MC yX12_numberNow cX12_numberNow 3 (some .int) 2 := ⟨m_1653, m_13, Nat.le_of_ble_eq_true rfl, by decide, by decide, by decide +kernel⟩
theorem mc_yX12_readExpression : MC yX12_readExpression cX12_readExpression 3 none 1 := ⟨m_1657, m_13, Nat.le_of_ble_eq_true rfl, by decide, by decide, by decide +kernel⟩
theorem mc_yX12_isMarked : MC yX12_isMarked cX12_isMarked 2 (some .boolean) 1 := ⟨m_1661, m_13, Nat.le_of_ble_eq_true rfl, by decide, by decide, by decide +kernel⟩
theorem mc_yX12_readAnd : MC yX12_readAnd cX12_readAnd 2 none 1 := ⟨m_1665, m_13, Nat.le_of_ble_eq_true rfl, by decide, by decide, by decide +kernel⟩
theorem mc_yX12_readNot : MC yX12_readNot cX12_readNot 4 none 1 := ⟨m_1669, m_13, Nat.le_of_ble_eq_true rfl, by decide, by decide, by decide +kernel⟩
theorem mc_yX12_readSum : MC yX12_readSum cX12_readSum 3 none 1 := ⟨m_1674, m_13, Nat.le_of_ble_eq_true rfl, by decide, by decide, by decide +kernel⟩
theorem mc_yX12_readProduct : MC yX12_readProduct cX12_readProduct 3 none 1 := ⟨m_1678, m_13, Nat.le_of_ble_eq_true rfl, by decide, by decide, by decide +kernel⟩
theorem mc_yX12_readPart : MC yX12_readPart cX12_readPart 3 none 1 := ⟨m_1682, m_13, Nat.le_of_ble_eq_true rfl, by decide, by decide, by decide +kernel⟩
theorem mc_yX12_lay : MC yX12_lay cX12_lay 2 none 1 := ⟨m_1686, m_13, Nat.le_of_ble_eq_true rfl, by decide, by decide, by decide +kernel⟩
theorem mc_yX12_which : MC yX12_which cX12_which 3 (some .int) 1 := ⟨m_1690, m_13, Nat.le_of_ble_eq_true rfl, by decide, by decide, by decide +kernel⟩
theorem mc_yX12_mark : MC yX12_mark cX12_mark 2 none 1 := ⟨m_1694, m_13, Nat.le_of_ble_eq_true rfl, by decide, by decide, by decide +kernel⟩
theorem mc_yX12_readSomebody : MC yX12_readSomebody cX12_readSomebody 4 none 1 := ⟨m_1700, m_13, Nat.le_of_ble_eq_true rfl, by decide, by decide, by decide +kernel⟩
theorem mc_yX12_readPerson : MC yX12_readPerson cX12_readPerson 2 (some .int) 0 := ⟨m_1704, m_13, Nat.le_of_ble_eq_true rfl, by decide, by decide, by decide +kernel⟩
theorem mc_yX12_personNow : MC yX12_personNow cX12_personNow 2 (some .int) 0 := ⟨m_1708, m_13, Nat.le_of_ble_eq_true rfl, by decide, by decide, by decide +kernel⟩
theorem mc_yX12_otherNow : MC yX12_otherNow cX12_otherNow 3 (some .int) 1 := ⟨m_1712, m_13, Nat.le_of_ble_eq_true rfl, by decide, by decide, by decide +kernel⟩
theorem mc_yX12_readWed : MC yX12_readWed cX12_readWed 3 none 0 := ⟨m_1717, m_13, Nat.le_of_ble_eq_true rfl, by decide, by decide, by decide +kernel⟩
theorem mc_yX12_readWill : MC yX12_readWill cX12_readWill 3 none 0 := ⟨m_1722, m_13, Nat.le_of_ble_eq_true rfl, by decide, by decide, by decide +kernel⟩
theorem mc_yX12_readField : MC yX12_readField cX12_readField 3 none 0 := ⟨m_1727, m_13, Nat.le_of_ble_eq_true rfl, by decide, by decide, by decide +kernel⟩
theorem mc_yX12_takeOver : MC yX12_takeOver cX12_takeOver 2 none 0 := ⟨m_1731, m_13, Nat.le_of_ble_eq_true rfl, by decide, by decide, by decide +kernel⟩
theorem mc_yX12_takeHalf : MC yX12_takeHalf cX12_takeHalf 2 none 1 := ⟨m_1734, m_13, Nat.le_of_ble_eq_true rfl, by decide, by decide, by decide +kernel⟩
theorem mc_yX12_fault : MC yX12_fault cX12_fault 1 (some .int) 0 := ⟨m_1738, m_13, Nat.le_of_ble_eq_true rfl, by decide, by decide, by decide +kernel⟩
theorem mc_yX12_count : MC yX12_count cX12_count 2 (some .int) 1 := ⟨m_1742, m_13, Nat.le_of_ble_eq_true rfl, by decide, by decide, by decide +kernel⟩
theorem mc_yX12_bitsOf : MC yX12_bitsOf cX12_bitsOf 3 (some .int) 1 := ⟨m_1745, m_13, Nat.le_of_ble_eq_true rfl, by decide, by decide, by decide +kernel⟩
theorem mc_yX12_ripe : MC yX12_ripe cX12_ripe 3 (some .int) 0 := ⟨m_1749, m_13, Nat.le_of_ble_eq_true rfl, by decide, by decide, by decide +kernel⟩
theorem mc_yX12_isRipe : MC yX12_isRipe cX12_isRipe 2 (some .boolean) 1 := ⟨m_1753, m_13, Nat.le_of_ble_eq_true rfl, by decide, by decide, by decide +kernel⟩
theorem mc_yX12_allNoons : MC yX12_allNoons cX12_allNoons 3 (some .int) 0 := ⟨m_1757, m_13, Nat.le_of_ble_eq_true rfl, by decide, by decide, by decide +kernel⟩
theorem mc_yX12_person : MC yX12_person cX12_person 3 (some .int) 2 := ⟨m_1761, m_13, Nat.le_of_ble_eq_true rfl, by decide, by decide, by decide +kernel⟩
theorem mc_yX12_isPerson : MC yX12_isPerson cX12_isPerson 2 (some .boolean) 1 := ⟨m_1765, m_13, Nat.le_of_ble_eq_true rfl, by decide, by decide, by decide +kernel⟩
theorem mc_yX12_isIn : MC yX12_isIn cX12_isIn 6 (some .boolean) 3 := ⟨m_1768, m_13, Nat.le_of_ble_eq_true rfl, by decide, by decide, by decide +kernel⟩
theorem mc_yX12_isAlive : MC yX12_isAlive cX12_isAlive 2 (some .boolean) 1 := ⟨m_1772, m_13, Nat.le_of_ble_eq_true rfl, by decide, by decide, by decide +kernel⟩
theorem mc_yX12_sky : MC yX12_sky cX12_sky 3 (some .int) 2 := ⟨m_1776, m_13, Nat.le_of_ble_eq_true rfl, by decide, by decide, by decide +kernel⟩
theorem mc_yX12_isPart : MC yX12_isPart cX12_isPart 1 (some .boolean) 1 := ⟨m_1779, m_13, Nat.le_of_ble_eq_true rfl, by decide, by decide, by decide +kernel⟩
theorem mc_yX12_weather : MC yX12_weather cX12_weather 5 (some .int) 2 := ⟨m_1784, m_13, Nat.le_of_ble_eq_true rfl, by decide, by decide, by decide +kernel⟩
theorem mc_yX12_partAt : MC yX12_partAt cX12_partAt 5 (some .int) 2 := ⟨m_1790, m_13, Nat.le_of_ble_eq_true rfl, by decide, by decide, by decide +kernel⟩
theorem mc_yX12_kindOf : MC yX12_kindOf cX12_kindOf 7 (some .int) 1 := ⟨m_1794, m_13, Nat.le_of_ble_eq_true rfl, by decide, by decide, by decide +kernel⟩
theorem mc_yX12_greatest : MC yX12_greatest cX12_greatest 4 (some .int) 1 := ⟨m_1798, m_13, Nat.le_of_ble_eq_true rfl, by decide, by decide, by decide +kernel⟩
theorem mc_yX12_field : MC yX12_field cX12_field 3 (some .int) 2 := ⟨m_1802, m_13, Nat.le_of_ble_eq_true rfl, by decide, by decide, by decide +kernel⟩
theorem mc_yX12_front : MC yX12_front cX12_front 3 (some .int) 2 := ⟨m_1806, m_13, Nat.le_of_ble_eq_true rfl, by decide, by decide, by decide +kernel⟩
theorem mc_yX12_isFront : MC yX12_isFront cX12_isFront 3 (some .boolean) 2 := ⟨m_1810, m_13, Nat.le_of_ble_eq_true rfl, by decide, by decide, by decide +kernel⟩
theorem mc_yX12_apart : MC yX12_apart cX12_apart 5 (some .int) 2 := ⟨m_1814, m_13, Nat.le_of_ble_eq_true rfl, by decide, by decide, by decide +kernel⟩
theorem mc_yX12_kin : MC yX12_kin cX12_kin 6 (some .int) 2 := ⟨m_1819, m_13, Nat.le_of_ble_eq_true rfl, by decide, by decide, by decide +kernel⟩
theorem mc_yX12_isOf : MC yX12_isOf cX12_isOf 3 (some .boolean) 2 := ⟨m_1823, m_13, Nat.le_of_ble_eq_true rfl, by decide, by decide, by decide +kernel⟩
theorem mc_yX12_go : MC yX12_go cX12_go 4 (some .int) 2 := ⟨m_1827, m_13, Nat.le_of_ble_eq_true rfl, by decide, by decide, by decide +kernel⟩
theorem mc_yX12_refuse : MC yX12_refuse cX12_refuse 2 (some .int) 1 := ⟨m_1831, m_13, Nat.le_of_ble_eq_true rfl, by decide, by decide, by decide +kernel⟩
theorem mc_yX12_keep : MC yX12_keep cX12_keep 2 none 0 := ⟨m_1835, m_13, Nat.le_of_ble_eq_true rfl, by decide, by decide, by decide +kernel⟩
theorem mc_yX12_pack : MC yX12_pack cX12_pack 5 none 2 := ⟨m_1839, m_13, Nat.le_of_ble_eq_true rfl, by decide, by decide, by decide +kernel⟩
theorem mc_yX12_wed : MC yX12_wed cX12_wed 3 (some .boolean) 2 := ⟨m_1843, m_13, Nat.le_of_ble_eq_true rfl, by decide, by decide, by decide +kernel⟩
theorem mc_yX12_isBound : MC yX12_isBound cX12_isBound 2 (some .boolean) 1 := ⟨m_1847, m_13, Nat.le_of_ble_eq_true rfl, by decide, by decide, by decide +kernel⟩
theorem mc_yX12_unbind : MC yX12_unbind cX12_unbind 2 none 1 := ⟨m_1851, m_13, Nat.le_of_ble_eq_true rfl, by decide, by decide, by decide +kernel⟩
theorem mc_yX12_die : MC yX12_die cX12_die 2 (some .int) 1 := ⟨m_1855, m_13, Nat.le_of_ble_eq_true rfl, by decide, by decide, by decide +kernel⟩
theorem mc_yX12_dieNow : MC yX12_dieNow cX12_dieNow 5 (some .int) 1 := ⟨m_1859, m_13, Nat.le_of_ble_eq_true rfl, by decide, by decide, by decide +kernel⟩
theorem mc_yX12_tellShares : MC yX12_tellShares cX12_tellShares 4 none 2 := ⟨m_1863, m_13, Nat.le_of_ble_eq_true rfl, by decide, by decide, by decide +kernel⟩
theorem mc_yX12_byLaw : MC yX12_byLaw cX12_byLaw 4 (some .int) 2 := ⟨m_1867, m_13, Nat.le_of_ble_eq_true rfl, by decide, by decide, by decide +kernel⟩
theorem mc_yX12_hasParent : MC yX12_hasParent cX12_hasParent 3 (some .boolean) 2 := ⟨m_1871, m_13, Nat.le_of_ble_eq_true rfl, by decide, by decide, by decide +kernel⟩
theorem mc_yX12_valueNow : MC yX12_valueNow cX12_valueNow 4 (some .int) 0 := ⟨m_1875, m_13, Nat.le_of_ble_eq_true rfl, by decide, by decide, by decide +kernel⟩
theorem mc_yX12_reckon : MC yX12_reckon cX12_reckon 3 (some .int) 3 := ⟨m_1878, m_13, Nat.le_of_ble_eq_true rfl, by decide, by decide, by decide +kernel⟩
theorem mc_yX12_heirs : MC yX12_heirs cX12_heirs 3 (some .int) 0 := ⟨m_1883, m_13, Nat.le_of_ble_eq_true rfl, by decide, by decide, by decide +kernel⟩
theorem mc_yX12_partOf : MC yX12_partOf cX12_partOf 8 (some .int) 3 := ⟨m_1887, m_13, Nat.le_of_ble_eq_true rfl, by decide, by decide, by decide +kernel⟩
theorem mc_yX12_pawn : MC yX12_pawn cX12_pawn 5 (some .int) 4 := ⟨m_1891, m_13, Nat.le_of_ble_eq_true rfl, by decide, by decide, by decide +kernel⟩
theorem mc_yX12_days : MC yX12_days cX12_days 3 (some .int) 1 := ⟨m_1895, m_13, Nat.le_of_ble_eq_true rfl, by decide, by decide, by decide +kernel⟩
theorem mc_yX12_dayNow : MC yX12_dayNow cX12_dayNow 2 none 0 := ⟨m_1900, m_13, Nat.le_of_ble_eq_true rfl, by decide, by decide, by decide +kernel⟩
theorem mc_yX12_undo : MC yX12_undo cX12_undo 1 (some .int) 0 := ⟨m_1904, m_13, Nat.le_of_ble_eq_true rfl, by decide, by decide, by decide +kernel⟩
theorem mc_yX12_unpack : MC yX12_unpack cX12_unpack 5 none 2 := ⟨m_1908, m_13, Nat.le_of_ble_eq_true rfl, by decide, by decide, by decide +kernel⟩
theorem mc_yX12_heir : MC yX12_heir cX12_heir 4 (some .int) 3 := ⟨m_1912, m_13, Nat.le_of_ble_eq_true rfl, by decide, by decide, by decide +kernel⟩
theorem mc_yX12_failing : MC yX12_failing cX12_failing 4 (some .int) 0 := ⟨m_1916, m_13, Nat.le_of_ble_eq_true rfl, by decide, by decide, by decide +kernel⟩
theorem mc_yX12_contested : MC yX12_contested cX12_contested 7 (some .int) 1 := ⟨m_1920, m_13, Nat.le_of_ble_eq_true rfl, by decide, by decide, by decide +kernel⟩
theorem mc_yX12_deaths : MC yX12_deaths cX12_deaths 6 (some .int) 3 := ⟨m_1924, m_13, Nat.le_of_ble_eq_true rfl, by decide, by decide, by decide +kernel⟩
theorem mc_yX12_canBe : MC yX12_canBe cX12_canBe 8 (some .boolean) 5 := ⟨m_1929, m_13, Nat.le_of_ble_eq_true rfl, by decide, by decide, by decide +kernel⟩
theorem mc_yX12_death : MC yX12_death cX12_death 2 (some .int) 1 := ⟨m_1933, m_13, Nat.le_of_ble_eq_true rfl, by decide, by decide, by decide +kernel⟩
theorem mc_yX12_arrange : MC yX12_arrange cX12_arrange 8 (some .int) 0 := ⟨m_1937, m_13, Nat.le_of_ble_eq_true rfl, by decide, by decide, by decide +kernel⟩
theorem mc_yX12_ripeBy : MC yX12_ripeBy cX12_ripeBy 6 (some .int) 0 := ⟨m_1941, m_13, Nat.le_of_ble_eq_true rfl, by decide, by decide, by decide +kernel⟩
theorem mc_yX12_post : MC yX12_post cX12_post 2 (some .int) 1 := ⟨m_1945, m_13, Nat.le_of_ble_eq_true rfl, by decide, by decide, by decide +kernel⟩
theorem mc_yX12_seatings : MC yX12_seatings cX12_seatings 2 (some .int) 0 := ⟨m_1949, m_13, Nat.le_of_ble_eq_true rfl, by decide, by decide, by decide +kernel⟩
theorem mc_yX12_seatOn : MC yX12_seatOn cX12_seatOn 5 none 3 := ⟨m_1954, m_13, Nat.le_of_ble_eq_true rfl, by decide, by decide, by decide +kernel⟩
theorem mc_yX12_seat : MC yX12_seat cX12_seat 2 (some .int) 1 := ⟨m_1958, m_13, Nat.le_of_ble_eq_true rfl, by decide, by decide, by decide +kernel⟩
theorem mc_yX12_see : MC yX12_see cX12_see 3 (some .int) 2 := ⟨m_1962, m_13, Nat.le_of_ble_eq_true rfl, by decide, by decide, by decide +kernel⟩
theorem mc_yX12_forget : MC yX12_forget cX12_forget 1 (some .int) 0 := ⟨m_1966, m_13, Nat.le_of_ble_eq_true rfl, by decide, by decide, by decide +kernel⟩
theorem mc_yX12_fits : MC yX12_fits cX12_fits 7 (some .int) 1 := ⟨m_1970, m_13, Nat.le_of_ble_eq_true rfl, by decide, by decide, by decide +kernel⟩
theorem mc_yX12_isAsSeen : MC yX12_isAsSeen cX12_isAsSeen 5 (some .boolean) 1 := ⟨m_1974, m_13, Nat.le_of_ble_eq_true rfl, by decide, by decide, by decide +kernel⟩
theorem mc_yX12_suitors : MC yX12_suitors cX12_suitors 10 (some .int) 3 := ⟨m_1978, m_13, Nat.le_of_ble_eq_true rfl, by decide, by decide, by decide +kernel⟩
theorem mc_yX12_gain : MC yX12_gain cX12_gain 6 (some .int) 4 := ⟨m_1982, m_13, Nat.le_of_ble_eq_true rfl, by decide, by decide, by decide +kernel⟩
theorem mc_yX12_century : MC yX12_century cX12_century 5 (some .int) 3 := ⟨m_1986, m_13, Nat.le_of_ble_eq_true rfl, by decide, by decide, by decide +kernel⟩
theorem mc_yX12_yearNow : MC yX12_yearNow cX12_yearNow 3 none 0 := ⟨m_1992, m_13, Nat.le_of_ble_eq_true rfl, by decide, by decide, by decide +kernel⟩
theorem mc_yX12_drawOf : MC yX12_drawOf cX12_drawOf 2 (some .int) 1 := ⟨m_1996, m_13, Nat.le_of_ble_eq_true rfl, by decide, by decide, by decide +kernel⟩
theorem mc_yX12_image : MC yX12_image cX12_image 1 none 0 := ⟨m_2001, m_13, Nat.le_of_ble_eq_true rfl, by decide, by decide, by decide +kernel⟩
theorem mc_yX12_be : MC yX12_be cX12_be 3 none 2 := ⟨m_2004, m_13, Nat.le_of_ble_eq_true rfl, by decide, by decide, by decide +kernel⟩
theorem mc_yX12_restore : MC yX12_restore cX12_restore 1 (some .boolean) 0 := ⟨m_2008, m_13, Nat.le_of_ble_eq_true rfl, by decide, by decide, by decide +kernel⟩
