/-! ===== the pure part: tools ===== -/
theorem nI_mul (a b : Nat) : nI a * nI b = nI (a * b) := (Int32.ofNat_mul a b).symm
theorem nI_inj {a b : Nat} (ha : a < 2147483648) (hb : b < 2147483648) : nI a = nI b ↔ a = b := nI_eq ha hb
theorem zla_0 (p : Nat) : (0 : Int32) + nI p = nI (0 + p) := nI_add 0 p
theorem zra_0 (p : Nat) : nI p + (0 : Int32) = nI (p + 0) := nI_add p 0
theorem zlm_0 (p : Nat) : (0 : Int32) * nI p = nI (0 * p) := nI_mul 0 p
theorem zrm_0 (p : Nat) : nI p * (0 : Int32) = nI (p * 0) := nI_mul p 0
theorem zll_0 (p : Nat) (h : p < 2147483648) : ((0 : Int32) ≤ nI p) ↔ 0 ≤ p := nI_leI (by decide) h
theorem zrl_0 (p : Nat) (h : p < 2147483648) : (nI p ≤ (0 : Int32)) ↔ p ≤ 0 := nI_leI h (by decide)
theorem zlt_0 (p : Nat) (h : p < 2147483648) : ((0 : Int32) < nI p) ↔ 0 < p := nI_ltI (by decide) h
theorem zrt_0 (p : Nat) (h : p < 2147483648) : (nI p < (0 : Int32)) ↔ p < 0 := nI_ltI h (by decide)
theorem zle_0 (p : Nat) (h : p < 2147483648) : (nI p = (0 : Int32)) ↔ p = 0 := nI_eq h (by decide)
theorem zcl_0 : (0 : Int32).toNatClampNeg = 0 := rfl
theorem zla_1 (p : Nat) : (1 : Int32) + nI p = nI (1 + p) := nI_add 1 p
theorem zra_1 (p : Nat) : nI p + (1 : Int32) = nI (p + 1) := nI_add p 1
theorem zlm_1 (p : Nat) : (1 : Int32) * nI p = nI (1 * p) := nI_mul 1 p
theorem zrm_1 (p : Nat) : nI p * (1 : Int32) = nI (p * 1) := nI_mul p 1
theorem zll_1 (p : Nat) (h : p < 2147483648) : ((1 : Int32) ≤ nI p) ↔ 1 ≤ p := nI_leI (by decide) h
theorem zrl_1 (p : Nat) (h : p < 2147483648) : (nI p ≤ (1 : Int32)) ↔ p ≤ 1 := nI_leI h (by decide)
theorem zlt_1 (p : Nat) (h : p < 2147483648) : ((1 : Int32) < nI p) ↔ 1 < p := nI_ltI (by decide) h
theorem zrt_1 (p : Nat) (h : p < 2147483648) : (nI p < (1 : Int32)) ↔ p < 1 := nI_ltI h (by decide)
theorem zle_1 (p : Nat) (h : p < 2147483648) : (nI p = (1 : Int32)) ↔ p = 1 := nI_eq h (by decide)
theorem zcl_1 : (1 : Int32).toNatClampNeg = 1 := rfl
theorem zla_2 (p : Nat) : (2 : Int32) + nI p = nI (2 + p) := nI_add 2 p
theorem zra_2 (p : Nat) : nI p + (2 : Int32) = nI (p + 2) := nI_add p 2
theorem zlm_2 (p : Nat) : (2 : Int32) * nI p = nI (2 * p) := nI_mul 2 p
theorem zrm_2 (p : Nat) : nI p * (2 : Int32) = nI (p * 2) := nI_mul p 2
theorem zll_2 (p : Nat) (h : p < 2147483648) : ((2 : Int32) ≤ nI p) ↔ 2 ≤ p := nI_leI (by decide) h
theorem zrl_2 (p : Nat) (h : p < 2147483648) : (nI p ≤ (2 : Int32)) ↔ p ≤ 2 := nI_leI h (by decide)
theorem zlt_2 (p : Nat) (h : p < 2147483648) : ((2 : Int32) < nI p) ↔ 2 < p := nI_ltI (by decide) h
theorem zrt_2 (p : Nat) (h : p < 2147483648) : (nI p < (2 : Int32)) ↔ p < 2 := nI_ltI h (by decide)
theorem zle_2 (p : Nat) (h : p < 2147483648) : (nI p = (2 : Int32)) ↔ p = 2 := nI_eq h (by decide)
theorem zcl_2 : (2 : Int32).toNatClampNeg = 2 := rfl
theorem zla_3 (p : Nat) : (3 : Int32) + nI p = nI (3 + p) := nI_add 3 p
theorem zra_3 (p : Nat) : nI p + (3 : Int32) = nI (p + 3) := nI_add p 3
theorem zlm_3 (p : Nat) : (3 : Int32) * nI p = nI (3 * p) := nI_mul 3 p
theorem zrm_3 (p : Nat) : nI p * (3 : Int32) = nI (p * 3) := nI_mul p 3
theorem zll_3 (p : Nat) (h : p < 2147483648) : ((3 : Int32) ≤ nI p) ↔ 3 ≤ p := nI_leI (by decide) h
theorem zrl_3 (p : Nat) (h : p < 2147483648) : (nI p ≤ (3 : Int32)) ↔ p ≤ 3 := nI_leI h (by decide)
theorem zlt_3 (p : Nat) (h : p < 2147483648) : ((3 : Int32) < nI p) ↔ 3 < p := nI_ltI (by decide) h
theorem zrt_3 (p : Nat) (h : p < 2147483648) : (nI p < (3 : Int32)) ↔ p < 3 := nI_ltI h (by decide)
theorem zle_3 (p : Nat) (h : p < 2147483648) : (nI p = (3 : Int32)) ↔ p = 3 := nI_eq h (by decide)
theorem zcl_3 : (3 : Int32).toNatClampNeg = 3 := rfl
theorem zla_4 (p : Nat) : (4 : Int32) + nI p = nI (4 + p) := nI_add 4 p
theorem zra_4 (p : Nat) : nI p + (4 : Int32) = nI (p + 4) := nI_add p 4
theorem zlm_4 (p : Nat) : (4 : Int32) * nI p = nI (4 * p) := nI_mul 4 p
theorem zrm_4 (p : Nat) : nI p * (4 : Int32) = nI (p * 4) := nI_mul p 4
theorem zll_4 (p : Nat) (h : p < 2147483648) : ((4 : Int32) ≤ nI p) ↔ 4 ≤ p := nI_leI (by decide) h
theorem zrl_4 (p : Nat) (h : p < 2147483648) : (nI p ≤ (4 : Int32)) ↔ p ≤ 4 := nI_leI h (by decide)
theorem zlt_4 (p : Nat) (h : p < 2147483648) : ((4 : Int32) < nI p) ↔ 4 < p := nI_ltI (by decide) h
theorem zrt_4 (p : Nat) (h : p < 2147483648) : (nI p < (4 : Int32)) ↔ p < 4 := nI_ltI h (by decide)
theorem zle_4 (p : Nat) (h : p < 2147483648) : (nI p = (4 : Int32)) ↔ p = 4 := nI_eq h (by decide)
theorem zcl_4 : (4 : Int32).toNatClampNeg = 4 := rfl
theorem zla_5 (p : Nat) : (5 : Int32) + nI p = nI (5 + p) := nI_add 5 p
theorem zra_5 (p : Nat) : nI p + (5 : Int32) = nI (p + 5) := nI_add p 5
theorem zlm_5 (p : Nat) : (5 : Int32) * nI p = nI (5 * p) := nI_mul 5 p
theorem zrm_5 (p : Nat) : nI p * (5 : Int32) = nI (p * 5) := nI_mul p 5
theorem zll_5 (p : Nat) (h : p < 2147483648) : ((5 : Int32) ≤ nI p) ↔ 5 ≤ p := nI_leI (by decide) h
theorem zrl_5 (p : Nat) (h : p < 2147483648) : (nI p ≤ (5 : Int32)) ↔ p ≤ 5 := nI_leI h (by decide)
theorem zlt_5 (p : Nat) (h : p < 2147483648) : ((5 : Int32) < nI p) ↔ 5 < p := nI_ltI (by decide) h
theorem zrt_5 (p : Nat) (h : p < 2147483648) : (nI p < (5 : Int32)) ↔ p < 5 := nI_ltI h (by decide)
theorem zle_5 (p : Nat) (h : p < 2147483648) : (nI p = (5 : Int32)) ↔ p = 5 := nI_eq h (by decide)
theorem zcl_5 : (5 : Int32).toNatClampNeg = 5 := rfl
theorem zla_6 (p : Nat) : (6 : Int32) + nI p = nI (6 + p) := nI_add 6 p
theorem zra_6 (p : Nat) : nI p + (6 : Int32) = nI (p + 6) := nI_add p 6
theorem zlm_6 (p : Nat) : (6 : Int32) * nI p = nI (6 * p) := nI_mul 6 p
theorem zrm_6 (p : Nat) : nI p * (6 : Int32) = nI (p * 6) := nI_mul p 6
theorem zll_6 (p : Nat) (h : p < 2147483648) : ((6 : Int32) ≤ nI p) ↔ 6 ≤ p := nI_leI (by decide) h
theorem zrl_6 (p : Nat) (h : p < 2147483648) : (nI p ≤ (6 : Int32)) ↔ p ≤ 6 := nI_leI h (by decide)
theorem zlt_6 (p : Nat) (h : p < 2147483648) : ((6 : Int32) < nI p) ↔ 6 < p := nI_ltI (by decide) h
theorem zrt_6 (p : Nat) (h : p < 2147483648) : (nI p < (6 : Int32)) ↔ p < 6 := nI_ltI h (by decide)
theorem zle_6 (p : Nat) (h : p < 2147483648) : (nI p = (6 : Int32)) ↔ p = 6 := nI_eq h (by decide)
theorem zcl_6 : (6 : Int32).toNatClampNeg = 6 := rfl
theorem zla_7 (p : Nat) : (7 : Int32) + nI p = nI (7 + p) := nI_add 7 p
theorem zra_7 (p : Nat) : nI p + (7 : Int32) = nI (p + 7) := nI_add p 7
theorem zlm_7 (p : Nat) : (7 : Int32) * nI p = nI (7 * p) := nI_mul 7 p
theorem zrm_7 (p : Nat) : nI p * (7 : Int32) = nI (p * 7) := nI_mul p 7
theorem zll_7 (p : Nat) (h : p < 2147483648) : ((7 : Int32) ≤ nI p) ↔ 7 ≤ p := nI_leI (by decide) h
theorem zrl_7 (p : Nat) (h : p < 2147483648) : (nI p ≤ (7 : Int32)) ↔ p ≤ 7 := nI_leI h (by decide)
theorem zlt_7 (p : Nat) (h : p < 2147483648) : ((7 : Int32) < nI p) ↔ 7 < p := nI_ltI (by decide) h
theorem zrt_7 (p : Nat) (h : p < 2147483648) : (nI p < (7 : Int32)) ↔ p < 7 := nI_ltI h (by decide)
theorem zle_7 (p : Nat) (h : p < 2147483648) : (nI p = (7 : Int32)) ↔ p = 7 := nI_eq h (by decide)
theorem zcl_7 : (7 : Int32).toNatClampNeg = 7 := rfl
theorem zla_8 (p : Nat) : (8 : Int32) + nI p = nI (8 + p) := nI_add 8 p
theorem zra_8 (p : Nat) : nI p + (8 : Int32) = nI (p + 8) := nI_add p 8
theorem zlm_8 (p : Nat) : (8 : Int32) * nI p = nI (8 * p) := nI_mul 8 p
theorem zrm_8 (p : Nat) : nI p * (8 : Int32) = nI (p * 8) := nI_mul p 8
theorem zll_8 (p : Nat) (h : p < 2147483648) : ((8 : Int32) ≤ nI p) ↔ 8 ≤ p := nI_leI (by decide) h
theorem zrl_8 (p : Nat) (h : p < 2147483648) : (nI p ≤ (8 : Int32)) ↔ p ≤ 8 := nI_leI h (by decide)
theorem zlt_8 (p : Nat) (h : p < 2147483648) : ((8 : Int32) < nI p) ↔ 8 < p := nI_ltI (by decide) h
theorem zrt_8 (p : Nat) (h : p < 2147483648) : (nI p < (8 : Int32)) ↔ p < 8 := nI_ltI h (by decide)
theorem zle_8 (p : Nat) (h : p < 2147483648) : (nI p = (8 : Int32)) ↔ p = 8 := nI_eq h (by decide)
theorem zcl_8 : (8 : Int32).toNatClampNeg = 8 := rfl
theorem zla_9 (p : Nat) : (9 : Int32) + nI p = nI (9 + p) := nI_add 9 p
theorem zra_9 (p : Nat) : nI p + (9 : Int32) = nI (p + 9) := nI_add p 9
theorem zlm_9 (p : Nat) : (9 : Int32) * nI p = nI (9 * p) := nI_mul 9 p
theorem zrm_9 (p : Nat) : nI p * (9 : Int32) = nI (p * 9) := nI_mul p 9
theorem zll_9 (p : Nat) (h : p < 2147483648) : ((9 : Int32) ≤ nI p) ↔ 9 ≤ p := nI_leI (by decide) h
theorem zrl_9 (p : Nat) (h : p < 2147483648) : (nI p ≤ (9 : Int32)) ↔ p ≤ 9 := nI_leI h (by decide)
theorem zlt_9 (p : Nat) (h : p < 2147483648) : ((9 : Int32) < nI p) ↔ 9 < p := nI_ltI (by decide) h
theorem zrt_9 (p : Nat) (h : p < 2147483648) : (nI p < (9 : Int32)) ↔ p < 9 := nI_ltI h (by decide)
theorem zle_9 (p : Nat) (h : p < 2147483648) : (nI p = (9 : Int32)) ↔ p = 9 := nI_eq h (by decide)
theorem zcl_9 : (9 : Int32).toNatClampNeg = 9 := rfl
theorem zla_10 (p : Nat) : (10 : Int32) + nI p = nI (10 + p) := nI_add 10 p
theorem zra_10 (p : Nat) : nI p + (10 : Int32) = nI (p + 10) := nI_add p 10
theorem zlm_10 (p : Nat) : (10 : Int32) * nI p = nI (10 * p) := nI_mul 10 p
theorem zrm_10 (p : Nat) : nI p * (10 : Int32) = nI (p * 10) := nI_mul p 10
theorem zll_10 (p : Nat) (h : p < 2147483648) : ((10 : Int32) ≤ nI p) ↔ 10 ≤ p := nI_leI (by decide) h
theorem zrl_10 (p : Nat) (h : p < 2147483648) : (nI p ≤ (10 : Int32)) ↔ p ≤ 10 := nI_leI h (by decide)
theorem zlt_10 (p : Nat) (h : p < 2147483648) : ((10 : Int32) < nI p) ↔ 10 < p := nI_ltI (by decide) h
theorem zrt_10 (p : Nat) (h : p < 2147483648) : (nI p < (10 : Int32)) ↔ p < 10 := nI_ltI h (by decide)
theorem zle_10 (p : Nat) (h : p < 2147483648) : (nI p = (10 : Int32)) ↔ p = 10 := nI_eq h (by decide)
theorem zcl_10 : (10 : Int32).toNatClampNeg = 10 := rfl
theorem zla_12 (p : Nat) : (12 : Int32) + nI p = nI (12 + p) := nI_add 12 p
theorem zra_12 (p : Nat) : nI p + (12 : Int32) = nI (p + 12) := nI_add p 12
theorem zlm_12 (p : Nat) : (12 : Int32) * nI p = nI (12 * p) := nI_mul 12 p
theorem zrm_12 (p : Nat) : nI p * (12 : Int32) = nI (p * 12) := nI_mul p 12
theorem zll_12 (p : Nat) (h : p < 2147483648) : ((12 : Int32) ≤ nI p) ↔ 12 ≤ p := nI_leI (by decide) h
theorem zrl_12 (p : Nat) (h : p < 2147483648) : (nI p ≤ (12 : Int32)) ↔ p ≤ 12 := nI_leI h (by decide)
theorem zlt_12 (p : Nat) (h : p < 2147483648) : ((12 : Int32) < nI p) ↔ 12 < p := nI_ltI (by decide) h
theorem zrt_12 (p : Nat) (h : p < 2147483648) : (nI p < (12 : Int32)) ↔ p < 12 := nI_ltI h (by decide)
theorem zle_12 (p : Nat) (h : p < 2147483648) : (nI p = (12 : Int32)) ↔ p = 12 := nI_eq h (by decide)
theorem zcl_12 : (12 : Int32).toNatClampNeg = 12 := rfl
theorem zla_20 (p : Nat) : (20 : Int32) + nI p = nI (20 + p) := nI_add 20 p
theorem zra_20 (p : Nat) : nI p + (20 : Int32) = nI (p + 20) := nI_add p 20
theorem zlm_20 (p : Nat) : (20 : Int32) * nI p = nI (20 * p) := nI_mul 20 p
theorem zrm_20 (p : Nat) : nI p * (20 : Int32) = nI (p * 20) := nI_mul p 20
theorem zll_20 (p : Nat) (h : p < 2147483648) : ((20 : Int32) ≤ nI p) ↔ 20 ≤ p := nI_leI (by decide) h
theorem zrl_20 (p : Nat) (h : p < 2147483648) : (nI p ≤ (20 : Int32)) ↔ p ≤ 20 := nI_leI h (by decide)
theorem zlt_20 (p : Nat) (h : p < 2147483648) : ((20 : Int32) < nI p) ↔ 20 < p := nI_ltI (by decide) h
theorem zrt_20 (p : Nat) (h : p < 2147483648) : (nI p < (20 : Int32)) ↔ p < 20 := nI_ltI h (by decide)
theorem zle_20 (p : Nat) (h : p < 2147483648) : (nI p = (20 : Int32)) ↔ p = 20 := nI_eq h (by decide)
theorem zcl_20 : (20 : Int32).toNatClampNeg = 20 := rfl
theorem zla_32 (p : Nat) : (32 : Int32) + nI p = nI (32 + p) := nI_add 32 p
theorem zra_32 (p : Nat) : nI p + (32 : Int32) = nI (p + 32) := nI_add p 32
theorem zlm_32 (p : Nat) : (32 : Int32) * nI p = nI (32 * p) := nI_mul 32 p
theorem zrm_32 (p : Nat) : nI p * (32 : Int32) = nI (p * 32) := nI_mul p 32
theorem zll_32 (p : Nat) (h : p < 2147483648) : ((32 : Int32) ≤ nI p) ↔ 32 ≤ p := nI_leI (by decide) h
theorem zrl_32 (p : Nat) (h : p < 2147483648) : (nI p ≤ (32 : Int32)) ↔ p ≤ 32 := nI_leI h (by decide)
theorem zlt_32 (p : Nat) (h : p < 2147483648) : ((32 : Int32) < nI p) ↔ 32 < p := nI_ltI (by decide) h
theorem zrt_32 (p : Nat) (h : p < 2147483648) : (nI p < (32 : Int32)) ↔ p < 32 := nI_ltI h (by decide)
theorem zle_32 (p : Nat) (h : p < 2147483648) : (nI p = (32 : Int32)) ↔ p = 32 := nI_eq h (by decide)
theorem zcl_32 : (32 : Int32).toNatClampNeg = 32 := rfl
theorem zla_40 (p : Nat) : (40 : Int32) + nI p = nI (40 + p) := nI_add 40 p
theorem zra_40 (p : Nat) : nI p + (40 : Int32) = nI (p + 40) := nI_add p 40
theorem zlm_40 (p : Nat) : (40 : Int32) * nI p = nI (40 * p) := nI_mul 40 p
theorem zrm_40 (p : Nat) : nI p * (40 : Int32) = nI (p * 40) := nI_mul p 40
theorem zll_40 (p : Nat) (h : p < 2147483648) : ((40 : Int32) ≤ nI p) ↔ 40 ≤ p := nI_leI (by decide) h
theorem zrl_40 (p : Nat) (h : p < 2147483648) : (nI p ≤ (40 : Int32)) ↔ p ≤ 40 := nI_leI h (by decide)
theorem zlt_40 (p : Nat) (h : p < 2147483648) : ((40 : Int32) < nI p) ↔ 40 < p := nI_ltI (by decide) h
theorem zrt_40 (p : Nat) (h : p < 2147483648) : (nI p < (40 : Int32)) ↔ p < 40 := nI_ltI h (by decide)
theorem zle_40 (p : Nat) (h : p < 2147483648) : (nI p = (40 : Int32)) ↔ p = 40 := nI_eq h (by decide)
theorem zcl_40 : (40 : Int32).toNatClampNeg = 40 := rfl
theorem zla_48 (p : Nat) : (48 : Int32) + nI p = nI (48 + p) := nI_add 48 p
theorem zra_48 (p : Nat) : nI p + (48 : Int32) = nI (p + 48) := nI_add p 48
theorem zlm_48 (p : Nat) : (48 : Int32) * nI p = nI (48 * p) := nI_mul 48 p
theorem zrm_48 (p : Nat) : nI p * (48 : Int32) = nI (p * 48) := nI_mul p 48
theorem zll_48 (p : Nat) (h : p < 2147483648) : ((48 : Int32) ≤ nI p) ↔ 48 ≤ p := nI_leI (by decide) h
theorem zrl_48 (p : Nat) (h : p < 2147483648) : (nI p ≤ (48 : Int32)) ↔ p ≤ 48 := nI_leI h (by decide)
theorem zlt_48 (p : Nat) (h : p < 2147483648) : ((48 : Int32) < nI p) ↔ 48 < p := nI_ltI (by decide) h
theorem zrt_48 (p : Nat) (h : p < 2147483648) : (nI p < (48 : Int32)) ↔ p < 48 := nI_ltI h (by decide)
theorem zle_48 (p : Nat) (h : p < 2147483648) : (nI p = (48 : Int32)) ↔ p = 48 := nI_eq h (by decide)
theorem zcl_48 : (48 : Int32).toNatClampNeg = 48 := rfl
theorem zla_60 (p : Nat) : (60 : Int32) + nI p = nI (60 + p) := nI_add 60 p
theorem zra_60 (p : Nat) : nI p + (60 : Int32) = nI (p + 60) := nI_add p 60
theorem zlm_60 (p : Nat) : (60 : Int32) * nI p = nI (60 * p) := nI_mul 60 p
theorem zrm_60 (p : Nat) : nI p * (60 : Int32) = nI (p * 60) := nI_mul p 60
theorem zll_60 (p : Nat) (h : p < 2147483648) : ((60 : Int32) ≤ nI p) ↔ 60 ≤ p := nI_leI (by decide) h
theorem zrl_60 (p : Nat) (h : p < 2147483648) : (nI p ≤ (60 : Int32)) ↔ p ≤ 60 := nI_leI h (by decide)
theorem zlt_60 (p : Nat) (h : p < 2147483648) : ((60 : Int32) < nI p) ↔ 60 < p := nI_ltI (by decide) h
theorem zrt_60 (p : Nat) (h : p < 2147483648) : (nI p < (60 : Int32)) ↔ p < 60 := nI_ltI h (by decide)
theorem zle_60 (p : Nat) (h : p < 2147483648) : (nI p = (60 : Int32)) ↔ p = 60 := nI_eq h (by decide)
theorem zcl_60 : (60 : Int32).toNatClampNeg = 60 := rfl
theorem zla_64 (p : Nat) : (64 : Int32) + nI p = nI (64 + p) := nI_add 64 p
theorem zra_64 (p : Nat) : nI p + (64 : Int32) = nI (p + 64) := nI_add p 64
theorem zlm_64 (p : Nat) : (64 : Int32) * nI p = nI (64 * p) := nI_mul 64 p
theorem zrm_64 (p : Nat) : nI p * (64 : Int32) = nI (p * 64) := nI_mul p 64
theorem zll_64 (p : Nat) (h : p < 2147483648) : ((64 : Int32) ≤ nI p) ↔ 64 ≤ p := nI_leI (by decide) h
theorem zrl_64 (p : Nat) (h : p < 2147483648) : (nI p ≤ (64 : Int32)) ↔ p ≤ 64 := nI_leI h (by decide)
theorem zlt_64 (p : Nat) (h : p < 2147483648) : ((64 : Int32) < nI p) ↔ 64 < p := nI_ltI (by decide) h
theorem zrt_64 (p : Nat) (h : p < 2147483648) : (nI p < (64 : Int32)) ↔ p < 64 := nI_ltI h (by decide)
theorem zle_64 (p : Nat) (h : p < 2147483648) : (nI p = (64 : Int32)) ↔ p = 64 := nI_eq h (by decide)
theorem zcl_64 : (64 : Int32).toNatClampNeg = 64 := rfl
theorem zla_72 (p : Nat) : (72 : Int32) + nI p = nI (72 + p) := nI_add 72 p
theorem zra_72 (p : Nat) : nI p + (72 : Int32) = nI (p + 72) := nI_add p 72
theorem zlm_72 (p : Nat) : (72 : Int32) * nI p = nI (72 * p) := nI_mul 72 p
theorem zrm_72 (p : Nat) : nI p * (72 : Int32) = nI (p * 72) := nI_mul p 72
theorem zll_72 (p : Nat) (h : p < 2147483648) : ((72 : Int32) ≤ nI p) ↔ 72 ≤ p := nI_leI (by decide) h
theorem zrl_72 (p : Nat) (h : p < 2147483648) : (nI p ≤ (72 : Int32)) ↔ p ≤ 72 := nI_leI h (by decide)
theorem zlt_72 (p : Nat) (h : p < 2147483648) : ((72 : Int32) < nI p) ↔ 72 < p := nI_ltI (by decide) h
theorem zrt_72 (p : Nat) (h : p < 2147483648) : (nI p < (72 : Int32)) ↔ p < 72 := nI_ltI h (by decide)
theorem zle_72 (p : Nat) (h : p < 2147483648) : (nI p = (72 : Int32)) ↔ p = 72 := nI_eq h (by decide)
theorem zcl_72 : (72 : Int32).toNatClampNeg = 72 := rfl
theorem zla_84 (p : Nat) : (84 : Int32) + nI p = nI (84 + p) := nI_add 84 p
theorem zra_84 (p : Nat) : nI p + (84 : Int32) = nI (p + 84) := nI_add p 84
theorem zlm_84 (p : Nat) : (84 : Int32) * nI p = nI (84 * p) := nI_mul 84 p
theorem zrm_84 (p : Nat) : nI p * (84 : Int32) = nI (p * 84) := nI_mul p 84
theorem zll_84 (p : Nat) (h : p < 2147483648) : ((84 : Int32) ≤ nI p) ↔ 84 ≤ p := nI_leI (by decide) h
theorem zrl_84 (p : Nat) (h : p < 2147483648) : (nI p ≤ (84 : Int32)) ↔ p ≤ 84 := nI_leI h (by decide)
theorem zlt_84 (p : Nat) (h : p < 2147483648) : ((84 : Int32) < nI p) ↔ 84 < p := nI_ltI (by decide) h
theorem zrt_84 (p : Nat) (h : p < 2147483648) : (nI p < (84 : Int32)) ↔ p < 84 := nI_ltI h (by decide)
theorem zle_84 (p : Nat) (h : p < 2147483648) : (nI p = (84 : Int32)) ↔ p = 84 := nI_eq h (by decide)
theorem zcl_84 : (84 : Int32).toNatClampNeg = 84 := rfl
theorem zla_94 (p : Nat) : (94 : Int32) + nI p = nI (94 + p) := nI_add 94 p
theorem zra_94 (p : Nat) : nI p + (94 : Int32) = nI (p + 94) := nI_add p 94
theorem zlm_94 (p : Nat) : (94 : Int32) * nI p = nI (94 * p) := nI_mul 94 p
theorem zrm_94 (p : Nat) : nI p * (94 : Int32) = nI (p * 94) := nI_mul p 94
theorem zll_94 (p : Nat) (h : p < 2147483648) : ((94 : Int32) ≤ nI p) ↔ 94 ≤ p := nI_leI (by decide) h
theorem zrl_94 (p : Nat) (h : p < 2147483648) : (nI p ≤ (94 : Int32)) ↔ p ≤ 94 := nI_leI h (by decide)
theorem zlt_94 (p : Nat) (h : p < 2147483648) : ((94 : Int32) < nI p) ↔ 94 < p := nI_ltI (by decide) h
theorem zrt_94 (p : Nat) (h : p < 2147483648) : (nI p < (94 : Int32)) ↔ p < 94 := nI_ltI h (by decide)
theorem zle_94 (p : Nat) (h : p < 2147483648) : (nI p = (94 : Int32)) ↔ p = 94 := nI_eq h (by decide)
theorem zcl_94 : (94 : Int32).toNatClampNeg = 94 := rfl
theorem zla_95 (p : Nat) : (95 : Int32) + nI p = nI (95 + p) := nI_add 95 p
theorem zra_95 (p : Nat) : nI p + (95 : Int32) = nI (p + 95) := nI_add p 95
theorem zlm_95 (p : Nat) : (95 : Int32) * nI p = nI (95 * p) := nI_mul 95 p
theorem zrm_95 (p : Nat) : nI p * (95 : Int32) = nI (p * 95) := nI_mul p 95
theorem zll_95 (p : Nat) (h : p < 2147483648) : ((95 : Int32) ≤ nI p) ↔ 95 ≤ p := nI_leI (by decide) h
theorem zrl_95 (p : Nat) (h : p < 2147483648) : (nI p ≤ (95 : Int32)) ↔ p ≤ 95 := nI_leI h (by decide)
theorem zlt_95 (p : Nat) (h : p < 2147483648) : ((95 : Int32) < nI p) ↔ 95 < p := nI_ltI (by decide) h
theorem zrt_95 (p : Nat) (h : p < 2147483648) : (nI p < (95 : Int32)) ↔ p < 95 := nI_ltI h (by decide)
theorem zle_95 (p : Nat) (h : p < 2147483648) : (nI p = (95 : Int32)) ↔ p = 95 := nI_eq h (by decide)
theorem zcl_95 : (95 : Int32).toNatClampNeg = 95 := rfl
theorem zla_144 (p : Nat) : (144 : Int32) + nI p = nI (144 + p) := nI_add 144 p
theorem zra_144 (p : Nat) : nI p + (144 : Int32) = nI (p + 144) := nI_add p 144
theorem zlm_144 (p : Nat) : (144 : Int32) * nI p = nI (144 * p) := nI_mul 144 p
theorem zrm_144 (p : Nat) : nI p * (144 : Int32) = nI (p * 144) := nI_mul p 144
theorem zll_144 (p : Nat) (h : p < 2147483648) : ((144 : Int32) ≤ nI p) ↔ 144 ≤ p := nI_leI (by decide) h
theorem zrl_144 (p : Nat) (h : p < 2147483648) : (nI p ≤ (144 : Int32)) ↔ p ≤ 144 := nI_leI h (by decide)
theorem zlt_144 (p : Nat) (h : p < 2147483648) : ((144 : Int32) < nI p) ↔ 144 < p := nI_ltI (by decide) h
theorem zrt_144 (p : Nat) (h : p < 2147483648) : (nI p < (144 : Int32)) ↔ p < 144 := nI_ltI h (by decide)
theorem zle_144 (p : Nat) (h : p < 2147483648) : (nI p = (144 : Int32)) ↔ p = 144 := nI_eq h (by decide)
theorem zcl_144 : (144 : Int32).toNatClampNeg = 144 := rfl
theorem zla_700 (p : Nat) : (700 : Int32) + nI p = nI (700 + p) := nI_add 700 p
theorem zra_700 (p : Nat) : nI p + (700 : Int32) = nI (p + 700) := nI_add p 700
theorem zlm_700 (p : Nat) : (700 : Int32) * nI p = nI (700 * p) := nI_mul 700 p
theorem zrm_700 (p : Nat) : nI p * (700 : Int32) = nI (p * 700) := nI_mul p 700
theorem zll_700 (p : Nat) (h : p < 2147483648) : ((700 : Int32) ≤ nI p) ↔ 700 ≤ p := nI_leI (by decide) h
theorem zrl_700 (p : Nat) (h : p < 2147483648) : (nI p ≤ (700 : Int32)) ↔ p ≤ 700 := nI_leI h (by decide)
theorem zlt_700 (p : Nat) (h : p < 2147483648) : ((700 : Int32) < nI p) ↔ 700 < p := nI_ltI (by decide) h
theorem zrt_700 (p : Nat) (h : p < 2147483648) : (nI p < (700 : Int32)) ↔ p < 700 := nI_ltI h (by decide)
theorem zle_700 (p : Nat) (h : p < 2147483648) : (nI p = (700 : Int32)) ↔ p = 700 := nI_eq h (by decide)
theorem zcl_700 : (700 : Int32).toNatClampNeg = 700 := rfl
theorem zla_701 (p : Nat) : (701 : Int32) + nI p = nI (701 + p) := nI_add 701 p
theorem zra_701 (p : Nat) : nI p + (701 : Int32) = nI (p + 701) := nI_add p 701
theorem zlm_701 (p : Nat) : (701 : Int32) * nI p = nI (701 * p) := nI_mul 701 p
theorem zrm_701 (p : Nat) : nI p * (701 : Int32) = nI (p * 701) := nI_mul p 701
theorem zll_701 (p : Nat) (h : p < 2147483648) : ((701 : Int32) ≤ nI p) ↔ 701 ≤ p := nI_leI (by decide) h
theorem zrl_701 (p : Nat) (h : p < 2147483648) : (nI p ≤ (701 : Int32)) ↔ p ≤ 701 := nI_leI h (by decide)
theorem zlt_701 (p : Nat) (h : p < 2147483648) : ((701 : Int32) < nI p) ↔ 701 < p := nI_ltI (by decide) h
theorem zrt_701 (p : Nat) (h : p < 2147483648) : (nI p < (701 : Int32)) ↔ p < 701 := nI_ltI h (by decide)
theorem zle_701 (p : Nat) (h : p < 2147483648) : (nI p = (701 : Int32)) ↔ p = 701 := nI_eq h (by decide)
theorem zcl_701 : (701 : Int32).toNatClampNeg = 701 := rfl
theorem zla_999 (p : Nat) : (999 : Int32) + nI p = nI (999 + p) := nI_add 999 p
theorem zra_999 (p : Nat) : nI p + (999 : Int32) = nI (p + 999) := nI_add p 999
theorem zlm_999 (p : Nat) : (999 : Int32) * nI p = nI (999 * p) := nI_mul 999 p
theorem zrm_999 (p : Nat) : nI p * (999 : Int32) = nI (p * 999) := nI_mul p 999
theorem zll_999 (p : Nat) (h : p < 2147483648) : ((999 : Int32) ≤ nI p) ↔ 999 ≤ p := nI_leI (by decide) h
theorem zrl_999 (p : Nat) (h : p < 2147483648) : (nI p ≤ (999 : Int32)) ↔ p ≤ 999 := nI_leI h (by decide)
theorem zlt_999 (p : Nat) (h : p < 2147483648) : ((999 : Int32) < nI p) ↔ 999 < p := nI_ltI (by decide) h
theorem zrt_999 (p : Nat) (h : p < 2147483648) : (nI p < (999 : Int32)) ↔ p < 999 := nI_ltI h (by decide)
theorem zle_999 (p : Nat) (h : p < 2147483648) : (nI p = (999 : Int32)) ↔ p = 999 := nI_eq h (by decide)
theorem zcl_999 : (999 : Int32).toNatClampNeg = 999 := rfl
theorem zla_9999 (p : Nat) : (9999 : Int32) + nI p = nI (9999 + p) := nI_add 9999 p
theorem zra_9999 (p : Nat) : nI p + (9999 : Int32) = nI (p + 9999) := nI_add p 9999
theorem zlm_9999 (p : Nat) : (9999 : Int32) * nI p = nI (9999 * p) := nI_mul 9999 p
theorem zrm_9999 (p : Nat) : nI p * (9999 : Int32) = nI (p * 9999) := nI_mul p 9999
theorem zll_9999 (p : Nat) (h : p < 2147483648) : ((9999 : Int32) ≤ nI p) ↔ 9999 ≤ p := nI_leI (by decide) h
theorem zrl_9999 (p : Nat) (h : p < 2147483648) : (nI p ≤ (9999 : Int32)) ↔ p ≤ 9999 := nI_leI h (by decide)
theorem zlt_9999 (p : Nat) (h : p < 2147483648) : ((9999 : Int32) < nI p) ↔ 9999 < p := nI_ltI (by decide) h
theorem zrt_9999 (p : Nat) (h : p < 2147483648) : (nI p < (9999 : Int32)) ↔ p < 9999 := nI_ltI h (by decide)
theorem zle_9999 (p : Nat) (h : p < 2147483648) : (nI p = (9999 : Int32)) ↔ p = 9999 := nI_eq h (by decide)
theorem zcl_9999 : (9999 : Int32).toNatClampNeg = 9999 := rfl
theorem inA_nI {p n : Nat} (h : p < 2147483648) : inA (nI p) n ↔ p < n := by
  rw [inA, nI_toInt h]
  omega
theorem inA_lt {p n : Nat} (hn : n < 2147483648) (h : p < n) : inA (nI p) n := (inA_nI (by omega)).mpr h
/-- counting from i, k rounds -/
def accN {A : Type} (step : Nat → A → A) : Nat → Nat → A → A
  | 0, _, a => a
  | k + 1, i, a => accN step k (i + 1) (step i a)
theorem accN_add {A : Type} (step : Nat → A → A) : ∀ (k m i : Nat) (a : A), accN step (k + m) i a = accN step m (i + k) (accN step k i a)
  | 0, m, i, a => by rw [Nat.zero_add]; rfl
  | k + 1, m, i, a => by rw [Nat.succ_add]; show accN step (k + m) (i + 1) _ = _; rw [accN_add step k m, Nat.add_right_comm]; rfl
theorem accN_congr {A : Type} {step step' : Nat → A → A} : ∀ (k i : Nat) (a : A), (∀ j b, i ≤ j → j < i + k → step j b = step' j b) → accN step k i a = accN step' k i a
  | 0, _, _, _ => rfl
  | k + 1, i, a, h => by
    show accN step k (i + 1) _ = accN step' k (i + 1) _
    rw [h i a (Nat.le_refl _) (by omega), accN_congr k (i + 1) _ (fun j b h1 h2 => h j b (by omega) (by omega))]
theorem accN_id {A : Type} {step : Nat → A → A} : ∀ (k i : Nat) (a : A), (∀ j b, i ≤ j → j < i + k → step j b = b) → accN step k i a = a
  | 0, _, _, _ => rfl
  | k + 1, i, a, h => by
    show accN step k (i + 1) _ = _
    rw [h i a (Nat.le_refl _) (by omega), accN_id k (i + 1) a (fun j b h1 h2 => h j b (by omega) (by omega))]
theorem accN_succ {A : Type} (step : Nat → A → A) (k i : Nat) (a : A) : accN step (k + 1) i a = step (i + k) (accN step k i a) := accN_add step k 1 i a
/-- an invariant of counting -/
theorem accN_inv {A : Type} {step : Nat → A → A} (I : Nat → A → Prop) : ∀ (k i : Nat) (a : A), I i a → (∀ j b, i ≤ j → j < i + k → I j b → I (j + 1) (step j b)) → I (i + k) (accN step k i a)
  | 0, _, _, h, _ => h
  | k + 1, i, a, h, hs => by
    have := accN_inv I k (i + 1) (step i a) (hs i a (Nat.le_refl _) (by omega) h) (fun j b h1 h2 => hs j b (by omega) (by omega))
    rw [show i + (k + 1) = i + 1 + k by omega]
    exact this
/-- two counts that keep a tie -/
theorem accN_rel {A B : Type} {f : Nat → A → A} {g : Nat → B → B} (R : Nat → A → B → Prop) : ∀ (k i : Nat) (a : A) (b : B), R i a b → (∀ j x y, i ≤ j → j < i + k → R j x y → R (j + 1) (f j x) (g j y)) → R (i + k) (accN f k i a) (accN g k i b)
  | 0, _, _, _, h, _ => h
  | k + 1, i, a, b, h, hs => by
    have := accN_rel R k (i + 1) (f i a) (g i b) (hs i a b (Nat.le_refl _) (by omega) h) (fun j x y h1 h2 => hs j x y (by omega) (by omega))
    rw [show i + (k + 1) = i + 1 + k by omega]
    exact this
/-- a loop that counts up to N, its fuel being enough -/
theorem loopN {A B : Type} (F : Nat → A → Nat → B) (N : Nat) (step : Nat → A → A) (E : A → B) (hF : ∀ n a i, i < N → F (n + 1) a i = F n (step i a) (i + 1)) (hE : ∀ n a, F (n + 1) a N = E a) : ∀ (k n : Nat) (a : A) (i : Nat), i + k = N → k < n → F n a i = E (accN step k i a)
  | 0, n, a, i, hi, hn => by
    obtain ⟨n, rfl⟩ : ∃ m, n = m + 1 := ⟨n - 1, by omega⟩
    rw [show i = N by omega]
    exact hE n a
  | k + 1, n, a, i, hi, hn => by
    obtain ⟨n, rfl⟩ : ∃ m, n = m + 1 := ⟨n - 1, by omega⟩
    rw [hF n a i (by omega)]
    exact loopN F N step E hF hE k n _ (i + 1) (by omega) (by omega)
/-- the same under an invariant -/
theorem loopI {A B : Type} (F : Nat → A → Nat → B) (N : Nat) (step : Nat → A → A) (E : A → B) (I : Nat → A → Prop) (hI : ∀ a i, i < N → I i a → I (i + 1) (step i a)) (hF : ∀ n a i, i < N → I i a → F (n + 1) a i = F n (step i a) (i + 1)) (hE : ∀ n a, I N a → F (n + 1) a N = E a) : ∀ (k n : Nat) (a : A) (i : Nat), I i a → i + k = N → k < n → F n a i = E (accN step k i a)
  | 0, n, a, i, h, hi, hn => by
    obtain ⟨n, rfl⟩ : ∃ m, n = m + 1 := ⟨n - 1, by omega⟩
    obtain rfl : i = N := by omega
    exact hE n a h
  | k + 1, n, a, i, h, hi, hn => by
    obtain ⟨n, rfl⟩ : ∃ m, n = m + 1 := ⟨n - 1, by omega⟩
    rw [hF n a i (by omega) h]
    exact loopI F N step E I hI hF hE k n _ (i + 1) (hI a i (by omega) h) (by omega) (by omega)
/-- a count with a way out -/
def accE {A B : Type} (step : Nat → A → A ⊕ B) : Nat → Nat → A → A ⊕ B
  | 0, _, a => .inl a
  | k + 1, i, a => match step i a with
    | .inl b => accE step k (i + 1) b
    | .inr r => .inr r
theorem loopE {A B C : Type} (F : Nat → A → Nat → C) (N : Nat) (step : Nat → A → A ⊕ B) (E : A → C) (X : B → C) (I : Nat → A → Prop) (hI : ∀ a b i, i < N → I i a → step i a = .inl b → I (i + 1) b) (hF : ∀ n a i, i < N → I i a → F (n + 1) a i = match step i a with
    | .inl b => F n b (i + 1)
    | .inr r => X r) (hE : ∀ n a, I N a → F (n + 1) a N = E a) : ∀ (k n : Nat) (a : A) (i : Nat), I i a → i + k = N → k < n → F n a i = match accE step k i a with
    | .inl b => E b
    | .inr r => X r
  | 0, n, a, i, h, hi, hn => by
    obtain ⟨n, rfl⟩ : ∃ m, n = m + 1 := ⟨n - 1, by omega⟩
    obtain rfl : i = N := by omega
    exact hE n a h
  | k + 1, n, a, i, h, hi, hn => by
    obtain ⟨n, rfl⟩ : ∃ m, n = m + 1 := ⟨n - 1, by omega⟩
    rw [hF n a i (by omega) h]
    cases hs : step i a with
    | inl b =>
      simp only [accE, hs]
      exact loopE F N step E X I hI hF hE k n b (i + 1) (hI a b i (by omega) h hs) (by omega) (by omega)
    | inr r => simp only [accE, hs]
/-- looking at a row, and writing into it -/
theorem at_nI {r j : Nat} {s : St} (hr : LN r < 2147483648) (h : j < LN r) : fX11_at r (nI j) s = some (s r j, s) := by
  rw [fX11_at, if_neg (nI_pos (by omega)), if_neg (by show ¬ nI (LN r) ≤ nI j; exact fun e => by rw [nI_leI (by omega) (by omega)] at e; omega), if_pos (inA_lt hr h), nI_clamp (by omega)]
theorem put_nI {r j : Nat} {v : Int32} {s : St} (hr : LN r < 2147483648) (h : j < LN r) : fX11_put r (nI j) v s = some (0, wr s r j v) := by
  rw [fX11_put, if_neg (nI_pos (by omega)), if_neg (by show ¬ nI (LN r) ≤ nI j; exact fun e => by rw [nI_leI (by omega) (by omega)] at e; omega), if_pos (inA_lt hr h), nI_clamp (by omega)]
theorem at_neg {r : Nat} {i : Int32} {s : St} (h : i < 0) : fX11_at r i s = some (0, s) := by
  rw [fX11_at, if_pos h]

