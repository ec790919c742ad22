/-! ===== whole numbers of 32 bits ===== -/
theorem i_add {a b : Int32} (h1 : -2147483648 ≤ a.toInt + b.toInt) (h2 : a.toInt + b.toInt ≤ 2147483647) : (a + b).toInt = a.toInt + b.toInt := by
  rw [Int32.toInt_add, Int.bmod]
  split <;> omega
theorem i_sub {a b : Int32} (h1 : -2147483648 ≤ a.toInt - b.toInt) (h2 : a.toInt - b.toInt ≤ 2147483647) : (a - b).toInt = a.toInt - b.toInt := by
  rw [Int32.toInt_sub, Int.bmod]
  split <;> omega
theorem i_mul {a b : Int32} (h1 : -2147483648 ≤ a.toInt * b.toInt) (h2 : a.toInt * b.toInt ≤ 2147483647) : (a * b).toInt = a.toInt * b.toInt := by
  rw [Int32.toInt_mul, Int.bmod]
  generalize a.toInt * b.toInt = c at *
  split <;> omega
theorem i_lt {a b : Int32} : a < b ↔ a.toInt < b.toInt := Int32.lt_iff_toInt_lt
theorem i_le {a b : Int32} : a ≤ b ↔ a.toInt ≤ b.toInt := Int32.le_iff_toInt_le
theorem i_eq {a b : Int32} : a = b ↔ a.toInt = b.toInt := Int32.toInt_inj.symm
theorem i_nat (a : Int32) : a.toNatClampNeg = a.toInt.toNat := rfl
theorem i_ge (a : Int32) : -2147483648 ≤ a.toInt := by have := Int32.le_toInt a; omega
theorem i_le' (a : Int32) : a.toInt ≤ 2147483647 := by have := Int32.toInt_lt a; omega
theorem i_ofNat {n : Nat} (h : n < 2147483648) : (Int32.ofNat n).toInt = n := nI_toInt h
theorem put_in {r : Nat} {i v : Int32} {s : St} (hr : LN r < 2147483648) (h0 : 0 ≤ i.toInt) (h1 : i.toInt < LN r) : fX11_put r i v s = some (0, wr s r i.toInt.toNat v) := by
  have z : (0 : Int32).toInt = 0 := rfl
  rw [fX11_put, if_neg (by rw [i_lt, z]; omega), if_neg (by rw [i_le, i_ofNat hr]; omega), if_pos ⟨h0, h1⟩]
  rfl
theorem fill_L (r : Nat) (hi v : Int32) (hr : LN r < 2147483648) (hhi : hi.toInt ≤ LN r) : ∀ (n : Nat) (i : Int32) (s : St), 0 ≤ i.toInt → 0 < n → hi.toInt - i.toInt < n → fX11_fill_L3 r hi v n i s = some (0, fun (a b : Nat) => if a = r ∧ i.toInt ≤ (b : Int) ∧ (b : Int) < hi.toInt then v else s a b) := by
  intro n
  induction n with
  | zero =>
    intro i s _ h _
    exact absurd h (Nat.lt_irrefl 0)
  | succ n ih =>
    intro i s h0 _ h1
    rw [fX11_fill_L3]
    by_cases hc : hi ≤ i
    · rw [if_pos hc]
      rw [i_le] at hc
      congr 2
      funext a b
      rw [if_neg (by omega)]
    · rw [if_neg hc]
      rw [i_le] at hc
      have o : (1 : Int32).toInt = 1 := rfl
      have := i_le' hi
      have hadd : (i + 1).toInt = i.toInt + 1 := by rw [i_add, o] <;> rw [o] <;> omega
      rw [put_in hr h0 (by omega), bd_some, ih (i + 1) _ (by omega) (by omega) (by omega)]
      congr 2
      funext a b
      rw [hadd]
      by_cases ha : a = r
      · by_cases hb : (b : Int) = i.toInt
        · rw [if_neg (by omega), if_pos (by omega), wr, if_pos ⟨ha, by omega⟩]
        · by_cases h3 : i.toInt ≤ b ∧ (b : Int) < hi.toInt
          · rw [if_pos (by omega), if_pos (by omega)]
          · rw [if_neg (by omega), if_neg (by omega), wr, if_neg (by omega)]
      · rw [if_neg (by simp [ha]), if_neg (by simp [ha]), wr, if_neg (by simp [ha])]
theorem fill_spec {r : Nat} {lo hi v : Int32} {s : St} (hr : LN r < 20000) (h0 : 0 ≤ lo.toInt) (hhi : hi.toInt ≤ LN r) : fX11_fill r lo hi v s = some (0, fun (a b : Nat) => if a = r ∧ lo.toInt ≤ (b : Int) ∧ (b : Int) < hi.toInt then v else s a b) := by
  rw [fX11_fill]
  exact fill_L r hi v (by omega) hhi FU lo s h0 (by decide) (by rw [show ((FU : Nat) : Int) = 20000 from rfl]; omega)
