/-! ===== weddings ===== -/
/-- somebody's spouse is told and alive -/
def boundS (c : Nat → Int32) (p : Nat) : Bool := !decide (c (60 + p) = -1) && !decide (c (48 + (c (60 + p)).toInt.toNat) = -1)
theorem bound_no {c : Nat → Int32} {p : Nat} (h : c (60 + p) = -1) : boundS c p = false := by simp [boundS, h]
theorem bound_of {c : Nat → Int32} {p q : Nat} (hq : q < 12) (h : c (60 + p) = nI q) : boundS c p = !decide (c (48 + q) = -1) := by
  rw [boundS, h, decide_eq_false (neg1 (by omega)), nI_toInt (by omega)]
  rfl
theorem w_free {w n p : Nat} {s : St} (hw : LN (w + 1) = 94) (h12 : n ≤ 12) (hp : p < n) (hi : WI n (s (w + 1))) : fX10_free w (nI p) s = some ((if s (w + 1) (48 + p) = -1 then 0 else if boundS (s (w + 1)) p then 0 else 1), s) := by
  rw [fX10_free, w_spouse hw (by omega), bd_some, w_alive hw (by omega), bd_some]
  by_cases h : s (w + 1) (48 + p) = -1
  · rw [if_pos h, if_pos h, if_pos rfl]
  · rw [if_neg h, if_neg h, if_neg (by decide)]
    rcases hi.2.1 p hp with e | ⟨q, hq, -, e, -⟩
    · rw [if_pos e, bound_no e, if_neg (by decide)]
    · rw [e, if_neg (neg1 (by omega)), w_alive hw (by omega), bd_some, bound_of (by omega) e]
      by_cases hd : s (w + 1) (48 + q) = -1
      · rw [if_pos hd, if_pos rfl, decide_eq_true hd, if_neg (by decide)]
      · rw [if_neg hd, if_neg (by decide), decide_eq_false hd, if_pos (by decide)]
