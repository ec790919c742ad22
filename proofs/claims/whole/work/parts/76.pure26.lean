/-- a marriage that is left -/
def leaveR (c : Nat → Int32) (p : Nat) : Nat → Int32 := fun j => if c (60 + p) = -1 then c j else if j = 60 + p ∨ j = 60 + (c (60 + p)).toInt.toNat then -1 else c j
theorem w_leave {w n p : Nat} {s : St} (hw : LN (w + 1) = 94) (h12 : n ≤ 12) (hp : p < n) (hi : WI n (s (w + 1))) : ∃ s', fX10_leaveSpouse w (nI p) s = some (0, s') ∧ s' (w + 1) = leaveR (s (w + 1)) p ∧ ∀ k, k ≠ w + 1 → s' k = s k := by
  rw [fX10_leaveSpouse, w_spouse hw (by omega), bd_some]
  rcases hi.2.1 p hp with e | ⟨q, hq, -, e, -⟩
  · refine ⟨s, by rw [if_pos e], ?_, fun _ _ => rfl⟩
    funext j
    rw [leaveR, if_pos e]
  · refine ⟨wr (wr s (w + 1) (60 + q) (-1)) (w + 1) (60 + p) (-1), ?_, ?_, fun k hk => by rw [wr_slot hk, wr_slot hk]⟩
    · rw [e, if_neg (neg1 (by omega)), w_setSpouse hw (by omega), bd_some, w_setSpouse hw (by omega), bd_some]
    · funext j
      rw [leaveR, e, if_neg (neg1 (by omega)), nI_toInt (by omega)]
      show wr _ (w + 1) (60 + p) (-1) (w + 1) j = _
      by_cases h1 : j = 60 + p
      · rw [if_pos (Or.inl h1), h1, wr_hit]
      · rw [wr_place h1]
        by_cases h2 : j = 60 + q
        · rw [if_pos (Or.inr (by omega)), h2, wr_hit]
        · rw [wr_place h2, if_neg (by omega)]
