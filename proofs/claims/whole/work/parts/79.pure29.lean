def wedR (c : Nat → Int32) (p q : Nat) : Nat → Int32 := fun j => if j = 60 + q then nI p else if j = 60 + p then nI q else leaveR (leaveR c p) q j
theorem wi_wed {n p q : Nat} {c : Nat → Int32} (h12 : n ≤ 12) (hp : p < n) (hq : q < n) (hpq : p ≠ q) (hi : WI n c) : WI n (wedR c p q) := by
  have h1 := wi_leave h12 hp hi
  have h2 := wi_leave h12 hq h1
  have hself : leaveR (leaveR c p) q (60 + q) = -1 := leaveR_self
  have hselfp : leaveR (leaveR c p) q (60 + p) = -1 := by
    have e := leaveR_self (c := c) (p := p)
    rw [leaveR]
    by_cases g : leaveR c p (60 + q) = -1
    · rw [if_pos g, e]
    · rw [if_neg g]
      split
      · rfl
      · exact e
  refine wi_spouse (c := leaveR (leaveR c p) q) (fun j hj => by rw [wedR, if_neg (by omega), if_neg (by omega)]) h12 (fun x hx => ?_) h2
  by_cases hxq : x = q
  · subst hxq
    refine Or.inr ⟨p, hp, hpq, by rw [wedR, if_pos rfl], ?_⟩
    rw [wedR, if_neg (by omega), if_pos rfl]
  · by_cases hxp : x = p
    · subst hxp
      refine Or.inr ⟨q, hq, fun e => hpq e.symm, by rw [wedR, if_neg (by omega), if_pos rfl], by rw [wedR, if_pos rfl]⟩
    · rw [wedR, if_neg (by omega), if_neg (by omega)]
      rcases h2.2.1 x hx with g | ⟨r, g1, g2, g3, g4⟩
      · exact Or.inl g
      · refine Or.inr ⟨r, g1, g2, g3, ?_⟩
        have hrq : r ≠ q := by
          rintro rfl
          rw [hself] at g4
          exact neg1 (by omega) g4.symm
        have hrp : r ≠ p := by
          rintro rfl
          rw [hselfp] at g4
          exact neg1 (by omega) g4.symm
        rw [wedR, if_neg (by omega), if_neg (by omega), g4]
