theorem wi_spouse {n : Nat} {c c' : Nat → Int32} (hc : ∀ j, j < 60 ∨ 72 ≤ j → c' j = c j) (h12 : n ≤ 12) (hs : ∀ p, p < n → c' (60 + p) = -1 ∨ ∃ q, q < n ∧ q ≠ p ∧ c' (60 + p) = nI q ∧ c' (60 + q) = nI p) (h : WI n c) : WI n c' := by
  obtain ⟨h1, -, ⟨S, s1, s2⟩, h4, ⟨N, n1, n2⟩⟩ := h
  refine ⟨fun p hp => ?_, hs, ⟨S, fun p k hp hk => ?_, s2⟩, fun j hj => ?_, ⟨N, fun q hq => ?_, ?_⟩⟩
  · rw [hc _ (by omega)]; exact h1 p hp
  · rw [hc _ (by omega)]; exact s1 p k hp hk
  · rw [hc _ (by omega)]; exact h4 j hj
  · rw [hc _ (by omega)]; exact n1 q hq
  · rw [sumN_congr (g := fun p => if c (48 + p) = -1 then 0 else 1) n (fun p hp => by rw [hc _ (by omega)])]
    exact n2
theorem leaveR_out {n p : Nat} {c : Nat → Int32} (h12 : n ≤ 12) (hp : p < n) (hi : WI n c) (j : Nat) (hj : j < 60 ∨ 72 ≤ j) : leaveR c p j = c j := by
  rw [leaveR]
  rcases hi.2.1 p hp with e | ⟨q, hq, -, e, -⟩
  · rw [if_pos e]
  · rw [e, if_neg (neg1 (by omega)), nI_toInt (by omega), if_neg (by omega)]
theorem leaveR_self {p : Nat} {c : Nat → Int32} : leaveR c p (60 + p) = -1 := by
  rw [leaveR]
  by_cases e : c (60 + p) = -1
  · rw [if_pos e, e]
  · rw [if_neg e, if_pos (Or.inl rfl)]
theorem wi_leave {n p : Nat} {c : Nat → Int32} (h12 : n ≤ 12) (hp : p < n) (hi : WI n c) : WI n (leaveR c p) := by
  refine wi_spouse (fun j hj => leaveR_out h12 hp hi j hj) h12 (fun p' hp' => ?_) hi
  rcases hi.2.1 p hp with e | ⟨q, hq, hqp, e, e2⟩
  · have : leaveR c p = c := by funext j; rw [leaveR, if_pos e]
    rw [this]
    exact hi.2.1 p' hp'
  · have hl : ∀ x, leaveR c p (60 + x) = if x = p ∨ x = q then -1 else c (60 + x) := fun x => by
      rw [leaveR, e, if_neg (neg1 (by omega)), nI_toInt (by omega)]
      by_cases h : x = p ∨ x = q
      · rw [if_pos h, if_pos (by omega)]
      · rw [if_neg h, if_neg (by omega)]
    rw [hl p']
    by_cases h : p' = p ∨ p' = q
    · rw [if_pos h]; exact Or.inl rfl
    · rw [if_neg h]
      rcases hi.2.1 p' hp' with g | ⟨r, g1, g2, g3, g4⟩
      · exact Or.inl g
      · refine Or.inr ⟨r, g1, g2, g3, ?_⟩
        rw [hl r, if_neg, g4]
        rintro (rfl | rfl)
        · rw [e] at g4
          exact h (Or.inr ((nI_eq (by omega) (by omega)).mp g4).symm)
        · rw [e2] at g4
          exact h (Or.inl ((nI_eq (by omega) (by omega)).mp g4).symm)
