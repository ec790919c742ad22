theorem m_unbind {n p : Nat} {u : St} {c : Nat → Int32} (h12 : n ≤ 12) (hp : p < n) (hi : WI n c) (hs : ∀ p, p < n → u 77 p = c (60 + p)) : ∃ u', fX12_unbind (nI p) u = some (0, u') ∧ (∀ p', p' < n → u' 77 p' = leaveR c p (60 + p')) ∧ ∀ k, k ≠ 77 → u' k = u k := by
  rw [fX12_unbind, if_pos (inA_lt (by decide) (by omega)), nI_clamp (by omega), hs p hp]
  rcases hi.2.1 p hp with e | ⟨q, hq, -, e, -⟩
  · refine ⟨u, by rw [if_pos e], fun p' hp' => ?_, fun _ _ => rfl⟩
    rw [leaveR, if_pos e, hs p' hp']
  · refine ⟨wr (wr u 77 q (-1)) 77 p (-1), ?_, fun p' hp' => ?_, fun k hk => by rw [wr_slot hk, wr_slot hk]⟩
    · rw [e, if_neg (neg1 (by omega)), if_pos (inA_lt (by decide) (by omega)), if_pos (inA_lt (by decide) (by omega)), nI_clamp (by omega), if_pos (inA_lt (by decide) (by omega))]
    · rw [leaveR, e, if_neg (neg1 (by omega)), nI_toInt (by omega)]
      by_cases h1 : p' = p
      · rw [if_pos (Or.inl (by omega)), h1, wr_hit]
      · rw [wr_place h1]
        by_cases h2 : p' = q
        · rw [if_pos (Or.inr (by omega)), h2, wr_hit]
        · rw [wr_place h2, if_neg (by omega), hs p' hp']
