theorem m_bound {u : St} {n A p : Nat} {c : Nat → Int32} (h12 : n ≤ 12) (hA : A < 4096) (hu : u 69 17 = nI A) (h : ∀ p, p < n → (A.testBit p = true ↔ ¬ c (48 + p) = -1)) (hp : p < n) (hs : u 77 p = c (60 + p)) (hi : WI n c) : fX12_isBound (nI p) u = some ((if boundS c p then 1 else 0), u) := by
  rw [fX12_isBound, if_pos (inA_lt (by decide) (by omega)), nI_clamp (by omega), hs]
  rcases hi.2.1 p hp with e | ⟨q, hq, -, e, -⟩
  · rw [if_pos e, bound_no e, if_neg (by decide)]
  · rw [e, if_neg (neg1 (by omega)), if_pos (inA_lt (by decide) (by omega)), m_alive_c h12 hA hu h hq, bd_some, bound_of (by omega) e]
    by_cases hd : c (48 + q) = -1
    · rw [if_pos hd, if_pos rfl, decide_eq_true hd, if_neg (by decide)]
    · rw [if_neg hd, if_neg (by decide), decide_eq_false hd, if_pos (by decide)]
