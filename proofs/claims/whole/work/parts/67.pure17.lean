theorem SW.cong {n : Nat} {c m c' m' : Nat → Int32} (h12 : n ≤ 12) (hc : ∀ j, j < 94 → c' j = c j) (hm : ∀ j, j < 95 → m' j = m j) (h : SW n c m) : SW n c' m' := by
  obtain ⟨h1, h2, h3, h4, h5, ⟨A, a1, a2, a3⟩, h7⟩ := h
  refine ⟨fun p k hp hk => ?_, fun p hp => ?_, fun p hp => ?_, fun j hj => ?_, fun q hq => ?_, ⟨A, a1, ?_, fun p hp => ?_⟩, fun p q1 q2 => ?_⟩
  · rw [hm _ (by omega), hc _ (by omega), h1 p k hp hk]
  · rw [hm _ (by omega), hc _ (by omega), h2 p hp]
  · rw [hm _ (by omega), hc _ (by omega), h3 p hp]
  · rw [hm _ (by omega), hc _ (by omega), h4 j hj]
  · rw [hm _ (by omega), hc _ (by omega), h5 q hq]
  · rw [hm _ (by omega), a2]
  · rw [hc _ (by omega)]; exact a3 p hp
  · rw [hc _ (by omega)]; exact h7 p q1 q2
theorem WI.cong {n : Nat} {c c' : Nat → Int32} (h12 : n ≤ 12) (hc : ∀ j, j < 94 → c' j = c j) (h : WI n c) : WI n c' := by
  obtain ⟨h1, h2, ⟨S, s1, s2⟩, h4, ⟨N, n1, n2⟩⟩ := h
  refine ⟨fun p hp => ?_, fun p hp => ?_, ⟨S, fun p k hp hk => ?_, s2⟩, fun j hj => ?_, ⟨N, fun q hq => ?_, ?_⟩⟩
  · rw [hc _ (by omega)]; exact h1 p hp
  · rw [hc _ (by omega)]
    rcases h2 p hp with h | ⟨q, g1, g2, g3, g4⟩
    · exact Or.inl h
    · exact Or.inr ⟨q, g1, g2, g3, by rw [hc _ (by omega)]; exact g4⟩
  · rw [hc _ (by omega)]; exact s1 p k hp hk
  · rw [hc _ (by omega)]; exact h4 j hj
  · rw [hc _ (by omega)]; exact n1 q hq
  · rw [sumN_congr (g := fun p => if c (48 + p) = -1 then 0 else 1) n (fun p hp => by rw [hc _ (by omega)])]
    exact n2
