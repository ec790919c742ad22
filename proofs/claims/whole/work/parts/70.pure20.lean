theorem w_setPlace {w p : Nat} {s : St} {v : Int32} (hw : LN (w + 1) = 94) (hp : p < 12) : fX10_setPlace w (nI p) v s = some (0, wr s (w + 1) (48 + p) v) := by
  rw [fX10_setPlace, zla_48, put_nI (by omega) (by omega), bd_some]
/-- somebody alive is elsewhere now -/
theorem sw_place {n p q : Nat} {c m c' m' : Nat → Int32} (h12 : n ≤ 12) (hp : p < n) (hq : q < 10) (ha : ¬ c (48 + p) = -1) (hc : ∀ j, c' j = if j = 48 + p then nI q else c j) (hm : ∀ j, m' j = if j = 48 + p then nI q else m j) (h : SW n c m) (hi : WI n c) : SW n c' m' ∧ WI n c' := by
  obtain ⟨h1, h2, h3, h4, h5, ⟨A, a1, a2, a3⟩, h7⟩ := h
  obtain ⟨i1, i2, ⟨S, s1, s2⟩, i4, ⟨N, n1, n2⟩⟩ := hi
  refine ⟨⟨fun p' k hp' hk => ?_, fun p' hp' => ?_, fun p' hp' => ?_, fun j hj => ?_, fun j hj => ?_, ⟨A, a1, ?_, fun p' hp' => ?_⟩, fun p' q1 q2 => ?_⟩, ⟨fun p' hp' => ?_, fun p' hp' => ?_, ⟨S, fun p' k hp' hk => ?_, s2⟩, fun j hj => ?_, ⟨N, fun j hj => ?_, ?_⟩⟩⟩
  · rw [hc, hm, if_neg (by omega), if_neg (by omega), h1 p' k hp' hk]
  · rw [hc, hm, h2 p' hp']
  · rw [hc, hm, if_neg (by omega), if_neg (by omega), h3 p' hp']
  · rw [hc, hm, if_neg (by omega), if_neg (by omega), h4 j hj]
  · rw [hc, hm, if_neg (by omega), if_neg (by omega), h5 j hj]
  · rw [hm, if_neg (by omega), a2]
  · rw [a3 p' hp', hc]
    by_cases e : 48 + p' = 48 + p
    · rw [if_pos e, show p' = p by omega]
      exact ⟨fun _ => neg1 (by omega), fun _ => ha⟩
    · rw [if_neg e]
  · rw [hc, if_neg (by omega)]; exact h7 p' q1 q2
  · rw [hc]
    by_cases e : 48 + p' = 48 + p
    · rw [if_pos e]; exact Or.inr ⟨q, hq, rfl⟩
    · rw [if_neg e]; exact i1 p' hp'
  · rw [hc, if_neg (by omega)]
    rcases i2 p' hp' with e | ⟨q', g1, g2, g3, g4⟩
    · exact Or.inl e
    · exact Or.inr ⟨q', g1, g2, g3, by rw [hc, if_neg (by omega)]; exact g4⟩
  · rw [hc, if_neg (by omega)]; exact s1 p' k hp' hk
  · rw [hc, if_neg (by omega)]; exact i4 j hj
  · rw [hc, if_neg (by omega)]; exact n1 j hj
  · rw [sumN_congr (g := fun p => if c (48 + p) = -1 then 0 else 1) n (fun p' hp' => ?_)]
    · exact n2
    · rw [hc]
      by_cases e : 48 + p' = 48 + p
      · rw [if_pos e, if_neg (neg1 (by omega)), show p' = p by omega, if_neg ha]
      · rw [if_neg e]
