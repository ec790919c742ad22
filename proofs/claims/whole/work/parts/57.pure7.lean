/-! ===== death, seat, post, front, person, field, count ===== -/
theorem lt_out {a : Int32} {k : Nat} (hk : k < 2147483648) (h : a < 0 ∨ nI k ≤ a) (h0 : ¬ a < 0) : ¬ a < nI k := by
  rcases h with h | h
  · exact absurd h h0
  · rw [i_le] at h
    rw [i_lt]
    omega
theorem m_upto {s : St} {a : Int32} {k : Nat} (hk : k < 2147483648) : fX12_isIn (Int32.toInt64 a) (0 : Int64) (Int32.toInt64 (nI k - 1)) s = some ((if 0 ≤ a.toInt ∧ a.toInt < k then 1 else 0), s) := by
  rw [l64_0, m_isIn, nI_pred_int hk, show (0 : Int32).toInt = 0 from rfl]
  by_cases h : 0 ≤ a.toInt ∧ a.toInt < k
  · rw [if_pos h, if_pos (show 0 ≤ a.toInt ∧ a.toInt ≤ (k : Int) - 1 by omega)]
  · rw [if_neg h, if_neg (show ¬ (0 ≤ a.toInt ∧ a.toInt ≤ (k : Int) - 1) by omega)]
theorem m_upto_in {s : St} {p k : Nat} (hk : k < 2147483648) (hp : p < k) : fX12_isIn (Int32.toInt64 (nI p)) (0 : Int64) (Int32.toInt64 (nI k - 1)) s = some (1, s) := by
  rw [m_upto hk, nI_toInt (by omega), if_pos (by omega)]
theorem m_upto_out {s : St} {a : Int32} {k : Nat} (hk : k < 2147483648) (h : a < 0 ∨ nI k ≤ a) : fX12_isIn (Int32.toInt64 a) (0 : Int64) (Int32.toInt64 (nI k - 1)) s = some (0, s) := by
  have := out_int hk h
  rw [m_upto hk, if_neg (by omega)]
theorem good_death (a : Int32) : Good (fX11_death a) (fX12_death a) c12 := good_read (fun s hs => by
  obtain ⟨n, nw, nf, -, -, -, -, ⟨k, hk, h1, h2, h3⟩, -⟩ := id hs
  rcases i_cases a (n := k) (by omega) with ⟨p, hp, rfl⟩ | ho
  · refine ⟨.inl (s 56 p), by rw [fX11_death, if_neg (nI_pos (by omega)), h1, if_pos (by rw [nI_ltI (by omega) (by omega)]; exact hp), at_nI (by decide) (by show p < 3; omega), bd_some], fun t u hu e hv hj => ?_⟩
    show fX12_death (nI p) t = some (s 56 p, u)
    have e2 : s 69 44 = nI k := by rcases h2 with ⟨-, h⟩ | h <;> first | omega | exact h
    rw [fX12_death, hu, hj 44 (by decide), e2, if_neg (neg1 (by omega)), m_upto_in (by omega) hp, bd_some, if_neg (by decide), if_pos (inA_lt (by decide) (by omega)), nI_clamp (by omega), e 97 (by decide) (by decide), h3 p hp]
  · refine ⟨.inr 0, ?_, fun t u hu e hv hj => ⟨by omega, by decide, 0, ?_⟩⟩
    · rw [fX11_death]
      by_cases h0 : a < 0
      · rw [if_pos h0]
      · rw [if_neg h0, h1, if_neg (lt_out (by omega) ho h0)]
    · rw [fX12_death, hu, hj 44 (by decide)]
      by_cases h5 : s 69 44 = -1
      · rw [if_pos h5, m_fail]; rfl
      · have e2 : s 69 44 = nI k := by rcases h2 with ⟨h, -⟩ | h <;> first | exact absurd h h5 | exact h
        rw [if_neg h5, e2, m_upto_out (by omega) ho, bd_some, if_pos rfl, m_fail]; rfl)
theorem good_seat (a : Int32) : Good (fX11_seat a) (fX12_seat a) c12 := good_read (fun s hs => by
  obtain ⟨n, nw, nf, -, -, -, -, -, -, ⟨k, hk, h1, h2, h3⟩⟩ := id hs
  rcases i_cases a (n := k) (by omega) with ⟨p, hp, rfl⟩ | ho
  · refine ⟨.inl (s 64 p), by rw [fX11_seat, if_neg (nI_pos (by omega)), h1, if_pos (by rw [nI_ltI (by omega) (by omega)]; exact hp), at_nI (by decide) (by show p < 7; omega), bd_some], fun t u hu e hv hj => ?_⟩
    show fX12_seat (nI p) t = some (s 64 p, u)
    have e2 : s 69 51 = nI k := by rcases h2 with ⟨-, h⟩ | h <;> first | omega | exact h
    rw [fX12_seat, hu, hj 51 (by decide), e2, if_neg (neg1 (by omega)), m_upto_in (by omega) hp, bd_some, if_neg (by decide), if_pos (inA_lt (by decide) (by omega)), nI_clamp (by omega), e 101 (by decide) (by decide), h3 p hp]
  · refine ⟨.inr 0, ?_, fun t u hu e hv hj => ⟨by omega, by decide, 0, ?_⟩⟩
    · rw [fX11_seat]
      by_cases h0 : a < 0
      · rw [if_pos h0]
      · rw [if_neg h0, h1, if_neg (lt_out (by omega) ho h0)]
    · rw [fX12_seat, hu, hj 51 (by decide)]
      by_cases h5 : s 69 51 = -1
      · rw [if_pos h5, m_fail]; rfl
      · have e2 : s 69 51 = nI k := by rcases h2 with ⟨h, -⟩ | h <;> first | exact absurd h h5 | exact h
        rw [if_neg h5, e2, m_upto_out (by omega) ho, bd_some, if_pos rfl, m_fail]; rfl)
theorem good_post (a : Int32) : Good (fX11_post a) (fX12_post a) c12 := good_read (fun s hs => by
  obtain ⟨n, nw, nf, ⟨⟨hn, hm, h12⟩, -⟩, -, -, -, -, ⟨B, hB, h1, h2, h3⟩, -⟩ := id hs
  have hB2 := two_pow_12 h12 hB
  rcases i_cases a (n := n) (by omega) with ⟨p, hp, rfl⟩ | ho
  · by_cases hb : B.testBit p = true
    · refine ⟨.inl (s 59 p), by rw [fX11_post, c_person_in hn h12 hp, bx_val, h1, b_test B hB2 p (by omega), if_pos hb, if_neg (by decide), at_nI (by decide) (by show p < 12; omega), bd_some], fun t u hu e hv hj => ?_⟩
      show fX12_post (nI p) t = some (s 59 p, u)
      obtain ⟨e1, e2⟩ : s 69 48 = 1 ∧ s 69 47 = nI B := by
        rcases h2 with ⟨-, rfl⟩ | h
        · simp at hb
        · exact h
      rw [fX12_post, hu, m_person_in (by rw [e 71 (by decide) (by decide)]; exact hm) h12 hp, bd_some, if_neg (by decide), hj 48 (by decide), e1, if_neg (by decide), hj 47 (by decide), e2, b_test B hB2 p (by omega), if_pos hb, if_pos rfl, if_pos (inA_lt (by decide) (by omega)), nI_clamp (by omega), e 98 (by decide) (by decide), h3 p hp hb]
    · refine ⟨.inr 0, by rw [fX11_post, c_person_in hn h12 hp, bx_val, h1, b_test B hB2 p (by omega), if_neg hb, if_pos rfl], fun t u hu e hv hj => ⟨by omega, by decide, 0, ?_⟩⟩
      rw [fX12_post, hu, m_person_in (by rw [e 71 (by decide) (by decide)]; exact hm) h12 hp, bd_some, if_neg (by decide), hj 48 (by decide)]
      rcases h2 with ⟨e1, -⟩ | ⟨e1, e2⟩
      · rw [e1, if_pos rfl, m_fail]; rfl
      · rw [e1, if_neg (by decide), hj 47 (by decide), e2, b_test B hB2 p (by omega), if_neg hb, if_neg (by decide), m_fail]; rfl
  · refine ⟨.inr 0, by rw [fX11_post, c_person_out hn ho, bx_thr], fun t u hu e hv hj => ⟨by omega, by decide, 0, ?_⟩⟩
    rw [fX12_post, hu, m_person_out (by rw [e 71 (by decide) (by decide)]; exact hm) h12 ho, bd_some, if_pos rfl, m_fail]; rfl)
