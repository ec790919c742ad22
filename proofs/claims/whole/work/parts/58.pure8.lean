/-! ===== front, field, count, person ===== -/
theorem c_two {s : St} {p q : Nat} (hp : p < 12) (hq : q < 12) : fX11_needTwoAlive (nI p) (nI q) s = some ((if p = q ∨ s 34 (48 + p) = -1 ∨ s 34 (48 + q) = -1 then .inr 1 else .inl 0), s) := by
  rw [fX11_needTwoAlive]
  by_cases h : p = q
  · rw [if_pos (by rw [h]), if_pos (Or.inl h)]
  · rw [if_neg (fun e => h ((nI_eq (by omega) (by omega)).mp e)), w_alive rfl hp, bd_some]
    by_cases h1 : s 34 (48 + p) = -1
    · rw [if_pos h1, if_pos rfl, if_pos (Or.inr (Or.inl h1))]
    · rw [if_neg h1, if_neg (by decide), w_alive rfl hq, bd_some]
      by_cases h2 : s 34 (48 + q) = -1
      · rw [if_pos h2, if_pos rfl, if_pos (Or.inr (Or.inr h2))]
      · rw [if_neg h2, if_neg (by decide), if_neg (by rintro (h3 | h3 | h3); exact h h3; exact h1 h3; exact h2 h3)]
/-- the reference's bit of one alive, by the class's row -/
theorem m_alive_c {u : St} {n A p : Nat} {c : Nat → Int32} (h12 : n ≤ 12) (hA : A < 4096) (hu : u 69 17 = nI A) (h : ∀ p, p < n → (A.testBit p = true ↔ ¬ c (48 + p) = -1)) (hp : p < n) : fX12_isAlive (nI p) u = some ((if c (48 + p) = -1 then 0 else 1), u) := by
  rw [m_alive hu hA (by omega)]
  by_cases hc : c (48 + p) = -1
  · rw [if_pos hc, if_neg (fun e => (h p hp).mp e hc)]
  · rw [if_neg hc, if_pos ((h p hp).mpr hc)]
theorem good_front (a b : Int32) : Good (fX11_front a b) (fX12_front a b) c12 := good_read (fun s hs => by
  obtain ⟨n, nw, nf, ⟨⟨hn, hm, h12⟩, -, -, hf, -⟩, ⟨hw, -⟩, -⟩ := id hs
  obtain ⟨A, hA, -, hA2, hA3, -⟩ := sw_bits h12 hw
  rcases i_cases a (n := n) (by omega) with ⟨p, hp, rfl⟩ | ho
  · rcases i_cases b (n := n) (by omega) with ⟨q, hq, rfl⟩ | ho
    · by_cases h3 : p = q ∨ s 34 (48 + p) = -1 ∨ s 34 (48 + q) = -1
      · refine ⟨.inr 1, by rw [fX11_front, c_person_in hn h12 hp, bx_val, c_person_in hn h12 hq, bx_val, c_two (by omega) (by omega), if_pos h3, bx_thr], fun t u hu e hv hj => ⟨by omega, by decide, 0, ?_⟩⟩
        have hm' : u 71 0 = nI n := by rw [e 71 (by decide) (by decide)]; exact hm
        have hA' : u 69 17 = nI A := by rw [hj 17 (by decide)]; exact hA2
        rw [fX12_front, hu, m_person_in hm' h12 hp, bd_some, if_neg (by decide), m_person_in hm' h12 hq, bd_some, if_neg (by decide)]
        by_cases h : p = q
        · rw [if_pos (by rw [h]), m_fail]; rfl
        · rw [if_neg (fun e => h ((nI_eq (by omega) (by omega)).mp e)), m_alive_c h12 hA hA' hA3 hp, bd_some]
          by_cases h1 : s 34 (48 + p) = -1
          · rw [if_pos h1, if_pos rfl, m_fail]; rfl
          · have h2 : s 34 (48 + q) = -1 := by
              rcases h3 with h3 | h3 | h3
              · exact absurd h3 h
              · exact absurd h3 h1
              · exact h3
            rw [if_neg h1, if_neg (by decide), m_alive_c h12 hA hA' hA3 hq, bd_some, if_pos h2, if_pos rfl, m_fail]; rfl
      · have h : ¬ p = q := fun h => h3 (Or.inl h)
        have h1 : ¬ s 34 (48 + p) = -1 := fun h => h3 (Or.inr (Or.inl h))
        have h2 : ¬ s 34 (48 + q) = -1 := fun h => h3 (Or.inr (Or.inr h))
        refine ⟨.inl (if apartS (s 34) p q < s 21 10 then apartS (s 34) p q else -1 - apartS (s 34) p q), ?_, fun t u hu e hv hj => ?_⟩
        · rw [fX11_front, c_person_in hn h12 hp, bx_val, c_person_in hn h12 hq, bx_val, c_two (by omega) (by omega), if_neg h3, bx_val, w_apart rfl (by omega) (by omega), bd_some]
          split <;> rfl
        · have hm' : u 71 0 = nI n := by rw [e 71 (by decide) (by decide)]; exact hm
          have hA' : u 69 17 = nI A := by rw [hj 17 (by decide)]; exact hA2
          have hap : fX12_apart (nI p) (nI q) u = some (apartS (s 34) p q, u) := by
            rw [m_apart (by omega) (by omega), hv, apart_rel hw hp hq]
          show fX12_front (nI p) (nI q) t = some (_, u)
          rw [fX12_front, hu, m_person_in hm' h12 hp, bd_some, if_neg (by decide), m_person_in hm' h12 hq, bd_some, if_neg (by decide), if_neg (fun e => h ((nI_eq (by omega) (by omega)).mp e)), m_alive_c h12 hA hA' hA3 hp, bd_some, if_neg h1, if_neg (by decide), m_alive_c h12 hA hA' hA3 hq, bd_some, if_neg h2, if_neg (by decide), fX12_isFront, hap, bd_some, if_pos inA_3, i03, e 71 (by decide) (by decide), hf]
          by_cases hlt : apartS (s 34) p q < s 21 10
          · rw [if_pos hlt, if_pos hlt, bd_some, if_pos rfl, hap, bd_some]
          · rw [if_neg hlt, if_neg hlt, bd_some, if_neg (by decide), hap, bd_some]
    · refine ⟨.inr 0, by rw [fX11_front, c_person_in hn h12 hp, bx_val, c_person_out hn ho, bx_thr], fun t u hu e hv hj => ⟨by omega, by decide, 0, ?_⟩⟩
      have hm' : u 71 0 = nI n := by rw [e 71 (by decide) (by decide)]; exact hm
      rw [fX12_front, hu, m_person_in hm' h12 hp, bd_some, if_neg (by decide), m_person_out hm' h12 ho, bd_some, if_pos rfl, m_fail]; rfl
  · refine ⟨.inr 0, by rw [fX11_front, c_person_out hn ho, bx_thr], fun t u hu e hv hj => ⟨by omega, by decide, 0, ?_⟩⟩
    rw [fX12_front, hu, m_person_out (by rw [e 71 (by decide) (by decide)]; exact hm) h12 ho, bd_some, if_pos rfl, m_fail]; rfl)
theorem good_count (a : Int32) : Good (fX11_count a) (fX12_count a) c12 := good_read (fun s hs => by
  obtain ⟨n, nw, nf, ⟨⟨hn, hm, h12⟩, ⟨hw1, hw2, -⟩, ⟨hf1, hf2, hf3⟩, hf, -, hfl, -⟩, ⟨hw, -, ⟨od, na, -, -, -, ha1, ha2, -⟩, ⟨ns, -, hs1, hs2, -⟩, hst⟩, -, ⟨⟨tl, -, ht1, ht2⟩, -⟩, -⟩ := id hs
  obtain ⟨A, hA, -, hA2, hA3, hal⟩ := sw_bits h12 hw
  have h38 : ∀ i, i < 3 → fX11_at 38 (nI i) s = some (s 38 i, s) := fun i hi => at_nI (by decide) hi
  by_cases h0 : a = 0
  · subst h0
    exact ⟨.inl (s 21 0), rfl, fun t u hu e hv hj => by
      show fX12_count 0 t = some (s 21 0, u)
      rw [fX12_count, hu, if_pos rfl, if_pos inA_0, i00, e 71 (by decide) (by decide), hm, hn]⟩
  by_cases h1 : a = 1
  · subst h1
    exact ⟨.inl (nI (pop A)), by rw [fX11_count, if_neg h0, if_pos rfl, w_manyAlive rfl, hal, bd_some], fun t u hu e hv hj => by
      show fX12_count 1 t = some (nI (pop A), u)
      have : u 69 17 = nI A := by rw [hj 17 (by decide)]; exact hA2
      rw [fX12_count, hu, if_neg h0, if_pos rfl, this, m_bitsOf hA, bd_some]⟩
  by_cases h2 : a = 2
  · subst h2
    exact ⟨.inl (s 21 4), rfl, fun t u hu e hv hj => by
      show fX12_count 2 t = some (s 21 4, u)
      rw [fX12_count, hu, if_neg h0, if_neg h1, if_pos rfl, if_pos (by decide), show (1 : Int32).toNatClampNeg = 1 from rfl, e 71 (by decide) (by decide), hw1, hw2]⟩
  by_cases h3 : a = 3
  · subst h3
    exact ⟨.inl (s 21 6), rfl, fun t u hu e hv hj => by
      show fX12_count 3 t = some (s 21 6, u)
      rw [fX12_count, hu, if_neg h0, if_neg h1, if_neg h2, if_pos rfl, if_pos inA_2, i02, e 71 (by decide) (by decide), hf1, hf2]⟩
  by_cases h4 : a = 4
  · subst h4
    exact ⟨.inl (ripesS (s 34) (s 27) (s 28) nf), by rw [fX11_count, if_neg h0, if_neg h1, if_neg h2, if_neg h3, if_pos rfl, w_manyRipe rfl rfl rfl hf1 hf3, bd_some], fun t u hu e hv hj => by
      show fX12_count 4 t = some (_, u)
      rw [fX12_count, hu, if_neg h0, if_neg h1, if_neg h2, if_neg h3, if_pos rfl, m_ripe (nf := nf) (by rw [e 71 (by decide) (by decide)]; exact hf2) hf3, bd_some, hv, e 82 (by decide) (by decide), e 83 (by decide) (by decide), ripes_rel hw hf3 (fun f h => (hfl f h).2.1) (fun f h => (hfl f h).2.2.1)]⟩
  by_cases h5 : a = 5
  · subst h5
    exact ⟨.inl (s 21 10), rfl, fun t u hu e hv hj => by
      show fX12_count 5 t = some (s 21 10, u)
      rw [fX12_count, hu, if_neg h0, if_neg h1, if_neg h2, if_neg h3, if_neg h4, if_pos rfl, if_pos inA_3, i03, e 71 (by decide) (by decide), hf]⟩
  by_cases h6 : a = 6
  · subst h6
    exact ⟨.inl (noonsS (s 34)), by rw [fX11_count, if_neg h0, if_neg h1, if_neg h2, if_neg h3, if_neg h4, if_neg h5, if_pos rfl, w_allNoons rfl, bd_some], fun t u hu e hv hj => by
      show fX12_count 6 t = some (_, u)
      rw [fX12_count, hu, if_neg h0, if_neg h1, if_neg h2, if_neg h3, if_neg h4, if_neg h5, if_pos rfl, m_allNoons, bd_some, hv, noons_rel hw]⟩
  by_cases h7 : a = 7
  · subst h7
    exact ⟨.inl (s 32 3), rfl, fun t u hu e hv hj => by
      show fX12_count 7 t = some (s 32 3, u)
      rw [fX12_count, hu, if_neg h0, if_neg h1, if_neg h2, if_neg h3, if_neg h4, if_neg h5, if_neg h6, if_pos rfl, hj 32 (by decide), ha1, ha2]⟩
  by_cases h8 : a = 8
  · subst h8
    exact ⟨.inl (s 32 6), rfl, fun t u hu e hv hj => by
      show fX12_count 8 t = some (s 32 6, u)
      rw [fX12_count, hu, if_neg h0, if_neg h1, if_neg h2, if_neg h3, if_neg h4, if_neg h5, if_neg h6, if_neg h7, if_pos rfl, hj 33 (by decide), hs1, hs2]⟩
  by_cases h9 : a = 9
  · subst h9
    exact ⟨.inl (s 0 1), rfl, fun t u hu e hv hj => by
      show fX12_count 9 t = some (s 0 1, u)
      rw [fX12_count, hu, if_neg h0, if_neg h1, if_neg h2, if_neg h3, if_neg h4, if_neg h5, if_neg h6, if_neg h7, if_neg h8, if_pos rfl, hj 19 (by decide), ht1, ht2]⟩
  by_cases h10 : a = 10
  · subst h10
    exact ⟨.inl (s 38 0), by rw [fX11_count, if_neg h0, if_neg h1, if_neg h2, if_neg h3, if_neg h4, if_neg h5, if_neg h6, if_neg h7, if_neg h8, if_neg h9, if_pos rfl, ← n00, h38 0 (by decide), bd_some], fun t u hu e hv hj => by
      show fX12_count 10 t = some (s 38 0, u)
      rw [fX12_count, hu, if_neg h0, if_neg h1, if_neg h2, if_neg h3, if_neg h4, if_neg h5, if_neg h6, if_neg h7, if_neg h8, if_neg h9, if_pos rfl, if_pos (by decide), show ((10 : Int32) - 10).toNatClampNeg = 0 from by decide, e 85 (by decide) (by decide), hst 0 (by decide)]⟩
  by_cases h11 : a = 11
  · subst h11
    exact ⟨.inl (s 38 1), by rw [fX11_count, if_neg h0, if_neg h1, if_neg h2, if_neg h3, if_neg h4, if_neg h5, if_neg h6, if_neg h7, if_neg h8, if_neg h9, if_neg h10, if_pos rfl, show (1 : Int32) = nI 1 from rfl, h38 1 (by decide), bd_some], fun t u hu e hv hj => by
      show fX12_count 11 t = some (s 38 1, u)
      rw [fX12_count, hu, if_neg h0, if_neg h1, if_neg h2, if_neg h3, if_neg h4, if_neg h5, if_neg h6, if_neg h7, if_neg h8, if_neg h9, if_neg h10, if_pos rfl, if_pos (by decide), show ((11 : Int32) - 10).toNatClampNeg = 1 from by decide, e 85 (by decide) (by decide), hst 1 (by decide)]⟩
  by_cases h12' : a = 12
  · subst h12'
    exact ⟨.inl (s 38 2), by rw [fX11_count, if_neg h0, if_neg h1, if_neg h2, if_neg h3, if_neg h4, if_neg h5, if_neg h6, if_neg h7, if_neg h8, if_neg h9, if_neg h10, if_neg h11, if_pos rfl, show (2 : Int32) = nI 2 from rfl, h38 2 (by decide), bd_some], fun t u hu e hv hj => by
      show fX12_count 12 t = some (s 38 2, u)
      rw [fX12_count, hu, if_neg h0, if_neg h1, if_neg h2, if_neg h3, if_neg h4, if_neg h5, if_neg h6, if_neg h7, if_neg h8, if_neg h9, if_neg h10, if_neg h11, if_pos rfl, if_pos (by decide), show ((12 : Int32) - 10).toNatClampNeg = 2 from by decide, e 85 (by decide) (by decide), hst 2 (by decide)]⟩
  · refine ⟨.inr 0, by rw [fX11_count, if_neg h0, if_neg h1, if_neg h2, if_neg h3, if_neg h4, if_neg h5, if_neg h6, if_neg h7, if_neg h8, if_neg h9, if_neg h10, if_neg h11, if_neg h12'], fun t u hu e hv hj => ⟨by omega, by decide, 0, ?_⟩⟩
    rw [fX12_count, hu, if_neg h0, if_neg h1, if_neg h2, if_neg h3, if_neg h4, if_neg h5, if_neg h6, if_neg h7, if_neg h8, if_neg h9, if_neg h10, if_neg h11, if_neg h12', m_fail]; rfl)
