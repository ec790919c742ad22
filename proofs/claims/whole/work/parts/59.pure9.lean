/-! ===== person, field ===== -/
theorem w_alive_b {s : St} {w p : Nat} (hw : LN (w + 1) = 94) (hp : p < 12) {α : Type} {x y : Option (α × St)} : (bd (fX10_alive w (nI p) s) fun a t => if a = 0 then x else y) = if s (w + 1) (48 + p) = -1 then x else y := by
  rw [w_alive hw hp, bd_some]
  by_cases h : s (w + 1) (48 + p) = -1
  · rw [if_pos h, if_pos h, if_pos rfl]
  · rw [if_neg h, if_neg h, if_neg (by decide)]
def parS (v : Int32) : Int32 := if v = -1 then 0 else 1
theorem w_parents {s : St} {p : Nat} (hp : p < 12) : fX4_manyParents 21 (nI p) s = some (parS (s 22 p) + parS (s 23 p), s) := by
  rw [fX4_manyParents, at_nI (by decide) (by show p < 12; omega), bd_some, parS, parS]
  by_cases h1 : s 22 p = -1
  · rw [if_pos h1, if_pos h1, fX4_manyParents_J17, at_nI (by decide) (by show p < 12; omega), bd_some]
    by_cases h2 : s 23 p = -1
    · rw [if_pos h2, if_pos h2]
    · rw [if_neg h2, if_neg h2]
  · rw [if_neg h1, if_neg h1, fX4_manyParents_J17, at_nI (by decide) (by show p < 12; omega), bd_some]
    by_cases h2 : s 23 p = -1
    · rw [if_pos h2, if_pos h2]
    · rw [if_neg h2, if_neg h2]
theorem good_person (a b : Int32) : Good (fX11_person a b) (fX12_person a b) c12 := good_read (fun s hs => by
  obtain ⟨n, nw, nf, ⟨⟨hn, hm, h12⟩, -, -, -, hpar, -⟩, ⟨hw, -⟩, -⟩ := id hs
  obtain ⟨A, hA, -, hA2, hA3, -⟩ := sw_bits h12 hw
  rcases i_cases a (n := n) (by omega) with ⟨p, hp, rfl⟩ | ho
  · have hp12 : p < 12 := by omega
    obtain ⟨e1, e2, e3, -⟩ := hpar p hp
    by_cases h0 : b = 0
    · subst h0
      refine ⟨.inl (if s 34 (48 + p) = -1 then 0 else 1), ?_, fun t u hu e hv hj => ?_⟩
      · rw [fX11_person, c_person_in hn h12 hp, bx_val, if_pos rfl, w_alive rfl hp12, bd_some]
        by_cases h : s 34 (48 + p) = -1
        · rw [if_pos h, if_pos rfl]
        · rw [if_neg h, if_neg (by decide)]
      · show fX12_person (nI p) 0 t = some (_, u)
        rw [fX12_person, hu, m_person_in (by rw [e 71 (by decide) (by decide)]; exact hm) h12 hp, bd_some, if_neg (by decide), if_pos rfl, m_alive_c h12 hA (by rw [hj 17 (by decide)]; exact hA2) hA3 hp, bd_some]
        by_cases h : s 34 (48 + p) = -1
        · rw [if_pos h, if_pos rfl]
        · rw [if_neg h, if_neg (by decide)]
    by_cases h1 : b = 1
    · subst h1
      refine ⟨.inl (s 34 (48 + p)), by rw [fX11_person, c_person_in hn h12 hp, bx_val, if_neg h0, if_pos rfl, w_place rfl hp12, bd_some], fun t u hu e hv hj => ?_⟩
      show fX12_person (nI p) 1 t = some (_, u)
      rw [fX12_person, hu, m_person_in (by rw [e 71 (by decide) (by decide)]; exact hm) h12 hp, bd_some, if_neg (by decide), if_neg h0, if_pos rfl, if_pos (inA_lt (by decide) (by omega)), nI_clamp (by omega), ← vr_pl (s := u) hp12, hv, hw.2.1 p hp]
    by_cases h2 : b = 2
    · subst h2
      refine ⟨.inl (parS (s 22 p) + parS (s 23 p)), by rw [fX11_person, c_person_in hn h12 hp, bx_val, if_neg h0, if_neg h1, if_pos rfl, w_parents hp12, bd_some], fun t u hu e hv hj => ?_⟩
      show fX12_person (nI p) 2 t = some (_, u)
      rw [fX12_person, hu, m_person_in (by rw [e 71 (by decide) (by decide)]; exact hm) h12 hp, bd_some, if_neg (by decide), if_neg h0, if_neg h1, if_pos rfl, if_pos (inA_lt (by decide) (by omega)), nI_clamp (by omega), e 74 (by decide) (by decide), e 75 (by decide) (by decide), e1, e2, parS, parS]
      by_cases h : s 22 p = -1
      · rw [if_pos h, if_pos h, if_pos (inA_lt (by decide) (by omega))]
        by_cases h' : s 23 p = -1
        · rw [if_pos h', if_pos h']
        · rw [if_neg h', if_neg h']
      · rw [if_neg h, if_neg h, if_pos (inA_lt (by decide) (by omega))]
        by_cases h' : s 23 p = -1
        · rw [if_pos h', if_pos h']
        · rw [if_neg h', if_neg h']
    by_cases h3 : b = 3
    · subst h3
      refine ⟨.inl (s 22 p), by rw [fX11_person, c_person_in hn h12 hp, bx_val, if_neg h0, if_neg h1, if_neg h2, if_pos rfl, at_nI (by decide) (by show p < 12; omega), bd_some], fun t u hu e hv hj => ?_⟩
      show fX12_person (nI p) 3 t = some (_, u)
      rw [fX12_person, hu, m_person_in (by rw [e 71 (by decide) (by decide)]; exact hm) h12 hp, bd_some, if_neg (by decide), if_neg h0, if_neg h1, if_neg h2, if_pos rfl, if_pos (inA_lt (by decide) (by omega)), nI_clamp (by omega), e 74 (by decide) (by decide), e1]
    by_cases h4 : b = 4
    · subst h4
      refine ⟨.inl (s 23 p), by rw [fX11_person, c_person_in hn h12 hp, bx_val, if_neg h0, if_neg h1, if_neg h2, if_neg h3, if_pos rfl, at_nI (by decide) (by show p < 12; omega), bd_some], fun t u hu e hv hj => ?_⟩
      show fX12_person (nI p) 4 t = some (_, u)
      rw [fX12_person, hu, m_person_in (by rw [e 71 (by decide) (by decide)]; exact hm) h12 hp, bd_some, if_neg (by decide), if_neg h0, if_neg h1, if_neg h2, if_neg h3, if_pos rfl, if_pos (inA_lt (by decide) (by omega)), nI_clamp (by omega), e 75 (by decide) (by decide), e2]
    by_cases h5 : b = 5
    · subst h5
      refine ⟨.inl (s 24 p), by rw [fX11_person, c_person_in hn h12 hp, bx_val, if_neg h0, if_neg h1, if_neg h2, if_neg h3, if_neg h4, if_pos rfl, at_nI (by decide) (by show p < 12; omega), bd_some], fun t u hu e hv hj => ?_⟩
      show fX12_person (nI p) 5 t = some (_, u)
      rw [fX12_person, hu, m_person_in (by rw [e 71 (by decide) (by decide)]; exact hm) h12 hp, bd_some, if_neg (by decide), if_neg h0, if_neg h1, if_neg h2, if_neg h3, if_neg h4, if_pos rfl, if_pos (inA_lt (by decide) (by omega)), nI_clamp (by omega), e 76 (by decide) (by decide), e3]
    by_cases h6 : b = 6
    · subst h6
      refine ⟨.inl (s 34 (60 + p)), by rw [fX11_person, c_person_in hn h12 hp, bx_val, if_neg h0, if_neg h1, if_neg h2, if_neg h3, if_neg h4, if_neg h5, if_pos rfl, w_spouse rfl hp12, bd_some], fun t u hu e hv hj => ?_⟩
      show fX12_person (nI p) 6 t = some (_, u)
      rw [fX12_person, hu, m_person_in (by rw [e 71 (by decide) (by decide)]; exact hm) h12 hp, bd_some, if_neg (by decide), if_neg h0, if_neg h1, if_neg h2, if_neg h3, if_neg h4, if_neg h5, if_pos rfl, if_pos (inA_lt (by decide) (by omega)), nI_clamp (by omega), ← vr_sp (s := u) hp12, hv, hw.2.2.1 p hp]
    · refine ⟨.inr 0, by rw [fX11_person, c_person_in hn h12 hp, bx_val, if_neg h0, if_neg h1, if_neg h2, if_neg h3, if_neg h4, if_neg h5, if_neg h6], fun t u hu e hv hj => ⟨by omega, by decide, 0, ?_⟩⟩
      rw [fX12_person, hu, m_person_in (by rw [e 71 (by decide) (by decide)]; exact hm) h12 hp, bd_some, if_neg (by decide), if_neg h0, if_neg h1, if_neg h2, if_neg h3, if_neg h4, if_neg h5, if_neg h6, m_fail]; rfl
  · refine ⟨.inr 0, by rw [fX11_person, c_person_out hn ho, bx_thr], fun t u hu e hv hj => ⟨by omega, by decide, 0, ?_⟩⟩
    rw [fX12_person, hu, m_person_out (by rw [e 71 (by decide) (by decide)]; exact hm) h12 ho, bd_some, if_pos rfl, m_fail]; rfl)
theorem good_field (a b : Int32) : Good (fX11_field a b) (fX12_field a b) c12 := good_read (fun s hs => by
  obtain ⟨n, nw, nf, ⟨⟨hn, hm, h12⟩, -, ⟨hf1, hf2, hf3⟩, -, -, hfl, -⟩, ⟨hw, -⟩, -⟩ := id hs
  rcases i_cases a (n := nf) (by omega) with ⟨p, hp, rfl⟩ | ho
  · have hin : ∀ {α : Type} (x y : Option (α × St)), (if nI p < 0 then x else if nI p < s 21 6 then y else x) = y := fun x y => by
      rw [if_neg (nI_pos (by omega)), hf1, if_pos (by rw [nI_ltI (by omega) (by omega)]; exact hp)]
    have hp6 : p < 6 := by omega
    obtain ⟨e1, e2, e3, -⟩ := hfl p hp
    by_cases h0 : b = 0
    · subst h0
      refine ⟨.inl (s 26 p), by rw [fX11_field, hin, if_pos rfl, at_nI (by decide) hp6, bd_some], fun t u hu e hv hj => ?_⟩
      show fX12_field (nI p) 0 t = some (_, u)
      rw [fX12_field, hu, if_pos inA_2, i02, e 71 (by decide) (by decide), hf2, m_upto_in (by omega) hp, bd_some, if_neg (by decide), if_pos rfl, if_pos (inA_lt (by decide) (by omega)), nI_clamp (by omega), e 81 (by decide) (by decide), e1]
    by_cases h1 : b = 1
    · subst h1
      refine ⟨.inl (s 27 p), by rw [fX11_field, hin, if_neg h0, if_pos rfl, at_nI (by decide) hp6, bd_some], fun t u hu e hv hj => ?_⟩
      show fX12_field (nI p) 1 t = some (_, u)
      rw [fX12_field, hu, if_pos inA_2, i02, e 71 (by decide) (by decide), hf2, m_upto_in (by omega) hp, bd_some, if_neg (by decide), if_neg h0, if_pos rfl, if_pos (inA_lt (by decide) (by omega)), nI_clamp (by omega), e 82 (by decide) (by decide), e2]
    by_cases h2 : b = 2
    · subst h2
      refine ⟨.inl (s 28 p), by rw [fX11_field, hin, if_neg h0, if_neg h1, if_pos rfl, at_nI (by decide) hp6, bd_some], fun t u hu e hv hj => ?_⟩
      show fX12_field (nI p) 2 t = some (_, u)
      rw [fX12_field, hu, if_pos inA_2, i02, e 71 (by decide) (by decide), hf2, m_upto_in (by omega) hp, bd_some, if_neg (by decide), if_neg h0, if_neg h1, if_pos rfl, if_pos (inA_lt (by decide) (by omega)), nI_clamp (by omega), e 83 (by decide) (by decide), e3]
    by_cases h3 : b = 3
    · subst h3
      refine ⟨.inl (s 34 (72 + (2 * p + 0))), by rw [fX11_field, hin, if_neg h0, if_neg h1, if_neg h2, if_pos rfl, ← n00, w_got rfl hp6 (by decide), bd_some], fun t u hu e hv hj => ?_⟩
      show fX12_field (nI p) 3 t = some (_, u)
      have hi : (2 : Int32) * nI p + 3 - 3 = nI (2 * p) := by rw [Int32.add_sub_cancel, zlm_2]
      rw [fX12_field, hu, if_pos inA_2, i02, e 71 (by decide) (by decide), hf2, m_upto_in (by omega) hp, bd_some, if_neg (by decide), if_neg h0, if_neg h1, if_neg h2, if_pos rfl, hi, if_pos (inA_lt (by decide) (by omega)), nI_clamp (by omega), Nat.add_zero, ← hw.2.2.2.1 (2 * p) (by omega), ← hv, vr_got (by omega)]
    by_cases h4 : b = 4
    · subst h4
      refine ⟨.inl (s 34 (72 + (2 * p + 1))), by rw [fX11_field, hin, if_neg h0, if_neg h1, if_neg h2, if_neg h3, if_pos rfl, show (1 : Int32) = nI 1 from rfl, w_got rfl hp6 (by decide), bd_some], fun t u hu e hv hj => ?_⟩
      show fX12_field (nI p) 4 t = some (_, u)
      have hi : (2 : Int32) * nI p + 4 - 3 = nI (2 * p + 1) := by rw [Int32.sub_eq_add_neg, Int32.add_assoc, show (4 : Int32) + -3 = 1 from by decide, zlm_2, zra_1]
      rw [fX12_field, hu, if_pos inA_2, i02, e 71 (by decide) (by decide), hf2, m_upto_in (by omega) hp, bd_some, if_neg (by decide), if_neg h0, if_neg h1, if_neg h2, if_neg h3, if_pos rfl, hi, if_pos (inA_lt (by decide) (by omega)), nI_clamp (by omega), ← hw.2.2.2.1 (2 * p + 1) (by omega), ← hv, vr_got (by omega)]
    by_cases h5 : b = 5
    · subst h5
      refine ⟨.inl (if ripeS (s 34) (s 27) (s 28) p then 1 else 0), ?_, fun t u hu e hv hj => ?_⟩
      · rw [fX11_field, hin, if_neg h0, if_neg h1, if_neg h2, if_neg h3, if_neg h4, if_pos rfl, w_ripe rfl rfl rfl hp6, bd_some]
        by_cases h : ripeS (s 34) (s 27) (s 28) p = true
        · rw [if_pos h, if_neg (by decide)]
        · rw [if_neg h, if_pos rfl]
      · show fX12_field (nI p) 5 t = some (_, u)
        rw [fX12_field, hu, if_pos inA_2, i02, e 71 (by decide) (by decide), hf2, m_upto_in (by omega) hp, bd_some, if_neg (by decide), if_neg h0, if_neg h1, if_neg h2, if_neg h3, if_neg h4, if_pos rfl, m_isRipe hp6, bd_some, hv, e 82 (by decide) (by decide), e 83 (by decide) (by decide), ripe_rel hw hp6 e2 e3]
        by_cases h : ripeS (s 34) (s 27) (s 28) p = true
        · rw [if_pos h, if_neg (by decide)]
        · rw [if_neg h, if_pos rfl]
    · refine ⟨.inr 0, by rw [fX11_field, hin, if_neg h0, if_neg h1, if_neg h2, if_neg h3, if_neg h4, if_neg h5], fun t u hu e hv hj => ⟨by omega, by decide, 0, ?_⟩⟩
      rw [fX12_field, hu, if_pos inA_2, i02, e 71 (by decide) (by decide), hf2, m_upto_in (by omega) hp, bd_some, if_neg (by decide), if_neg h0, if_neg h1, if_neg h2, if_neg h3, if_neg h4, if_neg h5, m_fail]; rfl
  · refine ⟨.inr 0, ?_, fun t u hu e hv hj => ⟨by omega, by decide, 0, ?_⟩⟩
    · rw [fX11_field]
      by_cases h0 : a < 0
      · rw [if_pos h0]
      · rw [if_neg h0, hf1, if_neg (lt_out (by omega) ho h0)]
    · rw [fX12_field, hu, if_pos inA_2, i02, e 71 (by decide) (by decide), hf2, m_upto_out (by omega) ho, bd_some, if_pos rfl, m_fail]; rfl)
