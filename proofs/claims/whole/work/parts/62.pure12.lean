theorem good_see (a b : Int32) : Good (fX11_see a b) (fX12_see a b) c12 := by
  intro s hs
  obtain ⟨n, nw, nf, -, ⟨-, -, -, ⟨ns, h4, h1, h2, h3⟩, -⟩, -⟩ := id hs
  have z0 : (0 : Int32).toInt = 0 := rfl
  have z9 : (9999 : Int32).toInt = 9999 := rfl
  rcases i_cases a (n := 4) (by omega) with ⟨k, hk, rfl⟩ | ho
  · have href : ∀ s3 : St, (∀ k, k ≠ 111 → s3 k = wr s 38 2 (s 38 2 + 1) k) → (wr s3 69 1 0) 69 33 = nI ns → ∃ s4, fX12_refuse (nI 2) (wr s3 69 1 0) = some (-1, s4) ∧ RS s4 ∧ s4 111 = s3 111 ∧ s4 69 1 = 0 := fun s3 e3 _ => by
      refine ⟨_, m_refuse (by decide), rs_refused (i := 2) (u := wr s3 69 1 0) hs (fun k q1 q2 q3 => by rw [wr_slot q3, e3 k q2, wr_slot q1]) (fun j hj => by rw [wr_place hj, e3 69 (by decide), wr_slot (by decide)]) (by rw [wr_slot (by decide), e3 38 (by decide)]) rfl, by rw [wr_slot (by decide), wr_slot (by decide)], by rw [wr_slot (by decide), wr_hit]⟩
    have hsn : ∀ s3 : St, (∀ k, k ≠ 111 → s3 k = wr s 38 2 (s 38 2 + 1) k) → (wr s3 69 1 0) 69 33 = nI ns := fun s3 e3 => by rw [wr_place (by decide), e3 69 (by decide), wr_slot (by decide), h2]
    have hcr : bd (fX8_refuse 32 (2 : Int32) s) (fun _ s_2 => some ((.inl (-1 : Int32) : RT), s_2)) = some (.inl (-1), wr s 38 2 (s 38 2 + 1)) := by
      have h := c_refuse (s := s) (i := 2) (by decide)
      show bd (fX8_refuse 32 (nI 2) s) _ = _
      rw [h, bd_some]
    by_cases hfull : ns = 4
    · subst hfull
      refine ⟨.inl (-1), wr s 38 2 (s 38 2 + 1), by rw [fX11_see, c_part_in hk, bx_val, h1, if_pos (by decide), hcr], fun s3 e3 => ?_⟩
      obtain ⟨s4, q1, q2, q3, q4⟩ := href s3 e3 (hsn s3 e3)
      refine ⟨-1, s4, ?_, q2, q3, q4, rfl⟩
      rw [fX12_see, m_part_in hk, bd_some, if_neg (by decide), hsn s3 e3, if_pos (by decide)]
      show bd (fX12_refuse (nI 2) _) _ = _
      rw [q1, bd_some]
    · rcases i_cases b (n := 10000) (by omega) with ⟨v, hv, rfl⟩ | ho
      · refine ⟨.inl (nI (ns + 1)), wr (wr (wr s 36 ns (nI k)) 37 ns (nI v)) 32 6 (nI (ns + 1)), ?_, fun s3 e3 => ?_⟩
        · rw [fX11_see, c_part_in hk, bx_val, h1, if_neg (by rw [zll_4 _ (by omega)]; omega), if_neg (nI_pos (by omega)), if_pos (by rw [zrl_9999 _ (by omega)]; omega), fX8_addSeen, h1, put_nI (by decide) (by show ns < 4; omega), bd_some]
          have e1 : (wr s 36 ns (nI k)) 32 6 = nI ns := by rw [wr_slot (by decide), h1]
          rw [e1, put_nI (by decide) (by show ns < 4; omega), bd_some]
          have e2 : (wr (wr s 36 ns (nI k)) 37 ns (nI v)) 32 6 = nI ns := by rw [wr_slot (by decide), e1]
          rw [e2, zra_1]
          show bd (some (0, wr _ 32 6 (nI (ns + 1)))) _ = _
          rw [bd_some, wr_hit]
        · have e33 : (wr s3 69 1 0) 69 33 = nI ns := by rw [wr_place (by decide), e3 69 (by decide), wr_slot (by decide), wr_slot (by decide), wr_slot (by decide), h2]
          refine ⟨nI (ns + 1), wr (wr (wr (wr s3 69 1 0) 102 ns (nI k)) 103 ns (nI v)) 69 33 (nI (ns + 1)), ?_, ?_, by rw [wr_slot (by decide), wr_slot (by decide), wr_slot (by decide), wr_slot (by decide)], by rw [wr_place (by decide), wr_slot (by decide), wr_slot (by decide), wr_hit], rfl⟩
          · rw [fX12_see, m_part_in hk, bd_some, if_neg (by decide), e33, if_neg (fun e => hfull ((zle_4 ns (by omega)).mp e)), l64_0, l64_9999, m_isIn, bd_some, nI_toInt (by omega), z0, z9, if_pos (show (0 : Int) ≤ v ∧ (v : Int) ≤ 9999 by omega), if_neg (by decide), e33, if_pos (inA_lt (by decide) (by omega)), nI_clamp (by omega)]
            have e5 : (wr (wr s3 69 1 0) 102 ns (nI k)) 69 33 = nI ns := by rw [wr_slot (by decide), e33]
            show (if inA ((wr (wr s3 69 1 0) 102 ns (nI k)) 69 33) 4 then _ else none) = _
            rw [e5, if_pos (inA_lt (by decide) (by omega)), nI_clamp (by omega)]
            have e6 : (wr (wr (wr s3 69 1 0) 102 ns (nI k)) 103 ns (nI v)) 69 33 = nI ns := by rw [wr_slot (by decide), e5]
            show some ((wr _ 69 33 ((wr (wr (wr s3 69 1 0) 102 ns (nI k)) 103 ns (nI v)) 69 33 + 1)) 69 33, wr _ 69 33 ((wr (wr (wr s3 69 1 0) 102 ns (nI k)) 103 ns (nI v)) 69 33 + 1)) = _
            rw [e6, zra_1, wr_hit]
          · have hk3 : ∀ (S M : List Nat) (O : List (Nat × Nat)), S.contains 36 = false → S.contains 37 = false → S.contains 102 = false → S.contains 103 = false → S.contains 32 = false → S.contains 111 = false → S.contains 69 = false → M.contains 1 = false → M.contains 33 = false → (∀ q ∈ O, q.1 ≠ 36 ∧ q.1 ≠ 37 ∧ q.1 ≠ 102 ∧ q.1 ≠ 103 ∧ q.1 ≠ 111 ∧ q.1 ≠ 69 ∧ (q.1 = 32 → q.2 ≠ 6)) → KeepL S M O s (wr (wr (wr (wr s3 69 1 0) 102 ns (nI k)) 103 ns (nI v)) 69 33 (nI (ns + 1))) := by
              intro S M O g1 g2 g3 g4 g5 g6 g7 g8 g9 gO
              have x1 : KeepL S M O s (wr (wr (wr s 36 ns (nI k)) 37 ns (nI v)) 32 6 (nI (ns + 1))) := KeepL.wr (KeepL.wr (KeepL.wr (KeepL.rfl' s) g1 (fun e => by cases e) (fun q h e => absurd e (gO q h).1)) g2 (fun e => by cases e) (fun q h e => absurd e (gO q h).2.1)) g5 (fun e => by cases e) (fun q h e => (gO q h).2.2.2.2.2.2 e)
              have x2 : KeepL S M O s s3 := x1.trans (KeepL.out (z := 111) g6 (by decide) (fun q h => (gO q h).2.2.2.2.1) e3)
              exact KeepL.wr (KeepL.wr (KeepL.wr (KeepL.wr x2 g7 (fun _ => g8) (fun q h e => absurd e (gO q h).2.2.2.2.2.1)) g3 (fun e => by cases e) (fun q h e => absurd e (gO q h).2.2.1)) g4 (fun e => by cases e) (fun q h e => absurd e (gO q h).2.2.2.1)) g7 (fun _ => g9) (fun q h e => absurd e (gO q h).2.2.2.2.2.1)
            refine hs.now (hk3 _ _ _ rfl rfl rfl rfl rfl rfl rfl rfl rfl (by decide)) (fun n nw nf _ r => r.seen (hk3 _ _ _ rfl rfl rfl rfl rfl rfl rfl rfl rfl (by decide)) ⟨ns + 1, by omega, ?_, by rw [wr_hit], fun i hi => ?_⟩)
            · rw [wr_slot (by decide), wr_slot (by decide), wr_slot (by decide), wr_slot (by decide), e3 32 (by decide), wr_hit]
            · have y36 : (wr (wr (wr (wr s3 69 1 0) 102 ns (nI k)) 103 ns (nI v)) 69 33 (nI (ns + 1))) 36 = wr s 36 ns (nI k) 36 := by rw [wr_slot (by decide), wr_slot (by decide), wr_slot (by decide), wr_slot (by decide), e3 36 (by decide), wr_slot (by decide), wr_slot (by decide)]
              have y37 : (wr (wr (wr (wr s3 69 1 0) 102 ns (nI k)) 103 ns (nI v)) 69 33 (nI (ns + 1))) 37 = wr (wr s 36 ns (nI k)) 37 ns (nI v) 37 := by rw [wr_slot (by decide), wr_slot (by decide), wr_slot (by decide), wr_slot (by decide), e3 37 (by decide), wr_slot (by decide)]
              have y102 : (wr (wr (wr (wr s3 69 1 0) 102 ns (nI k)) 103 ns (nI v)) 69 33 (nI (ns + 1))) 102 = wr (wr s3 69 1 0) 102 ns (nI k) 102 := by rw [wr_slot (by decide), wr_slot (by decide)]
              have y103 : (wr (wr (wr (wr s3 69 1 0) 102 ns (nI k)) 103 ns (nI v)) 69 33 (nI (ns + 1))) 103 = wr (wr (wr s3 69 1 0) 102 ns (nI k)) 103 ns (nI v) 103 := by rw [wr_slot (by decide)]
              rw [y36, y37, y102, y103]
              by_cases hin : i = ns
              · subst hin
                rw [wr_hit, wr_hit, wr_hit, wr_hit]
                exact ⟨rfl, rfl, ⟨k, hk, rfl⟩, v, by omega, rfl⟩
              · rw [wr_place hin, wr_place hin, wr_place hin, wr_place hin]
                have t102 : (wr s3 69 1 0) 102 = s 102 := by rw [wr_slot (by decide), e3 102 (by decide), wr_slot (by decide), wr_slot (by decide), wr_slot (by decide)]
                have t103 : (wr (wr s3 69 1 0) 102 ns (nI k)) 103 = s 103 := by rw [wr_slot (by decide), wr_slot (by decide), e3 103 (by decide), wr_slot (by decide), wr_slot (by decide), wr_slot (by decide)]
                have t37 : (wr s 36 ns (nI k)) 37 = s 37 := wr_slot (by decide)
                rw [t102, t103, t37]
                exact h3 i (by omega)
      · refine ⟨.inl (-1), wr s 38 2 (s 38 2 + 1), ?_, fun s3 e3 => ?_⟩
        · rw [fX11_see, c_part_in hk, bx_val, h1, if_neg (by rw [zll_4 _ (by omega)]; omega)]
          by_cases hb : b < 0
          · rw [if_pos hb, hcr]
          · rw [if_neg hb, if_neg, hcr]
            rcases ho with h | h
            · exact absurd h hb
            · rw [i_le] at h ⊢
              rw [nI_toInt (by omega)] at h
              rw [z9]
              omega
        · obtain ⟨s4, q1, q2, q3, q4⟩ := href s3 e3 (hsn s3 e3)
          refine ⟨-1, s4, ?_, q2, q3, q4, rfl⟩
          have ho' := out_int (by omega) ho
          rw [fX12_see, m_part_in hk, bd_some, if_neg (by decide), hsn s3 e3, if_neg (fun e => hfull ((zle_4 ns (by omega)).mp e)), l64_0, l64_9999, m_isIn, bd_some, z0, z9, if_neg (show ¬ ((0 : Int) ≤ b.toInt ∧ b.toInt ≤ 9999) by omega), if_pos rfl]
          show bd (fX12_refuse (nI 2) _) _ = _
          rw [q1, bd_some]
  · refine ⟨.inr 0, s, by rw [fX11_see, c_part_out ho, bx_thr], fun s3 e3 => ⟨0, wr (wr s3 69 1 0) 69 1 1, ?_, ((hs.keep (keep_out e3)).keep keep_code).keep keep_code, by rw [wr_slot (by decide), wr_slot (by decide)], wr_hit, Or.inl rfl, by decide⟩⟩
    rw [fX12_see, m_part_out ho, bd_some, if_pos rfl, m_fail]
    rfl
