theorem good_go (a b : Int32) : Good (fX11_go a b) (fX12_go a b) c12 := by
  intro s hs
  obtain ⟨n, nw, nf, ⟨⟨hn, hm, h12⟩, -⟩, ⟨hw, hwi, -⟩, -⟩ := id hs
  obtain ⟨A, hA, hAn, hA2, hA3, -⟩ := sw_bits h12 hw
  rcases i_cases a (n := n) (by omega) with ⟨p, hp, rfl⟩ | ho
  · have hp12 : p < 12 := by omega
    have href : ∀ f1 : fX11_go (nI p) b s = some (.inl (-1), wr s 38 1 (s 38 1 + 1)), (∀ s3 : St, (∀ k, k ≠ 111 → s3 k = wr s 38 1 (s 38 1 + 1) k) → ∀ s4, fX12_refuse (1 : Int32) (wr s3 69 1 0) = some (-1, s4) → fX12_go (nI p) b s3 = some (-1, s4)) → ∃ (r : RT) (s1 : St), fX11_go (nI p) b s = some (r, s1) ∧ ∀ s3 : St, (∀ k, k ≠ 111 → s3 k = s1 k) → ∃ (y : Int32) (s4 : St), fX12_go (nI p) b s3 = some (y, s4) ∧ RS s4 ∧ s4 111 = s3 111 ∧ (match r with
        | .inl a => s4 69 1 = 0 ∧ y = a
        | .inr n => s4 69 1 = c12 n ∧ (n = 0 ∨ n = 1) ∧ c12 n ≠ 0) := fun f1 f2 => ⟨_, _, f1, fun s3 e3 => by
      obtain ⟨s4, q1, q2, q3, q4⟩ := m_refused hs e3
      exact ⟨-1, s4, f2 s3 e3 s4 q1, q2, q3, q4, rfl⟩⟩
    have hm3 : ∀ s3 : St, (∀ k, k ≠ 111 → s3 k = wr s 38 1 (s 38 1 + 1) k) → (wr s3 69 1 0) 71 0 = nI n ∧ (wr s3 69 1 0) 69 17 = nI A := fun s3 e3 => ⟨by rw [wr_slot (by decide), e3 71 (by decide), wr_slot (by decide), hm], by rw [wr_place (by decide), e3 69 (by decide), wr_slot (by decide)]; exact hA2⟩
    by_cases hal : s 34 (48 + p) = -1
    · refine href ?_ (fun s3 e3 s4 q => ?_)
      · rw [fX11_go, c_person_in hn h12 hp, bx_val, w_alive rfl hp12, bd_some, if_pos hal, if_pos rfl, c_refusedAct, bd_some]
      · obtain ⟨g1, g2⟩ := hm3 s3 e3
        rw [fX12_go, m_person_in g1 h12 hp, bd_some, if_neg (by decide), m_alive_c h12 hA g2 hA3 hp, bd_some, if_pos hal, if_pos rfl, q, bd_some]
    · rcases i_cases b (n := 10) (by omega) with ⟨q, hq, rfl⟩ | ho
      · obtain ⟨s1, k1, k2, k3⟩ := c_keep_ex hs
        refine ⟨.inl (s 34 (48 + p)), wr s1 34 (48 + p) (nI q), ?_, fun s3 e3 => ?_⟩
        · rw [fX11_go, c_person_in hn h12 hp, bx_val, w_alive rfl hp12, bd_some, if_neg hal, if_neg (by decide), c_place_in hq, bd_some, if_neg (by decide), w_place rfl hp12, bd_some, k1, bd_some, w_setPlace rfl hp12, bd_some]
        · have e4 : ∀ k, k ≠ 111 → k ≠ 34 → s3 k = s1 k := fun k q1 q2 => by rw [e3 k q1, wr_slot q2]
          have e5 : ∀ k, k ≠ 111 → k ≠ 34 → k ≠ 35 → k ≠ 32 → s3 k = s k := fun k q1 q2 q3 q4 => (e4 k q1 q2).trans (k2 k q3 q4)
          have u69 : ∀ j, j ≠ 1 → (wr s3 69 1 0) 69 j = s 69 j := fun j hj => by rw [wr_place hj, e5 69 (by decide) (by decide) (by decide) (by decide)]
          have uk : ∀ k, k ≠ 111 → k ≠ 34 → k ≠ 35 → k ≠ 32 → k ≠ 69 → (wr s3 69 1 0) k = s k := fun k q1 q2 q3 q4 q5 => by rw [wr_slot q5, e5 k q1 q2 q3 q4]
          have uv : vr (wr s3 69 1 0) = vr s := by
            funext j
            rw [vr, vr, uk 72 (by decide) (by decide) (by decide) (by decide) (by decide), uk 73 (by decide) (by decide) (by decide) (by decide) (by decide), uk 77 (by decide) (by decide) (by decide) (by decide) (by decide), uk 87 (by decide) (by decide) (by decide) (by decide) (by decide), uk 88 (by decide) (by decide) (by decide) (by decide) (by decide), u69 17 (by decide)]
          obtain ⟨t, t1, t2, t3⟩ := m_keep_ex hs (u69 32 (by decide))
          have tk : ∀ k, k ≠ 111 → k ≠ 34 → k ≠ 35 → k ≠ 32 → k ≠ 69 → k ≠ 89 → t k = s k := fun k q1 q2 q3 q4 q5 q6 => (t2 k q6 q5).trans (uk k q1 q2 q3 q4 q5)
          have tv : vr t = vr s := by
            funext j
            rw [← uv, vr, vr, t2 72 (by decide) (by decide), t2 73 (by decide) (by decide), t2 77 (by decide) (by decide), t2 87 (by decide) (by decide), t2 88 (by decide) (by decide), t3 17 (by decide)]
          have hpl : t 73 p = s 34 (48 + p) := by rw [← vr_pl (s := t) hp12, tv, hw.2.1 p hp]
          refine ⟨s 34 (48 + p), wr t 73 p (nI q), ?_, ?_, ?_, ?_, rfl⟩
          · rw [fX12_go, m_person_in (by rw [uk 71 (by decide) (by decide) (by decide) (by decide) (by decide)]; exact hm) h12 hp, bd_some, if_neg (by decide), m_alive_c h12 hA (by rw [u69 17 (by decide)]; exact hA2) hA3 hp, bd_some, if_neg hal, if_neg (by decide), m_place_in hq, bd_some, if_neg (by decide), t1, bd_some, if_pos (inA_lt (by decide) (by omega)), if_pos (inA_lt (by decide) (by omega)), nI_clamp (by omega), hpl]
          · have t34 : t 34 = wr s1 34 (48 + p) (nI q) 34 := by rw [t2 34 (by decide) (by decide), wr_slot (by decide), e3 34 (by decide)]
            refine rs_act hs k1 t1 (uk 89 (by decide) (by decide) (by decide) (by decide) (by decide)) uv (u69 32 (by decide)) (KeepL.wr ⟨fun k e => ?_, fun j e => ?_, fun z e => ?_⟩ rfl (fun e => by cases e) (fun z e h => absurd h ((by decide : ∀ z ∈ (32, 6) :: oO, z.1 ≠ 73) z e))) ?_ ?_ ?_ (wr_slot (by decide)) (by rw [wr_slot (by decide)]) (fun n' nw' nf' r1 r2 => ?_)
            · refine tk k ?_ ?_ ?_ ?_ ?_ ?_ <;> (rintro rfl; revert e; decide)
            · rw [t3 j (by rintro rfl; revert e; decide), u69 j (by rintro rfl; revert e; decide)]
            · have z32 : z.1 ≠ 111 ∧ z.1 ≠ 34 ∧ z.1 ≠ 35 ∧ z.1 ≠ 69 ∧ z.1 ≠ 89 ∧ (z.1 = 32 → z.2 = 6) := by revert z; decide
              by_cases hz : z.1 = 32
              · rw [hz, z32.2.2.2.2.2 hz, t2 32 (by decide) (by decide), wr_slot (by decide), e4 32 (by decide) (by decide), k3 6 (by decide) (by decide)]
              · rw [tk z.1 z32.1 z32.2.1 z32.2.2.1 hz z32.2.2.2.1 z32.2.2.2.2.1]
            · rw [wr_slot (by decide), t2 35 (by decide) (by decide), wr_slot (by decide), e4 35 (by decide) (by decide)]
            · rw [wr_slot (by decide), t2 32 (by decide) (by decide), wr_slot (by decide), e4 32 (by decide) (by decide)]
            · rw [wr_slot (by decide), t2 32 (by decide) (by decide), wr_slot (by decide), e4 32 (by decide) (by decide)]
            · have hnn : nI n' = nI n := r1.1.1.symm.trans hn
              obtain rfl : n' = n := (nI_eq (by have := r1.1.2.2; omega) (by omega)).mp hnn
              refine sw_place h12 hp hq hal (fun j => ?_) (fun j => ?_) hw hwi
              · rw [wr_slot (by decide), t34, wr, k2 34 (by decide) (by decide)]
                by_cases e : j = 48 + p
                · rw [if_pos ⟨rfl, e⟩, if_pos e]
                · rw [if_neg (fun h => e h.2), if_neg e]
              · have : vr (wr t 73 p (nI q)) j = if j = 48 + p then nI q else vr t j := by
                  rw [vr, vr]
                  rw [wr_slot (k' := 72) (by decide), wr_slot (k' := 77) (by decide), wr_slot (k' := 87) (by decide), wr_slot (k' := 88) (by decide), wr_slot (k' := 69) (by decide)]
                  by_cases e : j = 48 + p
                  · subst e
                    rw [if_neg (by omega), if_pos (by omega), if_pos rfl, Nat.add_sub_cancel_left, wr_hit]
                  · rw [if_neg e]
                    by_cases q1 : j < 48
                    · rw [if_pos q1, if_pos q1]
                    · rw [if_neg q1, if_neg q1]
                      by_cases q2 : j < 60
                      · rw [if_pos q2, if_pos q2, wr_place (by omega)]
                      · rw [if_neg q2, if_neg q2]
                rw [this, tv]
          · rw [wr_slot (by decide), t2 111 (by decide) (by decide), wr_slot (by decide)]
          · rw [wr_slot (by decide), t3 1 (by decide), wr_hit]
      · refine href ?_ (fun s3 e3 s4 q => ?_)
        · rw [fX11_go, c_person_in hn h12 hp, bx_val, w_alive rfl hp12, bd_some, if_neg hal, if_neg (by decide), c_place_out ho, bd_some, if_pos rfl, c_refusedAct, bd_some]
        · obtain ⟨g1, g2⟩ := hm3 s3 e3
          rw [fX12_go, m_person_in g1 h12 hp, bd_some, if_neg (by decide), m_alive_c h12 hA g2 hA3 hp, bd_some, if_neg hal, if_neg (by decide), m_place_out ho, bd_some, if_pos rfl, q, bd_some]
  · refine ⟨.inr 0, s, by rw [fX11_go, c_person_out hn ho, bx_thr], fun s3 e3 => ⟨0, wr (wr s3 69 1 0) 69 1 1, ?_, ((hs.keep (keep_out e3)).keep keep_code).keep keep_code, by rw [wr_slot (by decide), wr_slot (by decide)], wr_hit, Or.inl rfl, by decide⟩⟩
    rw [fX12_go, m_person_out (by rw [wr_slot (by decide), e3 71 (by decide)]; exact hm) h12 ho, bd_some, if_pos rfl, m_fail]
    rfl
