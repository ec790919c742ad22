/-! ===== an act: both keep what was, then both change the world ===== -/
theorem c_keep_ex {s : St} (hs : RS s) : ∃ s1, fX8_keepAct 32 s = some (0, s1) ∧ (∀ k, k ≠ 35 → k ≠ 32 → s1 k = s k) ∧ (∀ j, j ≠ 2 → j ≠ 3 → s1 32 j = s 32 j) := by
  obtain ⟨n, nw, nf, -, ⟨-, -, ⟨od, na, ho, hn, h2, h3, h4, -⟩, -⟩, -⟩ := hs
  refine ⟨_, c_keep h2 h3 ho hn, fun k q1 q2 => ?_, fun j q1 q2 => ?_⟩
  · split <;> rw [wr_slot q2, ovl_slot q1]
  · split
    · rw [wr_place q1, ovl_slot (by decide)]
    · rw [wr_place q2, ovl_slot (by decide)]
theorem m_keep_ex {s u : St} (hs : RS s) (h32 : u 69 32 = s 69 32) : ∃ t, fX12_keep u = some (0, t) ∧ (∀ k, k ≠ 89 → k ≠ 69 → t k = u k) ∧ (∀ j, j ≠ 32 → t 69 j = u 69 j) := by
  obtain ⟨n, nw, nf, -, ⟨-, -, ⟨od, na, ho, hn, h2, h3, h4, -⟩, -⟩, -⟩ := hs
  rw [h4] at h32
  by_cases h : na = 40
  · subst h
    refine ⟨_, m_keep_40 h32, fun k q1 q2 => ?_, fun j q => ?_⟩
    · rw [wr_slot q2, ovl_slot q1, wr_slot q2, shift, ovl_slot q1]
    · rw [wr_place q, ovl_slot (by decide), wr_place q, shift, ovl_slot (by decide)]
  · refine ⟨_, m_keep_lt h32 (by omega), fun k q1 q2 => ?_, fun j q => ?_⟩
    · rw [wr_slot q2, ovl_slot q1]
    · rw [wr_place q, ovl_slot (by decide)]
theorem rs_act {s s1 u t v : St} (hs : RS s) (hc : fX8_keepAct 32 s = some (0, s1)) (hm : fX12_keep u = some (0, t)) (hu1 : u 89 = s 89) (hu2 : vr u = vr s) (hu3 : u 69 32 = s 69 32)
    (hK : KeepL (36 :: 37 :: 38 :: 85 :: 102 :: 103 :: oS) (33 :: oM) ((32, 6) :: oO) s v) (h35 : v 35 = s1 35) (h2 : v 32 2 = s1 32 2) (h3 : v 32 3 = s1 32 3) (h89 : v 89 = t 89) (h32 : v 69 32 = t 69 32) (hw : ∀ n nw nf, RLand s n nw nf → RNow s n → SW n (v 34) (vr v) ∧ WI n (v 34)) : RS v := by
  refine hs.now ⟨fun k e => hK.1 k ?_, fun j e => hK.2.1 j ?_, fun q e => hK.2.2 q ?_⟩ (fun n nw nf r1 r2 => ?_)
  · simp only [List.mem_cons]; simp [e]
  · simp only [List.mem_cons]; simp [e]
  · simp only [List.mem_cons]; simp [e]
  have h12 : n ≤ 12 := r1.1.2.2
  have r2' := r2
  obtain ⟨w1, w2, ⟨od, na, ho, hn, g2, g3, g4, old⟩, g5, g6⟩ := r2'
  refine ⟨(hw n nw nf r1 r2).1, (hw n nw nf r1 r2).2, ?_, ?_, ?_⟩
  · rw [c_keep g2 g3 ho hn] at hc
    have hu32 : u 69 32 = nI na := hu3.trans g4
    by_cases h : na = 40
    · subst h
      rw [if_pos rfl] at hc
      cases hc
      rw [m_keep_40 hu32] at hm
      cases hm
      refine ⟨(od + 1) % 40, 40, Nat.mod_lt _ (by decide), by omega, ?_, ?_, ?_, ?_⟩
      · rw [h2, wr_hit]
      · rw [h3, wr_place (by decide), ovl_slot (by decide), g3]
      · rw [h32, wr_hit]
      · rw [h35, h89]
        refine past_40 (s1 := wr (ovl s 35 (94 * ((od + 40) % 40)) 94 (s 34)) 32 2 (nI ((od + 1) % 40))) (s2 := wr (ovl (wr (shift u) 69 32 (nI 39)) 89 (95 * 39) 95 (vr u)) 69 32 (nI 40)) (ring := s 35) (queue := s 89) h12 ho old w1 w2 (fun j => ?_) (fun j => ?_)
        · rw [wr_slot (by decide), ovl]
          by_cases hj : 94 * ((od + 40) % 40) ≤ j ∧ j < 94 * ((od + 40) % 40) + 94
          · rw [if_pos ⟨rfl, hj⟩, if_pos hj]
          · rw [if_neg (fun e => hj e.2), if_neg hj]
        · rw [wr_slot (by decide), ovl, hu2]
          by_cases hj : 95 * 39 ≤ j ∧ j < 95 * 39 + 95
          · rw [if_pos ⟨rfl, hj⟩, if_pos hj]
          · rw [if_neg (fun e => hj e.2), if_neg hj, wr_slot (by decide), shift, ovl, hu1]
            by_cases hj2 : j < 3705
            · rw [if_pos ⟨rfl, by omega, by omega⟩, if_pos hj2, Nat.sub_zero]
            · rw [if_neg (by omega), if_neg hj2]
    · rw [if_neg h] at hc
      cases hc
      rw [m_keep_lt hu32 (by omega)] at hm
      cases hm
      refine ⟨od, na + 1, ho, by omega, ?_, ?_, ?_, ?_⟩
      · rw [h2, wr_place (by decide), ovl_slot (by decide), g2]
      · rw [h3, wr_hit]
      · rw [h32, wr_hit]
      · rw [h35, h89]
        refine past_lt (s1 := wr (ovl s 35 (94 * ((od + na) % 40)) 94 (s 34)) 32 3 (nI (na + 1))) (s2 := wr (ovl u 89 (95 * na) 95 (vr u)) 69 32 (nI (na + 1))) (ring := s 35) (queue := s 89) h12 (by omega) ho old w1 w2 (fun j => ?_) (fun j => ?_)
        · rw [wr_slot (by decide), ovl]
          by_cases hj : 94 * ((od + na) % 40) ≤ j ∧ j < 94 * ((od + na) % 40) + 94
          · rw [if_pos ⟨rfl, hj⟩, if_pos hj]
          · rw [if_neg (fun e => hj e.2), if_neg hj]
        · rw [wr_slot (by decide), ovl, hu2, hu1]
          by_cases hj : 95 * na ≤ j ∧ j < 95 * na + 95
          · rw [if_pos ⟨rfl, hj⟩, if_pos hj]
          · rw [if_neg (fun e => hj e.2), if_neg hj]
  · rw [hK.1 36 (by decide), hK.1 37 (by decide), hK.1 102 (by decide), hK.1 103 (by decide), hK.2.2 (32, 6) (by decide), hK.2.1 33 (by decide)]
    exact g5
  · rw [hK.1 38 (by decide), hK.1 85 (by decide)]
    exact g6
