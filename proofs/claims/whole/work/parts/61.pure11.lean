/-! ===== refused calls; see, forget ===== -/
theorem c_refuse {s : St} {i : Nat} (hi : i < 3) : fX8_refuse 32 (nI i) s = some (0, wr s 38 i (s 38 i + 1)) := by
  rw [fX8_refuse, at_nI (by decide) hi, bd_some, put_nI (by decide) hi, bd_some]
theorem m_refuse {u : St} {i : Nat} (hi : i < 3) : fX12_refuse (nI i) u = some (-1, wr u 85 i (u 85 i + 1)) := by
  rw [fX12_refuse, if_pos (inA_lt (by decide) hi), if_pos (inA_lt (by decide) hi), nI_clamp (by omega)]
theorem c_refusedAct {s : St} : fX11_refusedAct s = some (-1, wr s 38 1 (s 38 1 + 1)) := by
  have h := c_refuse (s := s) (i := 1) (by decide)
  rw [fX11_refusedAct]
  show bd (fX8_refuse 32 (nI 1) s) _ = _
  rw [h, bd_some]
theorem rs_refused {s u s4 : St} {i : Nat} (hs : RS s) (hu : ∀ k, k ≠ 38 → k ≠ 111 → k ≠ 69 → u k = s k) (hj : ∀ j, j ≠ 1 → u 69 j = s 69 j) (h38 : u 38 = wr s 38 i (s 38 i + 1) 38) (h4 : wr u 85 i (u 85 i + 1) = s4) : RS s4 := by
  subst h4
  have ho : ∀ (S M : List Nat) (O : List (Nat × Nat)), S.contains 38 = false → S.contains 111 = false → S.contains 69 = false → S.contains 85 = false → M.contains 1 = false → (∀ q ∈ O, q.1 ≠ 38 ∧ q.1 ≠ 111 ∧ q.1 ≠ 69 ∧ q.1 ≠ 85) → KeepL S M O s (wr u 85 i (u 85 i + 1)) := by
    intro S M O h1 h2 h3 h4 h5 h6
    refine KeepL.wr ⟨fun k e => hu k ?_ ?_ ?_, fun j e => hj j ?_, fun q e => by rw [hu q.1 (h6 q e).1 (h6 q e).2.1 (h6 q e).2.2.1]⟩ h4 (fun e => by cases e) (fun q e e2 => absurd e2 (h6 q e).2.2.2)
    · rintro rfl; rw [List.contains_iff_mem.mpr e] at h1; cases h1
    · rintro rfl; rw [List.contains_iff_mem.mpr e] at h2; cases h2
    · rintro rfl; rw [List.contains_iff_mem.mpr e] at h3; cases h3
    · rintro rfl; rw [List.contains_iff_mem.mpr e] at h5; cases h5
  refine hs.now (ho _ _ _ rfl rfl rfl rfl rfl (by decide)) (fun n nw nf _ r => r.stat (ho _ _ _ rfl rfl rfl rfl rfl (by decide)) (fun i' hi' => ?_))
  have hst := r.2.2.2.2 i' hi'
  have h85 : u 85 = s 85 := hu 85 (by decide) (by decide) (by decide)
  have hz : wr u 85 i (u 85 i + 1) 38 = u 38 := wr_slot (by decide)
  rw [hz, h38]
  by_cases h : i' = i
  · subst h
    rw [wr_hit, wr_hit, h85, hst]
  · rw [wr_place h, wr_place h, h85, hst]
theorem good_forget : Good0 fX11_forget fX12_forget := by
  intro s hs
  obtain ⟨n, nw, nf, -, ⟨-, -, -, ⟨ns, h4, h1, h2, h3⟩, -⟩, -⟩ := id hs
  by_cases h0 : ns = 0
  · subst h0
    refine ⟨-1, s, wr s 69 1 0, by rw [fX11_forget, h1, if_neg (by decide)], ?_, hs.keep keep_code⟩
    rw [fX12_forget, wr_place (by decide), h2, if_pos n00]
  · obtain ⟨k, rfl⟩ : ∃ k, ns = k + 1 := ⟨ns - 1, by omega⟩
    have e1 : s 32 6 - 1 = nI k := by rw [h1, nI_pred]
    have e2 : s 69 33 - 1 = nI k := by rw [h2, nI_pred]
    refine ⟨nI k, wr s 32 6 (nI k), wr (wr (wr s 32 6 (nI k)) 69 1 0) 69 33 (nI k), ?_, ?_, ?_⟩
    · rw [fX11_forget, if_pos (by rw [h1, zll_1 _ (by omega)]; omega), e1]
      show some (wr s 32 6 (nI k) 32 6, _) = _
      rw [wr_hit]
    · rw [fX12_forget, wr_place (by decide), wr_slot (by decide), if_neg (by rw [h2, zle_0 _ (by omega)]; omega), e2]
      show some (wr (wr (wr s 32 6 (nI k)) 69 1 0) 69 33 (nI k) 69 33, _) = _
      rw [wr_hit]
    · refine hs.now (KeepL.wr (KeepL.wr (KeepL.wr (KeepL.rfl' s) rfl (fun e => by cases e) (by decide)) rfl (fun _ => rfl) (by decide)) rfl (fun _ => rfl) (by decide)) (fun n nw nf _ r => r.seen (KeepL.wr (KeepL.wr (KeepL.wr (KeepL.rfl' s) rfl (fun e => by cases e) (by decide)) rfl (fun _ => rfl) (by decide)) rfl (fun _ => rfl) (by decide)) ⟨k, by omega, ?_, ?_, fun i hi => ?_⟩)
      · rw [wr_slot (by decide), wr_slot (by decide), wr_hit]
      · rw [wr_hit]
      · rw [wr_slot (by decide), wr_slot (by decide), wr_slot (by decide), wr_slot (by decide), wr_slot (by decide), wr_slot (by decide), wr_slot (by decide), wr_slot (by decide), wr_slot (by decide), wr_slot (by decide), wr_slot (by decide), wr_slot (by decide)]
        exact h3 i (by omega)
