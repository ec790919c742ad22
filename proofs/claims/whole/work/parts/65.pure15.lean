/-! ===== keep ===== -/
theorem m_keepJ {s : St} {na : Nat} (h : s 69 32 = nI na) (hn : na < 40) : fX12_keep_J52 s = some (0, wr (ovl s 89 (95 * na) 95 (vr s)) 69 32 (nI (na + 1))) := by
  rw [fX12_keep_J52, h, zlm_95, m_pack (by decide) (by decide) (by decide) (by decide) (by decide) (by decide) (by show 95 * na + 95 ≤ 3800; omega) (by decide), bd_some]
  have e : (ovl s 89 (95 * na) 95 (vr s)) 69 32 = nI na := by rw [ovl_slot (by decide), h]
  rw [e, zra_1]
/-- the queue moved down by one row -/
def shift (s : St) : St := ovl s 89 0 3705 (fun j => s 89 (95 + j))
theorem m_shift {s : St} (kk : St → Option (Int32 × St)) : fX12_keep_L12 kk FU 95 s = kk (shift s) := by
  have := loopT (fun m i t => fX12_keep_L12 kk m (nI (95 + i)) t) 3705 (fun i => ovl s 89 0 i (fun j => s 89 (95 + j))) (kk (shift s)) (fun m i hi => by
    simp only [fX12_keep_L12]
    have hs : nI (95 + i) - (95 : Int32) = nI i := by rw [Nat.add_comm 95 i, ← zra_95, Int32.add_sub_cancel]
    rw [if_neg (by show ¬ nI 3800 ≤ _; rw [nI_leI (by omega) (by omega)]; omega), if_pos (inA_lt (by decide) (by omega)), hs, if_pos (inA_lt (by decide) (by omega)), nI_clamp (by omega), nI_clamp (by omega), zra_1, ovl_off (j := 95 + i) (by omega)]
    have := ovl_succ (s := s) (r := 89) (lo := 0) (n := i) (f := fun j => s 89 (95 + j))
    rw [Nat.zero_add] at this
    rw [this, Nat.add_assoc]) (fun m => by
    simp only [fX12_keep_L12]
    rw [if_pos (by decide)]
    rfl) 3705 0 FU rfl (by decide)
  simp only [ovl_zero] at this
  exact this
theorem m_keep_lt {s : St} {na : Nat} (h : s 69 32 = nI na) (hn : na < 40) : fX12_keep s = some (0, wr (ovl s 89 (95 * na) 95 (vr s)) 69 32 (nI (na + 1))) := by
  rw [fX12_keep, h, if_neg (by rw [zle_40 _ (by omega)]; omega), m_keepJ h hn]
theorem m_keep_40 {s : St} (h : s 69 32 = nI 40) : fX12_keep s = some (0, wr (ovl (wr (shift s) 69 32 (nI 39)) 89 (95 * 39) 95 (vr s)) 69 32 (nI 40)) := by
  rw [fX12_keep, h, if_pos (by decide), m_shift]
  have e : (shift s) 69 32 = nI 40 := by rw [shift, ovl_slot (by decide), h]
  show fX12_keep_J52 (wr (shift s) 69 32 ((shift s) 69 32 - 1)) = _
  rw [e, show nI 40 - 1 = nI 39 from by decide, m_keepJ (na := 39) wr_hit (by decide)]
  have hv : vr (wr (shift s) 69 32 (nI 39)) = vr s := by
    funext j
    rw [vr, vr, wr_slot (by decide), wr_slot (by decide), wr_slot (by decide), wr_slot (by decide), wr_slot (by decide), wr_place (by decide), shift, ovl_slot (by decide), ovl_slot (by decide), ovl_slot (by decide), ovl_slot (by decide), ovl_slot (by decide), ovl_slot (by decide)]
  rw [hv]
