/-- a loop whose state goes a told way -/
theorem loopT {B : Type} (F : Nat → Nat → St → B) (N : Nat) (T : Nat → St) (e : B) (hF : ∀ m i, i < N → F (m + 1) i (T i) = F m (i + 1) (T (i + 1))) (hE : ∀ m, F (m + 1) N (T N) = e) : ∀ (k i m : Nat), i + k = N → k < m → F m i (T i) = e
  | 0, i, m, hi, hm => by
    obtain ⟨m, rfl⟩ : ∃ q, m = q + 1 := ⟨m - 1, by omega⟩
    obtain rfl : i = N := by omega
    exact hE m
  | k + 1, i, m, hi, hm => by
    obtain ⟨m, rfl⟩ : ∃ q, m = q + 1 := ⟨m - 1, by omega⟩
    rw [hF m i (by omega)]
    exact loopT F N T e hF hE k (i + 1) m (by omega) (by omega)
def ov2 (s : St) (r b i : Nat) : St := ovl (ovl s r b i (s 73)) r (b + 12) i (s 77)
theorem ov2_slot {s : St} {r b i k : Nat} (h : k ≠ r) : ov2 s r b i k = s k := by rw [ov2, ovl_slot h, ovl_slot h]
theorem ov2_succ {s : St} {r b i : Nat} (hi : i < 12) : wr (wr (ov2 s r b i) r (b + i) (s 73 i)) r (b + 12 + i) (s 77 i) = ov2 s r b (i + 1) := by
  funext k j
  by_cases hk : k = r
  · subst hk
    by_cases h1 : j = b + 12 + i
    · subst h1
      rw [wr_hit, ov2, ovl_in (by omega) (by omega), Nat.add_sub_cancel_left]
    · rw [wr_place h1]
      by_cases h2 : j = b + i
      · subst h2
        rw [wr_hit, ov2, ovl_off (by omega), ovl_in (by omega) (by omega), Nat.add_sub_cancel_left]
      · rw [wr_place h2, ov2, ov2]
        by_cases h3 : b + 12 ≤ j ∧ j < b + 12 + i
        · rw [ovl_in h3.1 h3.2, ovl_in h3.1 (by omega)]
        · rw [ovl_off (lo := b + 12) (n := i) (by omega), ovl_off (lo := b + 12) (n := i + 1) (by omega)]
          by_cases h4 : b ≤ j ∧ j < b + i
          · rw [ovl_in (n := i) h4.1 h4.2, ovl_in (n := i + 1) h4.1 (by omega)]
          · rw [ovl_off (n := i) (by omega), ovl_off (n := i + 1) (by omega)]
  · rw [wr_slot hk, wr_slot hk, ov2_slot hk, ov2_slot hk]
section PACK
variable {s : St} {r b : Nat}
theorem pack_24 (kk : St → Option (Int32 × St)) (hr : 73 ≠ r) (hr2 : 77 ≠ r) (hL : b + 24 ≤ LN r) (hb : LN r < 1000000) : fX12_pack_L37 kk r (nI b) FU 0 s = kk (ov2 s r b 12) := by
  have := loopT (fun m i t => fX12_pack_L37 kk r (nI b) m (nI i) t) 12 (ov2 s r b) (kk (ov2 s r b 12)) (fun m i hi => by
    simp only [fX12_pack_L37]
    rw [if_neg (by rw [zll_12 _ (by omega)]; omega), if_pos (inA_lt (by decide) (by omega)), nI_add, if_pos (inA_lt (by omega) (by omega)), if_pos (inA_lt (by decide) (by omega)), zra_12, nI_add, if_pos (inA_lt (by omega) (by omega)), nI_clamp (by omega), nI_clamp (by omega), nI_clamp (by omega), ov2_slot hr, wr_slot hr2, ov2_slot hr2, ov2_succ hi, zra_1]) (fun m => by
    simp only [fX12_pack_L37]
    rw [if_pos (by decide)]) 12 0 FU rfl (by decide)
  have h0 : ov2 s r b 0 = s := by rw [ov2, ovl_zero, ovl_zero]
  rw [h0] at this
  exact this
theorem m_pack (h1 : 72 ≠ r) (h2 : 73 ≠ r) (h3 : 77 ≠ r) (h4 : 87 ≠ r) (h5 : 88 ≠ r) (h6 : 69 ≠ r) (hL : b + 95 ≤ LN r) (hb : LN r < 1000000) : fX12_pack r (nI b) s = some (0, ovl s r b 95 (vr s)) := by
  rw [fX12_pack, zra_48, show nI (b + 48) + (24 : Int32) = nI (b + 48 + 24) from nI_add _ 24, zra_12, pack_48 _ h1 (by omega) hb, pack_24 _ h2 h3 (by omega) hb, pack_12 _ h4 (by omega) hb, pack_10 h5 h6 (by omega) hb]
  congr 2
  funext k j
  by_cases hk : k = r
  · subst hk
    by_cases j94 : j = b + 48 + 24 + 12 + 10
    · subst j94
      rw [wr_hit, ovl_in (by omega) (by omega), ovl_slot h6, ov2_slot h6, ovl_slot h6]
      rw [show b + 48 + 24 + 12 + 10 - b = 94 by omega]
      rfl
    · rw [wr_place j94]
      by_cases hin : b ≤ j ∧ j < b + 95
      · rw [ovl_in (n := 95) hin.1 hin.2, vr]
        by_cases q1 : j < b + 48
        · rw [ovl_off (by omega), ovl_off (by omega), ov2, ovl_off (by omega), ovl_off (by omega), ovl_in hin.1 q1, if_pos (by omega)]
        · rw [if_neg (by omega)]
          by_cases q2 : j < b + 60
          · rw [ovl_off (by omega), ovl_off (by omega), ov2, ovl_off (by omega), ovl_in (by omega) (by omega), if_pos (by omega), ovl_slot h2, show j - (b + 48) = j - b - 48 by omega]
          · rw [if_neg (by omega)]
            by_cases q3 : j < b + 72
            · rw [ovl_off (by omega), ovl_off (by omega), ov2, ovl_in (by omega) (by omega), if_pos (by omega), ovl_slot h3, show j - (b + 48 + 12) = j - b - 60 by omega]
            · rw [if_neg (by omega)]
              by_cases q4 : j < b + 84
              · rw [ovl_off (by omega), ovl_in (by omega) (by omega), if_pos (by omega), ov2_slot h4, ovl_slot h4, show j - (b + 48 + 24) = j - b - 72 by omega]
              · rw [if_neg (by omega), ovl_in (by omega) (by omega), if_pos (by omega), ovl_slot h5, ov2_slot h5, ovl_slot h5, show j - (b + 48 + 24 + 12) = j - b - 84 by omega]
      · rw [ovl_off (by omega), ovl_off (by omega), ov2, ovl_off (by omega), ovl_off (by omega), ovl_off (by omega), ovl_off (by omega)]
  · rw [wr_slot hk, ovl_slot hk, ovl_slot hk, ov2_slot hk, ovl_slot hk, ovl_slot hk]
end PACK
