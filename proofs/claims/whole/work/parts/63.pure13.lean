/-! ===== a world packed into a row ===== -/
/-- the places lo, .. of slot r are from's -/
def ovl (s : St) (r lo n : Nat) (f : Nat → Int32) : St := fun k j => if k = r ∧ lo ≤ j ∧ j < lo + n then f (j - lo) else s k j
theorem ovl_slot {s : St} {r lo n k : Nat} {f : Nat → Int32} (h : k ≠ r) : ovl s r lo n f k = s k := by
  funext j
  rw [ovl, if_neg (fun e => h e.1)]
theorem ovl_zero {s : St} {r lo : Nat} {f : Nat → Int32} : ovl s r lo 0 f = s := by
  funext k j
  rw [ovl, if_neg (by omega)]
theorem ovl_in {s : St} {r lo n j : Nat} {f : Nat → Int32} (h1 : lo ≤ j) (h2 : j < lo + n) : ovl s r lo n f r j = f (j - lo) := by
  rw [ovl, if_pos ⟨rfl, h1, h2⟩]
theorem ovl_off {s : St} {r lo n j : Nat} {f : Nat → Int32} (h : j < lo ∨ lo + n ≤ j) : ovl s r lo n f r j = s r j := by
  rw [ovl, if_neg (by omega)]
theorem ovl_succ {s : St} {r lo n : Nat} {f : Nat → Int32} : wr (ovl s r lo n f) r (lo + n) (f n) = ovl s r lo (n + 1) f := by
  funext k j
  by_cases hk : k = r
  · subst hk
    by_cases hj : j = lo + n
    · subst hj
      rw [wr_hit, ovl_in (by omega) (by omega), Nat.add_sub_cancel_left]
    · rw [wr_place hj]
      by_cases h : lo ≤ j ∧ j < lo + n
      · rw [ovl_in h.1 h.2, ovl_in h.1 (by omega)]
      · rw [ovl_off (by omega), ovl_off (by omega)]
  · rw [wr_slot hk, ovl_slot hk, ovl_slot hk]
/-- a loop that copies -/
theorem copyL {B : Type} (F : Nat → Nat → St → B) (E : St → B) (s : St) (r lo N : Nat) (f : Nat → Int32) (hF : ∀ m i, i < N → F (m + 1) i (ovl s r lo i f) = F m (i + 1) (wr (ovl s r lo i f) r (lo + i) (f i))) (hE : ∀ m t, F (m + 1) N t = E t) : ∀ (k i m : Nat), i + k = N → k < m → F m i (ovl s r lo i f) = E (ovl s r lo N f)
  | 0, i, m, hi, hm => by
    obtain ⟨m, rfl⟩ : ∃ q, m = q + 1 := ⟨m - 1, by omega⟩
    obtain rfl : i = N := by omega
    exact hE m _
  | k + 1, i, m, hi, hm => by
    obtain ⟨m, rfl⟩ : ∃ q, m = q + 1 := ⟨m - 1, by omega⟩
    rw [hF m i (by omega), ovl_succ]
    exact copyL F E s r lo N f hF hE k (i + 1) m (by omega) (by omega)
section PACK
variable {s : St} {r b : Nat}
theorem pack_48 (kk : St → Option (Int32 × St)) (hr : 72 ≠ r) (hL : b + 48 ≤ LN r) (hb : LN r < 1000000) : fX12_pack_L5 kk r (nI b) FU 0 s = kk (ovl s r b 48 (s 72)) := by
  have := copyL (fun m i t => fX12_pack_L5 kk r (nI b) m (nI i) t) kk s r b 48 (s 72) (fun m i hi => by
    simp only [fX12_pack_L5]
    rw [if_neg (by rw [zll_48 _ (by omega)]; omega), if_pos (inA_lt (by decide) (by omega)), nI_add, if_pos (inA_lt (by omega) (by omega)), nI_clamp (by omega), nI_clamp (by omega), ovl_slot hr, zra_1]) (fun m t => by
    simp only [fX12_pack_L5]
    rw [if_pos (by decide)]) 48 0 FU rfl (by decide)
  rw [ovl_zero] at this
  exact this
theorem pack_12 (kk : St → Option (Int32 × St)) (hr : 87 ≠ r) (hL : b + 12 ≤ LN r) (hb : LN r < 1000000) : fX12_pack_L85 kk r (nI b) FU 0 s = kk (ovl s r b 12 (s 87)) := by
  have := copyL (fun m i t => fX12_pack_L85 kk r (nI b) m (nI i) t) kk s r b 12 (s 87) (fun m i hi => by
    simp only [fX12_pack_L85]
    rw [if_neg (by rw [zll_12 _ (by omega)]; omega), if_pos (inA_lt (by decide) (by omega)), nI_add, if_pos (inA_lt (by omega) (by omega)), nI_clamp (by omega), nI_clamp (by omega), ovl_slot hr, zra_1]) (fun m t => by
    simp only [fX12_pack_L85]
    rw [if_pos (by decide)]) 12 0 FU rfl (by decide)
  rw [ovl_zero] at this
  exact this
theorem pack_10 (hr : 88 ≠ r) (hr2 : 69 ≠ r) (hL : b + 11 ≤ LN r) (hb : LN r < 1000000) : fX12_pack_L117 r (nI b) FU 0 s = some (0, wr (ovl s r b 10 (s 88)) r (b + 10) (s 69 17)) := by
  have := copyL (fun m i t => fX12_pack_L117 r (nI b) m (nI i) t) (fun t => some (0, wr t r (b + 10) (t 69 17))) s r b 10 (s 88) (fun m i hi => by
    simp only [fX12_pack_L117]
    rw [if_neg (by rw [zll_10 _ (by omega)]; omega), if_pos (inA_lt (by decide) (by omega)), nI_add, if_pos (inA_lt (by omega) (by omega)), nI_clamp (by omega), nI_clamp (by omega), ovl_slot hr, zra_1]) (fun m t => by
    simp only [fX12_pack_L117]
    rw [if_pos (by decide), zra_10, if_pos (inA_lt (by omega) (by omega)), nI_clamp (by omega)]) 10 0 FU rfl (by decide)
  rw [ovl_zero] at this
  rw [ovl_slot hr2] at this
  exact this
end PACK
