/-! ===== a world of the class: looks ===== -/
section WORLD
variable {w : Nat} {s : St}
theorem w_place (hw : LN (w + 1) = 94) {p : Nat} (hp : p < 12) : fX10_place w (nI p) s = some (s (w + 1) (48 + p), s) := by
  rw [fX10_place, zla_48, at_nI (by omega) (by omega), bd_some]
theorem w_noons (hw : LN (w + 1) = 94) {p : Nat} (hp : p < 10) : fX10_noons w (nI p) s = some (s (w + 1) (84 + p), s) := by
  rw [fX10_noons, zla_84, at_nI (by omega) (by omega), bd_some]
theorem w_part (hw : LN (w + 1) = 94) {p k : Nat} (hp : p < 12) (hk : k < 4) : fX10_part w (nI p) (nI k) s = some (s (w + 1) (p * 4 + k), s) := by
  rw [fX10_part, zrm_4, nI_add, at_nI (by omega) (by omega), bd_some]
theorem w_got (hw : LN (w + 1) = 94) {p k : Nat} (hp : p < 6) (hk : k < 2) : fX10_got w (nI p) (nI k) s = some (s (w + 1) (72 + p * 2 + k), s) := by
  rw [fX10_got, zrm_2, zla_72, nI_add, at_nI (by omega) (by omega), bd_some]
/-- what falls at a place -/
def fallsF (sky pl : Nat → Int32) (c : Int32) : Nat → Int32 → Int32 := fun p a => if pl p = c then a + sky p else a
theorem w_falls_L (hw : LN (w + 1) = 94) {c : Int32} {k : Nat} (hk : k < 4) (a : Int32) : fX10_falls_L20 w c (nI k) FU a (0 : Int32) s = some (accN (fallsF (fun p => s (w + 1) (p * 4 + k)) (fun p => s (w + 1) (48 + p)) c) 12 0 a, s) := by
  refine loopN (fun n a i => fX10_falls_L20 w c (nI k) n a (nI i) s) 12 _ (fun a => some (a, s)) ?_ ?_ 12 FU a 0 rfl (by decide)
  · intro n a i hi
    simp only [fX10_falls_L20]
    rw [if_neg (by rw [zll_12 _ (by omega)]; omega), w_place hw hi, bd_some, fallsF]
    by_cases hc : s (w + 1) (48 + i) = c
    · rw [if_pos hc, if_pos hc, w_part hw hi hk, bd_some, zra_1]
    · rw [if_neg hc, if_neg hc, zra_1]
  · intro n a
    simp only [fX10_falls_L20]
    rw [if_pos (by decide)]
end WORLD
