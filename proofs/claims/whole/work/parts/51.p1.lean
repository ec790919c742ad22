/-! ===== a world: looks of the class (its row of 94), looks of the reference (its row of 95, laid over five arrays) ===== -/
theorem i00 : (0 : Int32).toNatClampNeg = 0 := rfl
theorem i02 : (2 : Int32).toNatClampNeg = 2 := rfl
theorem i03 : (3 : Int32).toNatClampNeg = 3 := rfl
theorem n00 : nI 0 = (0 : Int32) := rfl
theorem inA_0 : inA (0 : Int32) 10 := by decide
theorem inA_2 : inA (2 : Int32) 10 := by decide
theorem inA_3 : inA (3 : Int32) 10 := by decide
theorem neg1 {p : Nat} (h : p < 2147483648) : ¬ nI p = (-1 : Int32) := by
  rw [i_eq, nI_toInt h, show (-1 : Int32).toInt = -1 from rfl]
  omega
/-- the reference's world as one row -/
def vr (s : St) : Nat → Int32 := fun j => if j < 48 then s 72 j else if j < 60 then s 73 (j - 48) else if j < 72 then s 77 (j - 60) else if j < 84 then s 87 (j - 72) else if j < 94 then s 88 (j - 84) else s 69 17
section VR
variable {s : St} {p k q : Nat}
theorem vr_sky (hp : p < 12) (hk : k < 4) : vr s (4 * p + k) = s 72 (4 * p + k) := by rw [vr, if_pos (by omega)]
theorem vr_pl (hp : p < 12) : vr s (48 + p) = s 73 p := by rw [vr, if_neg (by omega), if_pos (by omega), Nat.add_sub_cancel_left]
theorem vr_sp (hp : p < 12) : vr s (60 + p) = s 77 p := by rw [vr, if_neg (by omega), if_neg (by omega), if_pos (by omega), Nat.add_sub_cancel_left]
theorem vr_got (hp : p < 12) : vr s (72 + p) = s 87 p := by rw [vr, if_neg (by omega), if_neg (by omega), if_neg (by omega), if_pos (by omega), Nat.add_sub_cancel_left]
theorem vr_noon (hp : p < 10) : vr s (84 + p) = s 88 p := by rw [vr, if_neg (by omega), if_neg (by omega), if_neg (by omega), if_neg (by omega), if_pos (by omega), Nat.add_sub_cancel_left]
theorem vr_bits : vr s 94 = s 69 17 := rfl
end VR
/-- what falls at a place, of the first n -/
def fallsF (r : Nat → Int32) (k : Nat) (c : Int32) : Nat → Int32 → Int32 := fun p a => if r (48 + p) = c then a + r (4 * p + k) else a
def fallsS (r : Nat → Int32) (n q k : Nat) : Int32 := accN (fallsF r k (nI q)) n 0 (if k = 0 then 10 * r (84 + q) else 0)
def noonsS (r : Nat → Int32) : Int32 := accN (fun q a => a + r (84 + q)) 10 0 0
def apartS (r : Nat → Int32) (p q : Nat) : Int32 := accN (fun k a => a + jabs (r (4 * p + k) - r (4 * q + k))) 4 0 0
def ripeS (r sun rain : Nat → Int32) (f : Nat) : Bool := !decide (r (72 + 2 * f) < sun f) && !decide (r (72 + (2 * f + 1)) < rain f)
theorem ripe_1 {r sun rain : Nat → Int32} {f : Nat} (h : r (72 + 2 * f) < sun f) : ripeS r sun rain f = false := by simp [ripeS, h]
theorem ripe_2 {r sun rain : Nat → Int32} {f : Nat} (h : r (72 + (2 * f + 1)) < rain f) : ripeS r sun rain f = false := by simp [ripeS, h]
theorem ripe_3 {r sun rain : Nat → Int32} {f : Nat} (h1 : ¬ r (72 + 2 * f) < sun f) (h2 : ¬ r (72 + (2 * f + 1)) < rain f) : ripeS r sun rain f = true := by simp only [ripeS, decide_eq_false h1, decide_eq_false h2]; rfl
def ripesS (r sun rain : Nat → Int32) (nf : Nat) : Int32 := accN (fun f a => if ripeS r sun rain f then a + 1 else a) nf 0 0
def thereS (r : Nat → Int32) (n q : Nat) : Int32 := accN (fun p a => if r (48 + p) = nI q then a + 1 else a) n 0 0
def aliveS (r : Nat → Int32) (n : Nat) : Int32 := accN (fun p a => if r (48 + p) = -1 then a else a + 1) n 0 0
section WORLD
variable {w : Nat} {s : St}
theorem w_place (hw : LN (w + 1) = 94) {p : Nat} (hp : p < 12) : fX10_place w (nI p) s = some (s (w + 1) (48 + p), s) := by
  rw [fX10_place, zla_48, at_nI (by omega) (by omega), bd_some]
theorem w_spouse (hw : LN (w + 1) = 94) {p : Nat} (hp : p < 12) : fX10_spouse w (nI p) s = some (s (w + 1) (60 + p), s) := by
  rw [fX10_spouse, zla_60, at_nI (by omega) (by omega), bd_some]
theorem w_alive (hw : LN (w + 1) = 94) {p : Nat} (hp : p < 12) : fX10_alive w (nI p) s = some ((if s (w + 1) (48 + p) = -1 then 0 else 1), s) := by
  rw [fX10_alive, zla_48, at_nI (by omega) (by omega), bd_some]
  split <;> rfl
theorem w_noons (hw : LN (w + 1) = 94) {p : Nat} (hp : p < 10) : fX10_noons w (nI p) s = some (s (w + 1) (84 + p), s) := by
  rw [fX10_noons, zla_84, at_nI (by omega) (by omega), bd_some]
theorem w_part (hw : LN (w + 1) = 94) {p k : Nat} (hp : p < 12) (hk : k < 4) : fX10_part w (nI p) (nI k) s = some (s (w + 1) (4 * p + k), s) := by
  rw [fX10_part, zrm_4, nI_add, at_nI (by omega) (by omega), bd_some, Nat.mul_comm]
theorem w_got (hw : LN (w + 1) = 94) {p k : Nat} (hp : p < 6) (hk : k < 2) : fX10_got w (nI p) (nI k) s = some (s (w + 1) (72 + (2 * p + k)), s) := by
  rw [fX10_got, zrm_2, zla_72, nI_add, at_nI (by omega) (by omega), bd_some, Nat.mul_comm, Nat.add_assoc]
theorem w_falls (hw : LN (w + 1) = 94) {q k : Nat} (hq : q < 10) (hk : k < 4) : fX10_falls w (nI q) (nI k) s = some (fallsS (s (w + 1)) 12 q k, s) := by
  have hL : ∀ a, fX10_falls_L20 w (nI q) (nI k) FU a (0 : Int32) s = some (accN (fallsF (s (w + 1)) k (nI q)) 12 0 a, s) := by
    intro a
    refine loopN (fun n a i => fX10_falls_L20 w (nI q) (nI k) n a (nI i) s) 12 _ (fun a => some (a, s)) ?_ ?_ 12 FU a 0 rfl (by decide)
    · intro n a i hi
      simp only [fX10_falls_L20]
      rw [if_neg (by rw [zll_12 _ (by omega)]; omega), w_place hw hi, bd_some, fallsF]
      by_cases hc : s (w + 1) (48 + i) = nI q
      · rw [if_pos hc, if_pos hc, w_part hw hi hk, bd_some, zra_1]
      · rw [if_neg hc, if_neg hc, zra_1]
    · intro n a
      simp only [fX10_falls_L20]
      rw [if_pos (by decide)]
  rw [fX10_falls]
  by_cases h0 : k = 0
  · subst h0
    rw [if_pos n00, w_noons hw hq, bd_some, fX10_falls_J16, hL]
    rfl
  · rw [if_neg (by rw [zle_0 _ (by omega)]; exact h0), fX10_falls_J16, hL, fallsS, if_neg h0]
theorem w_allNoons (hw : LN (w + 1) = 94) : fX10_allNoons w s = some (noonsS (s (w + 1)), s) := by
  refine loopN (fun n a i => fX10_allNoons_L4 w n a (nI i) s) 10 _ (fun a => some (a, s)) ?_ ?_ 10 FU 0 0 rfl (by decide)
  · intro n a i hi
    simp only [fX10_allNoons_L4]
    rw [if_neg (by rw [zll_10 _ (by omega)]; omega), w_noons hw hi, bd_some, zra_1]
  · intro n a
    simp only [fX10_allNoons_L4]
    rw [if_pos (by decide)]
theorem w_apart (hw : LN (w + 1) = 94) {p q : Nat} (hp : p < 12) (hq : q < 12) : fX10_apart w (nI p) (nI q) s = some (apartS (s (w + 1)) p q, s) := by
  refine loopN (fun n a i => fX10_apart_L5 w (nI p) (nI q) n a (nI i) s) 4 _ (fun a => some (a, s)) ?_ ?_ 4 FU 0 0 rfl (by decide)
  · intro n a i hi
    simp only [fX10_apart_L5]
    rw [if_neg (by rw [zll_4 _ (by omega)]; omega), w_part hw hp hi, bd_some, w_part hw hq hi, bd_some, zra_1]
  · intro n a
    simp only [fX10_apart_L5]
    rw [if_pos (by decide)]
theorem w_manyThere (hw : LN (w + 1) = 94) {q : Nat} : fX10_manyThere w (nI q) s = some (thereS (s (w + 1)) 12 q, s) := by
  refine loopN (fun n a i => fX10_manyThere_L4 w (nI q) n a (nI i) s) 12 _ (fun a => some (a, s)) ?_ ?_ 12 FU 0 0 rfl (by decide)
  · intro n a i hi
    simp only [fX10_manyThere_L4]
    rw [if_neg (by rw [zll_12 _ (by omega)]; omega), w_place hw hi, bd_some, zra_1]
    by_cases hc : s (w + 1) (48 + i) = nI q
    · rw [if_pos hc, if_pos hc]
    · rw [if_neg hc, if_neg hc, Int32.add_zero]
  · intro n a
    simp only [fX10_manyThere_L4]
    rw [if_pos (by decide)]
theorem w_manyAlive (hw : LN (w + 1) = 94) : fX10_manyAlive w s = some (aliveS (s (w + 1)) 12, s) := by
  refine loopN (fun n a i => fX10_manyAlive_L4 w n a (nI i) s) 12 _ (fun a => some (a, s)) ?_ ?_ 12 FU 0 0 rfl (by decide)
  · intro n a i hi
    simp only [fX10_manyAlive_L4]
    rw [if_neg (by rw [zll_12 _ (by omega)]; omega), w_alive hw hi, bd_some, zra_1]
    by_cases hc : s (w + 1) (48 + i) = -1
    · rw [if_pos hc, if_pos hc, if_pos rfl, Int32.add_zero]
    · rw [if_neg hc, if_neg hc, if_neg (by decide)]
  · intro n a
    simp only [fX10_manyAlive_L4]
    rw [if_pos (by decide)]
theorem w_ripe (hw : LN (w + 1) = 94) {g f : Nat} (h6 : LN (g + 6) = 6) (h7 : LN (g + 7) = 6) (hf : f < 6) : fX10_ripe w g (nI f) s = some ((if ripeS (s (w + 1)) (s (g + 6)) (s (g + 7)) f then 1 else 0), s) := by
  rw [fX10_ripe, ← n00, w_got hw hf (by decide), bd_some, at_nI (by omega) (by omega), bd_some]
  by_cases h1 : s (w + 1) (72 + (2 * f + 0)) < s (g + 6) f
  · rw [if_pos h1, ripe_1 h1, if_neg (by decide)]
  · rw [if_neg h1, show (1 : Int32) = nI 1 from rfl, w_got hw hf (by decide), bd_some, at_nI (by omega) (by omega), bd_some]
    by_cases h2 : s (w + 1) (72 + (2 * f + 1)) < s (g + 7) f
    · rw [if_pos h2, ripe_2 h2, if_neg (by decide)]
    · rw [if_neg h2, ripe_3 h1 h2, if_pos rfl]
theorem w_manyRipe (hw : LN (w + 1) = 94) {g nf : Nat} (h6 : LN (g + 6) = 6) (h7 : LN (g + 7) = 6) (hf : s g 6 = nI nf) (h : nf ≤ 6) : fX10_manyRipe w g s = some (ripesS (s (w + 1)) (s (g + 6)) (s (g + 7)) nf, s) := by
  refine loopN (fun n a i => fX10_manyRipe_L4 w g n a (nI i) s) nf _ (fun a => some (a, s)) ?_ ?_ nf FU 0 0 (by omega) (by show nf < 20000; omega)
  · intro n a i hi
    simp only [fX10_manyRipe_L4]
    rw [hf, if_neg (by rw [nI_leI (by omega) (by omega)]; omega), w_ripe hw h6 h7 (by omega), bd_some, zra_1]
    by_cases hc : ripeS (s (w + 1)) (s (g + 6)) (s (g + 7)) i = true
    · rw [if_pos hc, if_pos hc, if_neg (by decide)]
    · rw [if_neg hc, if_neg hc, if_pos rfl, Int32.add_zero]
  · intro n a
    simp only [fX10_manyRipe_L4]
    rw [hf, if_pos (by rw [nI_leI (by omega) (by omega)]; omega)]
end WORLD
section MODEL
variable {s : St} {n : Nat}
theorem m_partAt (hn : s 71 0 = nI n) (h12 : n ≤ 12) {q k : Nat} (hq : q < 10) (hk : k < 4) : fX12_partAt (nI q) (nI k) s = some (fallsS (vr s) n q k, s) := by
  have hL : ∀ a, fX12_partAt_L21 (nI q) (nI k) FU a (0 : Int32) s = some (accN (fallsF (vr s) k (nI q)) n 0 a, s) := by
    intro a
    refine loopN (fun m a i => fX12_partAt_L21 (nI q) (nI k) m a (nI i) s) n _ (fun a => some (a, s)) ?_ ?_ n FU a 0 (by omega) (by show n < 20000; omega)
    · intro m a i hi
      simp only [fX12_partAt_L21]
      rw [if_pos inA_0, i00, hn, if_neg (by rw [nI_leI (by omega) (by omega)]; omega), if_pos (inA_lt (by decide) (by omega)), nI_clamp (by omega), fallsF, vr_pl (by omega), vr_sky (by omega) hk]
      by_cases hc : s 73 i = nI q
      · rw [if_pos hc, if_pos hc, zlm_4, nI_add, if_pos (inA_lt (by decide) (by omega)), nI_clamp (by omega), zra_1]
      · rw [if_neg hc, if_neg hc, zra_1, Int32.add_zero]
    · intro m a
      simp only [fX12_partAt_L21]
      rw [if_pos inA_0, i00, hn, if_pos (by rw [nI_leI (by omega) (by omega)]; omega)]
  rw [fX12_partAt]
  by_cases h0 : k = 0
  · subst h0
    rw [if_pos n00, if_pos (inA_lt (by decide) hq), fX12_partAt_J17, hL, nI_clamp (by omega), fallsS, if_pos rfl, vr_noon hq]
  · rw [if_neg (by rw [zle_0 _ (by omega)]; exact h0), fX12_partAt_J17, hL, fallsS, if_neg h0]
theorem m_allNoons : fX12_allNoons s = some (noonsS (vr s), s) := by
  refine loopN (fun n a i => fX12_allNoons_L4 n a (nI i) s) 10 _ (fun a => some (a, s)) ?_ ?_ 10 FU 0 0 rfl (by decide)
  · intro n a i hi
    simp only [fX12_allNoons_L4]
    rw [if_neg (by rw [zll_10 _ (by omega)]; omega), if_pos (inA_lt (by decide) hi), nI_clamp (by omega), zra_1, vr_noon hi]
  · intro n a
    simp only [fX12_allNoons_L4]
    rw [if_pos (by decide)]
theorem m_apart {p q : Nat} (hp : p < 12) (hq : q < 12) : fX12_apart (nI p) (nI q) s = some (apartS (vr s) p q, s) := by
  refine loopN (fun n a i => fX12_apart_L5 (nI p) (nI q) n a (nI i) s) 4 _ (fun a => some (a, s)) ?_ ?_ 4 FU 0 0 rfl (by decide)
  · intro n a i hi
    simp only [fX12_apart_L5]
    rw [if_neg (by rw [zll_4 _ (by omega)]; omega), zlm_4, zlm_4, nI_add, nI_add, if_pos (inA_lt (by decide) (by omega)), if_pos (inA_lt (by decide) (by omega)), nI_clamp (by omega), nI_clamp (by omega), zra_1, vr_sky hp hi, vr_sky hq hi]
  · intro n a
    simp only [fX12_apart_L5]
    rw [if_pos (by decide)]
theorem m_isRipe {f : Nat} (hf : f < 6) : fX12_isRipe (nI f) s = some ((if ripeS (vr s) (s 82) (s 83) f then 1 else 0), s) := by
  rw [fX12_isRipe, zlm_2, zra_1, if_pos (inA_lt (by decide) (by omega)), if_pos (inA_lt (by decide) (by omega)), nI_clamp (by omega), nI_clamp (by omega)]
  have e1 : vr s (72 + 2 * f) = s 87 (2 * f) := vr_got (by omega)
  have e2 : vr s (72 + (2 * f + 1)) = s 87 (2 * f + 1) := vr_got (by omega)
  by_cases h1 : s 87 (2 * f) < s 82 f
  · rw [if_pos h1, ripe_1 (by rw [e1]; exact h1), if_neg (by decide)]
  · rw [if_neg h1, if_pos (inA_lt (by decide) (by omega)), if_pos (inA_lt (by decide) (by omega)), nI_clamp (by omega)]
    by_cases h2 : s 87 (2 * f + 1) < s 83 f
    · rw [if_pos h2, ripe_2 (by rw [e2]; exact h2), if_neg (by decide)]
    · rw [if_neg h2, ripe_3 (by rw [e1]; exact h1) (by rw [e2]; exact h2), if_pos rfl]
theorem m_ripe {nf : Nat} (hf : s 71 2 = nI nf) (h : nf ≤ 6) : fX12_ripe s = some (ripesS (vr s) (s 82) (s 83) nf, s) := by
  refine loopN (fun n a i => fX12_ripe_L4 n a (nI i) s) nf _ (fun a => some (a, s)) ?_ ?_ nf FU 0 0 (by omega) (by show nf < 20000; omega)
  · intro n a i hi
    simp only [fX12_ripe_L4]
    rw [if_pos inA_2, i02, hf, if_neg (by rw [nI_leI (by omega) (by omega)]; omega), m_isRipe (by omega), bd_some, zra_1]
    by_cases hc : ripeS (vr s) (s 82) (s 83) i = true
    · rw [if_pos hc, if_pos hc, if_neg (by decide)]
    · rw [if_neg hc, if_neg hc, if_pos rfl, Int32.add_zero]
  · intro n a
    simp only [fX12_ripe_L4]
    rw [if_pos inA_2, i02, hf, if_pos (by rw [nI_leI (by omega) (by omega)]; omega)]
end MODEL
