/-! ===== arrange, the reference's side ===== -/
def ArrM (c pl na nb : Nat → Int32) (n nf A : Nat) (t : St) : Prop := t 71 0 = nI n ∧ t 71 2 = nI nf ∧ t 69 17 = nI A ∧ (∀ p k, p < n → k < 4 → t 72 (4 * p + k) = c (4 * p + k)) ∧ (∀ q, q < 10 → t 88 q = c (84 + q)) ∧ ∀ f, f < nf → t 81 f = pl f ∧ t 82 f = na f ∧ t 83 f = nb f
theorem ArrM.w {c pl na nb : Nat → Int32} {n nf A : Nat} {t t' : St} (h : ArrM c pl na nb n nf A t) (e : ∀ k, k ≠ 69 → k ≠ 98 → k ≠ 99 → t' k = t k) (e2 : t' 69 17 = t 69 17) : ArrM c pl na nb n nf A t' := by
  obtain ⟨h1, h2, h3, h4, h5, h6⟩ := h
  exact ⟨by rw [e 71 (by decide) (by decide) (by decide)]; exact h1, by rw [e 71 (by decide) (by decide) (by decide)]; exact h2, by rw [e2]; exact h3, by rw [e 72 (by decide) (by decide) (by decide)]; exact h4, by rw [e 88 (by decide) (by decide) (by decide)]; exact h5, by rw [e 81 (by decide) (by decide) (by decide), e 82 (by decide) (by decide) (by decide), e 83 (by decide) (by decide) (by decide)]; exact h6⟩
theorem tail_sum {c : Nat → Int32} {n A : Nat} (hA3 : ∀ p, p < n → (A.testBit p = true ↔ ¬ c (48 + p) = -1)) : ∀ k, k ≤ n → sumN (fun p => if A.testBit p then 1 else 0) (n - k) + tailN c n k = sumN (fun p => if A.testBit p then 1 else 0) n
  | 0, _ => rfl
  | k + 1, h => by
    have ih := tail_sum hA3 k (by omega)
    rw [show n - k = n - (k + 1) + 1 by omega] at ih
    rw [tailN, ← ih]
    show _ = sumN _ (n - (k + 1)) + (if A.testBit (n - (k + 1)) = true then 1 else 0) + tailN c n k
    by_cases e : c (48 + (n - (k + 1))) = -1
    · rw [if_pos e, if_neg (fun q => (hA3 (n - (k + 1)) (by omega)).mp q e)]
      omega
    · rw [if_neg e, if_pos ((hA3 (n - (k + 1)) (by omega)).mpr e)]
      omega
theorem tail_pop {c : Nat → Int32} {n A : Nat} (h12 : n ≤ 12) (hAn : A < 2 ^ n) (hA3 : ∀ p, p < n → (A.testBit p = true ↔ ¬ c (48 + p) = -1)) : tailN c n n = pop A := by
  have h := tail_sum hA3 n (Nat.le_refl _)
  have h0 : sumN (fun p => if A.testBit p then 1 else 0) (n - n) = 0 := by rw [Nat.sub_self]; rfl
  have h1 : pop A = sumN (fun p => if A.testBit p then 1 else 0) n := by
    have := sumN_zero (f := fun p => if A.testBit p then 1 else 0) n (12 - n) (fun i hi _ => by
      rw [Nat.testBit_lt_two_pow (Nat.lt_of_lt_of_le hAn (Nat.pow_le_pow_right (by decide) hi))]
      rfl)
    rw [show n + (12 - n) = 12 by omega] at this
    exact this
  omega
section ARRANGE2
variable {c : Nat → Int32} {n nf A : Nat} {pl na nb : Nat → Int32}
theorem m_ripeBy {t : St} {r : Nat} (h12 : n ≤ 12) (h6 : nf ≤ 6) (hA : A < 4096) (hA3 : ∀ p, p < n → (A.testBit p = true ↔ ¬ c (48 + p) = -1)) (hpl : ∀ f, f < nf → ∃ q, q < 10 ∧ pl f = nI q) (hM : ArrM c pl na nb n nf A t) (hr : ∀ p, p < n → ¬ c (48 + p) = -1 → t 99 p = postS c n nf r p) : fX12_ripeBy t = some (nI (worthS c n nf pl na nb r), t) := by
  obtain ⟨h1, h2, h3, h4, h5, h7⟩ := hM
  have inner : ∀ (kk : Int32 → Int32 → St → Option (Int32 × St)) (c1 : Int32) f k i m v3 v4, i + k = n → k < m → fX12_ripeBy_L35 kk c1 (nI f) m v3 v4 (nI i) t = kk (accN (heapF c (t 99) 0 f) k i v3) (accN (heapF c (t 99) 1 f) k i v4) t := by
    intro kk c1 f k
    induction k with
    | zero =>
      intro i m v3 v4 hi hm
      obtain ⟨m, rfl⟩ : ∃ q, m = q + 1 := ⟨m - 1, by omega⟩
      obtain rfl : i = n := by omega
      rw [fX12_ripeBy_L35, if_pos inA_0, i00, h1, if_pos (Int32.le_refl _)]
      rfl
    | succ k ih =>
      intro i m v3 v4 hi hm
      obtain ⟨m, rfl⟩ : ∃ q, m = q + 1 := ⟨m - 1, by omega⟩
      have e0 : (4 : Int32) * nI i + 0 = nI (4 * i + 0) := by rw [zlm_4]; exact nI_add (4 * i) 0
      have e1 : (4 : Int32) * nI i + 1 = nI (4 * i + 1) := by rw [zlm_4]; exact nI_add (4 * i) 1
      rw [fX12_ripeBy_L35, if_pos inA_0, i00, h1, if_neg (by rw [nI_leI (by omega) (by omega)]; omega), m_alive_c (c := c) h12 hA h3 hA3 (by omega), bd_some, zra_1]
      show _ = kk (accN (heapF c (t 99) 0 f) k (i + 1) (heapF c (t 99) 0 f i v3)) (accN (heapF c (t 99) 1 f) k (i + 1) (heapF c (t 99) 1 f i v4)) t
      rw [heapF, heapF]
      by_cases hl : c (48 + i) = -1
      · rw [if_pos hl, if_pos rfl, if_pos hl, if_pos hl]
        exact ih (i + 1) m v3 v4 (by omega) (by omega)
      · rw [if_neg hl, if_neg (by decide), if_neg hl, if_neg hl, if_pos (inA_lt (by decide) (by omega)), nI_clamp (by omega)]
        by_cases e : t 99 i = nI f
        · rw [if_pos e, if_pos e, if_pos e, e0, e1, if_pos (inA_lt (by decide) (by omega)), if_pos (inA_lt (by decide) (by omega)), nI_clamp (by omega), nI_clamp (by omega), h4 i 0 (by omega) (by decide), h4 i 1 (by omega) (by decide)]
          exact ih (i + 1) m _ _ (by omega) (by omega)
        · rw [if_neg e, if_neg e, if_neg e]
          exact ih (i + 1) m v3 v4 (by omega) (by omega)
  have outer : ∀ k i m v, i + k = nf → k < m → v ≤ i → fX12_ripeBy_L4 m (nI v) (nI i) t = some (nI (accN (ripeF (fun f => heapS c (t 99) 0 f n (10 * c (84 + (pl f).toNatClampNeg))) (fun f => heapS c (t 99) 1 f n 0) na nb) k i v), t) := by
    intro k
    induction k with
    | zero =>
      intro i m v hi hm hv
      obtain ⟨m, rfl⟩ : ∃ q, m = q + 1 := ⟨m - 1, by omega⟩
      obtain rfl : i = nf := by omega
      rw [fX12_ripeBy_L4, if_pos inA_2, i02, h2, if_pos (Int32.le_refl _)]
      rfl
    | succ k ih =>
      intro i m v hi hm hv
      obtain ⟨m, rfl⟩ : ∃ q, m = q + 1 := ⟨m - 1, by omega⟩
      obtain ⟨g1, g2, g3⟩ := h7 i (by omega)
      obtain ⟨q, hq, hpq⟩ := hpl i (by omega)
      have L0 := inner
      show _ = some (nI (accN _ k (i + 1) (ripeF (fun f => heapS c (t 99) 0 f n (10 * c (84 + (pl f).toNatClampNeg))) (fun f => heapS c (t 99) 1 f n 0) na nb i v)), t)
      rw [fX12_ripeBy_L4, if_pos inA_2, i02, h2, if_neg (by rw [nI_leI (by omega) (by omega)]; omega), if_pos (inA_lt (by decide) (by omega)), nI_clamp (by omega), g1, hpq, if_pos (inA_lt (by decide) hq), nI_clamp (by omega), h5 q hq]
      refine Eq.trans (inner _ (nI v) i n 0 FU (10 * c (84 + q)) 0 (by omega) (by show n < 20000; omega)) ?_
      rw [if_pos (inA_lt (by decide) (by omega)), if_pos (inA_lt (by decide) (by omega)), g2, g3, zra_1, zra_1, Int32.add_zero, ripeF, hpq, nI_clamp (by omega)]
      show (if heapS c (t 99) 0 i n (10 * c (84 + q)) < na i then _ else if heapS c (t 99) 1 i n 0 < nb i then _ else _) = _
      by_cases e1 : heapS c (t 99) 0 i n (10 * c (84 + q)) < na i
      · rw [if_pos e1, if_pos e1]
        exact ih (i + 1) m v (by omega) (by omega) (by omega)
      · rw [if_neg e1, if_neg e1]
        by_cases e2 : heapS c (t 99) 1 i n 0 < nb i
        · rw [if_pos e2, if_pos e2]
          exact ih (i + 1) m v (by omega) (by omega) (by omega)
        · rw [if_neg e2, if_neg e2]
          exact ih (i + 1) m (v + 1) (by omega) (by omega) (by omega)
  have e : ripeN (fun f => heapS c (t 99) 0 f n (10 * c (84 + (pl f).toNatClampNeg))) (fun f => heapS c (t 99) 1 f n 0) na nb nf = worthS c n nf pl na nb r := ripeN_congr (fun f _ => ⟨heapS_congr hr, heapS_congr hr⟩)
  rw [← e]
  exact outer nf 0 FU 0 (by omega) (by show nf < 20000; omega) (Nat.le_refl _)
/-- the row of number r is laid -/
theorem m_deal {t : St} {r : Nat} (kk : St → Option (Int32 × St)) (c2 c3 c4 : Int32) (h12 : n ≤ 12) (h6 : nf ≤ 6) (hr : r < 20000) (hA : A < 4096) (hA3 : ∀ p, p < n → (A.testBit p = true ↔ ¬ c (48 + p) = -1)) (hM : ArrM c pl na nb n nf A t) : ∀ k m Y, k ≤ n → k < m → (∀ p, k ≤ p → p < n → ¬ c (48 + p) = -1 → Y p = postS c n nf r p) →
    ∃ Y', fX12_arrange_L83 kk c2 c3 c4 m (nI (r / (nf + 1) ^ tailN c n (n - k))) (nI k - 1) (rset t 99 Y) = kk (rset t 99 Y') ∧ ∀ p, p < n → ¬ c (48 + p) = -1 → Y' p = postS c n nf r p := by
  intro k
  induction k with
  | zero =>
    intro m Y hk hm hY
    obtain ⟨m, rfl⟩ : ∃ q, m = q + 1 := ⟨m - 1, by omega⟩
    exact ⟨Y, by rw [fX12_arrange_L83, if_pos (by decide)], fun p hp hl => hY p (Nat.zero_le _) hp hl⟩
  | succ k ih =>
    intro m Y hk hm hY
    obtain ⟨m, rfl⟩ : ∃ q, m = q + 1 := ⟨m - 1, by omega⟩
    have hM' : ∀ Z, ArrM c pl na nb n nf A (rset t 99 Z) := fun Z => hM.w (fun k _ _ e => rset_off e) (by rw [rset_off (by decide)])
    have em : nI k + -1 = nI k - 1 := by rw [Int32.sub_eq_add_neg]
    have hb : nI nf + 1 = nI (nf + 1) := nI_add nf 1
    have htk : tailN c n (n - k) = tailN c n (n - (k + 1)) + if c (48 + k) = -1 then 0 else 1 := by
      have : n - k = n - (k + 1) + 1 := by omega
      rw [this, tailN, show n - (n - (k + 1) + 1) = k by omega]
    have hx : r / (nf + 1) ^ tailN c n (n - (k + 1)) < 2147483648 := Nat.lt_of_le_of_lt (Nat.div_le_self _ _) (by omega)
    rw [nI_pred, fX12_arrange_L83, if_neg (by rw [zrt_0 _ (by omega)]; omega), m_alive_c (c := c) h12 hA (hM' Y).2.2.1 hA3 (by omega), bd_some, em]
    by_cases hl : c (48 + k) = -1
    · rw [if_pos hl, if_pos rfl]
      rw [if_pos hl, Nat.add_zero] at htk
      rw [← htk]
      exact ih m Y (by omega) (by omega) (fun p h1 h2 h3 => hY p (by
        by_cases e : p = k
        · exact absurd (by rw [e]; exact hl) h3
        · omega) h2 h3)
    · rw [if_neg hl, if_neg (by decide), if_pos inA_2, i02, (hM' Y).2.1, hb, if_neg (by rw [zle_0 _ (by omega)]; omega), if_pos (inA_lt (by decide) (by omega)), nI_clamp (n := k) (by omega), wr_rset]
      dsimp only
      rw [if_pos inA_2, (hM' _).2.1, hb, if_neg (by rw [zle_0 _ (by omega)]; omega), pk_div hx (by omega) (by omega), jrem, pk_rem hx (by omega) (by omega)]
      rw [if_neg hl] at htk
      have hd : r / (nf + 1) ^ tailN c n (n - (k + 1)) / (nf + 1) = r / (nf + 1) ^ tailN c n (n - k) := by rw [Nat.div_div_eq_div_mul, htk, Nat.pow_succ]
      rw [hd]
      refine ih m _ (by omega) (by omega) (fun p h1 h2 h3 => ?_)
      by_cases e : p = k
      · subst e
        rw [ur_hit, postS, show n - 1 - p = n - (p + 1) by omega]
      · rw [ur_off e]
        exact hY p (by omega) h2 h3
theorem m_copy99 {t : St} {Y : Nat → Int32} (kk : St → Option (Int32 × St)) (c2 c3 c4 : Int32) (h12 : n ≤ 12) (h1 : t 71 0 = nI n) : ∀ k i m X, i + k = n → k < m → (∀ j, j < i → X j = Y j) →
    ∃ X', fX12_arrange_L160 kk c2 c3 c4 m (nI i) (rset (rset t 98 X) 99 Y) = kk (rset (rset t 98 X') 99 Y) ∧ ∀ j, j < n → X' j = Y j := by
  intro k
  induction k with
  | zero =>
    intro i m X hi hm hX
    obtain ⟨m, rfl⟩ : ∃ q, m = q + 1 := ⟨m - 1, by omega⟩
    obtain rfl : i = n := by omega
    exact ⟨X, by rw [fX12_arrange_L160, if_pos inA_0, i00, rset_off (by decide), rset_off (by decide), h1, if_pos (Int32.le_refl _)], hX⟩
  | succ k ih =>
    intro i m X hi hm hX
    obtain ⟨m, rfl⟩ : ∃ q, m = q + 1 := ⟨m - 1, by omega⟩
    have hw : wr (rset (rset t 98 X) 99 Y) 98 i (Y i) = rset (rset t 98 (ur X i (Y i))) 99 Y := by
      funext k' j
      by_cases e : k' = 99
      · subst e
        rw [wr_slot (by decide), rset_hit, rset_hit]
      · rw [rset_off e]
        by_cases e2 : k' = 98
        · subst e2
          rw [rset_hit, wr_row, rset_off e, rset_hit]
        · rw [wr_slot e2, rset_off e, rset_off e2, rset_off e2]
    rw [fX12_arrange_L160, if_pos inA_0, i00, rset_off (by decide), rset_off (by decide), h1, if_neg (by rw [nI_leI (by omega) (by omega)]; omega), if_pos (inA_lt (by decide) (by omega)), if_pos (inA_lt (by decide) (by omega)), nI_clamp (by omega), rset_hit, zra_1]
    dsimp only
    rw [hw]
    refine ih (i + 1) m _ (by omega) (by omega) (fun j hj => ?_)
    by_cases e : j = i
    · subst e
      rw [ur_hit]
    · rw [ur_off e]
      exact hX j (by omega)
/-- all the rows, one after another -/
theorem m_rows {t : St} {R : Nat} (hR : R < 20000) (h12 : n ≤ 12) (h6 : nf ≤ 6) (hA : A < 4096) (hA3 : ∀ p, p < n → (A.testBit p = true ↔ ¬ c (48 + p) = -1)) (hpl : ∀ f, f < nf → ∃ q, q < 10 ∧ pl f = nI q) (hM : ArrM c pl na nb n nf A t) : ∀ k r m x X Y, r + k = R → k < m → BestR c n nf x x.1 X →
    ∃ X' Y', fX12_arrange_L63 (nI R) m x.1 (nI r) (rset (rset t 98 X) 99 Y) = some ((accN (bestF c n nf pl na nb) k r x).1, wr (wr (rset (rset t 98 X') 99 Y') 69 48 1) 69 47 (t 69 17)) ∧ BestR c n nf (accN (bestF c n nf pl na nb) k r x) (accN (bestF c n nf pl na nb) k r x).1 X' := by
  intro k
  induction k with
  | zero =>
    intro r m x X Y hr hm hB
    obtain ⟨m, rfl⟩ : ∃ q, m = q + 1 := ⟨m - 1, by omega⟩
    obtain rfl : r = R := by omega
    refine ⟨X, Y, ?_, hB⟩
    rw [fX12_arrange_L63, if_pos (Int32.le_refl _)]
    show some (x.1, wr (wr (rset (rset t 98 X) 99 Y) 69 48 1) 69 47 (wr (rset (rset t 98 X) 99 Y) 69 48 1 69 17)) = _
    rw [wr_place (j := 48) (by decide), rset_off (k' := 69) (by decide), rset_off (k' := 69) (by decide)]
    rfl
  | succ k ih =>
    intro r m x X Y hr hm hB
    obtain ⟨m, rfl⟩ : ∃ q, m = q + 1 := ⟨m - 1, by omega⟩
    have hMX : ∀ X, ArrM c pl na nb n nf A (rset t 98 X) := fun X => hM.w (fun k _ e _ => rset_off e) (by rw [rset_off (by decide)])
    have hMY : ∀ X Y, ArrM c pl na nb n nf A (rset (rset t 98 X) 99 Y) := fun X Y => (hMX X).w (fun k _ _ e => rset_off e) (by rw [rset_off (by decide)])
    obtain ⟨Y1, a1, a2⟩ := m_deal (c := c) (n := n) (nf := nf) (A := A) (pl := pl) (na := na) (nb := nb) (t := rset t 98 X) (r := r) (fun s_8 => bd (fX12_ripeBy s_8) (fun y_9 s_9 =>
    if x.1 < y_9 then
    (fX12_arrange_L160 (fun s_11 => fX12_arrange_L63 (nI R) m y_9 (nI r + (1 : Int32)) s_11) (nI R) y_9 (nI r) FU (0 : Int32) s_9)
  else
    (fX12_arrange_L63 (nI R) m x.1 (nI r + (1 : Int32)) s_9))) (nI R) x.1 (nI r) h12 h6 (by omega) hA hA3 (hMX X) n FU Y (Nat.le_refl _) (by show n < 20000; omega) (fun p h1 h2 => absurd h1 (by omega))
    have h0 : r / (nf + 1) ^ tailN c n (n - n) = r := by rw [Nat.sub_self]; exact Nat.div_one r
    rw [h0] at a1
    have hrow : ∀ p, p < n → ¬ c (48 + p) = -1 → (rset (rset t 98 X) 99 Y1) 99 p = postS c n nf r p := fun p hp hl => by rw [rset_hit]; exact a2 p hp hl
    have hwt := m_ripeBy h12 h6 hA hA3 hpl (hMY X Y1) hrow
    have hst := bestR_step (pl := pl) (na := na) (nb := nb) h6 hB a2
    have hx' : (bestF c n nf pl na nb r x).1 = if x.1 < nI (worthS c n nf pl na nb r) then nI (worthS c n nf pl na nb r) else x.1 := hst.1.symm
    have hhead : fX12_arrange_L63 (nI R) (m + 1) x.1 (nI r) (rset (rset t 98 X) 99 Y) = if x.1 < nI (worthS c n nf pl na nb r) then fX12_arrange_L160 (fun s_11 => fX12_arrange_L63 (nI R) m (nI (worthS c n nf pl na nb r)) (nI (r + 1)) s_11) (nI R) (nI (worthS c n nf pl na nb r)) (nI r) FU (0 : Int32) (rset (rset t 98 X) 99 Y1) else fX12_arrange_L63 (nI R) m x.1 (nI (r + 1)) (rset (rset t 98 X) 99 Y1) := by
      rw [fX12_arrange_L63, if_neg (by rw [nI_leI (by omega) (by omega)]; omega), if_pos inA_0, i00, (hMY X Y).1]
      refine Eq.trans a1 ?_
      rw [hwt, bd_some, zra_1]
    rw [hhead]
    show ∃ X' Y', _ = some ((accN (bestF c n nf pl na nb) k (r + 1) (bestF c n nf pl na nb r x)).1, _) ∧ BestR c n nf (accN (bestF c n nf pl na nb) k (r + 1) (bestF c n nf pl na nb r x)) (accN (bestF c n nf pl na nb) k (r + 1) (bestF c n nf pl na nb r x)).1 X'
    by_cases e : x.1 < nI (worthS c n nf pl na nb r)
    · rw [if_pos e] at hx'
      rw [if_pos e, if_pos e] at hst
      obtain ⟨X2, b1, b2⟩ := m_copy99 (t := t) (Y := Y1) (fun s_11 => fX12_arrange_L63 (nI R) m (nI (worthS c n nf pl na nb r)) (nI (r + 1)) s_11) (nI R) (nI (worthS c n nf pl na nb r)) (nI r) h12 hM.1 n 0 FU X (by omega) (by show n < 20000; omega) (fun j hj => absurd hj (by omega))
      have hB2 : BestR c n nf (bestF c n nf pl na nb r x) (bestF c n nf pl na nb r x).1 X2 := ⟨rfl, hst.2.imp id (fun q => ⟨q.1, fun p hp hl => by rw [b2 p hp]; exact q.2 p hp hl⟩)⟩
      obtain ⟨X', Y', g1, g2⟩ := ih (r + 1) m (bestF c n nf pl na nb r x) X2 Y1 (by omega) (by omega) hB2
      rw [hx'] at g1
      refine ⟨X', Y', ?_, g2⟩
      rw [if_pos e]
      exact b1.trans g1
    · rw [if_neg e] at hx'
      rw [if_neg e, if_neg e] at hst
      have hB2 : BestR c n nf (bestF c n nf pl na nb r x) (bestF c n nf pl na nb r x).1 X := ⟨rfl, hst.2⟩
      obtain ⟨X', Y', g1, g2⟩ := ih (r + 1) m (bestF c n nf pl na nb r x) X Y1 (by omega) (by omega) hB2
      rw [hx'] at g1
      refine ⟨X', Y', ?_, g2⟩
      rw [if_neg e]
      exact g1
theorem m_count36 {t : St} {K : Nat} (kk : Int32 → St → Option (Int32 × St)) (h6 : nf ≤ 6) (hK : K ≤ 12) (h2 : t 71 2 = nI nf) : ∀ k i m v, i + k = K → k < m → fX12_arrange_L36 kk (nI K) m (nI v) (nI i) t = kk (nI (v * (nf + 1) ^ k)) t := by
  intro k
  induction k with
  | zero =>
    intro i m v hi hm
    obtain ⟨m, rfl⟩ : ∃ q, m = q + 1 := ⟨m - 1, by omega⟩
    obtain rfl : i = K := by omega
    rw [fX12_arrange_L36, if_pos (Int32.le_refl _), Nat.pow_zero, Nat.mul_one]
  | succ k ih =>
    intro i m v hi hm
    obtain ⟨m, rfl⟩ : ∃ q, m = q + 1 := ⟨m - 1, by omega⟩
    have hb : nI nf + 1 = nI (nf + 1) := nI_add nf 1
    rw [fX12_arrange_L36, if_neg (by rw [nI_leI (by omega) (by omega)]; omega), if_pos inA_2, i02, h2, hb, nI_mul, zra_1, ih (i + 1) m _ (by omega) (by omega), Nat.pow_succ, Nat.mul_comm ((nf + 1) ^ k), Nat.mul_assoc]
end ARRANGE2
