/-! ===== days ===== -/
theorem falls_nat {n : Nat} {c : Nat → Int32} {q k : Nat} (hi : WI n c) (hq : q < 10) (hk : k < 4) : ∃ F, F ≤ 12108 ∧ fallsS c n q k = nI F := by
  obtain ⟨-, -, ⟨S, s1, s2⟩, -, ⟨N, n1, n2⟩⟩ := hi
  have hN : N q ≤ 12 := Nat.le_trans (sumN_ge (f := N) 10 hq) (by omega)
  have h : ∀ m, m ≤ n → ∀ a, accN (fallsF c k (nI q)) m 0 (nI a) = nI (a + sumN (fun p => if c (48 + p) = nI q then S (4 * p + k) else 0) m) := by
    intro m
    induction m with
    | zero => intro _ a; rfl
    | succ m ih =>
      intro hm a
      rw [accN_succ, ih (by omega) a, Nat.zero_add, fallsF, sumN]
      by_cases e : c (48 + m) = nI q
      · rw [if_pos e, if_pos e, s1 m k (by omega) hk, nI_add, Nat.add_assoc]
      · rw [if_neg e, if_neg e, Nat.add_zero]
  have hs : sumN (fun p => if c (48 + p) = nI q then S (4 * p + k) else 0) n ≤ 11988 := Nat.le_trans (sumN_le (g := fun p => S (4 * p + k)) (fun i => by split <;> omega) n) (s2 k hk)
  rw [fallsS]
  by_cases h0 : k = 0
  · refine ⟨10 * N q + sumN (fun p => if c (48 + p) = nI q then S (4 * p + k) else 0) n, by omega, ?_⟩
    rw [if_pos h0, n1 q hq, zlm_10, h n (Nat.le_refl _)]
  · refine ⟨0 + sumN (fun p => if c (48 + p) = nI q then S (4 * p + k) else 0) n, by omega, ?_⟩
    rw [if_neg h0]
    exact h n (Nat.le_refl _) 0
theorem falls_congr {n q k : Nat} {c c' : Nat → Int32} (h12 : n ≤ 12) (hq : q < 10) (hk : k < 4) (h : ∀ j, j < 72 ∨ 84 ≤ j → c' j = c j) : fallsS c' n q k = fallsS c n q k := by
  rw [fallsS, fallsS, h _ (by omega)]
  refine accN_congr _ _ _ (fun j b _ hj => ?_)
  rw [fallsF, fallsF, h _ (by omega), h _ (by omega)]
theorem falls_up {n : Nat} {c : Nat → Int32} (h12 : n ≤ 12) (h : ∀ p, n ≤ p → p < 12 → c (48 + p) = -1) (q k : Nat) (hq : q < 10) : fallsS c 12 q k = fallsS c n q k := by
  rw [fallsS, fallsS, show 12 = n + (12 - n) by omega, accN_add]
  refine accN_id _ _ _ (fun j b h1 h2 => ?_)
  rw [fallsF, h j (by omega) (by omega), if_neg (fun e => neg1 (by omega) e.symm)]
theorem jmin_nI {a b : Nat} (ha : a < 2147483648) (hb : b < 2147483648) : jmin (nI a) (nI b) = nI (min a b) := by
  rw [jmin]
  by_cases h : b < a
  · rw [if_pos (by rw [nI_ltI hb ha]; exact h), Nat.min_eq_right (by omega)]
  · rw [if_neg (by rw [nI_ltI hb ha]; exact h), Nat.min_eq_left (by omega)]
def dayR (n nf : Nat) (pl c : Nat → Int32) (many : Int32) : Nat → Int32 := fun j => if 72 ≤ j ∧ j < 72 + 2 * nf then jmin 9999 (c j + many * fallsS c n (pl ((j - 72) / 2)).toNatClampNeg ((j - 72) % 2)) else c j
theorem dayR_off {n nf : Nat} {pl c : Nat → Int32} {many : Int32} {j : Nat} (h : j < 72 ∨ 72 + 2 * nf ≤ j) : dayR n nf pl c many j = c j := if_neg (by omega)
theorem dayR_in {n nf : Nat} {pl c : Nat → Int32} {many : Int32} {f k q : Nat} (hf : f < nf) (hk : k < 2) (hp : pl f = nI q) (hq : q < 10) : dayR n nf pl c many (72 + (2 * f + k)) = jmin 9999 (c (72 + (2 * f + k)) + many * fallsS c n q k) := by
  rw [dayR, if_pos (by omega), Nat.add_sub_cancel_left, show (2 * f + k) / 2 = f by omega, show (2 * f + k) % 2 = k by omega, hp, nI_clamp (by omega)]
theorem dayR_nat {n nf : Nat} {pl c : Nat → Int32} {many f k q : Nat} (hi : WI n c) (hnf : nf ≤ 6) (hf : f < nf) (hk : k < 2) (hp : pl f = nI q) (hq : q < 10) (hm : many ≤ 100) : ∃ g F, g ≤ 9999 ∧ F ≤ 12108 ∧ c (72 + (2 * f + k)) = nI g ∧ fallsS c n q k = nI F ∧ dayR n nf pl c (nI many) (72 + (2 * f + k)) = nI (min 9999 (g + many * F)) := by
  obtain ⟨F, hF, e⟩ := falls_nat (c := c) hi hq (k := k) (by omega)
  obtain ⟨g, hg, e2⟩ := hi.2.2.2.1 (2 * f + k) (by omega)
  refine ⟨g, F, hg, hF, e2, e, ?_⟩
  have hb : many * F ≤ 100 * 12108 := Nat.mul_le_mul hm hF
  rw [dayR_in hf hk hp hq, e, e2, nI_mul, nI_add]
  exact jmin_nI (a := 9999) (by omega) (by omega)
theorem sw_got {n : Nat} {c m c' m' : Nat → Int32} (h12 : n ≤ 12) (hc : ∀ j, j < 72 ∨ 84 ≤ j → c' j = c j) (hm : ∀ j, j < 72 ∨ 84 ≤ j → m' j = m j) (he : ∀ j, j < 12 → m' (72 + j) = c' (72 + j)) (hg : ∀ j, j < 12 → ∃ g, g ≤ 9999 ∧ c' (72 + j) = nI g) (h : SW n c m) (hi : WI n c) : SW n c' m' ∧ WI n c' := by
  obtain ⟨h1, h2, h3, h4, h5, ⟨A, a1, a2, a3⟩, h7⟩ := h
  obtain ⟨i1, i2, ⟨S, s1, s2⟩, i4, ⟨N, n1, n2⟩⟩ := hi
  refine ⟨⟨fun p k hp hk => ?_, fun p hp => ?_, fun p hp => ?_, he, fun j hj => ?_, ⟨A, a1, ?_, fun p hp => ?_⟩, fun p q1 q2 => ?_⟩, ⟨fun p hp => ?_, fun p hp => ?_, ⟨S, fun p k hp hk => ?_, s2⟩, hg, ⟨N, fun j hj => ?_, ?_⟩⟩⟩
  · rw [hc _ (by omega), hm _ (by omega), h1 p k hp hk]
  · rw [hc _ (by omega), hm _ (by omega), h2 p hp]
  · rw [hc _ (by omega), hm _ (by omega), h3 p hp]
  · rw [hc _ (by omega), hm _ (by omega), h5 j hj]
  · rw [hm _ (by omega), a2]
  · rw [hc _ (by omega)]; exact a3 p hp
  · rw [hc _ (by omega)]; exact h7 p q1 q2
  · rw [hc _ (by omega)]; exact i1 p hp
  · rw [hc _ (by omega)]
    rcases i2 p hp with e | ⟨q', g1, g2, g3, g4⟩
    · exact Or.inl e
    · exact Or.inr ⟨q', g1, g2, g3, by rw [hc _ (by omega)]; exact g4⟩
  · rw [hc _ (by omega)]; exact s1 p k hp hk
  · rw [hc _ (by omega)]; exact n1 j hj
  · rw [sumN_congr (g := fun p => if c (48 + p) = -1 then 0 else 1) n (fun p hp => by rw [hc _ (by omega)])]
    exact n2
theorem sw_day {n nf many : Nat} {pl pl' c m : Nat → Int32} (h12 : n ≤ 12) (hnf : nf ≤ 6) (hm : many ≤ 100) (hp : ∀ f, f < nf → ∃ q, q < 10 ∧ pl f = nI q) (hpp : ∀ f, f < nf → pl' f = pl f) (h : SW n c m) (hi : WI n c) : SW n (dayR n nf pl c (nI many)) (dayR n nf pl' m (nI many)) ∧ WI n (dayR n nf pl c (nI many)) := by
  refine sw_got h12 (fun j hj => dayR_off (by omega)) (fun j hj => dayR_off (by omega)) (fun j hj => ?_) (fun j hj => ?_) h hi
  · by_cases hjn : j < 2 * nf
    · obtain ⟨q, hq, e⟩ := hp (j / 2) (by omega)
      have ej : j = 2 * (j / 2) + j % 2 := by omega
      rw [ej, dayR_in (q := q) (by omega) (by omega) ((hpp _ (by omega)).trans e) hq, dayR_in (q := q) (by omega) (by omega) e hq, h.2.2.2.1 _ (by omega), falls_rel h hq (by omega)]
    · rw [dayR_off (by omega), dayR_off (by omega), h.2.2.2.1 j hj]
  · by_cases hjn : j < 2 * nf
    · obtain ⟨q, hq, e⟩ := hp (j / 2) (by omega)
      have ej : j = 2 * (j / 2) + j % 2 := by omega
      obtain ⟨g, F, -, -, -, -, e2⟩ := dayR_nat (n := n) (nf := nf) (pl := pl) (c := c) (many := many) (f := j / 2) (k := j % 2) (q := q) hi hnf (by omega) (by omega) e hq hm
      rw [ej, e2]
      exact ⟨_, Nat.min_le_left _ _, rfl⟩
    · rw [dayR_off (by omega)]
      exact hi.2.2.2.1 j hj
theorem dayR_step {n nf i : Nat} {pl c : Nat → Int32} (h12 : n ≤ 12) (hnf : nf ≤ 6) (hm : i + 1 ≤ 100) (hp : ∀ f, f < nf → ∃ q, q < 10 ∧ pl f = nI q) (hi : WI n c) {m : Nat → Int32} (hw : SW n c m) : dayR n nf pl (dayR n nf pl c (nI i)) (nI 1) = dayR n nf pl c (nI (i + 1)) := by
  have hi2 := (sw_day (many := i) h12 hnf (by omega) hp (fun f _ => rfl) hw hi).2
  funext j
  by_cases hj : 72 ≤ j ∧ j < 72 + 2 * nf
  · obtain ⟨q, hq, e⟩ := hp ((j - 72) / 2) (by omega)
    have ej : j = 72 + (2 * ((j - 72) / 2) + (j - 72) % 2) := by omega
    obtain ⟨g, F, g1, g2, g3, g4, g5⟩ := dayR_nat (n := n) (nf := nf) (pl := pl) (c := c) (many := i) (f := (j - 72) / 2) (k := (j - 72) % 2) (q := q) hi hnf (by omega) (by omega) e hq (by omega)
    obtain ⟨g', F', g1', g2', g3', g4', g5'⟩ := dayR_nat (n := n) (nf := nf) (pl := pl) (c := c) (many := i + 1) (f := (j - 72) / 2) (k := (j - 72) % 2) (q := q) hi hnf (by omega) (by omega) e hq hm
    obtain ⟨g'', F'', g1'', g2'', g3'', g4'', g5''⟩ := dayR_nat (n := n) (nf := nf) (pl := pl) (c := dayR n nf pl c (nI i)) (many := 1) (f := (j - 72) / 2) (k := (j - 72) % 2) (q := q) hi2 hnf (by omega) (by omega) e hq (by omega)
    rw [falls_congr h12 hq (by omega) (fun j hj => dayR_off (by omega))] at g4''
    rw [g4] at g4' g4''
    rw [g3] at g3'
    rw [g5] at g3''
    have k1 := (nI_eq (by omega) (by omega)).mp g4'
    have k2 := (nI_eq (by omega) (by omega)).mp g4''
    have k3 := (nI_eq (by omega) (by omega)).mp g3'
    have k4 := (nI_eq (by omega) (by omega)).mp g3''
    subst k1 k2 k3
    rw [ej, g5', g5'', ← k4]
    congr 1
    rw [Nat.one_mul, Nat.add_mul, Nat.one_mul]
    generalize i * F = z
    omega
  · rw [dayR_off (by omega), dayR_off (by omega), dayR_off (by omega)]
/-- a slot set anew -/
def rset (s : St) (k : Nat) (r : Nat → Int32) : St := fun k' j => if k' = k then r j else s k' j
theorem rset_hit {s : St} {k : Nat} {r : Nat → Int32} : rset s k r k = r := by
  funext j
  rw [rset, if_pos rfl]
theorem rset_off {s : St} {k k' : Nat} {r : Nat → Int32} (h : k' ≠ k) : rset s k r k' = s k' := by
  funext j
  rw [rset, if_neg h]
theorem rset_self {s : St} {k : Nat} : rset s k (s k) = s := by
  funext k' j
  rw [rset]
  by_cases h : k' = k
  · rw [if_pos h, h]
  · rw [if_neg h]
theorem wr_rset {s : St} {k j : Nat} {r : Nat → Int32} {v : Int32} : wr (rset s k r) k j v = rset s k (ur r j v) := by
  funext k' i
  by_cases h : k' = k
  · subst h
    rw [wr_row, rset_hit, rset_hit]
  · rw [wr_slot h, rset_off h, rset_off h]
theorem wr_rset' {s : St} {k j : Nat} {v : Int32} : wr s k j v = rset s k (ur (s k) j v) := by
  rw [← wr_rset, rset_self]
theorem rset_rset {s : St} {k : Nat} {r r' : Nat → Int32} : rset (rset s k r) k r' = rset s k r' := by
  funext k' j
  rw [rset, rset, rset]
  by_cases h : k' = k
  · rw [if_pos h, if_pos h]
  · rw [if_neg h, if_neg h, if_neg h]
theorem dayR_zero {n : Nat} {pl c : Nat → Int32} {many : Int32} : dayR n 0 pl c many = c := by
  funext j
  exact dayR_off (by omega)
theorem dayR_succ {n i q : Nat} {pl c : Nat → Int32} {many : Int32} (hp : pl i = nI q) (hq : q < 10) : ur (ur (dayR n i pl c many) (72 + (2 * i + 0)) (jmin 9999 (c (72 + (2 * i + 0)) + many * fallsS c n q 0))) (72 + (2 * i + 1)) (jmin 9999 (c (72 + (2 * i + 1)) + many * fallsS c n q 1)) = dayR n (i + 1) pl c many := by
  funext j
  by_cases h1 : j = 72 + (2 * i + 1)
  · subst h1
    rw [ur_hit, dayR_in (f := i) (k := 1) (by omega) (by omega) hp hq]
  · rw [ur_off h1]
    by_cases h0 : j = 72 + (2 * i + 0)
    · subst h0
      rw [ur_hit, dayR_in (f := i) (k := 0) (by omega) (by omega) hp hq]
    · rw [ur_off h0, dayR, dayR]
      by_cases h : 72 ≤ j ∧ j < 72 + 2 * i
      · rw [if_pos h, if_pos (by omega)]
      · rw [if_neg h, if_neg (by omega)]
theorem pass_in {w g f q : Nat} {many : Int32} {s : St} (kk : St → Option (Int32 × St)) (hw : LN (w + 1) = 94) (h5 : LN (g + 5) = 6) (hf : f < 6) (hd2 : g + 5 ≠ w + 1) (hp : s (g + 5) f = nI q) (hq : q < 10) :
    fX10_passDays_L13 kk w g many (nI f) FU 0 s = kk (wr (wr s (w + 1) (72 + (2 * f + 0)) (jmin 9999 (s (w + 1) (72 + (2 * f + 0)) + many * fallsS (s (w + 1)) 12 q 0))) (w + 1) (72 + (2 * f + 1)) (jmin 9999 (s (w + 1) (72 + (2 * f + 1)) + many * fallsS (s (w + 1)) 12 q 1))) := by
  show fX10_passDays_L13 kk w g many (nI f) (19997 + 1 + 1 + 1) (nI 0) s = _
  have hidx : ∀ k : Nat, (72 : Int32) + nI f * 2 + nI k = nI (72 + (2 * f + k)) := fun k => by rw [zrm_2, zla_72, nI_add, Nat.mul_comm, Nat.add_assoc]
  have hfc : fallsS (wr s (w + 1) (72 + (2 * f + 0)) (jmin 9999 (s (w + 1) (72 + (2 * f + 0)) + many * fallsS (s (w + 1)) 12 q 0)) (w + 1)) 12 q 1 = fallsS (s (w + 1)) 12 q 1 := falls_congr (by omega) hq (by omega) (fun j hj => by rw [wr_row, ur_off (by omega)])
  rw [fX10_passDays_L13, if_neg (by decide), w_got hw hf (by decide), bd_some, at_nI (by omega) (by omega), bd_some, hp, w_falls hw hq (by decide), bd_some, hidx, put_nI (by omega) (by omega), bd_some, zra_1]
  rw [fX10_passDays_L13, if_neg (by decide), w_got hw hf (by decide), bd_some, at_nI (by omega) (by omega), bd_some, wr_slot hd2, hp, w_falls hw hq (by decide), bd_some, hidx, put_nI (by omega) (by omega), bd_some, zra_1]
  rw [fX10_passDays_L13, if_pos (by decide), wr_place (by omega), hfc]
theorem w_passDays {w g n nf : Nat} {many : Int32} {s : St} (hw : LN (w + 1) = 94) (h5 : LN (g + 5) = 6) (hd1 : g ≠ w + 1) (hd2 : g + 5 ≠ w + 1) (h12 : n ≤ 12) (hnf : s g 6 = nI nf) (h6 : nf ≤ 6) (hp : ∀ f, f < nf → ∃ q, q < 10 ∧ s (g + 5) f = nI q) (hn : ∀ p, n ≤ p → p < 12 → s (w + 1) (48 + p) = -1) :
    fX10_passDays w g many s = some (0, rset s (w + 1) (dayR n nf (s (g + 5)) (s (w + 1)) many)) := by
  have := loopT (fun m i t => fX10_passDays_L2 w g many m (nI i) t) nf (fun i => rset s (w + 1) (dayR n i (s (g + 5)) (s (w + 1)) many)) (some (0, rset s (w + 1) (dayR n nf (s (g + 5)) (s (w + 1)) many))) (fun m i hi => by
    obtain ⟨q, hq, e⟩ := hp i hi
    simp only [fX10_passDays_L2]
    rw [rset_off hd1, hnf, if_neg (by rw [nI_leI (by omega) (by omega)]; omega), pass_in (q := q) _ hw h5 (by omega) hd2 (by rw [rset_off hd2]; exact e) hq, rset_hit]
    have f0 : ∀ k, k < 2 → fallsS (dayR n i (s (g + 5)) (s (w + 1)) many) 12 q k = fallsS (s (w + 1)) n q k := fun k hk => by
      rw [falls_congr (by omega) hq (by omega) (fun j hj => dayR_off (by omega)), falls_up h12 hn q k hq]
    rw [f0 0 (by omega), f0 1 (by omega), dayR_off (j := 72 + (2 * i + 0)) (by omega), dayR_off (j := 72 + (2 * i + 1)) (by omega), wr_rset, wr_rset, dayR_succ e hq, zra_1]) (fun m => by
    simp only [fX10_passDays_L2]
    rw [rset_off hd1, hnf, if_pos (Int32.le_refl _)]) nf 0 FU (by omega) (by show nf < 20000; omega)
  rw [dayR_zero, rset_self] at this
  exact this
theorem vr_r87 {t : St} {r : Nat → Int32} : vr (rset t 87 r) = fun j => if 72 ≤ j ∧ j < 84 then r (j - 72) else vr t j := by
  funext j
  show vr (rset t 87 r) j = if 72 ≤ j ∧ j < 84 then r (j - 72) else vr t j
  rcases vr_cases j with h | h | h | h | h | h
  · rw [if_neg (by omega), vr_0 h, vr_0 h, rset_off (k' := 72) (by decide)]
  · rw [if_neg (by omega), vr_1 h, vr_1 h, rset_off (k' := 73) (by decide)]
  · rw [if_neg (by omega), vr_2 h, vr_2 h, rset_off (k' := 77) (by decide)]
  · rw [if_pos h, vr_3 h, rset_hit]
  · rw [if_neg (by omega), vr_4 h, vr_4 h, rset_off (k' := 88) (by decide)]
  · rw [if_neg (by omega), vr_5 h, vr_5 h, rset_off (k' := 69) (by decide)]
def gotR (t : St) (R : Nat → Int32) : Nat → Int32 := fun j => if j < 12 then R (72 + j) else t 87 j
theorem m_dayNow {t : St} {n nf : Nat} (hn : t 71 0 = nI n) (h12 : n ≤ 12) (hnf : t 71 2 = nI nf) (h6 : nf ≤ 6) (hp : ∀ f, f < nf → ∃ q, q < 10 ∧ t 81 f = nI q) :
    ∃ r, fX12_dayNow t = some (0, rset t 87 r) ∧ vr (rset t 87 r) = dayR n nf (t 81) (vr t) (nI 1) := by
  have := loopT (fun m i t => fX12_dayNow_L2 m (nI i) t) nf (fun i => rset t 87 (gotR t (dayR n i (t 81) (vr t) (nI 1)))) (some (0, rset t 87 (gotR t (dayR n nf (t 81) (vr t) (nI 1))))) (fun m i hi => by
    obtain ⟨q, hq, e⟩ := hp i hi
    simp only [fX12_dayNow_L2]
    have g1 : (rset t 87 (gotR t (dayR n i (t 81) (vr t) (nI 1)))) 71 2 = nI nf := by rw [rset_off (by decide), hnf]
    have g81 : ∀ r : Nat → Int32, (rset t 87 r) 81 i = nI q := fun r => by rw [rset_off (by decide), e]
    have g71 : ∀ r : Nat → Int32, (rset t 87 r) 71 0 = nI n := fun r => by rw [rset_off (by decide), hn]
    have gf : ∀ (r : Nat → Int32) k, k < 2 → fallsS (vr (rset t 87 r)) n q k = fallsS (vr t) n q k := fun r k hk => falls_congr h12 hq (by omega) (fun j hj => by rw [vr_r87]; exact if_neg (by omega))
    have p0 : ∀ r : Nat → Int32, fX12_partAt (nI q) (0 : Int32) (rset t 87 r) = some (fallsS (vr t) n q 0, rset t 87 r) := fun r => by rw [← gf r 0 (by omega)]; exact m_partAt (k := 0) (g71 r) h12 hq (by omega)
    have p1 : ∀ r : Nat → Int32, fX12_partAt (nI q) (1 : Int32) (rset t 87 r) = some (fallsS (vr t) n q 1, rset t 87 r) := fun r => by rw [← gf r 1 (by omega)]; exact m_partAt (k := 1) (g71 r) h12 hq (by omega)
    rw [if_pos inA_2, i02, g1, if_neg (by rw [nI_leI (by omega) (by omega)]; omega), zlm_2, zra_1, zra_1, if_pos (inA_lt (by decide) (by omega)), if_pos (inA_lt (by decide) (by omega)), nI_clamp (n := i) (by omega), g81, p0, bd_some, if_pos (inA_lt (by decide) (by omega)), nI_clamp (n := 2 * i) (by omega), wr_rset, if_pos (inA_lt (by decide) (by omega)), if_pos (inA_lt (by decide) (by omega)), g81, p1, bd_some, if_pos (inA_lt (by decide) (by omega)), nI_clamp (n := 2 * i + 1) (by omega), wr_rset, rset_hit, rset_hit, ur_off (by omega)]
    have r0 : gotR t (dayR n i (t 81) (vr t) (nI 1)) (2 * i) = vr t (72 + 2 * i) := by rw [gotR, if_pos (by omega), dayR_off (by omega)]
    have r1 : gotR t (dayR n i (t 81) (vr t) (nI 1)) (2 * i + 1) = vr t (72 + (2 * i + 1)) := by rw [gotR, if_pos (by omega), dayR_off (by omega)]
    have key : ur (ur (gotR t (dayR n i (t 81) (vr t) (nI 1))) (2 * i) (jmin 9999 (vr t (72 + 2 * i) + fallsS (vr t) n q 0))) (2 * i + 1) (jmin 9999 (vr t (72 + (2 * i + 1)) + fallsS (vr t) n q 1)) = gotR t (dayR n (i + 1) (t 81) (vr t) (nI 1)) := by
      funext j
      rw [gotR, ← dayR_succ (n := n) (i := i) (c := vr t) (many := nI 1) e hq, show nI 1 = (1 : Int32) from rfl, Int32.one_mul, Int32.one_mul]
      rw [ur, ur, ur, ur, gotR]
      by_cases h1 : j = 2 * i + 1
      · rw [if_pos h1, if_pos (by omega), if_pos (by omega)]
      · rw [if_neg h1, if_neg (show ¬ 72 + j = 72 + (2 * i + 1) by omega)]
        by_cases h0 : j = 2 * i
        · rw [if_pos h0, if_pos (by omega), if_pos (by omega)]
          rfl
        · rw [if_neg h0, if_neg (show ¬ 72 + j = 72 + (2 * i + 0) by omega)]
    rw [r0, r1, key]) (fun m => by
    simp only [fX12_dayNow_L2]
    rw [if_pos inA_2, i02, rset_off (by decide), hnf, if_pos (Int32.le_refl _)]) nf 0 FU (by omega) (by show nf < 20000; omega)
  have h0 : rset t 87 (gotR t (dayR n 0 (t 81) (vr t) (nI 1))) = t := by
    have : gotR t (dayR n 0 (t 81) (vr t) (nI 1)) = t 87 := by
      funext j
      rw [gotR, dayR_zero]
      by_cases h : j < 12
      · rw [if_pos h, vr_got h]
      · rw [if_neg h]
    rw [this, rset_self]
  refine ⟨gotR t (dayR n nf (t 81) (vr t) (nI 1)), ?_, ?_⟩
  · simp only [h0] at this
    exact this
  · rw [vr_r87]
    funext j
    by_cases h : 72 ≤ j ∧ j < 84
    · rw [if_pos h, gotR, if_pos (by omega), show 72 + (j - 72) = j by omega]
    · rw [if_neg h, dayR_off (by omega)]
theorem good_days (a : Int32) : Good0 (fX11_days a) (fX12_days a) := by
  intro s hs
  obtain ⟨n, nw, nf, ⟨⟨hn, hm, h12⟩, -, ⟨hf1, hf2, h6⟩, -, -, hfl, -⟩, ⟨hw, hwi, -⟩, -⟩ := id hs
  have o1 : (1 : Int32).toInt = 1 := rfl
  have o100 : (100 : Int32).toInt = 100 := rfl
  have hpc : ∀ f, f < nf → ∃ q, q < 10 ∧ s 26 f = nI q := fun f hf => (hfl f hf).2.2.2.1
  by_cases hin : 1 ≤ a.toInt ∧ a.toInt ≤ 100
  · obtain ⟨j, hj, rfl⟩ := nI_of (x := a) (by rw [i_lt, show (0 : Int32).toInt = 0 from rfl]; omega)
    rw [nI_toInt (by omega)] at hin
    obtain ⟨s1, y, s2, k1, f1, k3⟩ := act_core hs hn h12 (f := fun s_2 => bd (fX10_passDays 33 21 (nI j) s_2) (fun y_3 s_3 => bd (fX10_manyRipe 33 21 s_3) (fun y_4 s_4 => some (y_4, s_4))))
      (g := fun s_3 => fX12_days_L29 (fun s_5 => bd (fX12_ripe s_5) (fun y_6 s_6 => some (y_6, s_6))) (nI j) FU (0 : Int32) s_3) (fun s1 e1 => by
      have w1 := w_passDays (w := 33) (g := 21) (many := nI j) (s := s1) (n := n) (nf := nf) rfl rfl (by decide) (by decide) h12 (by rw [e1 21 (by decide) (by decide)]; exact hf1) h6 (fun f hf => by show ∃ q, q < 10 ∧ s1 26 f = nI q; rw [e1 26 (by decide) (by decide)]; exact hpc f hf) (fun p q1 q2 => by show s1 34 (48 + p) = -1; rw [e1 34 (by decide) (by decide)]; exact hw.2.2.2.2.2.2 p q1 q2)
      have w1' : fX10_passDays 33 21 (nI j) s1 = some (0, rset s1 34 (dayR n nf (s 26) (s 34) (nI j))) := by
        rw [w1]
        show some ((0 : Int32), rset s1 34 (dayR n nf (s1 26) (s1 34) (nI j))) = _
        rw [e1 26 (by decide) (by decide), e1 34 (by decide) (by decide)]
      obtain ⟨v1, v2⟩ := sw_day (many := j) (pl := s 26) (pl' := s 26) h12 h6 (by omega) hpc (fun f _ => rfl) hw hwi
      refine ⟨ripesS (dayR n nf (s 26) (s 34) (nI j)) (s 27) (s 28) nf, rset s1 34 (dayR n nf (s 26) (s 34) (nI j)), ?_, KeepC.slot (z := 34) rfl (by decide) (relO_off rfl) (fun k hk => rset_off hk), ?_, fun t tk t69 tv => ?_⟩
      · have := w_manyRipe (w := 33) (g := 21) (nf := nf) (s := rset s1 34 (dayR n nf (s 26) (s 34) (nI j))) rfl rfl rfl (by rw [rset_off (by decide), e1 21 (by decide) (by decide)]; exact hf1) h6
        simp only [w1', bd_some, this]
        show some (ripesS ((rset s1 34 _) 34) ((rset s1 34 _) 27) ((rset s1 34 _) 28) nf, _) = _
        rw [rset_hit, rset_off (by decide), rset_off (by decide), e1 27 (by decide) (by decide), e1 28 (by decide) (by decide)]
      · rw [rset_hit]; exact v2
      · have t81 : t 81 = s 81 := tk 81 (by decide) (by decide) (by decide)
        have hpm : ∀ f, f < nf → s 81 f = s 26 f := fun f hf => (hfl f hf).1
        have hpm2 : ∀ f, f < nf → ∃ q, q < 10 ∧ s 81 f = nI q := fun f hf => by rw [hpm f hf]; exact hpc f hf
        have lp : ∀ k i m t', i + k = j → k < m → (∀ x, x ≠ 87 → t' x = t x) → SW n (dayR n nf (s 26) (s 34) (nI i)) (vr t') → ∃ t2, fX12_days_L29 (fun s_5 => bd (fX12_ripe s_5) (fun y_6 s_6 => some (y_6, s_6))) (nI j) m (nI i) t' = some (ripesS (dayR n nf (s 26) (s 34) (nI j)) (s 27) (s 28) nf, t2) ∧ (∀ x, x ≠ 87 → t2 x = t x) ∧ SW n (dayR n nf (s 26) (s 34) (nI j)) (vr t2) := by
          intro k
          induction k with
          | zero =>
            intro i m t' hi hm' e' sw'
            obtain ⟨m, rfl⟩ : ∃ q, m = q + 1 := ⟨m - 1, by omega⟩
            obtain rfl : i = j := by omega
            refine ⟨t', ?_, e', sw'⟩
            rw [fX12_days_L29, if_pos (Int32.le_refl _), m_ripe (nf := nf) (by rw [e' 71 (by decide), tk 71 (by decide) (by decide) (by decide)]; exact hf2) h6, bd_some, e' 82 (by decide), tk 82 (by decide) (by decide) (by decide), e' 83 (by decide), tk 83 (by decide) (by decide) (by decide), ripes_rel sw' h6 (fun f hf => (hfl f hf).2.1) (fun f hf => (hfl f hf).2.2.1)]
          | succ k ih =>
            intro i m t' hi hm' e' sw'
            obtain ⟨m, rfl⟩ : ∃ q, m = q + 1 := ⟨m - 1, by omega⟩
            have z71 : t' 71 = s 71 := by rw [e' 71 (by decide), tk 71 (by decide) (by decide) (by decide)]
            have z81 : t' 81 = s 81 := by rw [e' 81 (by decide), t81]
            obtain ⟨r, r1, r2⟩ := m_dayNow (t := t') (n := n) (nf := nf) (by rw [z71]; exact hm) h12 (by rw [z71]; exact hf2) h6 (fun f hf => by rw [z81]; exact hpm2 f hf)
            obtain ⟨x1, x2⟩ := sw_day (many := i) (pl := s 26) (pl' := s 26) h12 h6 (by omega) hpc (fun f _ => rfl) hw hwi
            obtain ⟨x3, -⟩ := sw_day (many := 1) (pl := s 26) (pl' := s 81) h12 h6 (by omega) hpc hpm sw' x2
            rw [dayR_step h12 h6 (by omega) hpc hwi hw, ← z81, ← r2] at x3
            rw [fX12_days_L29, if_neg (by rw [nI_leI (by omega) (by omega)]; omega), r1, bd_some, zra_1]
            exact ih (i + 1) m (rset t' 87 r) (by omega) (by omega) (fun x hx => by rw [rset_off hx, e' x hx]) x3
        have d0 : dayR n nf (s 26) (s 34) (nI 0) = s 34 := by
          funext x
          by_cases hx : 72 ≤ x ∧ x < 72 + 2 * nf
          · obtain ⟨q, hq, e⟩ := hpc ((x - 72) / 2) (by omega)
            obtain ⟨g, F, g1, g2, g3, g4, g5⟩ := dayR_nat (n := n) (nf := nf) (pl := s 26) (c := s 34) (many := 0) (f := (x - 72) / 2) (k := (x - 72) % 2) (q := q) hwi h6 (by omega) (by omega) e hq (by omega)
            rw [show x = 72 + (2 * ((x - 72) / 2) + (x - 72) % 2) by omega, g5, g3, Nat.zero_mul, Nat.add_zero, Nat.min_eq_right (by omega)]
          · rw [dayR_off (by omega)]
        obtain ⟨t2, u1, u2, u3⟩ := lp j 0 FU t (by omega) (by show j < 20000; omega) (fun x _ => rfl) (by rw [d0, tv]; exact hw)
        refine ⟨t2, u1, KeepM.slot (z := 87) rfl (by decide) (by decide) (relO_off rfl) u2, ?_⟩
        rw [rset_hit]
        exact u3)
    obtain ⟨-, -, -, t, s4, k4, k5, k6, -⟩ := k3 s2 (fun k _ => rfl)
    refine ⟨y, s2, s4, ?_, ?_, k6⟩
    · rw [fX11_days, if_neg (by rw [i_lt, o1, nI_toInt (by omega)]; omega), if_pos (by rw [i_le, o100, nI_toInt (by omega)]; omega), k1, bd_some]
      exact f1
    · rw [fX12_days, l64_1, l64_100, m_isIn, bd_some, nI_toInt (by omega), o1, o100, if_pos hin, if_neg (by decide), k4, bd_some]
      exact k5
  · refine ⟨-1, wr s 38 1 (s 38 1 + 1), _, ?_, ?_, rs_refused (i := 1) (u := wr (wr s 38 1 (s 38 1 + 1)) 69 1 0) hs (fun k q1 q2 q3 => by rw [wr_slot q3, wr_slot q1]) (fun j hj => by rw [wr_place hj, wr_slot (by decide)]) (by rw [wr_slot (by decide)]) rfl⟩
    · rw [fX11_days]
      by_cases h1 : a < 1
      · rw [if_pos h1, c_refusedAct, bd_some]
      · rw [if_neg h1, if_neg (by rw [i_lt, o1] at h1; rw [i_le, o100]; omega), c_refusedAct, bd_some]
    · rw [fX12_days, l64_1, l64_100, m_isIn, bd_some, o1, o100, if_neg hin, if_pos rfl]
      show bd (fX12_refuse (nI 1) _) _ = _
      rw [m_refuse (by decide), bd_some]
