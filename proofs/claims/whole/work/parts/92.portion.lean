/-! ===== portions ===== -/
def cutN (sh : Nat → Nat) (much p : Nat) : Nat := much * sh p / sumN sh 12
def leftN (sh : Nat → Nat) (much : Nat) : Nat := much - sumN (cutN sh much) 12
def eldB (sh : Nat → Nat) (p : Nat) : Bool := !decide (sh p = 0) && decide (sumN sh p = 0)
def porN (sh : Nat → Nat) (much p : Nat) : Nat := cutN sh much p + (if eldB sh p then leftN sh much else 0)
/-- shares that can be -/
def ShOk (sh : Nat → Nat) : Prop := (∀ p, p < 12 → sh p ≤ 999)
theorem eld_EP {sh : Nat → Nat} {n p : Nat} {v : Int32} (hn : n < 2147483648) (hp : p < n) (h : EP sh n v) : (nI p = v) ↔ eldB sh p = true := by
  have hd : eldB sh p = true ↔ sh p ≠ 0 ∧ ∀ q, q < p → sh q = 0 := by
    rw [eldB, Bool.and_eq_true, decide_eq_true_eq, sumN_eq0]
    simp
  rw [hd]
  constructor
  · intro e
    rcases h with ⟨g, -⟩ | ⟨q, g1, g2, g3, g4⟩
    · rw [g] at e
      exact absurd e (neg1 (by omega))
    · rw [g2] at e
      have : p = q := (nI_eq (by omega) (by omega)).mp e
      subst this
      exact ⟨g3, g4⟩
  · intro e
    exact EP.uniq (Or.inr ⟨p, hp, rfl, e.1, e.2⟩) h
theorem div_sum (a b t : Nat) : a / t + b / t ≤ (a + b) / t := by
  by_cases h : t = 0
  · subst h
    rw [Nat.div_zero, Nat.div_zero, Nat.div_zero]
    omega
  · rw [Nat.le_div_iff_mul_le (by omega), Nat.add_mul]
    have h1 := Nat.div_mul_le_self a t
    have h2 := Nat.div_mul_le_self b t
    omega
theorem cut_sum {sh : Nat → Nat} {much : Nat} : ∀ k, sumN (cutN sh much) k ≤ much * sumN sh k / sumN sh 12
  | 0 => Nat.zero_le _
  | k + 1 => by
    have h := cut_sum (sh := sh) (much := much) k
    have h2 := div_sum (much * sumN sh k) (much * sh k) (sumN sh 12)
    rw [sumN, sumN, Nat.mul_add]
    have h3 : cutN sh much k = much * sh k / sumN sh 12 := rfl
    omega
theorem cut_sum_le {sh : Nat → Nat} {much k : Nat} (hk : k ≤ 12) : sumN (cutN sh much) k ≤ much := by
  have h := cut_sum (sh := sh) (much := much) k
  have h2 : much * sumN sh k ≤ much * sumN sh 12 := Nat.mul_le_mul_left _ (sumN_mono hk)
  have h3 : much * sumN sh k / sumN sh 12 ≤ much := by
    by_cases e : sumN sh 12 = 0
    · rw [e, Nat.div_zero]; omega
    · exact Nat.div_le_of_le_mul (by rw [Nat.mul_comm (sumN sh 12)]; exact h2)
  omega
theorem cut_le {sh : Nat → Nat} {much p : Nat} (hp : p < 12) : cutN sh much p ≤ much := Nat.le_trans (sumN_ge (f := cutN sh much) 12 hp) (cut_sum_le (Nat.le_refl _))
theorem cut_0 {sh : Nat → Nat} {much p : Nat} (h : sh p = 0) : cutN sh much p = 0 := by rw [cutN, h, Nat.mul_zero, Nat.zero_div]
theorem eldB_0 {sh : Nat → Nat} {p : Nat} (h : sh p = 0) : eldB sh p = false := by
  rw [eldB, decide_eq_true h]; rfl
theorem por_0 {sh : Nat → Nat} {much p : Nat} (h : sh p = 0) : porN sh much p = 0 := by
  rw [porN, cut_0 h, eldB_0 h]; rfl
theorem por_le {sh : Nat → Nat} {much p : Nat} (hp : p < 12) : porN sh much p ≤ 2 * much := by
  have := cut_le (sh := sh) (much := much) hp
  rw [porN]
  split
  · rw [leftN]; omega
  · omega
theorem eld_sum {sh : Nat → Nat} {L : Nat} : ∀ k, sumN (fun p => if eldB sh p then L else 0) k = if sumN sh k = 0 then 0 else L
  | 0 => rfl
  | k + 1 => by
    rw [sumN, eld_sum k, sumN, eldB]
    by_cases h1 : sumN sh k = 0
    · rw [if_pos h1, decide_eq_true h1, Bool.and_true]
      by_cases h2 : sh k = 0
      · rw [decide_eq_true h2, if_neg (by decide), if_pos (by omega)]
      · rw [decide_eq_false h2, if_pos (by decide), if_neg (by omega), Nat.zero_add]
    · rw [if_neg h1, decide_eq_false h1, Bool.and_false, if_neg (by decide), if_neg (by omega), Nat.add_zero]
theorem sumN_plus {f g : Nat → Nat} : ∀ k, sumN (fun p => f p + g p) k = sumN f k + sumN g k
  | 0 => rfl
  | k + 1 => by rw [sumN, sumN, sumN, sumN_plus k]; omega
theorem por_sum {sh : Nat → Nat} {much : Nat} : sumN (porN sh much) 12 ≤ much := by
  have h := sumN_plus (f := cutN sh much) (g := fun p => if eldB sh p then leftN sh much else 0) 12
  have h2 := eld_sum (sh := sh) (L := leftN sh much) 12
  have h3 := cut_sum_le (sh := sh) (much := much) (k := 12) (Nat.le_refl _)
  have h4 : sumN (porN sh much) 12 = sumN (fun p => cutN sh much p + (if eldB sh p then leftN sh much else 0)) 12 := rfl
  rw [h4, h, h2, leftN]
  split <;> omega
theorem mul_small {a b : Nat} (ha : a ≤ 11988) (hb : b ≤ 999) : a * b < 2147483648 := by
  have := Nat.mul_le_mul ha hb
  omega
theorem sh_sum {sh : Nat → Nat} (h : ShOk sh) {k : Nat} (hk : k ≤ 12) : sumN sh k ≤ 11988 := by
  have := sumN_const (f := sh) (b := 999) k (fun p hp => h p (by omega))
  omega
theorem c_cut {s : St} {sh : Nat → Nat} {much p : Nat} (hs : SetP 12 s sh) (ho : ShOk sh) (hm : much ≤ 11988) (hp : p < 12) : fX2_cut (nI p) (nI much) s = some (nI (cutN sh much p), s) := by
  have hT := sh_sum ho (Nat.le_refl 12)
  rw [fX2_cut, hs.2.2.1, ite_iff (zll_1 _ (by omega))]
  by_cases h : 1 ≤ sumN sh 12
  · rw [if_pos h, at_nI (by decide) (by show p < 12; exact hp), bd_some, hs.2.2.1, hs.1 p hp, if_neg (by rw [zle_0 _ (by omega)]; omega), nI_mul, pk_div (mul_small hm (ho p hp)) (by omega) (by omega)]
    rfl
  · rw [if_neg h, cutN, show sumN sh 12 = 0 by omega, Nat.div_zero]
    rfl
theorem c_leftOver {s : St} {sh : Nat → Nat} {much : Nat} (hs : SetP 12 s sh) (ho : ShOk sh) (hm : much ≤ 11988) : fX2_leftOver (nI much) s = some (nI (leftN sh much), s) := by
  have key : ∀ k i m, i + k = 12 → k < m → fX2_leftOver_L4 (nI much) m (nI (much - sumN (cutN sh much) i)) (nI i) s = some (nI (leftN sh much), s) := by
    intro k
    induction k with
    | zero =>
      intro i m hi hm'
      obtain ⟨m, rfl⟩ : ∃ q, m = q + 1 := ⟨m - 1, by omega⟩
      obtain rfl : i = 12 := by omega
      rw [fX2_leftOver_L4, if_pos (by decide), leftN]
    | succ k ih =>
      intro i m hi hm'
      obtain ⟨m, rfl⟩ : ∃ q, m = q + 1 := ⟨m - 1, by omega⟩
      have h1 := cut_sum_le (sh := sh) (much := much) (k := i + 1) (by omega)
      have h2 : sumN (cutN sh much) (i + 1) = sumN (cutN sh much) i + cutN sh much i := rfl
      rw [fX2_leftOver_L4, if_neg (by rw [zll_12 _ (by omega)]; omega), c_cut hs ho hm (by omega), bd_some, zra_1, pk_sub (by omega), show much - sumN (cutN sh much) i - cutN sh much i = much - sumN (cutN sh much) (i + 1) by omega]
      exact ih (i + 1) m (by omega) (by omega)
  exact key 12 0 FU rfl (by decide)
theorem c_portion {s : St} {sh : Nat → Nat} {much p : Nat} (hs : SetP 12 s sh) (ho : ShOk sh) (hm : much ≤ 11988) (hp : p < 12) : fX2_portion (nI p) (nI much) s = some (nI (porN sh much p), s) := by
  rw [fX2_portion, c_cut hs ho hm hp, bd_some, ite_iff (eld_EP (by omega) hp hs.2.2.2), porN]
  by_cases h : eldB sh p = true
  · rw [if_pos h, if_pos h, c_leftOver hs ho hm, bd_some, nI_add]
  · rw [if_neg h, if_neg h, Nat.add_zero]
theorem m_partOf {t : St} {sh : Nat → Nat} {n d p k much : Nat} (hn : t 71 0 = nI n) (h12 : n ≤ 12) (hs : SetM n t sh) (ho : ShOk sh) (h0 : ∀ q, n ≤ q → q < 12 → sh q = 0) (hm : much ≤ 11988) (hd : d < n) (hp : p < n) (hk : k < 4) (hmu : t 72 (4 * d + k) = nI much) : fX12_partOf (nI d) (nI p) (nI k) t = some (nI (porN sh much p), t) := by
  have hsum : sumN sh n = sumN sh 12 := by
    have := sumN_zero (f := sh) n (12 - n) (fun i h1 h2 => h0 i h1 (by omega))
    rw [show n + (12 - n) = 12 by omega] at this
    exact this.symm
  have hcs : sumN (cutN sh much) n = sumN (cutN sh much) 12 := by
    have := sumN_zero (f := cutN sh much) n (12 - n) (fun i h1 h2 => cut_0 (h0 i h1 (by omega)))
    rw [show n + (12 - n) = 12 by omega] at this
    exact this.symm
  have hT := sh_sum ho (Nat.le_refl 12)
  have hsp := ho p (by omega)
  rw [fX12_partOf, if_pos (inA_lt (by decide) (by omega)), nI_clamp (by omega), hs.1 p hp, ite_iff (zle_0 _ (by omega)), zlm_4, nI_add]
  by_cases e : sh p = 0
  · rw [if_pos e, por_0 e]; rfl
  · have hT0 : sumN sh 12 ≠ 0 := fun q => e ((sumN_eq0 12).mp q p (by omega))
    have hTI : ¬ nI (sumN sh 12) = 0 := fun q => hT0 ((zle_0 _ (by omega)).mp q)
    have hc : ∀ q, q < n → nI much * nI (sh q) / nI (sumN sh 12) = nI (cutN sh much q) := fun q hq => by
      rw [nI_mul, pk_div (mul_small hm (ho q (by omega))) (by omega) (by omega)]
      rfl
    rw [if_neg e, if_pos (inA_lt (by decide) (by omega)), if_pos (inA_lt (by decide) (by omega)), hs.2.1, hsum, if_neg hTI, ite_iff (eld_EP (by omega) hp hs.2.2), nI_clamp (n := 4 * d + k) (by omega), hmu, hc p hp, porN]
    by_cases h : eldB sh p = true
    · rw [if_pos h, if_pos h]
      have key : ∀ k i m, i + k = n → k < m → fX12_partOf_L57 (nI much) (nI (cutN sh much p)) m (nI (much - sumN (cutN sh much) i)) (nI i) t = some (nI (cutN sh much p + leftN sh much), t) := by
        intro k
        induction k with
        | zero =>
          intro i m hi hm'
          obtain ⟨m, rfl⟩ : ∃ q, m = q + 1 := ⟨m - 1, by omega⟩
          obtain rfl : i = n := by omega
          rw [fX12_partOf_L57, if_pos inA_0, i00, hn, if_pos (Int32.le_refl _), nI_add, hcs, leftN]
        | succ k ih =>
          intro i m hi hm'
          obtain ⟨m, rfl⟩ : ∃ q, m = q + 1 := ⟨m - 1, by omega⟩
          have h1 := cut_sum_le (sh := sh) (much := much) (k := i + 1) (by omega)
          have h2 : sumN (cutN sh much) (i + 1) = sumN (cutN sh much) i + cutN sh much i := rfl
          rw [fX12_partOf_L57, if_pos inA_0, i00, hn, if_neg (by rw [nI_leI (by omega) (by omega)]; omega), if_pos (inA_lt (by decide) (by omega)), hs.2.1, hsum, if_neg hTI, nI_clamp (by omega), hs.1 i (by omega), hc i (by omega), zra_1, pk_sub (by omega), show much - sumN (cutN sh much) i - cutN sh much i = much - sumN (cutN sh much) (i + 1) by omega]
          exact ih (i + 1) m (by omega) (by omega)
      exact key n 0 FU (by omega) (by show n < 20000; omega)
    · rw [if_neg h, if_neg h, Nat.add_zero]
/-! ===== what a death does to the skies, at the class's side ===== -/
def addR (sh : Nat → Nat) (k much : Nat) (c : Nat → Int32) : Nat → Int32 := fun j => if j < 48 ∧ j % 4 = k then c j + nI (porN sh much (j / 4)) else c j
def cutR (sh : Nat → Nat) (k much i : Nat) (c : Nat → Int32) : Nat → Int32 := fun j => if j < 48 ∧ j % 4 = k ∧ j / 4 < i then c j + nI (cutN sh much (j / 4)) else c j
theorem cutR_succ {sh : Nat → Nat} {k much i : Nat} {c : Nat → Int32} (hk : k < 4) (hi : i < 12) : ur (cutR sh k much i c) (4 * i + k) (cutR sh k much i c (4 * i + k) + nI (cutN sh much i)) = cutR sh k much (i + 1) c := by
  funext j
  by_cases e : j = 4 * i + k
  · subst e
    rw [ur_hit, cutR, cutR, if_neg (by omega), if_pos (by omega), show (4 * i + k) / 4 = i by omega]
  · rw [ur_off e, cutR, cutR]
    by_cases h : j < 48 ∧ j % 4 = k ∧ j / 4 < i
    · rw [if_pos h, if_pos (by omega)]
    · rw [if_neg h, if_neg (by omega)]
theorem c_handPart {w k much : Nat} {s : St} {sh : Nat → Nat} (hw : LN (w + 1) = 94) (hs : SetP 12 s sh) (ho : ShOk sh) (hm : much ≤ 11988) (hk : k < 4) : fX2_handOverPart w (nI k) (nI much) s = some (0, rset s (w + 1) (addR sh k much (s (w + 1)))) := by
  have w48 : 48 ≠ w + 1 := fun e => by rw [← e] at hw; exact absurd hw (by decide)
  have w50 : 50 ≠ w + 1 := fun e => by rw [← e] at hw; exact absurd hw (by decide)
  have hsR : ∀ R : Nat → Int32, SetP 12 (rset s (w + 1) R) sh := fun R => by
    obtain ⟨a, b, c, d⟩ := hs
    exact ⟨fun p hp => by rw [rset_off w50]; exact a p hp, by rw [rset_off w48]; exact b, by rw [rset_off w48]; exact c, by rw [rset_off w48]; exact d⟩
  have key : ∀ kk k' i m, i + k' = 12 → k' < m → fX2_handOverPart_L6 kk w (nI k) (nI much) m (nI (much - sumN (cutN sh much) i)) (nI i) (rset s (w + 1) (cutR sh k much i (s (w + 1)))) = kk (nI (leftN sh much)) (rset s (w + 1) (cutR sh k much 12 (s (w + 1)))) := by
    intro kk k'
    induction k' with
    | zero =>
      intro i m hi hm'
      obtain ⟨m, rfl⟩ : ∃ q, m = q + 1 := ⟨m - 1, by omega⟩
      obtain rfl : i = 12 := by omega
      rw [fX2_handOverPart_L6, if_pos (by decide), leftN]
    | succ k' ih =>
      intro i m hi hm'
      obtain ⟨m, rfl⟩ : ∃ q, m = q + 1 := ⟨m - 1, by omega⟩
      have h1 := cut_sum_le (sh := sh) (much := much) (k := i + 1) (by omega)
      have h2 : sumN (cutN sh much) (i + 1) = sumN (cutN sh much) i + cutN sh much i := rfl
      rw [fX2_handOverPart_L6, if_neg (by rw [zll_12 _ (by omega)]; omega), c_cut (hsR _) ho hm (by omega), bd_some, w_addPart hw (by omega) hk, bd_some, zra_1, pk_sub (by omega), show much - sumN (cutN sh much) i - cutN sh much i = much - sumN (cutN sh much) (i + 1) by omega, wr_rset, rset_hit, cutR_succ hk (by omega)]
      exact ih (i + 1) m (by omega) (by omega)
  have h0 : cutR sh k much 0 (s (w + 1)) = s (w + 1) := by
    funext j
    rw [cutR, if_neg (by omega)]
  have st := key (fun v4_3 s_3 => if (s_3 48 4) = (-1 : Int32) then (some (0, s_3)) else (bd (fX10_addPart w (s_3 48 4) (nI k) v4_3 s_3) (fun y_4 s_4 => some (0, s_4)))) 12 0 FU rfl (by decide)
  rw [h0, rset_self] at st
  rw [fX2_handOverPart]
  refine Eq.trans st ?_
  show (if (rset s (w + 1) (cutR sh k much 12 (s (w + 1)))) 48 4 = -1 then _ else _) = _
  rw [rset_off w48]
  rcases hs.2.2.2 with ⟨g, g2⟩ | ⟨p, g1, g2, g3, g4⟩
  · rw [if_pos g]
    congr 3
    funext j
    rw [cutR, addR]
    by_cases h : j < 48 ∧ j % 4 = k
    · rw [if_pos h, if_pos (by omega), porN, eldB_0 (g2 (j / 4) (by omega))]; rfl
    · rw [if_neg h, if_neg (by omega)]
  · rw [g2, if_neg (neg1 (by omega)), w_addPart hw g1 hk, bd_some, wr_rset, rset_hit]
    congr 3
    funext j
    have hel : ∀ q, q < 12 → (eldB sh q = true ↔ q = p) := fun q hq => by
      rw [← eld_EP (by omega) hq hs.2.2.2, g2]
      exact nI_eq (by omega) (by omega)
    by_cases e : j = 4 * p + k
    · subst e
      rw [ur_hit, cutR, addR, if_pos (by omega), if_pos (by omega), show (4 * p + k) / 4 = p by omega, porN, if_pos ((hel p g1).mpr rfl), Int32.add_assoc, nI_add]
    · rw [ur_off e, cutR, addR]
      by_cases h : j < 48 ∧ j % 4 = k
      · rw [if_pos h, if_pos (by omega), porN, if_neg (fun q => e (by have := (hel (j / 4) (by omega)).mp q; omega))]; rfl
      · rw [if_neg h, if_neg (by omega)]
def dieSky (sh : Nat → Nat) (d : Nat) (S : Nat → Nat) (i : Nat) (c : Nat → Int32) : Nat → Int32 := fun j => if j < 48 ∧ j % 4 < i then (if j / 4 = d then 0 else c j + nI (porN sh (S (4 * d + j % 4)) (j / 4))) else c j
def dieR (sh : Nat → Nat) (d q : Nat) (S : Nat → Nat) (c : Nat → Int32) : Nat → Int32 := ur (if sumN sh 12 = 0 then ur (dieSky sh d S 4 c) (84 + q) (c (84 + q) + 1) else dieSky sh d S 4 c) (48 + d) (-1)
theorem c_handOver {w d q : Nat} {s : St} {sh S : Nat → Nat} (hw : LN (w + 1) = 94) (hs : SetP 12 s sh) (ho : ShOk sh) (hd : d < 12) (hS : ∀ k, k < 4 → s (w + 1) (4 * d + k) = nI (S (4 * d + k)) ∧ S (4 * d + k) ≤ 11988) (hq : q < 10) (hpl : s (w + 1) (48 + d) = nI q) : fX2_handOver w (nI d) s = some (0, rset s (w + 1) (dieR sh d q S (s (w + 1)))) := by
  have w48 : 48 ≠ w + 1 := fun e => by rw [← e] at hw; exact absurd hw (by decide)
  have w50 : 50 ≠ w + 1 := fun e => by rw [← e] at hw; exact absurd hw (by decide)
  have hsR : ∀ R : Nat → Int32, SetP 12 (rset s (w + 1) R) sh := fun R => by
    obtain ⟨a, b, c, d⟩ := hs
    exact ⟨fun p hp => by rw [rset_off w50]; exact a p hp, by rw [rset_off w48]; exact b, by rw [rset_off w48]; exact c, by rw [rset_off w48]; exact d⟩
  have hcl := cnt_le (sh := sh) (k := 12)
  have st := loopT (fun m i t => fX2_handOver_L2 (fun s_4 => if (s_4 48 2) = 0 then
    (bd (fX10_place w (nI d) s_4) (fun y_6 s_6 =>
    bd (fX10_addNoon w y_6 s_6) (fun y_7 s_7 =>
    bd (fX10_setPlace w (nI d) (-1 : Int32) s_7) (fun y_8 s_8 =>
    some (0, s_8)))))
  else
    (bd (fX10_setPlace w (nI d) (-1 : Int32) s_4) (fun y_5 s_5 =>
    some (0, s_5)))) w (nI d) m (nI i) t) 4 (fun i => rset s (w + 1) (dieSky sh d S i (s (w + 1)))) (some (0, rset s (w + 1) (dieR sh d q S (s (w + 1))))) (fun m i hi => by
    obtain ⟨h1, h2⟩ := hS i hi
    have hmu : dieSky sh d S i (s (w + 1)) (4 * d + i) = nI (S (4 * d + i)) := by rw [dieSky, if_neg (by omega), h1]
    simp only [fX2_handOver_L2]
    rw [if_neg (by rw [zll_4 _ (by omega)]; omega), w_part hw hd hi, bd_some, rset_hit, hmu, c_handPart hw (hsR _) ho h2 hi, bd_some, fX10_setPart, zrm_4, nI_add, put_nI (by omega) (by omega), bd_some, bd_some, zra_1, rset_rset, rset_hit, wr_rset]
    congr 2
    funext j
    by_cases e : j = d * 4 + i
    · subst e
      rw [ur_hit, dieSky, if_pos (by omega), if_pos (by omega)]
    · rw [ur_off e, addR, dieSky, dieSky]
      by_cases h : j < 48 ∧ j % 4 = i
      · rw [if_pos h, if_neg (show ¬ (j < 48 ∧ j % 4 < i) by omega), if_pos (show j < 48 ∧ j % 4 < i + 1 by omega), if_neg (show ¬ j / 4 = d by omega), h.2]
      · rw [if_neg h]
        by_cases h2 : j < 48 ∧ j % 4 < i
        · rw [if_pos h2, if_pos (show j < 48 ∧ j % 4 < i + 1 by omega)]
        · rw [if_neg h2, if_neg (show ¬ (j < 48 ∧ j % 4 < i + 1) by omega)]) (fun m => by
    simp only [fX2_handOver_L2]
    rw [if_pos (by decide), rset_off w48, hs.2.1, ite_iff (zle_0 _ (by omega)), ite_iff cnt_0]
    have hpl' : dieSky sh d S 4 (s (w + 1)) (48 + d) = nI q := by rw [dieSky, if_neg (by omega), hpl]
    by_cases e : sumN sh 12 = 0
    · rw [if_pos e, w_place hw hd, bd_some, rset_hit, hpl', fX10_addNoon, w_noons hw hq, bd_some, zla_84, put_nI (by omega) (by omega), bd_some, bd_some, w_setPlace hw hd, bd_some, rset_hit, wr_rset, wr_rset, dieR, if_pos e]
      congr 4
      rw [dieSky, if_neg (by omega)]
    · rw [if_neg e, w_setPlace hw hd, bd_some, wr_rset, dieR, if_neg e]) 4 0 FU rfl (by decide)
  have h0 : dieSky sh d S 0 (s (w + 1)) = s (w + 1) := by
    funext j
    rw [dieSky, if_neg (by omega)]
  simp only [h0, rset_self] at st
  exact st
