/-! ===== a death is a world again ===== -/
theorem sumN_pt {f g : Nat → Nat} {i : Nat} : ∀ n, i < n → (∀ x, x < n → x ≠ i → g x = f x) → sumN g n + f i = sumN f n + g i
  | 0, h, _ => absurd h (by omega)
  | n + 1, h, e => by
    rw [sumN, sumN]
    by_cases hi : i = n
    · subst hi
      rw [sumN_congr (f := g) (g := f) i (fun x hx => e x (by omega) (by omega))]
      omega
    · have := sumN_pt n (by omega) (fun x h1 h2 => e x (by omega) h2)
      rw [e n (by omega) (fun q => hi q.symm)]
      omega
section DIER
variable {sh S : Nat → Nat} {d q : Nat} {c : Nat → Int32}
theorem dieR_sky {p k : Nat} (hp : p < 12) (hk : k < 4) : dieR sh d q S c (4 * p + k) = if p = d then 0 else c (4 * p + k) + nI (porN sh (S (4 * d + k)) p) := by
  have h1 : dieSky sh d S 4 c (4 * p + k) = if p = d then 0 else c (4 * p + k) + nI (porN sh (S (4 * d + k)) p) := by
    rw [dieSky, if_pos (by omega), show (4 * p + k) / 4 = p by omega, show (4 * p + k) % 4 = k by omega]
  rw [dieR, ur_off (by omega)]
  by_cases e : sumN sh 12 = 0
  · rw [if_pos e, ur_off (by omega), h1]
  · rw [if_neg e, h1]
theorem dieR_pl : dieR sh d q S c (48 + d) = -1 := by rw [dieR, ur_hit]
theorem dieR_off {j : Nat} (h1 : 48 ≤ j) (h2 : j ≠ 48 + d) (h3 : j ≠ 84 + q) : dieR sh d q S c j = c j := by
  have h : dieSky sh d S 4 c j = c j := by rw [dieSky, if_neg (by omega)]
  rw [dieR, ur_off h2]
  by_cases e : sumN sh 12 = 0
  · rw [if_pos e, ur_off h3, h]
  · rw [if_neg e, h]
theorem dieR_noon (hd : d < 12) (hq : q < 10) : dieR sh d q S c (84 + q) = if sumN sh 12 = 0 then c (84 + q) + 1 else c (84 + q) := by
  rw [dieR, ur_off (by omega)]
  by_cases e : sumN sh 12 = 0
  · rw [if_pos e, if_pos e, ur_hit]
  · rw [if_neg e, if_neg e, dieSky, if_neg (by omega)]
end DIER
theorem wi_die {n d q : Nat} {sh S : Nat → Nat} {c : Nat → Int32} (h12 : n ≤ 12) (hd : d < n) (hq : q < 10) (hpl : c (48 + d) = nI q) (hS : ∀ p k, p < n → k < 4 → c (4 * p + k) = nI (S (4 * p + k))) (hSb : ∀ k, k < 4 → sumN (fun p => S (4 * p + k)) n ≤ 11988) (h0 : ∀ p, n ≤ p → p < 12 → sh p = 0) (hsd : sh d = 0) (hi : WI n c) : WI n (dieR sh d q S c) := by
  obtain ⟨i1, i2, -, i4, ⟨N, n1, n2⟩⟩ := hi
  refine ⟨fun p hp => ?_, fun p hp => ?_, ⟨fun j => if j / 4 = d then 0 else S j + porN sh (S (4 * d + j % 4)) (j / 4), fun p k hp hk => ?_, fun k hk => ?_⟩, fun j hj => ?_, ⟨fun x => if x = q ∧ sumN sh 12 = 0 then N x + 1 else N x, fun x hx => ?_, ?_⟩⟩
  · by_cases e : p = d
    · rw [e, dieR_pl]; exact Or.inl rfl
    · rw [dieR_off (by omega) (by omega) (by omega)]; exact i1 p hp
  · rw [dieR_off (by omega) (by omega) (by omega)]
    rcases i2 p hp with e | ⟨x, g1, g2, g3, g4⟩
    · exact Or.inl e
    · exact Or.inr ⟨x, g1, g2, g3, by rw [dieR_off (by omega) (by omega) (by omega)]; exact g4⟩
  · show _ = nI (if (4 * p + k) / 4 = d then 0 else S (4 * p + k) + porN sh (S (4 * d + (4 * p + k) % 4)) ((4 * p + k) / 4))
    rw [dieR_sky (by omega) hk, show (4 * p + k) / 4 = p by omega, show (4 * p + k) % 4 = k by omega, hS p k hp hk, nI_add]
    by_cases e : p = d
    · rw [if_pos e, if_pos e]; rfl
    · rw [if_neg e, if_neg e]
  · have e1 : sumN (fun p => if (4 * p + k) / 4 = d then 0 else S (4 * p + k) + porN sh (S (4 * d + (4 * p + k) % 4)) ((4 * p + k) / 4)) n = sumN (fun p => if p = d then 0 else S (4 * p + k) + porN sh (S (4 * d + k)) p) n := sumN_congr n (fun p hp => by
      show (if (4 * p + k) / 4 = d then 0 else S (4 * p + k) + porN sh (S (4 * d + (4 * p + k) % 4)) ((4 * p + k) / 4)) = _
      rw [show (4 * p + k) / 4 = p by omega, show (4 * p + k) % 4 = k by omega])
    show sumN (fun p => if (4 * p + k) / 4 = d then 0 else S (4 * p + k) + porN sh (S (4 * d + (4 * p + k) % 4)) ((4 * p + k) / 4)) n ≤ 11988
    rw [e1]
    have e2 := sumN_point (f := fun p => S (4 * p + k) + porN sh (S (4 * d + k)) p) (g := fun p => if p = d then 0 else S (4 * p + k) + porN sh (S (4 * d + k)) p) (i := d) n hd (fun x hx => by rw [if_neg hx])
    have e3 := sumN_plus (f := fun p => S (4 * p + k)) (g := porN sh (S (4 * d + k))) n
    have e4 := hSb k hk
    have e5 : sumN (porN sh (S (4 * d + k))) n ≤ S (4 * d + k) := Nat.le_trans (sumN_mono h12) por_sum
    simp only [if_true] at e2
    omega
  · by_cases hn : 72 + j = 84 + q
    · omega
    · rw [dieR_off (by omega) (by omega) (by omega)]; exact i4 j hj
  · by_cases e : x = q
    · subst e
      rw [dieR_noon (by omega) hq, n1 x hq]
      show _ = nI (if x = x ∧ sumN sh 12 = 0 then N x + 1 else N x)
      by_cases e2 : sumN sh 12 = 0
      · rw [if_pos e2, if_pos ⟨rfl, e2⟩, zra_1]
      · rw [if_neg e2, if_neg (fun h => e2 h.2)]
    · rw [dieR_off (by omega) (by omega) (by omega), n1 x hx]
      show _ = nI (if x = q ∧ sumN sh 12 = 0 then N x + 1 else N x)
      rw [if_neg (fun h => e h.1)]
  · have e2 := sumN_pt (f := fun p => if c (48 + p) = -1 then 0 else 1) (g := fun p => if dieR sh d q S c (48 + p) = -1 then 0 else 1) (i := d) n hd (fun x hx hx2 => by rw [dieR_off (by omega) (by omega) (by omega)])
    obtain ⟨g, hg⟩ : ∃ g : Nat → Nat, g = fun x => if x = q ∧ sumN sh 12 = 0 then N x + 1 else N x := ⟨_, rfl⟩
    have e3 := sumN_pt (f := N) (g := g) (i := q) 10 hq (fun x _ hx => by rw [hg]; exact if_neg (fun h => hx h.1))
    have e4 : g q ≤ N q + 1 := by
      rw [hg]
      show (if q = q ∧ sumN sh 12 = 0 then N q + 1 else N q) ≤ N q + 1
      split <;> omega
    simp only [dieR_pl, hpl, if_true] at e2
    rw [if_neg (neg1 (by omega))] at e2
    rw [← hg]
    omega
/-! ===== a death, at the reference's side ===== -/
theorem b_off : ∀ d : Nat, d < 12 → (jshl 1 (nI d) ^^^ (-1 : Int32)) = nI (4294967295 - 2 ^ d) := by decide +kernel
theorem b_offT : ∀ d : Nat, d < 12 → ∀ p : Nat, p < 12 → (4294967295 - 2 ^ d).testBit p = !decide (p = d) := by decide +kernel
theorem m_heirs {n : Nat} {t : St} {sh : Nat → Nat} (hn : t 71 0 = nI n) (h12 : n ≤ 12) (h : ∀ p, p < n → t 92 p = nI (sh p)) (ho : ShOk sh) : fX12_heirs t = some (nI (cntN sh n), t) := by
  have key : ∀ k i m, i + k = n → k < m → fX12_heirs_L4 m (nI (cntN sh i)) (nI i) t = some (nI (cntN sh n), t) := by
    intro k
    induction k with
    | zero =>
      intro i m hi hm
      obtain ⟨m, rfl⟩ : ∃ q, m = q + 1 := ⟨m - 1, by omega⟩
      obtain rfl : i = n := by omega
      rw [fX12_heirs_L4, if_pos inA_0, i00, hn, if_pos (Int32.le_refl _)]
    | succ k ih =>
      intro i m hi hm
      obtain ⟨m, rfl⟩ : ∃ q, m = q + 1 := ⟨m - 1, by omega⟩
      have hb := ho i (by omega)
      have e1 := ih (i + 1) m (by omega) (by omega)
      rw [fX12_heirs_L4, if_pos inA_0, i00, hn, if_neg (by rw [nI_leI (by omega) (by omega)]; omega), if_pos (inA_lt (by decide) (by omega)), nI_clamp (by omega), h i (by omega), ite_iff (zrl_0 _ (by omega)), zra_1, zra_1]
      by_cases e : sh i = 0
      · rw [if_pos (by omega), Int32.add_zero]
        have : cntN sh (i + 1) = cntN sh i := by rw [cntN, sumN, if_pos e]; rfl
        rw [this] at e1
        exact e1
      · rw [if_neg (by omega)]
        have : cntN sh (i + 1) = cntN sh i + 1 := by rw [cntN, sumN, if_neg e]; rfl
        rw [this] at e1
        exact e1
  exact key n 0 FU (by omega) (by show n < 20000; omega)
theorem vr_r72 {t : St} {r : Nat → Int32} : vr (rset t 72 r) = fun j => if j < 48 then r j else vr t j := by
  funext j
  show vr (rset t 72 r) j = if j < 48 then r j else vr t j
  rcases vr_cases j with h | h | h | h | h | h
  · rw [if_pos h, vr_0 h, rset_hit]
  · rw [if_neg (by omega), vr_1 h, vr_1 h, rset_off (k' := 73) (by decide)]
  · rw [if_neg (by omega), vr_2 h, vr_2 h, rset_off (k' := 77) (by decide)]
  · rw [if_neg (by omega), vr_3 h, vr_3 h, rset_off (k' := 87) (by decide)]
  · rw [if_neg (by omega), vr_4 h, vr_4 h, rset_off (k' := 88) (by decide)]
  · rw [if_neg (by omega), vr_5 h, vr_5 h, rset_off (k' := 69) (by decide)]
def mR (n : Nat) (sh : Nat → Nat) (d : Nat) (S : Nat → Nat) (i : Nat) (r : Nat → Int32) : Nat → Int32 := fun j => if j < 4 * n then dieSky sh d S i r j else r j
def mI (n : Nat) (sh : Nat → Nat) (d : Nat) (S : Nat → Nat) (k i : Nat) (r : Nat → Int32) : Nat → Int32 := fun j => if j < 4 * i ∧ j % 4 = k ∧ j / 4 ≠ d then r j + nI (porN sh (S (4 * d + k)) (j / 4)) else mR n sh d S k r j
theorem m_skies {n d : Nat} {t : St} {sh S : Nat → Nat} (kk : St → Option (Int32 × St)) (y : Int32) (hn : t 71 0 = nI n) (h12 : n ≤ 12) (hd : d < n) (hs : SetM n t sh) (ho : ShOk sh) (h0 : ∀ q, n ≤ q → q < 12 → sh q = 0) (hS : ∀ k, k < 4 → t 72 (4 * d + k) = nI (S (4 * d + k)) ∧ S (4 * d + k) ≤ 11988) : fX12_dieNow_L13 kk (nI d) y FU 0 t = kk (rset t 72 (mR n sh d S 4 (t 72))) := by
  have hsR : ∀ R : Nat → Int32, SetM n (rset t 72 R) sh := fun R => by
    obtain ⟨a, b, c⟩ := hs
    exact ⟨fun p hp => by rw [rset_off (by decide)]; exact a p hp, by rw [rset_off (by decide)]; exact b, by rw [rset_off (by decide)]; exact c⟩
  have hnR : ∀ R : Nat → Int32, (rset t 72 R) 71 0 = nI n := fun R => by rw [rset_off (by decide), hn]
  have inner : ∀ (k : Nat) (hk : k < 4) (kk2 : St → Option (Int32 × St)), fX12_dieNow_L21 kk2 (nI d) y (nI k) FU 0 (rset t 72 (mR n sh d S k (t 72))) = kk2 (rset t 72 (mI n sh d S k n (t 72))) := by
    intro k hk kk2
    have st := loopT (fun m i u => fX12_dieNow_L21 kk2 (nI d) y (nI k) m (nI i) u) n (fun i => rset t 72 (mI n sh d S k i (t 72))) (kk2 (rset t 72 (mI n sh d S k n (t 72)))) (fun m i hi => by
      simp only [fX12_dieNow_L21]
      rw [if_pos inA_0, i00, hnR, if_neg (by rw [nI_leI (by omega) (by omega)]; omega), ite_iff (nI_eq (a := i) (b := d) (by omega) (by omega)), zra_1]
      by_cases e : i = d
      · rw [if_pos e]
        congr 2
        funext j
        rw [mI, mI]
        by_cases h : j < 4 * i ∧ j % 4 = k ∧ j / 4 ≠ d
        · rw [if_pos h, if_pos (by omega)]
        · rw [if_neg h, if_neg (by omega)]
      · have hmu : (rset t 72 (mI n sh d S k i (t 72))) 72 (4 * d + k) = nI (S (4 * d + k)) := by
          rw [rset_hit, mI, if_neg (by omega), mR, if_pos (by omega), dieSky, if_neg (by omega), (hS k hk).1]
        rw [if_neg e, zlm_4, nI_add, if_pos (inA_lt (by decide) (by omega)), m_partOf (much := S (4 * d + k)) (hnR _) h12 (hsR _) ho h0 (hS k hk).2 hd hi hk hmu, bd_some, if_pos (inA_lt (by decide) (by omega)), nI_clamp (by omega), wr_rset, rset_hit]
        congr 2
        funext j
        by_cases ej : j = 4 * i + k
        · subst ej
          rw [ur_hit, mI, mI, if_neg (by omega), if_pos (by omega), show (4 * i + k) / 4 = i by omega, mR, if_pos (by omega), dieSky, if_neg (by omega)]
        · rw [ur_off ej, mI, mI]
          by_cases h : j < 4 * i ∧ j % 4 = k ∧ j / 4 ≠ d
          · rw [if_pos h, if_pos (by omega)]
          · rw [if_neg h, if_neg (by omega)]) (fun m => by
      simp only [fX12_dieNow_L21]
      rw [if_pos inA_0, i00, hnR, if_pos (Int32.le_refl _)]) n 0 FU (by omega) (by show n < 20000; omega)
    have z : mI n sh d S k 0 (t 72) = mR n sh d S k (t 72) := by
      funext j
      rw [mI, if_neg (by omega)]
    simp only [z] at st
    exact st
  have st := loopT (fun m i u => fX12_dieNow_L13 kk (nI d) y m (nI i) u) 4 (fun i => rset t 72 (mR n sh d S i (t 72))) (kk (rset t 72 (mR n sh d S 4 (t 72)))) (fun m i hi => by
    simp only [fX12_dieNow_L13]
    rw [if_neg (by rw [zll_4 _ (by omega)]; omega), inner i hi, zlm_4, nI_add, if_pos (inA_lt (by decide) (by omega)), nI_clamp (by omega), wr_rset, zra_1]
    congr 2
    funext j
    by_cases ej : j = 4 * d + i
    · subst ej
      rw [ur_hit, mR, if_pos (by omega), dieSky, if_pos (by omega), if_pos (by omega)]
    · rw [ur_off ej, mI, mR, mR]
      by_cases h : j < 4 * n
      · by_cases hj : j % 4 = i
        · rw [if_pos (by omega), if_pos h, dieSky, if_pos (by omega), if_neg (by omega), hj]
        · rw [if_neg (by omega), if_pos h, if_pos h, dieSky, dieSky]
          by_cases h2 : j < 48 ∧ j % 4 < i
          · rw [if_pos h2, if_pos (show j < 48 ∧ j % 4 < i + 1 by omega)]
          · rw [if_neg h2, if_neg (show ¬ (j < 48 ∧ j % 4 < i + 1) by omega)]
      · rw [if_neg (by omega), if_neg h, if_neg h]) (fun m => by
    simp only [fX12_dieNow_L13]
    rw [if_pos (by decide)]) 4 0 FU rfl (by decide)
  have z : mR n sh d S 0 (t 72) = t 72 := by
    funext j
    rw [mR, dieSky, if_neg (show ¬ (j < 48 ∧ j % 4 < 0) by omega)]
    split <;> rfl
  simp only [z, rset_self] at st
  exact st
theorem m_dieNow {s0 t : St} {n nw nf d q A : Nat} {c : Nat → Int32} {L S : Nat → Nat} (r : RLand s0 n nw nf) (hl : LM s0 t) (hd : d < n) (hw : SW n c (vr t)) (hA : A < 4096) (hA2 : t 69 17 = nI A) (hA3 : ∀ p, p < n → (A.testBit p = true ↔ ¬ c (48 + p) = -1)) (hL9 : ∀ p, L p ≤ 999)
    (hL : ∀ p, p < n → p ≠ d → ¬ c (48 + p) = -1 → ∀ u, KT t u → ∃ u', fX12_byLaw (nI d) (nI p) u = some (nI (L p), u') ∧ ∀ k, k ≠ 90 → k ≠ 91 → u' k = u k)
    (hS : ∀ k, k < 4 → c (4 * d + k) = nI (S (4 * d + k)) ∧ S (4 * d + k) ≤ 11988) (hq : q < 10) (hpl : c (48 + d) = nI q) (ho : ShOk (shD s0 L c d)) (h0 : ∀ q, n ≤ q → q < 12 → shD s0 L c d q = 0) :
    ∃ t', fX12_dieNow (nI d) t = some (nI (cntN (shD s0 L c d) 12), t') ∧ SW n (dieR (shD s0 L c d) d q S c) (vr t') ∧ (∀ x, x ≠ 69 → x ≠ 72 → x ≠ 73 → x ≠ 88 → x ≠ 90 → x ≠ 91 → x ≠ 92 → t' x = t x) ∧ ∀ j, j ≠ 17 → j ≠ 37 → j ≠ 38 → t' 69 j = t 69 j := by
  have h12 : n ≤ 12 := r.1.2.2
  generalize hsh : shD s0 L c d = sh at *
  obtain ⟨t1, a1, a2, a3⟩ := m_tell (t := t) (c := c) (L := L) true r hl hd hA hA2 hA3 hL9 hL
  rw [if_pos rfl, hsh] at a2
  have hn1 : t1 71 0 = nI n := by rw [a3.1 71 (by decide) (by decide) (by decide) (by decide), hl 71 (Or.inl rfl), r.1.2.1]
  have hv1 : vr t1 = vr t := vr_same (a3.1 72 (by decide) (by decide) (by decide) (by decide)) (a3.1 73 (by decide) (by decide) (by decide) (by decide)) (a3.1 77 (by decide) (by decide) (by decide) (by decide)) (a3.1 87 (by decide) (by decide) (by decide) (by decide)) (a3.1 88 (by decide) (by decide) (by decide) (by decide)) (a3.2 17 (by decide) (by decide))
  have h72 : ∀ p k, p < n → k < 4 → t1 72 (4 * p + k) = c (4 * p + k) := fun p k hp hk => by rw [← vr_sky (s := t1) (by omega) hk, hv1, hw.1 p k hp hk]
  have hcnt : cntN sh n = cntN sh 12 := by
    have := sumN_zero (f := fun p => if sh p = 0 then 0 else 1) n (12 - n) (fun i h1 h2 => by rw [if_pos (h0 i h1 (by omega))])
    rw [show n + (12 - n) = 12 by omega] at this
    exact this.symm
  have hcl := cnt_le (sh := sh) (k := 12)
  have b1 := m_heirs hn1 h12 a2.1 ho
  rw [hcnt] at b1
  have hbit : t1 69 17 = nI A := by rw [a3.2 17 (by decide) (by decide), hA2]
  have hpl1 : t1 73 d = nI q := by rw [← vr_pl (s := t1) (by omega), hv1, hw.2.1 d hd, hpl]
  have hno1 : t1 88 q = c (84 + q) := by rw [← vr_noon (s := t1) hq, hv1, hw.2.2.2.2.1 q hq]
  have hJ : ∀ X : St, X 69 17 = nI A → fX12_dieNow_J102 (nI d) (nI (cntN sh 12)) X = some (nI (cntN sh 12), wr (wr X 69 17 (nI (A &&& (4294967295 - 2 ^ d)))) 73 d (-1)) := fun X hX => by
    rw [fX12_dieNow_J102]
    dsimp only
    rw [if_pos (inA_lt (by decide) (by omega)), nI_clamp (by omega), hX, b_off d (by omega), b_and]
  have hc1 : ∀ R : Nat → Int32, (rset t1 72 R) 73 d = nI q := fun R => by rw [rset_off (by decide), hpl1]
  have run : fX12_dieNow (nI d) t = some (nI (cntN sh 12), wr (wr (if sumN sh 12 = 0 then wr (rset t1 72 (mR n sh d S 4 (t1 72))) 88 q (c (84 + q) + 1) else rset t1 72 (mR n sh d S 4 (t1 72))) 69 17 (nI (A &&& (4294967295 - 2 ^ d)))) 73 d (-1)) := by
    have a1' : fX12_tellShares (nI d) (1 : Int32) t = some (0, t1) := a1
    rw [fX12_dieNow, a1', bd_some, b1, bd_some, m_skies (S := S) _ _ hn1 h12 hd a2 ho h0 (fun k hk => by rw [h72 d k hd hk]; exact hS k hk)]
    rw [ite_iff (zle_0 _ (by omega)), ite_iff cnt_0]
    by_cases e : sumN sh 12 = 0
    · rw [if_pos e, if_pos e, if_pos (inA_lt (by decide) (by omega)), nI_clamp (n := d) (by omega), hc1, if_pos (inA_lt (by decide) hq), if_pos (inA_lt (by decide) hq), nI_clamp (n := q) (by omega)]
      dsimp only
      rw [hJ _ (by rw [wr_slot (by decide), rset_off (by decide), hbit]), rset_off (k' := 88) (by decide), hno1]
    · rw [if_neg e, if_neg e, hJ _ (by rw [rset_off (by decide), hbit])]
  refine ⟨_, run, ?_, fun x q1 q2 q3 q4 q5 q6 q7 => ?_, fun j q1 q2 q3 => ?_⟩
  · have hv : ∀ j, vr (wr (wr (if sumN sh 12 = 0 then wr (rset t1 72 (mR n sh d S 4 (t1 72))) 88 q (c (84 + q) + 1) else rset t1 72 (mR n sh d S 4 (t1 72))) 69 17 (nI (A &&& (4294967295 - 2 ^ d)))) 73 d (-1)) j = if j = 48 + d then -1 else if 94 ≤ j then nI (A &&& (4294967295 - 2 ^ d)) else if j < 48 then mR n sh d S 4 (t1 72) j else if sumN sh 12 = 0 ∧ j = 84 + q then c (84 + q) + 1 else vr t j := fun j => by
      rw [vr_w73 (by omega), ur]
      by_cases e1 : j = 48 + d
      · rw [if_pos e1, if_pos e1]
      · rw [if_neg e1, if_neg e1, vr_w17]
        show (if 94 ≤ j then _ else _) = _
        by_cases e2 : 94 ≤ j
        · rw [if_pos e2, if_pos e2]
        · rw [if_neg e2, if_neg e2]
          by_cases e3 : sumN sh 12 = 0
          · rw [if_pos e3, vr_w88 hq, ur]
            by_cases e4 : j = 84 + q
            · rw [if_pos e4, if_neg (by omega), if_pos ⟨e3, e4⟩]
            · rw [if_neg e4, vr_r72, if_neg (show ¬ (sumN sh 12 = 0 ∧ j = 84 + q) from fun h => e4 h.2), hv1]
          · rw [if_neg e3, vr_r72, if_neg (show ¬ (sumN sh 12 = 0 ∧ j = 84 + q) from fun h => e3 h.1), hv1]
    refine ⟨fun p k hp hk => ?_, fun p hp => ?_, fun p hp => ?_, fun j hj => ?_, fun x hx => ?_, ⟨A &&& (4294967295 - 2 ^ d), ?_, ?_, fun p hp => ?_⟩, fun p q1 q2 => ?_⟩
    · rw [hv, if_neg (by omega), if_neg (by omega), if_pos (by omega), dieR_sky (by omega) hk, mR, if_pos (by omega), dieSky, if_pos (by omega), show (4 * p + k) / 4 = p by omega, show (4 * p + k) % 4 = k by omega, h72 p k hp hk]
    · rw [hv]
      by_cases e : p = d
      · rw [if_pos (by omega), e, dieR_pl]
      · rw [if_neg (by omega), if_neg (by omega), if_neg (by omega), if_neg (by omega), dieR_off (by omega) (by omega) (by omega), hw.2.1 p hp]
    · rw [hv, if_neg (by omega), if_neg (by omega), if_neg (by omega), if_neg (by omega), dieR_off (by omega) (by omega) (by omega), hw.2.2.1 p hp]
    · rw [hv, if_neg (by omega), if_neg (by omega), if_neg (by omega), if_neg (by omega), dieR_off (by omega) (by omega) (by omega), hw.2.2.2.1 j hj]
    · rw [hv, if_neg (by omega), if_neg (by omega), if_neg (by omega)]
      by_cases e : x = q
      · subst e
        rw [dieR_noon (by omega) hq]
        by_cases e3 : sumN sh 12 = 0
        · rw [if_pos ⟨e3, rfl⟩, if_pos e3]
        · rw [if_neg (fun h => e3 h.1), if_neg e3, hw.2.2.2.2.1 x hx]
      · rw [if_neg (by omega), dieR_off (by omega) (by omega) (by omega), hw.2.2.2.2.1 x hx]
    · refine Nat.lt_of_le_of_lt Nat.and_le_left ?_
      obtain ⟨A', z1, z2, -⟩ := hw.2.2.2.2.2.1
      have : A = A' := (nI_eq (by omega) (by have := two_pow_12 h12 z1; omega)).mp (hA2.symm.trans z2)
      rw [this]; exact z1
    · rw [hv, if_neg (by omega), if_pos (by omega)]
    · rw [Nat.testBit_and, b_offT d (by omega) p (by omega), Bool.and_eq_true]
      by_cases e : p = d
      · subst e
        rw [decide_eq_true rfl, dieR_pl]
        simp
      · rw [decide_eq_false e, dieR_off (by omega) (by omega) (by omega), hA3 p hp]
        simp
    · rw [dieR_off (by omega) (by omega) (by omega)]
      exact hw.2.2.2.2.2.2 p q1 q2
  · rw [wr_slot q3, wr_slot q1]
    split
    · rw [wr_slot q4, rset_off q2, a3.1 x q1 q5 q6 q7]
    · rw [rset_off q2, a3.1 x q1 q5 q6 q7]
  · rw [wr_slot (by decide), wr_place q1]
    split
    · rw [wr_slot (by decide), rset_off (by decide), a3.2 j q2 q3]
    · rw [rset_off (by decide), a3.2 j q2 q3]
