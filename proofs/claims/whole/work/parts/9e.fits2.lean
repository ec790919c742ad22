/-! ===== fits, the reference's side ===== -/
theorem b_shl12 : ∀ p : Nat, p < 13 → jshl 1 (nI p) = nI (2 ^ p) := by decide +kernel
theorem sub_zero_iff {Z A : Nat} (hZ : Z < 4096) (hA : A < 4096) : (nI (Z &&& (4294967295 - A)) = (0 : Int32)) ↔ Z &&& A = Z := by
  have hle : Z &&& (4294967295 - A) ≤ Z := Nat.and_le_left
  rw [zle_0 _ (by omega), sub_iff]
  obtain ⟨-, hb⟩ := b_not A hA
  have hZ12 : ∀ p, Z.testBit p = true → p < 12 := fun p hp => by
    rcases Nat.lt_or_ge p 12 with z | z
    · exact z
    · rw [Nat.testBit_lt_two_pow (Nat.lt_of_lt_of_le hZ (Nat.pow_le_pow_right (by decide) z : 2 ^ 12 ≤ 2 ^ p))] at hp
      cases hp
  constructor
  · intro h p hp
    by_cases e : A.testBit p = true
    · exact e
    · have : (Z &&& (4294967295 - A)).testBit p = true := by rw [Nat.testBit_and, hp, hb p (hZ12 p hp), Bool.eq_false_iff.mpr e]; rfl
      rw [h, Nat.zero_testBit] at this
      cases this
  · intro h
    refine Nat.eq_of_testBit_eq (fun p => ?_)
    rw [Nat.zero_testBit, Nat.testBit_and]
    by_cases e : Z.testBit p = true
    · rw [hb p (hZ12 p e), h p e, Bool.not_true, Bool.and_false]
    · rw [Bool.eq_false_iff.mpr e, Bool.false_and]
def askF (c : Nat → Int32) (f : Nat → Nat) (cnt : Nat) (p : Nat) (b : Int32) : Int32 := if c (48 + p) = -1 then b else if b = -1 then nI p else if jabs (2 * nI (f b.toNatClampNeg) - nI cnt) ≤ jabs (2 * nI (f p) - nI cnt) then b else nI p
section FITSM
variable {S kk M : Nat → Nat} {n ns A : Nat}
theorem m_asSeen {t : St} {Z : Nat} (hns : ns ≤ 4) (h12 : n ≤ 12) (hn : t 71 0 = nI n) (h33 : t 69 33 = nI ns) (hkk : ∀ i, i < ns → kk i < 4 ∧ t 102 i = nI (kk i) ∧ t 103 i = nI (M i) ∧ M i ≤ 9999) (hS : ∀ p k, p < n → k < 4 → t 72 (4 * p + k) = nI (S (4 * p + k))) (hSb : ∀ p k, p < n → k < 4 → S (4 * p + k) ≤ 11988) (hZ : Z < 4096) : fX12_isAsSeen (nI Z) t = some (kflag (allFrom (fun i => decide (WN S kk n i Z = M i)) 0 ns), t) := by
  have sum : ∀ kk2 i, i < ns → fX12_isAsSeen_L15 kk2 (nI Z) (nI i) FU 0 0 t = kk2 (nI (WN S kk n i Z)) t := fun kk2 i hi => by
    obtain ⟨k1, k2, k3, k4⟩ := hkk i hi
    have key : ∀ k j m, j + k = n → k < m → fX12_isAsSeen_L15 kk2 (nI Z) (nI i) m (nI (sumN (fun p => if Z.testBit p then S (4 * p + kk i) else 0) j)) (nI j) t = kk2 (nI (WN S kk n i Z)) t := by
      intro k
      induction k with
      | zero =>
        intro j m hj hm
        obtain ⟨m, rfl⟩ : ∃ q, m = q + 1 := ⟨m - 1, by omega⟩
        obtain rfl : j = n := by omega
        rw [fX12_isAsSeen_L15, if_pos inA_0, i00, hn, if_pos (Int32.le_refl _)]
        rfl
      | succ k ih =>
        intro j m hj hm
        obtain ⟨m, rfl⟩ : ∃ q, m = q + 1 := ⟨m - 1, by omega⟩
        have nxt := ih (j + 1) m (by omega) (by omega)
        rw [fX12_isAsSeen_L15, if_pos inA_0, i00, hn, if_neg (by rw [nI_leI (by omega) (by omega)]; omega), b_test Z hZ j (by omega), if_pos (inA_lt (by decide) (by omega)), nI_clamp (n := i) (by omega), k2, zlm_4, nI_add, if_pos (inA_lt (by decide) (by omega)), nI_clamp (by omega), hS j (kk i) (by omega) k1, nI_add, zra_1, Int32.add_zero]
        by_cases e : Z.testBit j = true
        · rw [if_pos e, if_pos rfl]
          rw [sumN, if_pos e] at nxt
          exact nxt
        · rw [if_neg e, if_neg (by decide)]
          rw [sumN, if_neg e, Nat.add_zero] at nxt
          exact nxt
    exact key n 0 FU (by omega) (by show n < 20000; omega)
  have key : ∀ k i m, i + k = ns → k < m → fX12_isAsSeen_L2 (nI Z) m (nI i) t = some (kflag (allFrom (fun i => decide (WN S kk n i Z = M i)) i k), t) := by
    intro k
    induction k with
    | zero =>
      intro i m hi hm
      obtain ⟨m, rfl⟩ : ∃ q, m = q + 1 := ⟨m - 1, by omega⟩
      obtain rfl : i = ns := by omega
      rw [fX12_isAsSeen_L2, h33, if_pos (Int32.le_refl _)]
      rfl
    | succ k ih =>
      intro i m hi hm
      obtain ⟨m, rfl⟩ : ∃ q, m = q + 1 := ⟨m - 1, by omega⟩
      obtain ⟨k1, k2, k3, k4⟩ := hkk i (by omega)
      have hW : WN S kk n i Z ≤ 12 * 11988 := Nat.le_trans (sumN_const (b := 11988) n (fun p hp => by
        split
        · exact hSb p (kk i) hp k1
        · omega)) (Nat.mul_le_mul_right _ h12)
      rw [fX12_isAsSeen_L2, h33, if_neg (by rw [nI_leI (by omega) (by omega)]; omega), sum _ i (by omega), if_pos (inA_lt (by decide) (by omega)), nI_clamp (by omega), k3, ite_iff (nI_eq (by omega) (by omega)), zra_1, allFrom]
      by_cases e : WN S kk n i Z = M i
      · rw [if_pos e, ih (i + 1) m (by omega) (by omega), decide_eq_true e, Bool.true_and]
      · rw [if_neg e, decide_eq_false e, Bool.false_and, kf_f]
  exact key ns 0 FU (by omega) (by show ns < 20000; omega)
theorem m_sets {u : St} {a1 : Int32} (kk2 : Int32 → Int32 → Int32 → St → Option (Int32 × St)) (hns : ns ≤ 4) (h12 : n ≤ 12) (hA : A < 4096) (hn : u 71 0 = nI n) (h17 : u 69 17 = nI A) (h33 : u 69 33 = nI ns) (hkk : ∀ i, i < ns → kk i < 4 ∧ u 102 i = nI (kk i) ∧ u 103 i = nI (M i) ∧ M i ≤ 9999) (hS : ∀ p k, p < n → k < 4 → u 72 (4 * p + k) = nI (S (4 * p + k))) (hSb : ∀ p k, p < n → k < 4 → S (4 * p + k) ≤ 11988) :
    ∀ k Z m (a : FA) (R : Nat → Int32), Z + k = 2 ^ n → k < m → a.1 ≤ Z → (a.1 = 0 ↔ a.2.1 = -1) → (∀ p, p < n → R p = nI (a.2.2.2 p)) → ∃ R', fX12_fits_L64 kk2 a1 m (nI a.1) a.2.1 (nI a.2.2.1) (nI Z) (rset u 104 R) = kk2 (nI (accN (stepF S kk M n ns A) k Z a).1) (accN (stepF S kk M n ns A) k Z a).2.1 (nI (accN (stepF S kk M n ns A) k Z a).2.2.1) (rset u 104 R') ∧ (∀ p, p < n → R' p = nI ((accN (stepF S kk M n ns A) k Z a).2.2.2 p)) := by
  have h2n : 2 ^ n ≤ 4096 := (Nat.pow_le_pow_right (by decide) h12 : 2 ^ n ≤ 2 ^ 12)
  intro k
  induction k with
  | zero =>
    intro Z m a R hZ hm ha hl hR
    obtain ⟨m, rfl⟩ : ∃ q, m = q + 1 := ⟨m - 1, by omega⟩
    obtain rfl : Z = 2 ^ n := by omega
    exact ⟨R, by rw [fX12_fits_L64, if_pos inA_0, i00, rset_off (by decide), hn, b_shl12 n (by omega), if_pos (Int32.le_refl _)]; rfl, hR⟩
  | succ k ih =>
    intro Z m a R hZ hm ha hl hR
    obtain ⟨m, rfl⟩ : ∃ q, m = q + 1 := ⟨m - 1, by omega⟩
    have hZl : Z < 4096 := by omega
    have hacc : accN (stepF S kk M n ns A) (k + 1) Z a = accN (stepF S kk M n ns A) k (Z + 1) (stepF S kk M n ns A Z a) := rfl
    obtain ⟨n1, -⟩ := b_not A hA
    have hseen : fX12_isAsSeen (nI Z) (rset u 104 R) = some (kflag (allFrom (fun i => decide (WN S kk n i Z = M i)) 0 ns), rset u 104 R) := m_asSeen hns h12 (by rw [rset_off (by decide)]; exact hn) (by rw [rset_off (by decide)]; exact h33) (fun i hi => by rw [rset_off (by decide), rset_off (by decide)]; exact hkk i hi) (fun p k hp hk => by rw [rset_off (by decide)]; exact hS p k hp hk) hSb hZl
    have one : fX12_fits_L64 kk2 a1 (m + 1) (nI a.1) a.2.1 (nI a.2.2.1) (nI Z) (rset u 104 R) = if fitB S kk M n ns A Z then fX12_fits_J115 kk2 (fX12_fits_L64 kk2 a1 m) a1 (nI (a.1 + 1)) (nI a.2.2.1) (nI Z) (if a.1 = 0 then nI Z else a.2.1) (rset u 104 R) else fX12_fits_L64 kk2 a1 m (nI a.1) a.2.1 (nI a.2.2.1) (nI (Z + 1)) (rset u 104 R) := by
      rw [fX12_fits_L64, if_pos inA_0, i00, rset_off (by decide), hn, b_shl12 n (by omega), if_neg (by rw [nI_leI (by omega) (by omega)]; omega), rset_off (by decide), h17, n1, b_and, ite_iff (sub_zero_iff hZl hA), hseen, bd_some, kf_if, zra_1, zra_1, fitB]
      by_cases e : Z &&& A = Z
      · rw [if_pos e, decide_eq_true e, Bool.true_and]
        cases allFrom (fun i => decide (WN S kk n i Z = M i)) 0 ns
        · rw [if_neg (by decide), if_neg (by decide)]
        · rw [if_pos rfl, if_pos rfl]
          by_cases e0 : a.1 = 0
          · rw [if_pos (hl.mp e0), if_pos e0]
          · rw [if_neg (fun h => e0 (hl.mpr h)), if_neg e0]
      · rw [if_neg e, decide_eq_false e, Bool.false_and, if_neg (by decide)]
    rw [one, hacc, stepF]
    by_cases ef : fitB S kk M n ns A Z = true
    · rw [if_pos ef, if_pos ef]
      have hl2 : (updF Z a).1 = 0 ↔ (updF Z a).2.1 = -1 := by
        show a.1 + 1 = 0 ↔ (if a.1 = 0 then nI Z else a.2.1) = -1
        constructor
        · intro h; omega
        · intro h
          by_cases e0 : a.1 = 0
          · rw [if_pos e0] at h; exact absurd h (neg1 (by omega))
          · rw [if_neg e0] at h; exact absurd (hl.mpr h) e0
      have add : ∀ kk3 k' i m' (R : Nat → Int32), i + k' = n → k' < m' → (∀ p, p < i → R p = nI ((updF Z a).2.2.2 p)) → (∀ p, i ≤ p → p < n → R p = nI (a.2.2.2 p)) → ∃ R', fX12_fits_L126 kk3 a1 (nI (a.1 + 1)) (if a.1 = 0 then nI Z else a.2.1) (nI a.2.2.1 &&& nI Z) (nI Z) m' (nI i) (rset u 104 R) = kk3 (rset u 104 R') ∧ ∀ p, p < n → R' p = nI ((updF Z a).2.2.2 p) := by
        intro kk3 k'
        induction k' with
        | zero =>
          intro i m' R hi hm' h1 h2
          obtain ⟨m', rfl⟩ : ∃ q, m' = q + 1 := ⟨m' - 1, by omega⟩
          obtain rfl : i = n := by omega
          exact ⟨R, by rw [fX12_fits_L126, if_pos inA_0, i00, rset_off (by decide), hn, if_pos (Int32.le_refl _)], h1⟩
        | succ k' ih' =>
          intro i m' R hi hm' h1 h2
          obtain ⟨m', rfl⟩ : ∃ q, m' = q + 1 := ⟨m' - 1, by omega⟩
          have hbit : (if Z.testBit i = true then (1 : Int32) else 0) = nI (if Z.testBit i = true then 1 else 0) := by
            by_cases e : Z.testBit i = true
            · rw [if_pos e, if_pos e]; rfl
            · rw [if_neg e, if_neg e]; rfl
          rw [fX12_fits_L126, if_pos inA_0, i00, rset_off (by decide), hn, if_neg (by rw [nI_leI (by omega) (by omega)]; omega), if_pos (inA_lt (by decide) (by omega)), if_pos (inA_lt (by decide) (by omega)), nI_clamp (by omega), rset_hit, h2 i (by omega) (by omega), b_test Z hZl i (by omega), hbit, nI_add, wr_rset, zra_1]
          refine ih' (i + 1) m' _ (by omega) (by omega) (fun p hp => ?_) (fun p q1 q2 => by rw [ur_off (by omega)]; exact h2 p (by omega) q2)
          by_cases ep : p = i
          · subst ep; rw [ur_hit]; rfl
          · rw [ur_off ep]; exact h1 p (by omega)
      obtain ⟨R1, b1, b2⟩ := add (fun s_7 => fX12_fits_L64 kk2 a1 m (nI (a.1 + 1)) (if a.1 = 0 then nI Z else a.2.1) (nI a.2.2.1 &&& nI Z) (nI Z + 1) s_7) n 0 FU R (by omega) (by show n < 20000; omega) (fun p hp => absurd hp (by omega)) (fun p _ hp => hR p hp)
      have b1' : fX12_fits_J115 kk2 (fX12_fits_L64 kk2 a1 m) a1 (nI (a.1 + 1)) (nI a.2.2.1) (nI Z) (if a.1 = 0 then nI Z else a.2.1) (rset u 104 R) = fX12_fits_L64 kk2 a1 m (nI (a.1 + 1)) (if a.1 = 0 then nI Z else a.2.1) (nI (a.2.2.1 &&& Z)) (nI (Z + 1)) (rset u 104 R1) := by
        rw [fX12_fits_J115]
        refine Eq.trans b1 ?_
        rw [b_and, zra_1]
      rw [b1']
      exact ih (Z + 1) m (updF Z a) R1 (by omega) (by omega) (by show a.1 + 1 ≤ Z + 1; omega) hl2 b2
    · rw [if_neg ef, if_neg ef]
      exact ih (Z + 1) m a R (by omega) (by omega) (by omega) hl hR
end FITSM
theorem good_fits (x : Int32) : Good (fX11_fits x) (fX12_fits x) c12 := by
  intro s hs
  show GoodAt _ _ _ _
  obtain ⟨n, nw, nf, r1, ⟨hw, hwi, -, hseen, -⟩, -⟩ := id hs
  obtain ⟨⟨hn, hm, h12⟩, -⟩ := id r1
  obtain ⟨A, hA, hAn, hA2, hA3, -⟩ := sw_bits h12 hw
  obtain ⟨ns, hns, n1, n2, n3⟩ := hseen
  have z0 : (0 : Int32).toInt = 0 := rfl
  have z3 : (3 : Int32).toInt = 3 := rfl
  by_cases hx : 0 ≤ x.toInt ∧ x.toInt ≤ 3
  · have hx1 : ¬ x < 0 := by rw [i_lt, z0]; omega
    have hx2 : x ≤ 3 := by rw [i_le, z3]; omega
    obtain ⟨S, s1', s2'⟩ := hwi.2.2.1
    have hSb : ∀ p k, p < n → k < 4 → S (4 * p + k) ≤ 11988 := fun p k hp hk => Nat.le_trans (sumN_ge (f := fun p => S (4 * p + k)) n hp) (s2' k hk)
    obtain ⟨kk, hkd⟩ : ∃ kk : Nat → Nat, kk = fun i => (s 36 i).toNatClampNeg := ⟨_, rfl⟩
    obtain ⟨M, hMd⟩ : ∃ M : Nat → Nat, M = fun i => (s 37 i).toNatClampNeg := ⟨_, rfl⟩
    have hkk : ∀ i, i < ns → kk i < 4 ∧ s 36 i = nI (kk i) ∧ s 37 i = nI (M i) ∧ M i ≤ 9999 := fun i hi => by
      obtain ⟨-, -, ⟨k, k1, k2⟩, v, v1, v2⟩ := n3 i hi
      have e1 : kk i = k := by rw [hkd]; show (s 36 i).toNatClampNeg = k; rw [k2, nI_clamp (by omega)]
      have e2 : M i = v := by rw [hMd]; show (s 37 i).toNatClampNeg = v; rw [v2, nI_clamp (by omega)]
      rw [e1, e2]
      exact ⟨k1, k2, v2, v1⟩
    have hAb : ∀ p, A.testBit p = true → p < n := fun p hp => by
      rcases Nat.lt_or_ge p n with z | z
      · exact z
      · rw [Nat.testBit_lt_two_pow (Nat.lt_of_lt_of_le hAn (Nat.pow_le_pow_right (by decide) z))] at hp
        cases hp
    have hal : ∀ p, p < 12 → (A.testBit p = true ↔ ¬ s 34 (48 + p) = -1) := fun p hp => by
      rcases Nat.lt_or_ge p n with z | z
      · exact hA3 p z
      · constructor
        · intro h; have := hAb p h; omega
        · intro h; exact absurd (hw.2.2.2.2.2.2 p z hp) h
    -- the class
    obtain ⟨σ0, hσ0⟩ : ∃ σ0, σ0 = wr (wr (wr s 65 2 0) 65 3 (-1)) 65 4 4095 := ⟨_, rfl⟩
    have hfill := fill_spec (r := 67) (lo := 0) (hi := 12) (v := 0) (s := σ0) (by decide) (by decide) (by decide)
    obtain ⟨σ1, hσ1⟩ : ∃ σ1 : St, σ1 = fun (a b : Nat) => if a = 67 ∧ (0 : Int32).toInt ≤ (b : Int) ∧ (b : Int) < (12 : Int32).toInt then 0 else σ0 a b := ⟨_, rfl⟩
    rw [← hσ1] at hfill
    obtain ⟨σ2, hσ2⟩ : ∃ σ2, σ2 = ovl σ1 66 0 4 (σ1 37) := ⟨_, rfl⟩
    have σ1k : ∀ x, x ≠ 65 → x ≠ 67 → σ1 x = s x := fun x q1 q2 => by
      funext b
      rw [hσ1]
      show (if x = 67 ∧ _ then _ else _) = _
      rw [if_neg (fun h => q2 h.1), hσ0, wr_slot q1, wr_slot q1, wr_slot q1]
    have σ165 : σ1 65 = σ0 65 := by
      funext b
      rw [hσ1]
      show (if 65 = 67 ∧ _ then _ else _) = _
      rw [if_neg (fun h => absurd h.1 (by decide))]
    have σ167 : ∀ p, p < 12 → σ1 67 p = 0 := fun p hp => by
      rw [hσ1]
      show (if 67 = 67 ∧ (0 : Int32).toInt ≤ (p : Int) ∧ (p : Int) < (12 : Int32).toInt then _ else _) = _
      have : (12 : Int32).toInt = 12 := rfl
      rw [if_pos ⟨rfl, by rw [z0]; omega, by rw [this]; omega⟩]
    have σ2k : ∀ x, x ≠ 65 → x ≠ 66 → x ≠ 67 → σ2 x = s x := fun x q1 q2 q3 => by rw [hσ2, ovl_slot q2, σ1k x q1 q3]
    obtain ⟨ac, hac⟩ : ∃ ac : FA, ac = (0, -1, 4095, fun _ => 0) := ⟨_, rfl⟩
    have hF0 : FC σ2 ac := by
      rw [hac]
      refine ⟨?_, ?_, ?_, fun p hp => ?_⟩
      · rw [hσ2, ovl_slot (by decide), σ165, hσ0, wr_place (by decide), wr_place (by decide), wr_hit]; rfl
      · rw [hσ2, ovl_slot (by decide), σ165, hσ0, wr_place (by decide), wr_hit]
      · rw [hσ2, ovl_slot (by decide), σ165, hσ0, wr_hit]; rfl
      · rw [hσ2, ovl_slot (by decide), σ167 p hp]; rfl
    have hW0 : ∀ i, WN S kk n i 0 = 0 := fun i => (sumN_eq0 n).mpr (fun p _ => by rw [Nat.zero_testBit, if_neg (by decide)])
    obtain ⟨σF, d1, d2, -, d4⟩ := c_descend (S := S) (kk := kk) (M := M) (n := n) (ns := ns) (A := A) hns h12 n1 (fun i hi => ⟨(hkk i hi).1, (hkk i hi).2.1⟩) s1' hSb hal hAb (fun i hi => (hkk i hi).2.2.2) 12 15 0 σ2 ac (by omega) (by omega) (by decide) (by decide) (Nat.zero_and A) σ2k (fun i hi => by
      rw [hW0 i, Nat.sub_zero, hσ2, ovl_in (by omega) (by omega), Nat.sub_zero, σ1k 37 (by decide) (by decide)]
      exact ⟨by omega, (hkk i hi).2.2.1⟩) (by rw [hac]; exact Nat.le_refl _) hF0
    have fsearch : fX3_search 32 s = some (0, σF) := by
      rw [fX3_search, ← hσ0, hfill, bd_some]
      have : fX11_copyRow (32 + 5) 66 σ1 = some (0, σ2) := by rw [hσ2]; exact c_copyRow (r0 := 37) (r1 := 66) (by decide) (by decide) (by decide)
      rw [this, bd_some]
      show bd (fX3_descend 32 15 (nI 12 - 1) (nI 0) σ2) _ = _
      rw [d1, bd_some]
    -- both counts
    obtain ⟨C, hC⟩ : ∃ C, C = accN (stepF S kk M n ns A) (2 ^ 12) 0 ac := ⟨_, rfl⟩
    rw [← hC] at d2
    obtain ⟨am, ham⟩ : ∃ am : FA, am = (0, -1, A, fun _ => 0) := ⟨_, rfl⟩
    obtain ⟨D, hD⟩ : ∃ D, D = accN (stepF S kk M n ns A) (2 ^ n) 0 am := ⟨_, rfl⟩
    have hCn : C = accN (stepF S kk M n ns A) (2 ^ n) 0 ac := by
      have h2n : 2 ^ n ≤ 2 ^ 12 := Nat.pow_le_pow_right (by decide) h12
      rw [hC, show 2 ^ 12 = 2 ^ n + (2 ^ 12 - 2 ^ n) by omega, accN_add]
      refine accN_id _ _ _ (fun j b h1 h2 => ?_)
      rw [stepF, fitB]
      have : ¬ (j &&& A = j) := fun h => by
        have h3 : j ≤ A := by
          have : j &&& A ≤ A := Nat.and_le_right
          omega
        omega
      rw [decide_eq_false this, Bool.false_and, if_neg (by decide)]
    have hrel : C.1 = D.1 ∧ C.2.1 = D.2.1 ∧ C.2.2.2 = D.2.2.2 ∧ C.2.2.1 &&& A = D.2.2.1 &&& A ∧ (C.1 ≠ 0 → C.2.2.1 = D.2.2.1) := by
      rw [hCn, hD]
      have := accN_rel (f := stepF S kk M n ns A) (g := stepF S kk M n ns A) (fun _ (a b : FA) => a.1 = b.1 ∧ a.2.1 = b.2.1 ∧ a.2.2.2 = b.2.2.2 ∧ a.2.2.1 &&& A = b.2.2.1 &&& A ∧ (a.1 ≠ 0 → a.2.2.1 = b.2.2.1)) (2 ^ n) 0 ac am (by
        rw [hac, ham]
        refine ⟨rfl, rfl, rfl, ?_, fun h => absurd rfl h⟩
        show 4095 &&& A = A &&& A
        rw [Nat.and_self, Nat.and_comm]
        refine sub_iff.mpr (fun p hp => ?_)
        have h4 : ∀ p : Nat, p < 12 → Nat.testBit 4095 p = true := by decide
        exact h4 p (by have := hAb p hp; omega)) (fun j a b _ _ h => by
        obtain ⟨g1, g2, g3, g4, g5⟩ := h
        show (stepF S kk M n ns A j a).1 = _ ∧ _
        rw [stepF, stepF]
        by_cases e : fitB S kk M n ns A j = true
        · rw [if_pos e, if_pos e]
          rw [fitB, Bool.and_eq_true, decide_eq_true_eq] at e
          have hj := e.1
          have hcom : a.2.2.1 &&& j = b.2.2.1 &&& j := by
            rw [← hj, Nat.and_comm j A, ← Nat.and_assoc, ← Nat.and_assoc, g4]
          refine ⟨by show a.1 + 1 = b.1 + 1; rw [g1], by show (if a.1 = 0 then nI j else a.2.1) = (if b.1 = 0 then nI j else b.2.1); rw [g1, g2], by show (fun p => a.2.2.2 p + _) = (fun p => b.2.2.2 p + _); rw [g3], by show a.2.2.1 &&& j &&& A = b.2.2.1 &&& j &&& A; rw [hcom], fun _ => hcom⟩
        · rw [if_neg e, if_neg e]
          exact ⟨g1, g2, g3, g4, g5⟩)
      exact this
    obtain ⟨f1, f2, f3, f4⟩ := d2
    have hCb : C.1 ≤ 4096 := by
      have h := stepF_cnt (S := S) (kk := kk) (M := M) (n := n) (ns := ns) (A := A) (2 ^ 12) 0 ac
      have hz : ac.1 = 0 := by rw [hac]
      rw [← hC, hz] at h
      exact Nat.le_trans h (by decide)
    have hask12 : ∀ b0, accN (askF (s 34) C.2.2.2 C.1) 12 0 b0 = accN (askF (s 34) C.2.2.2 C.1) n 0 b0 := fun b0 => by
      rw [show 12 = n + (12 - n) by omega, accN_add]
      refine accN_id _ _ _ (fun j b h1 h2 => ?_)
      rw [askF, if_pos (hw.2.2.2.2.2.2 j (by omega) (by omega))]
    have cask : ∀ k i m v2 v3, i + k = 12 → k < m → (v2 = -1 ∨ ∃ b, b < 12 ∧ v2 = nI b ∧ v3 = jabs (2 * nI (C.2.2.2 b) - nI C.1)) → fX3_askNext_L7 33 m v2 v3 (nI i) σF = some (accN (askF (s 34) C.2.2.2 C.1) k i v2, σF) := by
      intro k
      induction k with
      | zero =>
        intro i m v2 v3 hi hm' _
        obtain ⟨m, rfl⟩ : ∃ q, m = q + 1 := ⟨m - 1, by omega⟩
        obtain rfl : i = 12 := by omega
        rw [fX3_askNext_L7, if_pos (by decide)]
        rfl
      | succ k ih =>
        intro i m v2 v3 hi hm' hv
        obtain ⟨m, rfl⟩ : ∃ q, m = q + 1 := ⟨m - 1, by omega⟩
        rw [fX3_askNext_L7, if_neg (by rw [zll_12 _ (by omega)]; omega), at_nI (by decide) (by show i < 12; omega), bd_some, w_alive (w := 33) rfl (by omega), bd_some, f4 i (by omega), f1, zra_1]
        show (if (if σF 34 (48 + i) = -1 then (0 : Int32) else 1) = 0 then _ else _) = some (accN (askF (s 34) C.2.2.2 C.1) k (i + 1) (askF (s 34) C.2.2.2 C.1 i v2), σF)
        rw [d4 34 (by decide) (by decide) (by decide), askF]
        by_cases ea : s 34 (48 + i) = -1
        · rw [if_pos ea, if_pos rfl, if_pos ea]
          exact ih (i + 1) m v2 v3 (by omega) (by omega) hv
        · rw [if_neg ea, if_neg (by decide), if_neg ea]
          by_cases e1 : v2 = -1
          · rw [if_pos e1, if_pos e1]
            exact ih (i + 1) m (nI i) _ (by omega) (by omega) (Or.inr ⟨i, by omega, rfl, rfl⟩)
          · rw [if_neg e1, if_neg e1]
            rcases hv with h | ⟨b, hb, h1, h2⟩
            · exact absurd h e1
            · subst h1
              subst h2
              rw [nI_clamp (by omega)]
              by_cases e2 : jabs (2 * nI (C.2.2.2 b) - nI C.1) ≤ jabs (2 * nI (C.2.2.2 i) - nI C.1)
              · rw [if_pos e2, if_pos e2]
                exact ih (i + 1) m _ _ (by omega) (by omega) (Or.inr ⟨b, hb, rfl, rfl⟩)
              · rw [if_neg e2, if_neg e2]
                exact ih (i + 1) m _ _ (by omega) (by omega) (Or.inr ⟨i, by omega, rfl, rfl⟩)
    obtain ⟨y, hy⟩ : ∃ y, y = if x = 0 then nI C.1 else if x = 1 then C.2.1 else if x = 2 then (if C.1 = 0 then 0 else nI C.2.2.1) else accN (askF (s 34) C.2.2.2 C.1) n 0 (-1) := ⟨_, rfl⟩
    refine gat_scr (s1 := σF) (a := y) hs ?_ (Keep.off [65, 66, 67] [] (by decide) (by decide) (fun j _ hj => d4 j (fun e => hj (by rw [e]; decide)) (fun e => hj (by rw [e]; decide)) (fun e => hj (by rw [e]; decide))) (fun j _ => by rw [d4 69 (by decide) (by decide) (by decide)])) (fun j hj => d4 j (by omega) (by omega) (by omega)) (fun u s3 h => ?_)
    · rw [fX11_fits, if_neg hx1, if_pos hx2, fsearch, bd_some, hy]
      by_cases e0 : x = 0
      · rw [if_pos e0, if_pos e0, f1]
      · rw [if_neg e0, if_neg e0]
        by_cases e1 : x = 1
        · rw [if_pos e1, if_pos e1, f2]
        · rw [if_neg e1, if_neg e1]
          by_cases e2 : x = 2
          · rw [if_pos e2, if_pos e2, f1, ite_iff (zrl_0 _ (by omega)), f3]
            by_cases e3 : C.1 = 0
            · rw [if_pos (by omega), if_pos e3]
            · rw [if_neg (by omega), if_neg e3]
          · rw [if_neg e2, if_neg e2]
            have : fX3_askNext 33 σF = some (accN (askF (s 34) C.2.2.2 C.1) 12 0 (-1), σF) := cask 12 0 FU (-1) 0 rfl (by decide) (Or.inl rfl)
            rw [this, bd_some, hask12]
    · have g1 : u 71 0 = nI n := by rw [h.2.1 71 (by decide) (by decide)]; exact hm
      have u17 : u 69 17 = nI A := by rw [h.2.2.1 17 (by decide)]; exact hA2
      have u33 : u 69 33 = nI ns := by rw [h.2.2.1 33 (by decide)]; exact n2
      have u102 : u 102 = s 102 := h.2.1 102 (by decide) (by decide)
      have u103 : u 103 = s 103 := h.2.1 103 (by decide) (by decide)
      have u72 : ∀ p k, p < n → k < 4 → u 72 (4 * p + k) = nI (S (4 * p + k)) := fun p k hp hk => by rw [← vr_sky (s := u) (by omega) hk, h.2.2.2, hw.1 p k hp hk, s1' p k hp hk]
      have zero : ∀ kk3 (w : Int32) k i m (R : Nat → Int32), i + k = n → k < m → (∀ p, p < i → R p = 0) → ∃ R', fX12_fits_L36 kk3 x (0 : Int32) (-1 : Int32) w m (nI i) (rset u 104 R) = kk3 (rset u 104 R') ∧ ∀ p, p < n → R' p = 0 := by
        intro kk3 w k
        induction k with
        | zero =>
          intro i m R hi hm' h1
          obtain ⟨m, rfl⟩ : ∃ q, m = q + 1 := ⟨m - 1, by omega⟩
          obtain rfl : i = n := by omega
          exact ⟨R, by rw [fX12_fits_L36, if_pos inA_0, i00, rset_off (by decide), g1, if_pos (Int32.le_refl _)], h1⟩
        | succ k ih =>
          intro i m R hi hm' h1
          obtain ⟨m, rfl⟩ : ∃ q, m = q + 1 := ⟨m - 1, by omega⟩
          rw [fX12_fits_L36, if_pos inA_0, i00, rset_off (by decide), g1, if_neg (by rw [nI_leI (by omega) (by omega)]; omega), if_pos (inA_lt (by decide) (by omega)), nI_clamp (by omega), wr_rset, zra_1]
          refine ih (i + 1) m _ (by omega) (by omega) (fun p hp => ?_)
          by_cases e : p = i
          · subst e; rw [ur_hit]
          · rw [ur_off e]; exact h1 p (by omega)
      obtain ⟨R0, q1, q2⟩ := zero (fun s_4 => fX12_fits_L64 (fun v2_8 v3_8 v4_8 s_8 => if (3 : Int32) ≤ x then (fX12_fits_L205 v2_8 FU (-1 : Int32) (0 : Int32) s_8) else (if x = 0 then (some (v2_8, s_8)) else (if x = (1 : Int32) then (some (v3_8, s_8)) else (if v2_8 = 0 then (some ((0 : Int32), s_8)) else (some (v4_8, s_8)))))) x FU (0 : Int32) (-1 : Int32) (nI A) (0 : Int32) s_4) (nI A) n 0 FU (u 104) (by omega) (by show n < 20000; omega) (fun p hp => absurd hp (by omega))
      rw [rset_self] at q1
      obtain ⟨R1, q3, q4⟩ := m_sets (S := S) (kk := kk) (M := M) (n := n) (ns := ns) (A := A) (u := u) (a1 := x) (fun v2_8 v3_8 v4_8 s_8 => if (3 : Int32) ≤ x then (fX12_fits_L205 v2_8 FU (-1 : Int32) (0 : Int32) s_8) else (if x = 0 then (some (v2_8, s_8)) else (if x = (1 : Int32) then (some (v3_8, s_8)) else (if v2_8 = 0 then (some ((0 : Int32), s_8)) else (some (v4_8, s_8)))))) hns h12 hA g1 u17 u33 (fun i hi => by
          obtain ⟨a1, a2, a3, a4⟩ := hkk i hi
          rw [u102, u103, (n3 i hi).1, (n3 i hi).2.1]
          exact ⟨a1, a2, a3, a4⟩) u72 hSb (2 ^ n) 0 FU am R0 (by omega) (by
          have : 2 ^ n ≤ 4096 := (Nat.pow_le_pow_right (by decide) h12 : 2 ^ n ≤ 2 ^ 12)
          show 2 ^ n < 20000; omega) (by rw [ham]; exact Nat.le_refl _) (by rw [ham]; exact ⟨fun _ => rfl, fun _ => rfl⟩) (fun p hp => by rw [q2 p hp, ham]; rfl)
      rw [← hD] at q3 q4
      obtain ⟨r1', r2', r3', r4', r5'⟩ := hrel
      have mask : ∀ k i m v5, i + k = n → k < m → (v5 = -1 ∨ ∃ b, b < n ∧ v5 = nI b) → fX12_fits_L205 (nI C.1) m v5 (nI i) (rset u 104 R1) = some (accN (askF (s 34) C.2.2.2 C.1) k i v5, rset u 104 R1) := by
        intro k
        induction k with
        | zero =>
          intro i m v5 hi hm' _
          obtain ⟨m, rfl⟩ : ∃ q, m = q + 1 := ⟨m - 1, by omega⟩
          obtain rfl : i = n := by omega
          rw [fX12_fits_L205, if_pos inA_0, i00, rset_off (by decide), g1, if_pos (Int32.le_refl _)]
          rfl
        | succ k ih =>
          intro i m v5 hi hm' hv
          obtain ⟨m, rfl⟩ : ∃ q, m = q + 1 := ⟨m - 1, by omega⟩
          have hac2 : accN (askF (s 34) C.2.2.2 C.1) (k + 1) i v5 = accN (askF (s 34) C.2.2.2 C.1) k (i + 1) (askF (s 34) C.2.2.2 C.1 i v5) := rfl
          rw [fX12_fits_L205, if_pos inA_0, i00, rset_off (by decide), g1, if_neg (by rw [nI_leI (by omega) (by omega)]; omega), m_alive_c (c := s 34) h12 hA (by rw [rset_off (by decide)]; exact u17) hA3 (by omega), bd_some, zra_1, hac2, askF]
          by_cases ea : s 34 (48 + i) = -1
          · rw [if_pos ea, if_pos rfl, if_pos ea]
            exact ih (i + 1) m v5 (by omega) (by omega) hv
          · rw [if_neg ea, if_neg (by decide), if_neg ea]
            by_cases e1 : v5 = -1
            · rw [if_pos e1, if_pos e1]
              exact ih (i + 1) m (nI i) (by omega) (by omega) (Or.inr ⟨i, by omega, rfl⟩)
            · rw [if_neg e1, if_neg e1]
              rcases hv with h | ⟨b, hb, h1⟩
              · exact absurd h e1
              · subst h1
                rw [if_pos (inA_lt (by decide) (by omega)), if_pos (inA_lt (by decide) (by omega)), nI_clamp (n := i) (by omega), nI_clamp (n := b) (by omega), rset_hit, q4 i (by omega), q4 b hb, ← r3']
                by_cases e2 : jabs (2 * nI (C.2.2.2 b) - nI C.1) ≤ jabs (2 * nI (C.2.2.2 i) - nI C.1)
                · rw [if_pos e2, if_pos e2]
                  exact ih (i + 1) m _ (by omega) (by omega) (Or.inr ⟨b, hb, rfl⟩)
                · rw [if_neg e2, if_neg e2]
                  exact ih (i + 1) m _ (by omega) (by omega) (Or.inr ⟨i, by omega, rfl⟩)
      refine ⟨rset u 104 R1, ?_, Keep.off [104] [] (by decide) (by decide) (fun j _ hj => rset_off (fun e => hj (by rw [e]; decide))) (fun j _ => by rw [rset_off (by decide)]), rset_off (by decide), by rw [rset_off (by decide)]⟩
      rw [fX12_fits, h.1, l64_0, l64_3, m_isIn, bd_some, z0, z3, if_pos hx, if_neg (by decide), u17]
      refine Eq.trans q1 ?_
      rw [ham] at q3
      refine Eq.trans q3 ?_
      rw [← r1', ← r2', hy]
      by_cases e0 : x = 0
      · subst e0
        rw [if_neg (by decide), if_pos rfl, if_pos rfl]
      by_cases e1 : x = 1
      · subst e1
        rw [if_neg (by decide), if_neg (by decide), if_pos rfl, if_neg (by decide), if_pos rfl]
      by_cases e2 : x = 2
      · subst e2
        by_cases e3 : C.1 = 0
        · rw [if_neg (by decide), if_neg (by decide), if_neg (by decide), if_pos ((zle_0 _ (by omega)).2 e3), if_neg (by decide), if_neg (by decide), if_pos rfl, if_pos e3]
        · rw [if_neg (by decide), if_neg (by decide), if_neg (by decide), if_neg (fun e => e3 ((zle_0 _ (by omega)).1 e)), if_neg (by decide), if_neg (by decide), if_pos rfl, if_neg e3, ← r5' e3]
      have hx3 : (3 : Int32) ≤ x := by
        rw [i_le, z3]
        have a0 : x.toInt ≠ 0 := fun e => e0 (i_eq.mpr e)
        have a1 : x.toInt ≠ 1 := fun e => e1 (i_eq.mpr e)
        have a2 : x.toInt ≠ 2 := fun e => e2 (i_eq.mpr e)
        omega
      rw [if_pos hx3, if_neg e0, if_neg e1, if_neg e2]
      exact mask n 0 FU (-1) (by omega) (by show n < 20000; omega) (Or.inl rfl)
  · refine gat_thr (x := 0) hs (Or.inl rfl) (by decide) ?_ (fun u s3 h => ?_)
    · rw [fX11_fits]
      by_cases hx1 : x < 0
      · rw [if_pos hx1]
      · rw [if_neg hx1, if_neg (by rw [i_le, z3]; rw [i_lt, z0] at hx1; omega)]
    · rw [fX12_fits, h.1, l64_0, l64_3, m_isIn, bd_some, z0, z3, if_neg hx, if_pos rfl, m_fail]
      rfl
