/-! ===== arrange, both sides ===== -/
theorem or_nI0 {B : Nat} (hB : B < 4096) : nI B ||| (0 : Int32) = nI B := by
  have := b_or B 0 hB (by decide)
  rw [Nat.or_zero] at this
  exact this
theorem c_bitsL {s : St} {n A : Nat} (kk : St → Option (Int32 × St)) (h12 : n ≤ 12) (hA : A < 4096) (hAn : A < 2 ^ n) (hn : s 21 0 = nI n) (hA3 : ∀ p, p < n → (A.testBit p = true ↔ ¬ s 34 (48 + p) = -1)) : ∀ k i m B, i + k = n → k < m → B < 4096 → (∀ z, B.testBit z = true ↔ A.testBit z = true ∧ z < i) →
    fX0_search_L7 kk 21 33 m (nI i) (wr s 57 2 (nI B)) = kk (wr s 57 2 (nI A)) := by
  intro k
  induction k with
  | zero =>
    intro i m B hi hm hB hb
    obtain ⟨m, rfl⟩ : ∃ q, m = q + 1 := ⟨m - 1, by omega⟩
    obtain rfl : i = n := by omega
    have e : B = A := Nat.eq_of_testBit_eq (fun z => by
      rw [Bool.eq_iff_iff, hb z]
      constructor
      · exact fun h => h.1
      · intro h
        refine ⟨h, ?_⟩
        refine Nat.lt_of_not_le (fun q => ?_)
        rw [Nat.testBit_lt_two_pow (Nat.lt_of_lt_of_le hAn (Nat.pow_le_pow_right (by decide) q))] at h
        cases h)
    rw [fX0_search_L7, wr_slot (by decide), hn, if_pos (Int32.le_refl _), e]
  | succ k ih =>
    intro i m B hi hm hB hb
    obtain ⟨m, rfl⟩ : ∃ q, m = q + 1 := ⟨m - 1, by omega⟩
    rw [fX0_search_L7, wr_slot (by decide), hn, if_neg (by rw [nI_leI (by omega) (by omega)]; omega), w_alive (w := 33) rfl (by omega), bd_some]
    show (if (if (wr s 57 2 (nI B)) 34 (48 + i) = -1 then (0 : Int32) else 1) = 0 then _ else _) = _
    rw [wr_slot (by decide)]
    by_cases e : s 34 (48 + i) = -1
    · rw [if_pos e, if_pos rfl]
      dsimp only
      rw [wr_hit, or_nI0 hB, wr_wr, zra_1]
      refine ih (i + 1) m B (by omega) (by omega) hB (fun z => ?_)
      rw [hb z]
      constructor
      · exact fun h => ⟨h.1, by omega⟩
      · intro h
        refine ⟨h.1, ?_⟩
        by_cases ez : z = i
        · subst ez
          exact absurd e ((hA3 z (by omega)).mp h.1)
        · omega
    · rw [if_neg e, if_neg (by decide)]
      dsimp only
      rw [wr_hit, b_shl i (by omega), b_or B _ hB (pow12 i (by omega)), wr_wr, zra_1]
      refine ih (i + 1) m _ (by omega) (by omega) (Nat.or_lt_two_pow (n := 12) hB (pow12 i (by omega))) (fun z => ?_)
      rw [bit_or2, hb z]
      constructor
      · intro h
        rcases h with h | h
        · exact ⟨h.1, by omega⟩
        · subst h
          exact ⟨(hA3 z (by omega)).mpr e, by omega⟩
      · intro h
        by_cases ez : z = i
        · exact Or.inr ez
        · exact Or.inl ⟨h.1, by omega⟩
theorem c_heaps {s : St} {nf : Nat} {pl : Nat → Int32} (kk : St → Option (Int32 × St)) (h6 : nf ≤ 6) (hf : s 21 6 = nI nf) (h26 : s 26 = pl) (hpl : ∀ f, f < nf → ∃ q, q < 10 ∧ pl f = nI q) : ∀ k i m σ, i + k = nf → k < m → (∀ z, z ≠ 60 → z ≠ 61 → σ z = s z) → (∀ f, f < i → σ 60 f = 10 * s 34 (84 + (pl f).toNatClampNeg) ∧ σ 61 f = 0) →
    ∃ σ', fX0_search_L47 kk 21 33 m (nI i) σ = kk σ' ∧ (∀ z, z ≠ 60 → z ≠ 61 → σ' z = s z) ∧ ∀ f, f < nf → σ' 60 f = 10 * s 34 (84 + (pl f).toNatClampNeg) ∧ σ' 61 f = 0 := by
  intro k
  induction k with
  | zero =>
    intro i m σ hi hm h1 h2
    obtain ⟨m, rfl⟩ : ∃ q, m = q + 1 := ⟨m - 1, by omega⟩
    obtain rfl : i = nf := by omega
    exact ⟨σ, by rw [fX0_search_L47, h1 21 (by decide) (by decide), hf, if_pos (Int32.le_refl _)], h1, h2⟩
  | succ k ih =>
    intro i m σ hi hm h1 h2
    obtain ⟨m, rfl⟩ : ∃ q, m = q + 1 := ⟨m - 1, by omega⟩
    obtain ⟨q, hq, hpq⟩ := hpl i (by omega)
    have hc : fX0_search_L47 kk 21 33 (m + 1) (nI i) σ = fX0_search_L47 kk 21 33 m (nI (i + 1)) (wr (wr σ 60 i (10 * s 34 (84 + q))) 61 i 0) := by
      rw [fX0_search_L47, h1 21 (by decide) (by decide), hf, if_neg (by rw [nI_leI (by omega) (by omega)]; omega), at_nI (r := 26) (by decide) (by show i < 6; omega), bd_some, h1 26 (by decide) (by decide), h26, hpq, w_noons (w := 33) rfl hq, bd_some, put_nI (by decide) (by show i < 6; omega), bd_some, put_nI (by decide) (by show i < 6; omega), bd_some, zra_1, h1 34 (by decide) (by decide)]
    rw [hc]
    refine ih (i + 1) m _ (by omega) (by omega) (fun z q1 q2 => by rw [wr_slot q2, wr_slot q1, h1 z q1 q2]) (fun f hf' => ?_)
    by_cases e : f = i
    · subst e
      rw [wr_slot (show (60 : Nat) ≠ 61 by decide), wr_hit, wr_hit, hpq, nI_clamp (by omega)]
      exact ⟨rfl, rfl⟩
    · rw [wr_slot (show (60 : Nat) ≠ 61 by decide), wr_place e, wr_place e, wr_slot (show (61 : Nat) ≠ 60 by decide)]
      exact h2 f (by omega)
theorem good_arrange : Good0 fX11_arrange fX12_arrange := by
  intro s hs
  obtain ⟨n, nw, nf, r1, ⟨hw, hwi, -⟩, r3, r4, r5, r6, r7⟩ := id hs
  obtain ⟨⟨hn, hm, h12⟩, -, ⟨hf, hf', h6⟩, -, -, hfl, -⟩ := id r1
  obtain ⟨A, hA, hAn, hA2, hA3, hA4⟩ := sw_bits h12 hw
  have hpop : pop A ≤ 12 := by
    have := sumN_const (f := fun p => if A.testBit p then 1 else 0) (b := 1) 12 (fun p _ => by split <;> omega)
    exact this
  have hma : fX10_manyAlive 33 s = some (nI (pop A), s) := by rw [w_manyAlive (w := 33) rfl]; show some (aliveS (s 34) 12, s) = _; rw [hA4]
  have hpl : ∀ f, f < nf → ∃ q, q < 10 ∧ s 26 f = nI q := fun f h => (hfl f h).2.2.2.1
  have hmm : ∀ u s3, Pre s u s3 → fX12_arrange s3 = if 6 < pop A then some (-2, u) else if nf ≤ 4 then fX12_arrange_L36 (fun v2_3 s_3 => fX12_arrange_L63 v2_3 FU (-1 : Int32) (0 : Int32) s_3) (nI (pop A)) FU (1 : Int32) (0 : Int32) u else some (-2, u) := fun u s3 h => by
    have u17 : u 69 17 = nI A := by rw [h.2.2.1 17 (by decide)]; exact hA2
    have u71 : u 71 2 = nI nf := by rw [h.2.1 71 (by decide) (by decide)]; exact hf'
    rw [fX12_arrange, h.1, u17, m_bitsOf hA, bd_some]
    by_cases e : 6 < pop A
    · rw [if_pos (by rw [zlt_6 _ (by omega)]; exact e), if_pos e]
    · rw [if_neg (by rw [zlt_6 _ (by omega)]; exact e), if_neg e, if_pos inA_2, i02, u71]
      by_cases e2 : nf ≤ 4
      · rw [if_pos (by rw [zrl_4 _ (by omega)]; exact e2), if_pos e2]
      · rw [if_neg (by rw [zrl_4 _ (by omega)]; exact e2), if_neg e2]
  have hcc : fX11_arrange s = if 6 < pop A then some (-2, s) else if nf ≤ 4 then fX0_search 21 33 s else some (-2, s) := by
    rw [fX11_arrange, hma, bd_some, hf]
    by_cases e : 6 < pop A
    · rw [if_pos (by rw [zlt_6 _ (by omega)]; exact e), if_pos e]
    · rw [if_neg (by rw [zlt_6 _ (by omega)]; exact e), if_neg e]
      by_cases e2 : nf ≤ 4
      · rw [if_pos (by rw [zrl_4 _ (by omega)]; exact e2), if_pos e2]
        cases fX0_search 21 33 s <;> rfl
      · rw [if_neg (by rw [zrl_4 _ (by omega)]; exact e2), if_neg e2]
  have hout : ∀ (_ : fX11_arrange s = some (-2, s)) (_ : ∀ u s3, Pre s u s3 → fX12_arrange s3 = some (-2, u)), ∃ (y : Int32) (s1 s2 : St), fX11_arrange s = some (y, s1) ∧ fX12_arrange s1 = some (y, s2) ∧ RS s2 := fun h1 h2 =>
    ⟨-2, s, wr s 69 1 0, h1, h2 (wr s 69 1 0) s (pre_st (fun _ _ _ => rfl)), hs.keep keep_code⟩
  by_cases h7 : 6 < pop A
  · exact hout (by rw [hcc, if_pos h7]) (fun u s3 h => by rw [hmm u s3 h, if_pos h7])
  by_cases h4 : nf ≤ 4
  · obtain ⟨z, hz⟩ : ∃ z, z = accN (bestF (s 34) n nf (s 26) (s 27) (s 28)) ((nf + 1) ^ pop A) 0 ((-1 : Int32), 0) := ⟨_, rfl⟩
    have htp : tailN (s 34) n n = pop A := tail_pop h12 hAn hA3
    obtain ⟨σ1, b1, b2, b3⟩ := c_heaps (s := wr s 57 2 (nI A)) (pl := s 26) (fun s_10 => let s_11 := wr s_10 57 5 (-1 : Int32); bd (fX0_choose 21 33 14 (0 : Int32) s_11) (fun y_12 s_12 => some ((s_12 57 5), s_12))) h6 (by rw [wr_slot (by decide)]; exact hf) (by rw [wr_slot (by decide)]) hpl nf 0 FU (wr s 57 2 (nI A)) (by omega) (by show nf < 20000; omega) (fun _ _ _ => rfl) (fun f h => absurd h (by omega))
    have low : ∀ x, x ≠ 57 → x ≠ 60 → x ≠ 61 → σ1 x = s x := fun x q1 q2 q3 => by rw [b2 x q2 q3, wr_slot q1]
    obtain ⟨σ2, hσ2⟩ : ∃ σ2, σ2 = wr σ1 57 5 (-1) := ⟨_, rfl⟩
    have low2 : ∀ x, x ≠ 57 → x ≠ 60 → x ≠ 61 → σ2 x = s x := fun x q1 q2 q3 => by rw [hσ2, wr_slot q1, low x q1 q2 q3]
    obtain ⟨σF, c1, c2, c3, c4, -, -⟩ := c_choose (c := s 34) (n := n) (nf := nf) (pl := s 26) (na := s 27) (nb := s 28) (s := σ2) h12 h6 (by rw [low2 21 (by decide) (by decide) (by decide)]; exact hn) (by rw [low2 21 (by decide) (by decide) (by decide)]; exact hf) (low2 34 (by decide) (by decide) (by decide)) (low2 27 (by decide) (by decide) (by decide)) (low2 28 (by decide) (by decide) (by decide)) n 0 14 σ2 ((-1 : Int32), 0) (Nat.le_refl _) (by omega)
      ⟨fun _ _ _ _ _ _ => rfl, fun _ _ => rfl, fun r _ p hp => absurd hp (by omega), fun f hff => by
        rw [Nat.sub_self, hσ2, wr_slot (by decide), wr_slot (show (61 : Nat) ≠ 57 by decide), (b3 f hff).1, (b3 f hff).2, wr_slot (show (34 : Nat) ≠ 57 by decide)]
        exact ⟨rfl, rfl⟩⟩ ⟨by rw [hσ2, wr_hit], Or.inl rfl⟩
    rw [Nat.sub_self] at c1
    rw [Nat.zero_mul, htp, ← hz] at c2
    have hcl : fX11_arrange s = some (z.1, σF) := by
      rw [hcc, if_neg h7, if_pos h4, fX0_search]
      refine Eq.trans (c_bitsL (s := s) _ h12 hA hAn hn hA3 n 0 FU 0 (by omega) (by show n < 20000; omega) (by decide) (fun z => by simp)) ?_
      refine Eq.trans b1 ?_
      show bd (fX0_choose 21 33 14 (0 : Int32) (wr σ1 57 5 (-1))) _ = _
      rw [← hσ2]
      refine Eq.trans (congrArg (fun w => bd w _) c1) ?_
      rw [bd_some, c2.1]
    have σk : ∀ x, x ≠ 57 → x ≠ 58 → x ≠ 59 → x ≠ 60 → x ≠ 61 → σF x = s x := fun x q1 q2 q3 q4 q5 => by rw [c3 x q1 q2 q3 q4 q5, low2 x q1 q4 q5]
    have hz1 : ¬ z.1 = -1 := by
      have hp : 0 < (nf + 1) ^ pop A := Nat.pow_pos (by omega)
      have := accN_inv (step := bestF (s 34) n nf (s 26) (s 27) (s 28)) (fun i y => i = 0 ∨ ¬ y.1 = -1) ((nf + 1) ^ pop A) 0 ((-1 : Int32), 0) (Or.inl rfl) (fun r y _ _ _ => by
        right
        have hwl := worth_le (c := s 34) (n := n) (nf := nf) (pl := s 26) (na := s 27) (nb := s 28) r
        have hlt := neg_lt_nI (w := worthS (s 34) n nf (s 26) (s 27) (s 28) r) (by omega)
        rw [bestF]
        by_cases e : y.1 < nI (worthS (s 34) n nf (s 26) (s 27) (s 28) r)
        · rw [if_pos e]
          intro q
          have q : nI (worthS (s 34) n nf (s 26) (s 27) (s 28) r) = -1 := q
          rw [q] at hlt
          exact absurd hlt (by decide)
        · rw [if_neg e]
          intro q
          rw [q] at e
          exact e hlt)
      rw [← hz] at this
      rcases this with h | h
      · omega
      · exact h
    have hpre : Pre s (wr σF 69 1 0) σF := pre_st (fun z h1 _ => σk z (by omega) (by omega) (by omega) (by omega) (by omega))
    obtain ⟨u, hu⟩ : ∃ u, u = wr σF 69 1 0 := ⟨_, rfl⟩
    rw [← hu] at hpre
    have uk := hpre.2.1
    have uw : SW n (s 34) (vr u) := by rw [hpre.2.2.2]; exact hw
    have u17 : u 69 17 = nI A := by rw [hpre.2.2.1 17 (by decide)]; exact hA2
    have u71 : u 71 = s 71 := uk 71 (by decide) (by decide)
    have hM : ArrM (s 34) (s 26) (s 27) (s 28) n nf A u := ⟨by rw [u71]; exact hm, by rw [u71]; exact hf', u17, fun p k hp hk => by rw [← vr_sky (s := u) (p := p) (by omega) hk]; exact uw.1 p k hp hk, fun q hq => by rw [← vr_noon (s := u) hq]; exact uw.2.2.2.2.1 q hq, fun f hff => by rw [uk 81 (by decide) (by decide), uk 82 (by decide) (by decide), uk 83 (by decide) (by decide)]; exact ⟨(hfl f hff).1, (hfl f hff).2.1, (hfl f hff).2.2.1⟩⟩
    have hR : (nf + 1) ^ pop A < 20000 := by
      have q1 : (nf + 1) ^ pop A ≤ 5 ^ pop A := Nat.pow_le_pow_left (by omega) _
      have q2 : 5 ^ pop A ≤ 5 ^ 6 := Nat.pow_le_pow_right (by decide) (by omega)
      have q3 : (5 : Nat) ^ 6 < 20000 := by decide
      omega
    obtain ⟨X', Y', g1, g2⟩ := m_rows (t := u) hR h12 h6 hA hA3 hpl hM ((nf + 1) ^ pop A) 0 FU ((-1 : Int32), 0) (u 98) (u 99) (by omega) (by show _ < 20000; exact hR) ⟨rfl, Or.inl rfl⟩
    rw [← hz] at g1 g2
    have hself : rset (rset u 98 (u 98)) 99 (u 99) = u := by
      rw [rset_self, rset_self]
    rw [hself] at g1
    obtain ⟨t', ht'⟩ : ∃ t', t' = wr (wr (rset (rset u 98 X') 99 Y') 69 48 1) 69 47 (u 69 17) := ⟨_, rfl⟩
    rw [← ht'] at g1
    have hmo : fX12_arrange σF = some (z.1, t') := by
      rw [hmm u σF hpre, if_neg h7, if_pos h4]
      refine Eq.trans (m_count36 (t := u) (K := pop A) _ h6 hpop hM.2.1 (pop A) 0 FU 1 (by omega) (by show pop A < 20000; omega)) ?_
      rw [Nat.one_mul]
      exact g1
    refine ⟨z.1, σF, t', hcl, hmo, ?_⟩
    have tl : ∀ x, x ≠ 69 → x ≠ 98 → x ≠ 99 → t' x = σF x := fun x q1 q2 q3 => by rw [ht', wr_slot q1, wr_slot q1, rset_off q3, rset_off q2, hu, wr_slot q1]
    have t69 : ∀ j, j ≠ 1 → j ≠ 47 → j ≠ 48 → t' 69 j = s 69 j := fun j q1 q2 q3 => by rw [ht', wr_place q2, wr_place q3, rset_off (by decide), rset_off (by decide), hu, wr_place q1, σk 69 (by decide) (by decide) (by decide) (by decide) (by decide)]
    have ts : ∀ x, x ≠ 69 → x ≠ 98 → x ≠ 99 → x ≠ 57 → x ≠ 58 → x ≠ 59 → x ≠ 60 → x ≠ 61 → t' x = s x := fun x h1 h2 h3 h4 h5 h6 h7 h8 => by rw [tl x h1 h2 h3, σk x h4 h5 h6 h7 h8]
    refine rs_rows hs ⟨fun x e => ?_, fun j e => ?_, fun x e => ?_⟩ (fun j hj => ?_) ?_ (fun n' hn' hn12 hq => ?_) ?_
    · have hx : x ≠ 69 ∧ x ≠ 98 ∧ x ≠ 99 ∧ x ≠ 57 ∧ x ≠ 58 ∧ x ≠ 59 ∧ x ≠ 60 ∧ x ≠ 61 := by revert x; decide
      exact ts x hx.1 hx.2.1 hx.2.2.1 hx.2.2.2.1 hx.2.2.2.2.1 hx.2.2.2.2.2.1 hx.2.2.2.2.2.2.1 hx.2.2.2.2.2.2.2
    · have hj : j ≠ 1 ∧ j ≠ 47 ∧ j ≠ 48 := by revert j; decide
      exact t69 j hj.1 hj.2.1 hj.2.2
    · have hx : x.1 ≠ 69 ∧ x.1 ≠ 98 ∧ x.1 ≠ 99 ∧ x.1 ≠ 57 ∧ x.1 ≠ 58 ∧ x.1 ≠ 59 ∧ x.1 ≠ 60 ∧ x.1 ≠ 61 := by revert x; decide
      rw [ts x.1 hx.1 hx.2.1 hx.2.2.1 hx.2.2.2.1 hx.2.2.2.2.1 hx.2.2.2.2.2.1 hx.2.2.2.2.2.2.1 hx.2.2.2.2.2.2.2]
    · have : vr t' = vr s := vr_same (ts _ (by decide) (by decide) (by decide) (by decide) (by decide) (by decide) (by decide) (by decide)) (ts _ (by decide) (by decide) (by decide) (by decide) (by decide) (by decide) (by decide) (by decide)) (ts _ (by decide) (by decide) (by decide) (by decide) (by decide) (by decide) (by decide) (by decide)) (ts _ (by decide) (by decide) (by decide) (by decide) (by decide) (by decide) (by decide) (by decide)) (ts _ (by decide) (by decide) (by decide) (by decide) (by decide) (by decide) (by decide) (by decide)) (t69 17 (by decide) (by decide) (by decide))
      rw [this]
    · rw [ts 51 (by decide) (by decide) (by decide) (by decide) (by decide) (by decide) (by decide) (by decide), t69 44 (by decide) (by decide) (by decide), ts 56 (by decide) (by decide) (by decide) (by decide) (by decide) (by decide) (by decide) (by decide), ts 97 (by decide) (by decide) (by decide) (by decide) (by decide) (by decide) (by decide) (by decide)]
      exact r5
    · have en : n' = n := (nI_eq (by omega) (by omega)).mp (hn'.symm.trans hn)
      subst en
      refine ⟨A, hAn, ?_, Or.inr ⟨?_, ?_⟩, fun p hp hb => ?_⟩
      · rw [tl 57 (by decide) (by decide) (by decide), c4 2 (by decide), hσ2, wr_place (by decide), b2 57 (by decide) (by decide), wr_hit]
      · rw [ht', wr_place (by decide), wr_hit]
      · rw [ht', wr_hit, u17]
      · have hl := (hA3 p hp).mp hb
        have e98 : t' 98 = X' := by rw [ht', wr_slot (by decide), wr_slot (by decide), rset_off (by decide), rset_hit]
        rw [tl 59 (by decide) (by decide) (by decide), e98]
        rcases g2.2 with q | q
        · exact absurd q hz1
        · rcases c2.2 with w | w
          · exact absurd w hz1
          · rw [q.2 p hp hl, w.2 p hp hl]
    · rw [ts 62 (by decide) (by decide) (by decide) (by decide) (by decide) (by decide) (by decide) (by decide), t69 51 (by decide) (by decide) (by decide), ts 64 (by decide) (by decide) (by decide) (by decide) (by decide) (by decide) (by decide) (by decide), ts 101 (by decide) (by decide) (by decide) (by decide) (by decide) (by decide) (by decide) (by decide)]
      exact r7
  · exact hout (by rw [hcc, if_neg h7, if_neg h4]) (fun u s3 h => by rw [hmm u s3 h, if_neg h7, if_neg h4])
