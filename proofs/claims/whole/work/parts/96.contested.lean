/-! ===== contested ===== -/
def ptN (sh : Nat → Nat) (S : Nat → Nat) (d p : Nat) : Nat := sumN (fun k => porN sh (S (4 * d + k)) p) 4
theorem ptN_le {sh S : Nat → Nat} {d p : Nat} (hp : p < 12) (hS : ∀ k, k < 4 → S (4 * d + k) ≤ 11988) : ptN sh S d p ≤ 4 * 23976 := sumN_const 4 (fun k hk => by
  have h1 := hS k hk
  have h2 := por_le (sh := sh) (much := S (4 * d + k)) hp
  show porN sh (S (4 * d + k)) p ≤ 23976
  omega)
theorem c_portions {w d p : Nat} {s : St} {sh S : Nat → Nat} (hw : LN (w + 1) = 94) (hs : SetP 12 s sh) (ho : ShOk sh) (hd : d < 12) (hp : p < 12) (hS : ∀ k, k < 4 → s (w + 1) (4 * d + k) = nI (S (4 * d + k)) ∧ S (4 * d + k) ≤ 11988) : fX2_portions w (nI d) (nI p) s = some (nI (ptN sh S d p), s) := by
  have key : ∀ k i m, i + k = 4 → k < m → fX2_portions_L6 w (nI d) (nI p) m (nI (sumN (fun k => porN sh (S (4 * d + k)) p) i)) (nI i) s = some (nI (ptN sh S d p), s) := by
    intro k
    induction k with
    | zero =>
      intro i m hi hm
      obtain ⟨m, rfl⟩ : ∃ q, m = q + 1 := ⟨m - 1, by omega⟩
      obtain rfl : i = 4 := by omega
      rw [fX2_portions_L6, if_pos (by decide)]
      rfl
    | succ k ih =>
      intro i m hi hm
      obtain ⟨m, rfl⟩ : ∃ q, m = q + 1 := ⟨m - 1, by omega⟩
      obtain ⟨h1, h2⟩ := hS i (by omega)
      rw [fX2_portions_L6, if_neg (by rw [zll_4 _ (by omega)]; omega), w_part hw hd (by omega), bd_some, h1, c_portion hs ho h2 hp, bd_some, zra_1, nI_add]
      exact ih (i + 1) m (by omega) (by omega)
  exact key 4 0 FU rfl (by decide)
theorem m_pts {n d p : Nat} {t : St} {sh S : Nat → Nat} {x y : Int32} (kk : Int32 → St → Option (Int32 × St)) (hn : t 71 0 = nI n) (h12 : n ≤ 12) (hs : SetM n t sh) (ho : ShOk sh) (h0 : ∀ q, n ≤ q → q < 12 → sh q = 0) (hsd : sh d = 0) (hd : d < n) (hp : p < n) (hS : ∀ k, k < 4 → t 72 (4 * d + k) = nI (S (4 * d + k)) ∧ S (4 * d + k) ≤ 11988) : fX12_contested_L72 kk (nI d) x y (nI p) FU 0 0 t = kk (nI (ptN sh S d p)) t := by
  have key : ∀ k i m, i + k = 4 → k < m → fX12_contested_L72 kk (nI d) x y (nI p) m (nI (sumN (fun k => porN sh (S (4 * d + k)) p) i)) (nI i) t = kk (nI (ptN sh S d p)) t := by
    intro k
    induction k with
    | zero =>
      intro i m hi hm
      obtain ⟨m, rfl⟩ : ∃ q, m = q + 1 := ⟨m - 1, by omega⟩
      obtain rfl : i = 4 := by omega
      rw [fX12_contested_L72, if_pos (by decide)]
      rfl
    | succ k ih =>
      intro i m hi hm
      obtain ⟨m, rfl⟩ : ∃ q, m = q + 1 := ⟨m - 1, by omega⟩
      obtain ⟨h1, h2⟩ := hS i (by omega)
      have e1 := ih (i + 1) m (by omega) (by omega)
      rw [fX12_contested_L72, if_neg (by rw [zll_4 _ (by omega)]; omega), ite_iff (nI_eq (a := p) (b := d) (by omega) (by omega)), zra_1]
      by_cases e : p = d
      · subst e
        rw [if_pos rfl, Int32.add_zero]
        have : sumN (fun k => porN sh (S (4 * p + k)) p) (i + 1) = sumN (fun k => porN sh (S (4 * p + k)) p) i := by rw [sumN, por_0 hsd]; rfl
        rw [this] at e1
        exact e1
      · rw [if_neg e, m_partOf (much := S (4 * d + i)) hn h12 hs ho h0 h2 hd hp (by omega) h1, bd_some, nI_add]
        exact e1
  exact key 4 0 FU rfl (by decide)
theorem good_contested (a : Int32) : Good (fX11_contested a) (fX12_contested a) c12 := by
  intro s hs
  show GoodAt _ _ _ _
  obtain ⟨n, nw, nf, r1, ⟨hw, hwi, -⟩, -⟩ := id hs
  obtain ⟨⟨hn, hm, h12⟩, -⟩ := id r1
  obtain ⟨A, hA, hAn, hA2, hA3, -⟩ := sw_bits h12 hw
  obtain ⟨dep, len, hl⟩ := r1.2.2.2.2.2.2.2.dep
  have hb : ∀ u s3, Pre s u s3 → u 71 0 = nI n ∧ u 69 17 = nI A := fun u s3 h => ⟨by rw [h.2.1 71 (by decide) (by decide)]; exact hm, by rw [h.2.2.1 17 (by decide)]; exact hA2⟩
  rcases i_cases a (n := n) (by omega) with ⟨p, hp, rfl⟩ | ho
  · by_cases hal : s 34 (48 + p) = -1
    · refine gat_scr (s1 := s) (a := 0) hs ?_ (Keep.rfl' s) (fun _ _ => rfl) (fun u s3 h => ⟨u, ?_, Keep.rfl' u, rfl, rfl⟩)
      · rw [fX11_contested, c_person_in hn h12 hp, bx_val, w_alive rfl (by omega), bd_some, if_pos hal, if_pos rfl]
      · obtain ⟨g1, g2⟩ := hb u s3 h
        rw [fX12_contested, h.1, m_person_in g1 h12 hp, bd_some, if_neg (by decide), m_alive_c h12 hA g2 hA3 hp, bd_some, if_pos hal, if_pos rfl]
    obtain ⟨S, s1', s2'⟩ := hwi.2.2.1
    have hSp := sky_of s1' s2' hp
    have hL9 : ∀ x, lawL s dep len (s 34) p x ≤ 999 := fun x => (lawL_spec _ _ _ _ _ _).2
    have hok := shD_ok (s := s) (c := s 34) (L := lawL s dep len (s 34) p) h12 r1.2.2.2.2.2.2.1 hL9 hp hw.2.2.2.2.2.2
    have hokL := shL_ok (n := n) (d := p) (c := s 34) (L := lawL s dep len (s 34) p) hL9 hw.2.2.2.2.2.2
    obtain ⟨L, hLd⟩ : ∃ L, L = lawL s dep len (s 34) p := ⟨_, rfl⟩
    rw [← hLd] at hL9 hok hokL
    obtain ⟨s1, a1, a2, a3, a4⟩ := c_learn (w := 33) (d := p) (s0 := s) (s := s) hl (fun _ _ _ => rfl) rfl (by omega)
    have e1 : s1 34 = s 34 := a4 34 (by decide) (by decide)
    have s49 : ∀ x, x < 12 → x ≠ p → ¬ s 34 (48 + x) = -1 → s1 49 (12 * p + x) = nI (L x) := fun x hx q1 q2 => by
      rw [a2 x hx q1 q2, hLd]
      exact (lawL_spec _ _ _ _ _ _).1
    have setW : ∀ t : St, (∀ x, x ≠ 48 → x ≠ 50 → t x = s1 x) → ∃ t', fX2_settle 21 33 (nI p) t = some (0, t') ∧ SetP 12 t' (shD s L (s 34) p) ∧ ∀ x, x ≠ 48 → x ≠ 50 → t' x = t x := fun t ht => by
      have et : t 34 = s 34 := by rw [ht 34 (by decide) (by decide), e1]
      obtain ⟨t', b1, b2, b3⟩ := c_settle (w := 33) (d := p) (s0 := s) (s := t) (L := L) rfl (by omega) h12 r1.2.2.2.2.2.2.1 (by rw [ht 25 (by decide) (by decide), a4 25 (by decide) (by decide)]) hL9 (fun x hx q1 q2 => by
        rw [ht 49 (by decide) (by decide)]
        exact s49 x hx q1 (by rw [← et]; exact q2))
      have b2' : SetP 12 t' (shD s L (s 34) p) := by rw [← et]; exact b2
      exact ⟨t', b1, b2', b3⟩
    have setL : ∀ t : St, (∀ x, x ≠ 48 → x ≠ 50 → t x = s1 x) → ∃ t', fX2_settleByLaw 33 (nI p) t = some (0, t') ∧ SetP 12 t' (shL L (s 34) p) ∧ ∀ x, x ≠ 48 → x ≠ 50 → t' x = t x := fun t ht => by
      have et : t 34 = s 34 := by rw [ht 34 (by decide) (by decide), e1]
      obtain ⟨t', b1, b2, b3⟩ := c_settleByLaw (w := 33) (d := p) (s := t) (L := L) rfl (by omega) hL9 (fun x hx q1 q2 => by
        rw [ht 49 (by decide) (by decide)]
        exact s49 x hx q1 (by rw [← et]; exact q2))
      have b2' : SetP 12 t' (shL L (s 34) p) := by rw [← et]; exact b2
      exact ⟨t', b1, b2', b3⟩
    have hSt : ∀ t : St, (∀ x, x ≠ 48 → x ≠ 50 → t x = s1 x) → ∀ k, k < 4 → t (33 + 1) (4 * p + k) = nI (S (4 * p + k)) ∧ S (4 * p + k) ≤ 11988 := fun t ht k hk => by
      show t 34 (4 * p + k) = _ ∧ _
      rw [ht 34 (by decide) (by decide), e1]
      exact hSp k hk
    obtain ⟨step, hstep⟩ : ∃ step : Nat → Int32 → Int32, step = fun x b => if nI (ptN (shL L (s 34) p) S p x) ≤ nI (ptN (shD s L (s 34) p) S p x) then b else b ||| jshl 1 (nI x) := ⟨_, rfl⟩
    have cls : ∀ k i m b t, i + k = n → k < m → (∀ x, x ≠ 48 → x ≠ 50 → t x = s1 x) → ∃ t', fX11_contested_L44 (nI p) m b (nI i) t = some (.inl (accN step k i b), t') ∧ ∀ x, x ≠ 48 → x ≠ 50 → t' x = s1 x := by
      intro k
      induction k with
      | zero =>
        intro i m b t hi hm' ht
        obtain ⟨m, rfl⟩ : ∃ q, m = q + 1 := ⟨m - 1, by omega⟩
        obtain rfl : i = n := by omega
        exact ⟨t, by rw [fX11_contested_L44, ht 21 (by decide) (by decide), a4 21 (by decide) (by decide), hn, if_pos (Int32.le_refl _)]; rfl, ht⟩
      | succ k ih =>
        intro i m b t hi hm' ht
        obtain ⟨m, rfl⟩ : ∃ q, m = q + 1 := ⟨m - 1, by omega⟩
        obtain ⟨t2, b1, b2, b3⟩ := setW t ht
        have ht2 : ∀ x, x ≠ 48 → x ≠ 50 → t2 x = s1 x := fun x q1 q2 => by rw [b3 x q1 q2, ht x q1 q2]
        obtain ⟨t3, c1, c2, c3⟩ := setL t2 ht2
        have ht3 : ∀ x, x ≠ 48 → x ≠ 50 → t3 x = s1 x := fun x q1 q2 => by rw [c3 x q1 q2, ht2 x q1 q2]
        rw [fX11_contested_L44, ht 21 (by decide) (by decide), a4 21 (by decide) (by decide), hn, if_neg (by rw [nI_leI (by omega) (by omega)]; omega), b1, bd_some, c_portions (S := S) rfl b2 hok.1 (by omega) (by omega) (hSt t2 ht2), bd_some, c1, bd_some, c_portions (S := S) rfl c2 hokL.1 (by omega) (by omega) (hSt t3 ht3), bd_some, zra_1]
        obtain ⟨t', f1, f2⟩ := ih (i + 1) m (step i b) t3 (by omega) (by omega) ht3
        refine ⟨t', ?_, f2⟩
        show _ = some ((.inl (accN step k (i + 1) (step i b)) : RT), t')
        rw [← f1, hstep]
        show _ = fX11_contested_L44 (nI p) m (if _ then _ else _) _ _
        split <;> rfl
    obtain ⟨s2, f1, f2⟩ := cls n 0 FU 0 s1 (by omega) (by show n < 20000; omega) (fun _ _ _ => rfl)
    refine gat_scr (s1 := s2) (a := accN step n 0 0) hs ?_ (Keep.off [31, 48, 49, 50] [] (by decide) (by decide) (fun j _ hj => by rw [f2 j (fun e => hj (by rw [e]; decide)) (fun e => hj (by rw [e]; decide)), a4 j (fun e => hj (by rw [e]; decide)) (fun e => hj (by rw [e]; decide))]) (fun j _ => by rw [f2 69 (by decide) (by decide), a4 69 (by decide) (by decide)])) (fun j hj => by rw [f2 j (by omega) (by omega), a4 j (by omega) (by omega)]) (fun u s3 h => ?_)
    · rw [fX11_contested, c_person_in hn h12 hp, bx_val, w_alive rfl (by omega), bd_some, if_neg hal, if_neg (by decide), a1, bd_some]
      exact f1
    · obtain ⟨g1, g2⟩ := hb u s3 h
      have hlm : LM s u := fun k hk => h.2.1 k (by omega) (by omega)
      have hLaw := law_hL r1 hl hlm (by rw [h.2.2.2]; exact hw) hwi (fun _ _ => rfl) (fun _ _ _ => rfl) hp hal
      rw [← hLd] at hLaw
      have u72 : ∀ k, k < 4 → u 72 (4 * p + k) = nI (S (4 * p + k)) ∧ S (4 * p + k) ≤ 11988 := fun k hk => by
        rw [← vr_sky (s := u) (by omega) hk, h.2.2.2, hw.1 p k hp hk]
        exact hSp k hk
      obtain ⟨t1, d1, d2, d3⟩ := m_tell (t := u) (c := s 34) (L := L) true r1 hlm hp hA g2 hA3 hL9 hLaw
      rw [if_pos rfl] at d2
      have t1k : ∀ x, x ≠ 69 → x ≠ 90 → x ≠ 91 → x ≠ 92 → t1 x = u x := d3.1
      -- round 0
      have rd0 : ∀ kk k i m t, i + k = n → k < m → (∀ x, x ≠ 94 → t x = t1 x) → (∀ x, x < i → t 94 x = nI (ptN (shD s L (s 34) p) S p x)) → ∃ t', fX12_contested_L55 kk (nI p) (0 : Int32) m 0 (nI i) t = kk 0 t' ∧ (∀ x, x ≠ 94 → t' x = t1 x) ∧ ∀ x, x < n → t' 94 x = nI (ptN (shD s L (s 34) p) S p x) := by
        intro kk k
        induction k with
        | zero =>
          intro i m t hi hm' ht hg
          obtain ⟨m, rfl⟩ : ∃ q, m = q + 1 := ⟨m - 1, by omega⟩
          obtain rfl : i = n := by omega
          exact ⟨t, by rw [fX12_contested_L55, if_pos inA_0, i00, ht 71 (by decide), t1k 71 (by decide) (by decide) (by decide) (by decide), g1, if_pos (Int32.le_refl _)], ht, hg⟩
        | succ k ih =>
          intro i m t hi hm' ht hg
          obtain ⟨m, rfl⟩ : ∃ q, m = q + 1 := ⟨m - 1, by omega⟩
          have hst : SetM n t (shD s L (s 34) p) := by
            obtain ⟨z1, z2, z3⟩ := d2
            exact ⟨fun q hq => by rw [ht 92 (by decide)]; exact z1 q hq, by rw [ht 69 (by decide)]; exact z2, by rw [ht 69 (by decide)]; exact z3⟩
          rw [fX12_contested_L55, if_pos inA_0, i00, ht 71 (by decide), t1k 71 (by decide) (by decide) (by decide) (by decide), g1, if_neg (by rw [nI_leI (by omega) (by omega)]; omega), m_pts (S := S) _ (by rw [ht 71 (by decide), t1k 71 (by decide) (by decide) (by decide) (by decide), g1]) h12 hst hok.1 hok.2.1 hok.2.2 hp (by omega) (fun k hk => by rw [ht 72 (by decide), t1k 72 (by decide) (by decide) (by decide) (by decide)]; exact u72 k hk), if_pos rfl, if_pos (inA_lt (by decide) (by omega)), nI_clamp (by omega), zra_1]
          refine ih (i + 1) m _ (by omega) (by omega) (fun x hx => by rw [wr_slot hx, ht x hx]) (fun x hx => ?_)
          by_cases e : x = i
          · subst e; rw [wr_hit]
          · rw [wr_place e, hg x (by omega)]
      obtain ⟨t2, r1', r2', r3'⟩ := rd0 (fun v2_8 s_8 => fX12_contested_L33 (nI p) 19999 v2_8 (0 + 1) s_8) n 0 FU t1 (by omega) (by show n < 20000; omega) (fun _ _ => rfl) (fun x hx => absurd hx (by omega))
      have kt2 : ∀ x, x ≠ 69 → x ≠ 90 → x ≠ 91 → x ≠ 92 → x ≠ 94 → t2 x = u x := fun x q1 q2 q3 q4 q5 => by rw [r2' x q5, t1k x q1 q2 q3 q4]
      have t269 : ∀ j, j ≠ 37 → j ≠ 38 → t2 69 j = u 69 j := fun j q1 q2 => by rw [r2' 69 (by decide), d3.2 j q1 q2]
      have hlm2 : LM s t2 := fun k hk => by rw [kt2 k (by omega) (by omega) (by omega) (by omega) (by omega)]; exact hlm k hk
      have hv2 : vr t2 = vr s := by
        rw [← h.2.2.2]
        exact vr_same (kt2 72 (by decide) (by decide) (by decide) (by decide) (by decide)) (kt2 73 (by decide) (by decide) (by decide) (by decide) (by decide)) (kt2 77 (by decide) (by decide) (by decide) (by decide) (by decide)) (kt2 87 (by decide) (by decide) (by decide) (by decide) (by decide)) (kt2 88 (by decide) (by decide) (by decide) (by decide) (by decide)) (t269 17 (by decide) (by decide))
      have hLaw2 := law_hL r1 hl hlm2 (by rw [hv2]; exact hw) hwi (fun _ _ => rfl) (fun _ _ _ => rfl) hp hal
      rw [← hLd] at hLaw2
      obtain ⟨t3, q1, q2, q3⟩ := m_tell (t := t2) (c := s 34) (L := L) false r1 hlm2 hp hA (by rw [t269 17 (by decide) (by decide)]; exact g2) hA3 hL9 hLaw2
      rw [if_neg (by decide)] at q2
      have kt3 : ∀ x, x ≠ 69 → x ≠ 90 → x ≠ 91 → x ≠ 92 → x ≠ 94 → t3 x = u x := fun x z1 z2 z3 z4 z5 => by rw [q3.1 x z1 z2 z3 z4, kt2 x z1 z2 z3 z4 z5]
      have t394 : ∀ x, x < n → t3 94 x = nI (ptN (shD s L (s 34) p) S p x) := fun x hx => by rw [q3.1 94 (by decide) (by decide) (by decide) (by decide), r3' x hx]
      have rd1 : ∀ kk k i m b, i + k = n → k < m → fX12_contested_L55 kk (nI p) (1 : Int32) m b (nI i) t3 = kk (accN step k i b) t3 := by
        intro kk k
        induction k with
        | zero =>
          intro i m b hi hm'
          obtain ⟨m, rfl⟩ : ∃ q, m = q + 1 := ⟨m - 1, by omega⟩
          obtain rfl : i = n := by omega
          rw [fX12_contested_L55, if_pos inA_0, i00, kt3 71 (by decide) (by decide) (by decide) (by decide) (by decide), g1, if_pos (Int32.le_refl _)]
          rfl
        | succ k ih =>
          intro i m b hi hm'
          obtain ⟨m, rfl⟩ : ∃ q, m = q + 1 := ⟨m - 1, by omega⟩
          rw [fX12_contested_L55, if_pos inA_0, i00, kt3 71 (by decide) (by decide) (by decide) (by decide) (by decide), g1, if_neg (by rw [nI_leI (by omega) (by omega)]; omega), m_pts (S := S) _ (by rw [kt3 71 (by decide) (by decide) (by decide) (by decide) (by decide), g1]) h12 q2 hokL.1 hokL.2.1 hokL.2.2 hp (by omega) (fun k hk => by rw [kt3 72 (by decide) (by decide) (by decide) (by decide) (by decide)]; exact u72 k hk), if_neg (by decide), if_pos (inA_lt (by decide) (by omega)), nI_clamp (by omega), t394 i (by omega), zra_1]
          have f1 := ih (i + 1) m (step i b) (by omega) (by omega)
          show _ = kk (accN step k (i + 1) (step i b)) t3
          rw [← f1, hstep]
          show _ = fX12_contested_L55 kk (nI p) 1 m (if _ then _ else _) _ _
          split <;> rfl
      refine ⟨t3, ?_, Keep.off [90, 91, 92, 94] [37, 38] (by decide) (by decide) (fun j h69 hj => kt3 j h69 (fun e => hj (by rw [e]; decide)) (fun e => hj (by rw [e]; decide)) (fun e => hj (by rw [e]; decide)) (fun e => hj (by rw [e]; decide))) (fun j hj => by rw [q3.2 j (fun e => hj (by rw [e]; decide)) (fun e => hj (by rw [e]; decide)), t269 j (fun e => hj (by rw [e]; decide)) (fun e => hj (by rw [e]; decide))]), kt3 111 (by decide) (by decide) (by decide) (by decide) (by decide), by rw [q3.2 1 (by decide) (by decide), t269 1 (by decide) (by decide)]⟩
      have d1' : fX12_tellShares (nI p) (1 : Int32) u = some (0, t1) := d1
      have q1' : fX12_tellShares (nI p) (0 : Int32) t2 = some (0, t3) := q1
      rw [fX12_contested, h.1, m_person_in g1 h12 hp, bd_some, if_neg (by decide), m_alive_c h12 hA g2 hA3 hp, bd_some, if_neg hal, if_neg (by decide)]
      show fX12_contested_L33 (nI p) (19998 + 1 + 1) 0 0 u = _
      rw [fX12_contested_L33, if_neg (by decide), if_pos rfl, fX12_contested_J49, d1', bd_some]
      refine Eq.trans r1' ?_
      show fX12_contested_L33 (nI p) (19998 + 1) 0 1 t2 = _
      rw [fX12_contested_L33, if_neg (by decide), if_neg (by decide), fX12_contested_J49, q1', bd_some]
      refine Eq.trans (rd1 _ n 0 FU 0 (by omega) (by show n < 20000; omega)) ?_
      show fX12_contested_L33 (nI p) (19997 + 1) _ 2 t3 = _
      rw [fX12_contested_L33, if_pos (by decide)]
  · refine gat_thr (x := 0) hs (Or.inl rfl) (by decide) ?_ (fun u s3 h => ?_)
    · rw [fX11_contested, c_person_out hn ho, bx_thr]
    · obtain ⟨g1, g2⟩ := hb u s3 h
      rw [fX12_contested, h.1, m_person_out g1 h12 ho, bd_some, if_pos rfl, m_fail]
      rfl
