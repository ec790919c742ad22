/-! ===== rows that are kept ===== -/
def dS : List Nat := [1, 22, 23, 24, 25, 26, 27, 28, 30, 34, 35, 36, 37, 38, 41, 42, 43, 44, 45, 74, 75, 76, 78, 79, 80, 81, 82, 83, 84, 85, 86, 89, 102, 103, 106, 107, 108, 109, 110]
def dM : List Nat := [19, 28, 32, 33, 58, 59, 60]
def dO : List (Nat × Nat) := [(0, 1), (0, 2), (0, 7), (21, 0), (21, 4), (21, 6), (21, 10), (29, 2), (29, 3), (32, 2), (32, 3), (32, 6), (39, 2), (39, 3), (39, 6), (71, 0), (71, 1), (71, 2), (71, 3), (71, 4)]
theorem rs_rows {s s' : St} (r : RS s) (h : KeepL dS dM dO s s') (hv : ∀ j, j < 95 → vr s' j = vr s j) (q5 : RRow (s' 51 4) (s' 69 44) (s' 56) (s' 97) 3) (q6 : ∀ n, s 21 0 = nI n → n ≤ 12 → RPost s n → RPost s' n) (q7 : RRow (s' 62 2) (s' 69 51) (s' 64) (s' 101) 7) : RS s' := by
  have a : ∀ k, dS.contains k = true → s' k = s k := fun k e => h.1 k (List.contains_iff_mem.mp e)
  have m : ∀ j, dM.contains j = true → s' 69 j = s 69 j := fun j e => h.2.1 j (List.contains_iff_mem.mp e)
  have b : ∀ k j, dO.contains (k, j) = true → s' k j = s k j := fun k j e => h.2.2 (k, j) (List.contains_iff_mem.mp e)
  obtain ⟨n, nw, nf, r1, r2, r3, r4, r5, r6, r7⟩ := r
  have h12 : n ≤ 12 := r1.1.2.2
  refine ⟨n, nw, nf, r1.cong ⟨fun k e => h.1 k ?_, fun j e => (by cases e), fun q e => h.2.2 q ?_⟩, ?_, ?_, ?_, q5, q6 n r1.1.1 h12 r6, q7⟩
  · revert k; decide
  · revert q; decide
  · obtain ⟨w1, w2, w3, w4, w5⟩ := r2
    refine ⟨?_, ?_, ?_, ?_, ?_⟩
    · rw [a 34 rfl]; exact w1.cong h12 (fun _ _ => rfl) hv
    · rw [a 34 rfl]; exact w2
    · rw [a 35 rfl, a 89 rfl, b 32 2 rfl, b 32 3 rfl, m 32 rfl]; exact w3
    · rw [a 36 rfl, a 37 rfl, a 102 rfl, a 103 rfl, b 32 6 rfl, m 33 rfl]; exact w4
    · rw [a 38 rfl, a 85 rfl]; exact w5
  · unfold RKept at r3 ⊢
    rw [b 0 7 rfl, m 58 rfl, a 41 rfl, a 106 rfl, a 42 rfl, a 107 rfl, b 39 2 rfl, b 39 3 rfl, m 59 rfl, a 43 rfl, a 44 rfl, a 108 rfl, a 109 rfl, b 39 6 rfl, m 60 rfl, a 45 rfl, a 110 rfl]
    exact r3
  · unfold RTape at r4 ⊢
    rw [b 0 1 rfl, m 19 rfl, a 86 rfl, a 1 rfl, m 28 rfl, b 0 2 rfl]
    exact r4
/-! ===== deaths ===== -/
theorem c_learnAll {s : St} {n nw nf len : Nat} {dep : Nat → Nat} {a b c : Int32} (kk : St → Option (RT × St)) (r1 : RLand s n nw nf) (hl : LawD s dep len) : ∃ σ, fX11_deaths_L46 kk a b c FU 0 s = kk σ ∧ (∀ x, x ≠ 31 → x ≠ 49 → σ x = s x) ∧ ∀ d q, d < n → q < 12 → q ≠ d → ¬ s 34 (48 + q) = -1 → σ 49 (12 * d + q) = nI (lawL s dep len (s 34) d q) := by
  have h12 : n ≤ 12 := r1.1.2.2
  have hn := r1.1.1
  have key : ∀ k i m σ, i + k = n → k < m → (∀ x, x ≠ 31 → x ≠ 49 → σ x = s x) → (∀ d q, d < i → q < 12 → q ≠ d → ¬ s 34 (48 + q) = -1 → σ 49 (12 * d + q) = nI (lawL s dep len (s 34) d q)) → ∃ σ', fX11_deaths_L46 kk a b c m (nI i) σ = kk σ' ∧ (∀ x, x ≠ 31 → x ≠ 49 → σ' x = s x) ∧ ∀ d q, d < n → q < 12 → q ≠ d → ¬ s 34 (48 + q) = -1 → σ' 49 (12 * d + q) = nI (lawL s dep len (s 34) d q) := by
    intro k
    induction k with
    | zero =>
      intro i m σ hi hm h1 h2
      obtain ⟨m, rfl⟩ : ∃ q, m = q + 1 := ⟨m - 1, by omega⟩
      obtain rfl : i = n := by omega
      exact ⟨σ, by rw [fX11_deaths_L46, h1 21 (by decide) (by decide), hn, if_pos (Int32.le_refl _)], h1, h2⟩
    | succ k ih =>
      intro i m σ hi hm h1 h2
      obtain ⟨m, rfl⟩ : ∃ q, m = q + 1 := ⟨m - 1, by omega⟩
      obtain ⟨σ1, a1, a2, a3, a4⟩ := c_learn (w := 33) (d := i) (s0 := s) (s := σ) hl (fun x q1 q2 => h1 x (by omega) (by omega)) rfl (by omega)
      have e34 : σ 34 = s 34 := h1 34 (by decide) (by decide)
      rw [fX11_deaths_L46, h1 21 (by decide) (by decide), hn, if_neg (by rw [nI_leI (by omega) (by omega)]; omega), a1, bd_some, zra_1]
      refine ih (i + 1) m σ1 (by omega) (by omega) (fun x q1 q2 => by rw [a4 x q1 q2, h1 x q1 q2]) (fun d q hd hq hqd hal => ?_)
      by_cases e : d = i
      · subst e
        have a2' := a2 q hq hqd (by show ¬ σ 34 (48 + q) = -1; rw [e34]; exact hal)
        rw [a2']
        show lawV s dep len (σ 34) d q = _
        rw [e34]
        exact (lawL_spec _ _ _ _ _ _).1
      · rw [a3 _ (by omega)]
        exact h2 d q (by omega) hq hqd hal
  exact key n 0 FU s (by omega) (by show n < 20000; omega) (fun _ _ _ => rfl) (fun d q hd => absurd hd (by omega))
theorem findL {s u : St} {dep : Nat → Nat} {len n nw nf p k : Nat} {v : Int32} (kk kk' : Int32 → St → Option (Int32 × St)) (r1 : RLand s n nw nf) (hl : LawD s dep len) (hu : LM s u) (hw : SW n (s 34) (vr u)) (hi0 : WI n (s 34)) (hp : p < n) (hk : k < 4) : ∀ k' i m (σ t : St), i + k' = 4 → k' < m → DCl s σ dep len n p k v → DMl u t → (∀ j, j < 95 → vr t j = vr u j) →
    ∃ σ' t', DCl s σ' dep len n p k v ∧ DMl u t' ∧ (∀ j, j < 95 → vr t' j = vr u j) ∧ ((fX1_find_L3 kk 21 33 m (nI i) σ = some (-1, σ') ∧ fX12_deaths_L55 kk' (nI p) (nI k) v m (nI i) t = some (-1, t')) ∨
      ∃ most, most ≤ 3 ∧ fX1_find_L3 kk 21 33 m (nI i) σ = kk (nI most) σ' ∧ fX12_deaths_L55 kk' (nI p) (nI k) v m (nI i) t = kk' (nI most) t' ∧ ∀ j, j < most → σ' 55 j = t' 96 j) := by
  have h12 : n ≤ 12 := r1.1.2.2
  intro k'
  induction k' with
  | zero =>
    intro i m σ t hi hm hC hM hv
    obtain ⟨m, rfl⟩ : ∃ q, m = q + 1 := ⟨m - 1, by omega⟩
    obtain rfl : i = 4 := by omega
    exact ⟨σ, t, hC, hM, hv, Or.inl ⟨by rw [fX1_find_L3, if_pos (by decide)], by rw [fX12_deaths_L55, if_pos (by decide)]⟩⟩
  | succ k' ih =>
    intro i m σ t hi hm hC hM hv
    obtain ⟨m, rfl⟩ : ∃ q, m = q + 1 := ⟨m - 1, by omega⟩
    obtain ⟨σ1, hσ1⟩ : ∃ σ1, σ1 = ovl σ 53 0 94 (s 34) := ⟨_, rfl⟩
    have hcp : fX10_copyFrom 52 33 σ = some (0, σ1) := by
      rw [fX10_copyFrom, c_copyRow (r0 := 33 + 1) (r1 := 52 + 1) (by decide) (by decide) (by decide), bd_some, hσ1]
      show some ((0 : Int32), ovl σ 53 0 94 (σ 34)) = _
      rw [hC.1 34 (by decide) (by decide) (by decide) (by decide) (by decide) (by decide) (by decide) (by decide)]
    have e53 : ∀ j, j < 94 → σ1 53 j = s 34 j := fun j hj => by rw [hσ1, ovl_in (by omega) (by omega), Nat.sub_zero]
    have hW : DW s σ1 t n := ⟨hw.cong h12 e53 hv, hi0.cong h12 e53, fun x hx => e53 _ (by omega), fun x hx _ => e53 _ (by omega)⟩
    obtain ⟨b, σ2, t2, f1, f2, f3, f4, f5, -, -, -, f9⟩ := reach (most := i) r1 hl hu hi0 hp hk (by omega) i 0 5 σ1 t (by omega) (by omega) (hC.w (fun x _ _ c _ _ => by rw [hσ1, ovl_slot c])) hM hW
    have f1' : fX1_reaches 21 5 (0 : Int32) (nI i) σ1 = some (kflag b, σ2) := f1
    have f2' : fX12_canBe 5 (0 : Int32) (nI i) (nI p) (nI k) v t = some (kflag b, t2) := f2
    have g1 : fX1_find_L3 kk 21 33 (m + 1) (nI i) σ = if b then kk (nI i) σ2 else fX1_find_L3 kk 21 33 m (nI (i + 1)) σ2 := by
      rw [fX1_find_L3, if_neg (by rw [zlt_3 _ (by omega)]; omega), hcp, bd_some, f1', bd_some, kf_if, zra_1]
    have g2 : fX12_deaths_L55 kk' (nI p) (nI k) v (m + 1) (nI i) t = if b then kk' (nI i) t2 else fX12_deaths_L55 kk' (nI p) (nI k) v m (nI (i + 1)) t2 := by
      rw [fX12_deaths_L55, if_neg (by rw [zlt_3 _ (by omega)]; omega), f2', bd_some, kf_if, zra_1]
    have hv2 : ∀ j, j < 95 → vr t2 j = vr u j := fun j hj => by rw [f5 j hj, hv j hj]
    rw [g1, g2]
    cases b
    · rw [if_neg (by decide), if_neg (by decide)]
      exact ih (i + 1) m σ2 t2 (by omega) (by omega) f3 f4 hv2
    · rw [if_pos rfl, if_pos rfl]
      exact ⟨σ2, t2, f3, f4, hv2, Or.inr ⟨i, by omega, rfl, rfl, fun j hj => f9 rfl j (by omega) hj⟩⟩
theorem good_deaths (a b x : Int32) : Good (fX11_deaths a b x) (fX12_deaths a b x) c12 := by
  intro s hs
  show GoodAt _ _ _ _
  obtain ⟨n, nw, nf, r1, ⟨hw, hwi, -⟩, r3, r4, r5, r6, r7⟩ := id hs
  obtain ⟨⟨hn, hm, h12⟩, -⟩ := id r1
  obtain ⟨A, hA, hAn, hA2, hA3, -⟩ := sw_bits h12 hw
  obtain ⟨dep, len, hl⟩ := r1.2.2.2.2.2.2.2.dep
  have hb : ∀ u s3, Pre s u s3 → u 71 0 = nI n ∧ u 69 17 = nI A := fun u s3 h => ⟨by rw [h.2.1 71 (by decide) (by decide)]; exact hm, by rw [h.2.2.1 17 (by decide)]; exact hA2⟩
  have z1 : (1 : Int32).toInt = 1 := rfl
  have z9 : (9999 : Int32).toInt = 9999 := rfl
  rcases i_cases a (n := n) (by omega) with ⟨p, hp, rfl⟩ | ho
  · rcases i_cases b (n := 4) (by omega) with ⟨k, hk, rfl⟩ | ho
    · by_cases hin : 1 ≤ x.toInt ∧ x.toInt ≤ 9999
      · have hx1 : ¬ x < 1 := by rw [i_lt, z1]; omega
        have hx2 : ¬ (9999 : Int32) < x := by rw [i_lt, z9]; omega
        by_cases hal : s 34 (48 + p) = -1
        · refine gat_thr (x := 1) hs (Or.inr rfl) (by decide) ?_ (fun u s3 h => ?_)
          · rw [fX11_deaths, c_person_in hn h12 hp, bx_val, c_part_in hk, bx_val, if_neg hx1, if_neg hx2, w_alive rfl (by omega), bd_some, if_pos hal, if_pos rfl]
          · obtain ⟨g1, g2⟩ := hb u s3 h
            rw [fX12_deaths, h.1, m_person_in g1 h12 hp, bd_some, if_neg (by decide), m_part_in hk, bd_some, if_neg (by decide), l64_1, l64_9999, m_isIn, bd_some, z1, z9, if_pos hin, if_neg (by decide), m_alive_c h12 hA g2 hA3 hp, bd_some, if_pos hal, if_pos rfl, m_fail]
            rfl
        obtain ⟨σ1, l1, l2, l3⟩ := c_learnAll (a := nI p) (b := nI k) (c := x) (fun s_5 => bd (fX1_aim (nI p) (nI k) x s_5) (fun y_6 s_6 => bd (fX1_find 21 33 s_6) (fun y_7 s_7 => some ((.inl y_7 : RT), s_7)))) r1 hl
        obtain ⟨σ2, hσ2⟩ : ∃ σ2, σ2 = wr (wr (wr σ1 51 5 (nI p)) 51 6 (nI k)) 51 7 x := ⟨_, rfl⟩
        have haim : fX1_aim (nI p) (nI k) x σ1 = some (0, σ2) := by rw [hσ2]; rfl
        have hC2 : DCl s σ2 dep len n p k x := by
          refine ⟨fun y q1 q2 q3 q4 q5 q6 q7 q8 => by rw [hσ2, wr_slot q5, wr_slot q5, wr_slot q5, l2 y q1 q3], fun d q a1 a2 a3 a4 => by rw [hσ2, wr_slot (by decide), wr_slot (by decide), wr_slot (by decide)]; exact l3 d q a1 a2 a3 a4, ?_, ?_, ?_, ?_⟩
          · rw [hσ2, wr_place (by decide), wr_place (by decide), wr_hit]
          · rw [hσ2, wr_place (by decide), wr_hit]
          · rw [hσ2, wr_hit]
          · rw [hσ2, wr_place (by decide), wr_place (by decide), wr_place (by decide), l2 51 (by decide) (by decide)]
        have fcls : fX11_deaths (nI p) (nI k) x s = bd (fX1_find 21 33 σ2) (fun y_7 s_7 => some ((.inl y_7 : RT), s_7)) := by
          rw [fX11_deaths, c_person_in hn h12 hp, bx_val, c_part_in hk, bx_val, if_neg hx1, if_neg hx2, w_alive rfl (by omega), bd_some, if_neg hal, if_neg (by decide)]
          refine Eq.trans l1 ?_
          show bd (fX1_aim (nI p) (nI k) x σ1) _ = _
          rw [haim, bd_some]
        have fmdl : ∀ u s3, Pre s u s3 → fX12_deaths (nI p) (nI k) x s3 = fX12_deaths_L55 (fun v4_9 s_9 => fX12_deaths_L86 v4_9 FU (0 : Int32) (wr s_9 69 44 v4_9)) (nI p) (nI k) x FU (nI 0) u := fun u s3 h => by
          obtain ⟨g1, g2⟩ := hb u s3 h
          rw [fX12_deaths, h.1, m_person_in g1 h12 hp, bd_some, if_neg (by decide), m_part_in hk, bd_some, if_neg (by decide), l64_1, l64_9999, m_isIn, bd_some, z1, z9, if_pos hin, if_neg (by decide), m_alive_c h12 hA g2 hA3 hp, bd_some, if_neg hal, if_neg (by decide)]
          rfl
        have main : ∀ u s3, Pre s u s3 → ∃ y σF t', fX11_deaths (nI p) (nI k) x s = some (.inl y, σF) ∧ (∀ z, z ≠ 31 → z ≠ 48 → z ≠ 49 → z ≠ 50 → z ≠ 51 → z ≠ 53 → z ≠ 54 → z ≠ 55 → z ≠ 56 → σF z = s z) ∧ fX12_deaths (nI p) (nI k) x s3 = some (y, t') ∧ (∀ z, z ≠ 69 → z ≠ 72 → z ≠ 73 → z ≠ 77 → z ≠ 87 → z ≠ 88 → z ≠ 90 → z ≠ 91 → z ≠ 92 → z ≠ 95 → z ≠ 96 → z ≠ 97 → t' z = u z) ∧ (∀ j, j ≠ 17 → j ≠ 37 → j ≠ 38 → j ≠ 44 → t' 69 j = u 69 j) ∧ (∀ j, j < 95 → vr t' j = vr u j) ∧
            ((σF 51 4 = s 51 4 ∧ t' 69 44 = u 69 44 ∧ σF 56 = s 56 ∧ t' 97 = u 97) ∨ ∃ most, most ≤ 3 ∧ σF 51 4 = nI most ∧ t' 69 44 = nI most ∧ ∀ j, j < most → t' 97 j = σF 56 j) := fun u s3 h => by
          have hlm : LM s u := fun k hk => h.2.1 k (by omega) (by omega)
          obtain ⟨σ', t', e1, e2, e3, e4⟩ := findL (s := s) (u := u) (dep := dep) (len := len) (p := p) (k := k) (v := x) (fun v4_3 s_3 => bd (fX11_copyRow 55 56 s_3) (fun y_4 s_4 => some (v4_3, wr s_4 51 4 v4_3))) (fun v4_9 s_9 => fX12_deaths_L86 v4_9 FU (0 : Int32) (wr s_9 69 44 v4_9)) r1 hl hlm (by rw [h.2.2.2]; exact hw) hwi hp hk 4 0 FU σ2 u rfl (by decide) hC2 ⟨fun _ _ _ _ _ _ _ _ _ _ _ _ => rfl, fun _ _ _ _ => rfl⟩ (fun _ _ => rfl)
          rw [fcls, fmdl u s3 h]
          rcases e4 with ⟨q1, q2⟩ | ⟨most, hmo, q1, q2, q3⟩
          · have q1' : fX1_find 21 33 σ2 = some (-1, σ') := q1
            refine ⟨-1, σ', t', by rw [q1', bd_some], fun z a1 a2 a3 a4 a5 a6 a7 a8 a9 => e1.1 z a1 a2 a3 a4 a5 a6 a7 a8, q2, fun z a1 a2 a3 a4 a5 a6 a7 a8 a9 a10 a11 a12 => e2.1 z a1 a2 a3 a4 a5 a6 a7 a8 a9 a10 a11, fun j a1 a2 a3 a4 => e2.2 j a1 a2 a3, e3, Or.inl ⟨e1.2.2.2.2.2, e2.2 44 (by decide) (by decide) (by decide), e1.1 56 (by decide) (by decide) (by decide) (by decide) (by decide) (by decide) (by decide) (by decide), e2.1 97 (by decide) (by decide) (by decide) (by decide) (by decide) (by decide) (by decide) (by decide) (by decide) (by decide) (by decide)⟩⟩
          · obtain ⟨σF, hσF⟩ : ∃ σF, σF = wr (ovl σ' 56 0 3 (σ' 55)) 51 4 (nI most) := ⟨_, rfl⟩
            have q1' : fX1_find 21 33 σ2 = some (nI most, σF) := by
              refine Eq.trans q1 ?_
              show bd (fX11_copyRow 55 56 σ') _ = _
              rw [c_copyRow (by decide) (by decide) (by decide), bd_some, hσF]
              rfl
            obtain ⟨t1, ht1⟩ : ∃ t1, t1 = wr t' 69 44 (nI most) := ⟨_, rfl⟩
            have q2' : fX12_deaths_L86 (nI most) FU (0 : Int32) t1 = some (nI most, ovl t1 97 0 most (t1 96)) := by
              have := copyL (fun m i t => fX12_deaths_L86 (nI most) m (nI i) t) (fun t => some (nI most, t)) t1 97 0 most (t1 96) (fun m i hi => by
                simp only [fX12_deaths_L86]
                rw [if_neg (by rw [nI_leI (by omega) (by omega)]; omega), if_pos (inA_lt (by decide) (by omega)), if_pos (inA_lt (by decide) (by omega)), nI_clamp (by omega), ovl_slot (by decide), zra_1, Nat.zero_add]) (fun m t => by
                simp only [fX12_deaths_L86]
                rw [if_pos (Int32.le_refl _)]) most 0 FU (by omega) (by show most < 20000; omega)
              rw [ovl_zero] at this
              exact this
            refine ⟨nI most, σF, ovl t1 97 0 most (t1 96), by rw [q1', bd_some], fun z a1 a2 a3 a4 a5 a6 a7 a8 a9 => by rw [hσF, wr_slot a5, ovl_slot a9, e1.1 z a1 a2 a3 a4 a5 a6 a7 a8], ?_, fun z a1 a2 a3 a4 a5 a6 a7 a8 a9 a10 a11 a12 => by rw [ovl_slot a12, ht1, wr_slot a1, e2.1 z a1 a2 a3 a4 a5 a6 a7 a8 a9 a10 a11], fun j a1 a2 a3 a4 => by rw [ovl_slot (by decide), ht1, wr_place a4, e2.2 j a1 a2 a3], fun j hj => ?_, Or.inr ⟨most, hmo, by rw [hσF, wr_hit], by rw [ovl_slot (by decide), ht1, wr_hit], fun j hj => ?_⟩⟩
            · refine Eq.trans q2 ?_
              show fX12_deaths_L86 (nI most) FU 0 (wr t' 69 44 (nI most)) = _
              rw [← ht1, q2']
            · rw [← e3 j hj]
              have : vr (ovl t1 97 0 most (t1 96)) = vr t' := by
                refine vr_same ?_ ?_ ?_ ?_ ?_ ?_
                · rw [ovl_slot (by decide), ht1, wr_slot (by decide)]
                · rw [ovl_slot (by decide), ht1, wr_slot (by decide)]
                · rw [ovl_slot (by decide), ht1, wr_slot (by decide)]
                · rw [ovl_slot (by decide), ht1, wr_slot (by decide)]
                · rw [ovl_slot (by decide), ht1, wr_slot (by decide)]
                · rw [ovl_slot (by decide), ht1, wr_place (by decide)]
              rw [this]
            · rw [ovl_in (by omega) (by omega), Nat.sub_zero, ht1, wr_slot (by decide), hσF, wr_slot (by decide), ovl_in (by omega) (by omega), Nat.sub_zero]
              exact (q3 j hj).symm
        obtain ⟨y, σF, -, f1, f2, -⟩ := main (wr s 69 1 0) s (pre_st (fun _ _ _ => rfl))
        refine ⟨.inl y, σF, f1, fun s3 e3 => ?_⟩
        have hpre : Pre s (wr s3 69 1 0) s3 := pre_st (fun z h1 h2 => by rw [e3 z h2, f2 z (by omega) (by omega) (by omega) (by omega) (by omega) (by omega) (by omega) (by omega) (by omega)])
        obtain ⟨y2, σ2', t', g1, -, g3, g4, g5, g6, g7⟩ := main (wr s3 69 1 0) s3 hpre
        rw [f1] at g1
        cases g1
        have low : ∀ z, z ≠ 69 → z ≠ 111 → (wr s3 69 1 0) z = σF z := fun z h1 h2 => by rw [wr_slot h1, e3 z h2]
        refine ⟨y, t', g3, ?_, ?_, ?_, rfl⟩
        · have u69 : ∀ j, j ≠ 1 → (wr s3 69 1 0) 69 j = s 69 j := hpre.2.2.1
          refine rs_rows hs ⟨fun z e => ?_, fun j e => ?_, fun z e => ?_⟩ (fun j hj => by rw [g6 j hj, hpre.2.2.2]) ?_ (fun n' _ _ hq => ?_) ?_
          · have hz : (z ≠ 69 ∧ z ≠ 72 ∧ z ≠ 73 ∧ z ≠ 77 ∧ z ≠ 87 ∧ z ≠ 88 ∧ z ≠ 90 ∧ z ≠ 91 ∧ z ≠ 92 ∧ z ≠ 95 ∧ z ≠ 96 ∧ z ≠ 97) ∧ z ≠ 111 ∧ (z ≠ 31 ∧ z ≠ 48 ∧ z ≠ 49 ∧ z ≠ 50 ∧ z ≠ 51 ∧ z ≠ 53 ∧ z ≠ 54 ∧ z ≠ 55 ∧ z ≠ 56) := by revert z; decide
            obtain ⟨⟨a1, a2, a3, a4, a5, a6, a7, a8, a9, a10, a11, a12⟩, c1, ⟨b1, b2, b3, b4, b5, b6, b7, b8, b9⟩⟩ := hz
            rw [g4 z a1 a2 a3 a4 a5 a6 a7 a8 a9 a10 a11 a12, low z a1 c1, f2 z b1 b2 b3 b4 b5 b6 b7 b8 b9]
          · have hj : j ≠ 17 ∧ j ≠ 37 ∧ j ≠ 38 ∧ j ≠ 44 ∧ j ≠ 1 := by revert j; decide
            rw [g5 j hj.1 hj.2.1 hj.2.2.1 hj.2.2.2.1, u69 j hj.2.2.2.2]
          · have hz : (z.1 ≠ 69 ∧ z.1 ≠ 72 ∧ z.1 ≠ 73 ∧ z.1 ≠ 77 ∧ z.1 ≠ 87 ∧ z.1 ≠ 88 ∧ z.1 ≠ 90 ∧ z.1 ≠ 91 ∧ z.1 ≠ 92 ∧ z.1 ≠ 95 ∧ z.1 ≠ 96 ∧ z.1 ≠ 97) ∧ z.1 ≠ 111 ∧ (z.1 ≠ 31 ∧ z.1 ≠ 48 ∧ z.1 ≠ 49 ∧ z.1 ≠ 50 ∧ z.1 ≠ 51 ∧ z.1 ≠ 53 ∧ z.1 ≠ 54 ∧ z.1 ≠ 55 ∧ z.1 ≠ 56) := by revert z; decide
            obtain ⟨⟨a1, a2, a3, a4, a5, a6, a7, a8, a9, a10, a11, a12⟩, c1, ⟨b1, b2, b3, b4, b5, b6, b7, b8, b9⟩⟩ := hz
            rw [g4 z.1 a1 a2 a3 a4 a5 a6 a7 a8 a9 a10 a11 a12, low z.1 a1 c1, f2 z.1 b1 b2 b3 b4 b5 b6 b7 b8 b9]
          · have t51 : t' 51 = σF 51 := by rw [g4 51 (by decide) (by decide) (by decide) (by decide) (by decide) (by decide) (by decide) (by decide) (by decide) (by decide) (by decide) (by decide), low 51 (by decide) (by decide)]
            have t56 : t' 56 = σF 56 := by rw [g4 56 (by decide) (by decide) (by decide) (by decide) (by decide) (by decide) (by decide) (by decide) (by decide) (by decide) (by decide) (by decide), low 56 (by decide) (by decide)]
            rw [t51, t56]
            rcases g7 with ⟨a1, a2, a3, a4⟩ | ⟨most, a1, a2, a3, a4⟩
            · rw [a1, a2, a3, a4, u69 44 (by decide), hpre.2.1 97 (by decide) (by decide)]
              exact r5
            · exact ⟨most, a1, a2, Or.inr a3, a4⟩
          · unfold RPost at hq ⊢
            rw [g4 57 (by decide) (by decide) (by decide) (by decide) (by decide) (by decide) (by decide) (by decide) (by decide) (by decide) (by decide) (by decide), low 57 (by decide) (by decide), f2 57 (by decide) (by decide) (by decide) (by decide) (by decide) (by decide) (by decide) (by decide) (by decide), g5 48 (by decide) (by decide) (by decide) (by decide), u69 48 (by decide), g5 47 (by decide) (by decide) (by decide) (by decide), u69 47 (by decide), g4 98 (by decide) (by decide) (by decide) (by decide) (by decide) (by decide) (by decide) (by decide) (by decide) (by decide) (by decide) (by decide), hpre.2.1 98 (by decide) (by decide), g4 59 (by decide) (by decide) (by decide) (by decide) (by decide) (by decide) (by decide) (by decide) (by decide) (by decide) (by decide) (by decide), low 59 (by decide) (by decide), f2 59 (by decide) (by decide) (by decide) (by decide) (by decide) (by decide) (by decide) (by decide) (by decide)]
            exact hq
          · rw [g4 62 (by decide) (by decide) (by decide) (by decide) (by decide) (by decide) (by decide) (by decide) (by decide) (by decide) (by decide) (by decide), low 62 (by decide) (by decide), f2 62 (by decide) (by decide) (by decide) (by decide) (by decide) (by decide) (by decide) (by decide) (by decide), g5 51 (by decide) (by decide) (by decide) (by decide), u69 51 (by decide), g4 64 (by decide) (by decide) (by decide) (by decide) (by decide) (by decide) (by decide) (by decide) (by decide) (by decide) (by decide) (by decide), low 64 (by decide) (by decide), f2 64 (by decide) (by decide) (by decide) (by decide) (by decide) (by decide) (by decide) (by decide) (by decide), g4 101 (by decide) (by decide) (by decide) (by decide) (by decide) (by decide) (by decide) (by decide) (by decide) (by decide) (by decide) (by decide), hpre.2.1 101 (by decide) (by decide)]
            exact r7
        · rw [g4 111 (by decide) (by decide) (by decide) (by decide) (by decide) (by decide) (by decide) (by decide) (by decide) (by decide) (by decide) (by decide), wr_slot (by decide)]
        · rw [g5 1 (by decide) (by decide) (by decide) (by decide), wr_hit]
      · refine gat_thr (x := 1) hs (Or.inr rfl) (by decide) ?_ (fun u s3 h => ?_)
        · rw [fX11_deaths, c_person_in hn h12 hp, bx_val, c_part_in hk, bx_val]
          by_cases hx1 : x < 1
          · rw [if_pos hx1]
          · rw [if_neg hx1, if_pos (by rw [i_lt, z9]; rw [i_lt, z1] at hx1; omega)]
        · obtain ⟨g1, g2⟩ := hb u s3 h
          rw [fX12_deaths, h.1, m_person_in g1 h12 hp, bd_some, if_neg (by decide), m_part_in hk, bd_some, if_neg (by decide), l64_1, l64_9999, m_isIn, bd_some, z1, z9, if_neg hin, if_pos rfl, m_fail]
          rfl
    · refine gat_thr (x := 0) hs (Or.inl rfl) (by decide) ?_ (fun u s3 h => ?_)
      · rw [fX11_deaths, c_person_in hn h12 hp, bx_val, c_part_out ho, bx_thr]
      · obtain ⟨g1, g2⟩ := hb u s3 h
        rw [fX12_deaths, h.1, m_person_in g1 h12 hp, bd_some, if_neg (by decide), m_part_out ho, bd_some, if_pos rfl, m_fail]
        rfl
  · refine gat_thr (x := 0) hs (Or.inl rfl) (by decide) ?_ (fun u s3 h => ?_)
    · rw [fX11_deaths, c_person_out hn ho, bx_thr]
    · obtain ⟨g1, g2⟩ := hb u s3 h
      rw [fX12_deaths, h.1, m_person_out g1 h12 ho, bd_some, if_pos rfl, m_fail]
      rfl
