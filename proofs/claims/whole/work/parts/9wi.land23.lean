/-! ===== land: all lines, and the reading as a whole ===== -/
section LINES2
variable {b : Nat → Int32} {m K : Nat} {pl ln : Nat → Nat}
theorem kind_end {i : Nat} {σ t : St} (h : At b m K pl ln i σ t) : (i < K → ¬ σ 2 6 = -1 ∧ ¬ t 69 22 = 0) ∧ (i = K → σ 2 6 = -1 ∧ t 69 22 = 0) := by
  obtain ⟨a1, a2, ⟨a3, a4⟩, a5, a6, ⟨a7, a8, a9⟩, a10⟩ := id h
  refine ⟨fun hi => ?_, fun hi => ?_⟩
  · have e22 : t 69 22 = tyS (b (pl i)) := by
      rcases a10 with ⟨-, q, -⟩ | ⟨q, -⟩
      · exact q
      · omega
    rw [a8, kAt, if_pos hi, e22]
    constructor
    · intro q
      by_cases e : chK (b (pl i)) = 300
      · obtain ⟨w, w1, w2, w3⟩ := word_ge b (pl i) (ln i)
        rw [kindT, if_pos e, w3] at q
        exact neg1 (by omega) q
      · rw [kindT, if_neg e] at q
        rcases chK_spec (b (pl i)) with ⟨-, -, h3⟩ | ⟨-, -, -, h3⟩ | ⟨-, -, h3⟩
        · exact e h3
        · rw [h3] at q; exact absurd q (by decide)
        · rw [h3] at q
          rcases chB_spec (b (pl i)) with ⟨-, h'⟩ | ⟨h'', h'⟩ | ⟨-, -, h'⟩
          · rw [h'] at q; exact absurd q (by decide)
          · rw [h'] at q
            exact (mk_facts _ h'').2.2.2.2.2.2.1 q
          · rw [h'] at q; exact absurd q (by decide)
    · unfold tyS
      by_cases e1 : chK (b (pl i)) = 300
      · rw [if_pos e1]; decide
      · rw [if_neg e1]
        by_cases e2 : chK (b (pl i)) = 200
        · rw [if_pos e2]; decide
        · rw [if_neg e2]
          by_cases e3 : mkD (b (pl i)) = true
          · rw [if_pos e3]; decide
          · rw [if_neg e3]; decide
  · rw [a8, kAt, if_neg (by omega)]
    rcases a10 with ⟨q, -⟩ | ⟨-, q, -⟩
    · omega
    · exact ⟨rfl, q⟩
theorem p_lines (hm : m ≤ 700) (hK : K ≤ m) (hT : TokB b m K pl ln) (hB : Bytes b) (k76 k110 : St → Option (Int32 × St)) : ∀ k i v3 fu fu' n nw nf ft lt (σ t : St), K ≤ i + k → v3 ≤ i → k < fu → k < fu' → At b m K pl ln i σ t → DatI n nw nf ft lt σ t →
    (∃ σ' t' n' nw' nf' ft' lt', fX6_read_L44 k76 1 fu (nI v3) σ = k76 σ' ∧ fX12_land_L87 k110 fu' (dn ft lt) t = k110 t' ∧ σ' 2 4 = 0 ∧ t' 69 26 = 0 ∧ DatI n' nw' nf' ft' lt' σ' t' ∧ LnC σ σ' ∧ LnM t t') ∨
    ∃ σ' t' i' c, fX6_read_L44 k76 1 fu (nI v3) σ = k76 σ' ∧ fX12_land_L87 k110 fu' (dn ft lt) t = k110 t' ∧ Flt m K pl i' c σ' t' ∧ LnC σ σ' ∧ LnM t t' := by
  intro k
  induction k with
  | zero =>
    intro i v3 fu fu' n nw nf ft lt σ t hi hv hfu hfu' h hD
    obtain ⟨fu, rfl⟩ : ∃ z, fu = z + 1 := ⟨fu - 1, by omega⟩
    obtain ⟨fu', rfl⟩ : ∃ z, fu' = z + 1 := ⟨fu' - 1, by omega⟩
    have hiK := h.1
    obtain ⟨e1, e2⟩ := (kind_end h).2 (by omega)
    left
    exact ⟨σ, t, n, nw, nf, ft, lt, by rw [fX6_read_L44, if_neg (by rw [zlt_700 _ (by omega)]; omega), if_pos e1], by rw [fX12_land_L87, if_pos h.2.2.2.2.1, if_pos e2], h.2.2.2.1, h.2.2.2.2.1, hD, LnC.refl σ, LnM.refl t⟩
  | succ k ih =>
    intro i v3 fu fu' n nw nf ft lt σ t hi hv hfu hfu' h hD
    obtain ⟨fu, rfl⟩ : ∃ z, fu = z + 1 := ⟨fu - 1, by omega⟩
    obtain ⟨fu', rfl⟩ : ∃ z, fu' = z + 1 := ⟨fu' - 1, by omega⟩
    have hiK := h.1
    by_cases hK2 : i < K
    · obtain ⟨e1, e2⟩ := (kind_end h).1 hK2
      rw [fX6_read_L44, if_neg (by rw [zlt_700 _ (by omega)]; omega), if_neg e1, if_pos h.2.2.2.1, fX12_land_L87, if_pos h.2.2.2.2.1, if_neg e2]
      rcases p_line hm hK hT hB h hK2 hD with ⟨i', n', nw', nf', ft', lt', σ1, t1, g1, g2, g3, g4, g5, g6, g7⟩ | ⟨σ1, t1, i', c, y, g1, g2, g3, g4, g5⟩
      · rw [g1, g2, bd_some, bd_some, zra_1]
        rcases ih i' (v3 + 1) fu fu' n' nw' nf' ft' lt' σ1 t1 (by omega) (by omega) (by omega) (by omega) g3 g5 with ⟨σ2, t2, n2, nw2, nf2, ft2, lt2, k1, k2, k3, k4, k5, k6, k7⟩ | ⟨σ2, t2, i2, c, k1, k2, k3, k4, k5⟩
        · exact Or.inl ⟨σ2, t2, n2, nw2, nf2, ft2, lt2, k1, k2, k3, k4, k5, g6.tr k6, g7.tr k7⟩
        · exact Or.inr ⟨σ2, t2, i2, c, k1, k2, k3, g6.tr k4, g7.tr k5⟩
      · rw [g1, g2, bd_some, bd_some, zra_1]
        obtain ⟨fu, rfl⟩ : ∃ z, fu = z + 1 := ⟨fu - 1, by omega⟩
        obtain ⟨fu', rfl⟩ : ∃ z, fu' = z + 1 := ⟨fu' - 1, by omega⟩
        right
        refine ⟨σ1, t1, i', c, ?_, by rw [fX12_land_L87, if_neg g3.ne.2], g3, g4, g5⟩
        rw [fX6_read_L44]
        by_cases q1 : (700 : Int32) < nI (v3 + 1)
        · rw [if_pos q1]
        · rw [if_neg q1]
          by_cases q2 : σ1 2 6 = -1
          · rw [if_pos q2]
          · rw [if_neg q2, if_neg g3.ne.1]
    · obtain ⟨e1, e2⟩ := (kind_end h).2 (by omega)
      left
      exact ⟨σ, t, n, nw, nf, ft, lt, by rw [fX6_read_L44, if_neg (by rw [zlt_700 _ (by omega)]; omega), if_pos e1], by rw [fX12_land_L87, if_pos h.2.2.2.2.1, if_pos e2], h.2.2.2.1, h.2.2.2.2.1, hD, LnC.refl σ, LnM.refl t⟩
end LINES2
theorem m_L50 (kk : St → Option (Int32 × St)) : ∀ k j fu (s : St), j + k = 5 → k < fu → ∃ s', fX12_land_L50 kk fu (nI j) s = kk s' ∧ (∀ x, x ≠ 71 → s' x = s x) ∧ (∀ y, ¬ (5 + j ≤ y ∧ y < 10) → s' 71 y = s 71 y) ∧ ∀ y, 5 + j ≤ y → y < 10 → s' 71 y = if y = 8 then 300 else 0 := by
  intro k
  induction k with
  | zero =>
    intro j fu s hj hfu
    obtain ⟨fu, rfl⟩ : ∃ z, fu = z + 1 := ⟨fu - 1, by omega⟩
    obtain rfl : j = 5 := by omega
    exact ⟨s, by rw [fX12_land_L50, if_pos (by decide)], fun _ _ => rfl, fun _ _ => rfl, fun y h1 h2 => absurd h2 (by omega)⟩
  | succ k ih =>
    intro j fu s hj hfu
    obtain ⟨fu, rfl⟩ : ∃ z, fu = z + 1 := ⟨fu - 1, by omega⟩
    obtain ⟨s', a1, a2, a3, a4⟩ := ih (j + 1) fu (wr s 71 (5 + j) (if j = 3 then 300 else 0)) (by omega) (by omega)
    refine ⟨s', ?_, fun x hx => by rw [a2 x hx, wr_slot hx], fun y hy => by rw [a3 y (by omega), wr_place (by omega)], fun y h1 h2 => ?_⟩
    · rw [fX12_land_L50, if_neg (by rw [zll_5 _ (by omega)]; omega)]
      by_cases e : j = 3
      · rw [if_pos (by rw [e]; rfl), zla_5, if_pos (inA_lt (by decide) (by omega)), nI_clamp (by omega), zra_1]
        rw [if_pos e] at a1
        exact a1
      · rw [if_neg (by rw [zle_3 _ (by omega)]; exact e), zla_5, if_pos (inA_lt (by decide) (by omega)), nI_clamp (by omega), zra_1]
        rw [if_neg e] at a1
        exact a1
    · by_cases e : y = 5 + j
      · rw [a3 y (by omega), e, wr_hit]
        by_cases e3 : j = 3
        · rw [if_pos e3, if_pos (by omega)]
        · rw [if_neg e3, if_neg (by omega)]
      · exact a4 y (by omega) h2
theorem c_clear3 (s : St) : ∃ s', fX4_clear 3 s = some (0, s') ∧ s' 3 0 = 0 ∧ s' 3 4 = 0 ∧ s' 3 6 = 0 ∧ s' 3 10 = 300 ∧ s' 11 2 = 0 ∧ s' 11 3 = 0 ∧ (∀ j, j < 144 → s' 7 j = 0) ∧ ∀ x, x ≠ 3 → x ≠ 7 → x ≠ 11 → s' x = s x := by
  refine ⟨_, by (rw [fX4_clear]; (try dsimp only); rw [fill_spec (r := 7) (by decide) (by decide) (by decide), bd_some, fX5_clear]; (try dsimp only); rw [bd_some]), ?_, ?_, ?_, ?_, ?_, ?_, fun j hj => ?_, fun x h1 h2 h3 => ?_⟩
  · rw [wr_slot (by decide), wr_slot (by decide), if_neg (fun q => absurd q.1 (by decide)), wr_place (by decide), wr_place (by decide), wr_place (by decide), wr_hit]
  · rw [wr_slot (by decide), wr_slot (by decide), if_neg (fun q => absurd q.1 (by decide)), wr_place (by decide), wr_place (by decide), wr_hit]
  · rw [wr_slot (by decide), wr_slot (by decide), if_neg (fun q => absurd q.1 (by decide)), wr_place (by decide), wr_hit]
  · rw [wr_slot (by decide), wr_slot (by decide), if_neg (fun q => absurd q.1 (by decide)), wr_hit]
  · rw [wr_place (by decide), wr_hit]
  · rw [wr_hit]
  · rw [wr_slot (by decide), wr_slot (by decide), if_pos]
    have z0 : (0 : Int32).toInt = 0 := rfl
    have z1 : (144 : Int32).toInt = 144 := rfl
    rw [z0, z1]
    omega
  · rw [wr_slot h3, wr_slot h3]
    funext y
    rw [if_neg (fun q => h2 q.1), wr_slot h1, wr_slot h1, wr_slot h1, wr_slot h1]
theorem c_clear14 (s : St) : ∃ s', fX10_clear 14 s = some (0, s') ∧ (∀ j, 48 ≤ j → j < 72 → s' 15 j = -1) ∧ (∀ j, 72 ≤ j → j < 94 → s' 15 j = 0) ∧ ∀ x, x ≠ 15 → s' x = s x := by
  have z0 : (0 : Int32).toInt = 0 := rfl
  have z1 : (94 : Int32).toInt = 94 := rfl
  have z2 : (48 : Int32).toInt = 48 := rfl
  have z3 : (72 : Int32).toInt = 72 := rfl
  refine ⟨_, by rw [fX10_clear, fill_spec (r := 15) (by decide) (by decide) (by decide), bd_some, fill_spec (r := 15) (by decide) (by decide) (by decide), bd_some], fun j h1 h2 => ?_, fun j h1 h2 => ?_, fun x h1 => ?_⟩
  · rw [z2, z3, if_pos ⟨rfl, by omega, by omega⟩]
  · rw [z2, z3, z0, z1, if_neg (by omega), if_pos ⟨rfl, by omega, by omega⟩]
  · funext y
    rw [if_neg (fun q => h1 q.1), if_neg (fun q => h1 q.1)]
/-- the reference's reading, all of it -/
def mRead (s : St) : Option (Int32 × St) := fX12_land_L50 (fun s_10 => bd (fX12_stepOn s_10) (fun _ s_11 => fX12_land_L87 (fun s_13 => fX12_land_J110 s_13) FU (0 : Int32) s_11)) FU (0 : Int32) s
theorem p_read {m : Nat} (hm : m ≤ 700) {σ t : St} (hB : Bytes (σ 1)) (h21 : t 69 21 = nI m) (h20 : t 69 20 = 0) (h26 : t 69 26 = 0) (ht : ∀ j, j < 700 → t 86 j = σ 1 j) :
    (∃ σ' t' n nw nf ft lt, fX6_read 1 (nI m) σ = some (0, wr σ' 2 2 (-1)) ∧ mRead t = fX12_land_J110 t' ∧ t' 69 26 = 0 ∧ DatI n nw nf ft lt σ' t' ∧ (∀ k, k < 2 ∨ 20 < k → σ' k = σ k) ∧ LnM t t') ∨
    ∃ σ' t' c p, fX6_read 1 (nI m) σ = some (c, wr σ' 2 2 (nI p)) ∧ mRead t = fX12_land_J110 t' ∧ ¬ c = 0 ∧ t' 69 26 = c ∧ t' 69 27 = nI p ∧ (∀ k, k < 2 ∨ 20 < k → σ' k = σ k) ∧ LnM t t' := by
  obtain ⟨K, pl, ln, σ1, c1, hK, hT, hTk, hC⟩ := c_tokens (s := σ) (m := m) hm
  obtain ⟨σ2, d1, d2, d3, d4, d5, d6, d7, d8, d9⟩ := c_clear3 σ1
  obtain ⟨σ3, e1, e2, e3, e4⟩ := c_clear14 σ2
  obtain ⟨t1, f1, f2, f3, f4⟩ := m_L50 (fun s_10 => bd (fX12_stepOn s_10) (fun _ s_11 => fX12_land_L87 (fun s_13 => fX12_land_J110 s_13) FU (0 : Int32) s_11)) 5 0 FU t (by omega) (by decide)
  have f1 : mRead t = bd (fX12_stepOn t1) (fun _ s_11 => fX12_land_L87 (fun s_13 => fX12_land_J110 s_13) FU (0 : Int32) s_11) := f1
  have hp0 : 0 ≤ if 0 < K then pl 0 else m := Nat.zero_le _
  obtain ⟨t2, g1, g2, g3, g4⟩ := m_stepOn (t := t1) (i := 0) (p0 := 0) hm hT hB (by rw [f2 69 (by decide)]; exact h21) (fun j hj => by rw [f2 86 (by decide)]; exact ht j hj) (Nat.zero_le _) (Nat.le_refl _) hp0 (by rw [f2 69 (by decide)]; exact h20)
  obtain ⟨σ4, hσ4⟩ : ∃ z, z = wr (wr (wr (wr (wr (wr σ3 2 4 0) 2 8 0) 2 5 (-1)) 2 5 (nI 0)) 2 6 (kAt (σ 1) K pl ln 0)) 2 7 (vAt (σ 1) K pl ln 0) := ⟨_, rfl⟩
  have sx : ∀ x, x ≠ 2 → σ4 x = σ3 x := fun x q => by rw [hσ4, wr_slot q, wr_slot q, wr_slot q, wr_slot q, wr_slot q, wr_slot q]
  have s17 : ∀ x, 16 ≤ x → σ4 x = σ1 x := fun x q => by rw [sx x (by omega), e4 x (by omega), d9 x (by omega) (by omega) (by omega)]
  have k17 : σ3 17 0 = kAt (σ 1) K pl ln 0 ∧ σ3 19 0 = vAt (σ 1) K pl ln 0 := by
    rw [e4 17 (by decide), d9 17 (by decide) (by decide) (by decide), e4 19 (by decide), d9 19 (by decide) (by decide) (by decide)]
    unfold kAt vAt
    by_cases e : 0 < K
    · rw [if_pos e, if_pos e]
      exact ⟨(hTk.1 0 e).1, (hTk.1 0 e).2.2⟩
    · obtain rfl : K = 0 := by omega
      rw [if_neg (by decide), if_neg (by decide)]
      exact ⟨hTk.2.1, hTk.2.2.2⟩
  have hadv : fX6_advance (wr (wr (wr σ3 2 4 0) 2 8 0) 2 5 (-1)) = some (0, σ4) := by
    rw [fX6_advance, if_pos (by rw [wr_place (by decide), wr_place (by decide), wr_hit])]
    dsimp only
    rw [wr_hit, wr_hit, show ((-1 : Int32) + 1) = nI 0 by decide, at_nI (by decide) (by decide), bd_some, wr_slot (show (17 : Nat) ≠ 2 by decide), wr_slot (show (17 : Nat) ≠ 2 by decide), wr_slot (show (17 : Nat) ≠ 2 by decide), wr_slot (show (17 : Nat) ≠ 2 by decide), k17.1, wr_place (show (5 : Nat) ≠ 6 by decide), wr_hit, at_nI (by decide) (by decide), bd_some, wr_slot (show (19 : Nat) ≠ 2 by decide), wr_slot (show (19 : Nat) ≠ 2 by decide), wr_slot (show (19 : Nat) ≠ 2 by decide), wr_slot (show (19 : Nat) ≠ 2 by decide), wr_slot (show (19 : Nat) ≠ 2 by decide), k17.2, hσ4]
  have hA : At (σ 1) m K pl ln 0 σ4 t2 := by
    refine ⟨Nat.zero_le _, ?_, ⟨by rw [g4 21 (by decide) (by decide) (by decide) (by decide) (by decide), f2 69 (by decide)]; exact h21, fun j hj => by rw [g3 86 (by decide), f2 86 (by decide)]; exact ht j hj⟩, ?_, by rw [g4 26 (by decide) (by decide) (by decide) (by decide) (by decide), f2 69 (by decide)]; exact h26, ⟨?_, ?_, ?_⟩, g2⟩
    · unfold Toks at hTk ⊢
      rw [s17 17 (by decide), s17 18 (by decide), s17 19 (by decide)]
      exact hTk
    · rw [hσ4, wr_place (by decide), wr_place (by decide), wr_place (by decide), wr_place (by decide), wr_place (by decide), wr_hit]
    · rw [hσ4, wr_place (by decide), wr_place (by decide), wr_hit]
    · rw [hσ4, wr_place (by decide), wr_hit]
    · rw [hσ4, wr_hit]
  have tm : ∀ y, 5 ≤ y → y < 10 → t2 71 y = if y = 8 then 300 else 0 := fun y h1 h2 => by
    rw [g3 71 (by decide)]
    exact f4 y (by omega) h2
  have hD : DatI 0 0 0 false false σ4 t2 := by
    refine ⟨⟨?_, tm 5 (by decide) (by decide), by decide⟩, ⟨?_, tm 6 (by decide) (by decide), by decide⟩, ⟨?_, tm 7 (by decide) (by decide), by decide⟩, ?_, ?_, fun p hp => absurd hp (by omega), fun p hp => absurd hp (by omega), fun p hp => absurd hp (by omega), ⟨fun p h1 h2 => ⟨?_, ?_⟩, fun j h1 h2 => ?_⟩, fun p hp => absurd hp (by omega), ⟨fun p hp => absurd hp (by omega), fun i j hi => absurd hi (by omega), fun x y hx hy he => ?_⟩, ⟨0, ?_, tm 9 (by decide) (by decide), ?_, ⟨fun _ => rfl, fun _ => rfl⟩, by decide, Or.inl rfl⟩⟩
    · rw [sx 3 (by decide), e4 3 (by decide), d2]; rfl
    · rw [sx 3 (by decide), e4 3 (by decide), d3]; rfl
    · rw [sx 3 (by decide), e4 3 (by decide), d4]; rfl
    · rw [sx 3 (by decide), e4 3 (by decide), d5]
      exact tm 8 (by decide) (by decide)
    · rw [hσ4, wr_place (by decide), wr_place (by decide), wr_place (by decide), wr_place (by decide), wr_hit]; rfl
    · rw [sx 15 (by decide)]; exact e2 _ (by omega) (by omega)
    · rw [sx 15 (by decide)]; exact e2 _ (by omega) (by omega)
    · rw [sx 15 (by decide)]; exact e3 _ h1 h2
    · exfalso
      apply he
      rw [sx 7 (by decide), e4 7 (by decide)]
      exact d8 _ (by omega)
    · rw [sx 11 (by decide), e4 11 (by decide), d6]; rfl
    · rw [sx 11 (by decide), e4 11 (by decide), d7]; rfl
  have hc : fX6_read 1 (nI m) σ = fX6_read_L44 (fun s_9 => fX6_read_J76 1 s_9) 1 FU (nI 0) σ4 := by
    rw [fX6_read, c1, bd_some, d1, bd_some, e1, bd_some]
    dsimp only
    rw [hadv, bd_some]
    rfl
  have hr : mRead t = fX12_land_L87 (fun s_13 => fX12_land_J110 s_13) FU (dn false false) t2 := by
    rw [f1, g1, bd_some]
    rfl
  have hL : LnM t t2 := by
    refine ⟨fun x q => by rw [g3 x (by omega), f2 x (by omega)], fun j a1 a2 a3 a4 a5 a6 a7 => by rw [g4 j a1 a2 a3 a4 a5, f2 69 (by decide)], fun x y q1 q2 q3 => ?_⟩
    rw [g3 x (by omega)]
    by_cases e : x = 71
    · subst e
      have q3 : y < 5 := q3
      exact f3 y (by omega)
    · rw [f2 x e]
  have hS : ∀ k, k < 2 ∨ 20 < k → σ4 k = σ k := fun k q => by rw [sx k (by omega), e4 k (by omega), d9 k (by omega) (by omega) (by omega), hC k (by omega) (by omega) (by omega) (by omega) (by omega)]
  rw [hc, hr]
  rcases p_lines hm hK hT hB (fun s_9 => fX6_read_J76 1 s_9) (fun s_13 => fX12_land_J110 s_13) K 0 0 FU FU 0 0 0 false false σ4 t2 (by omega) (by omega) (by show _ < 20000; omega) (by show _ < 20000; omega) hA hD with ⟨σ5, t5, n, nw, nf, ft, lt, k1, k2, k3, k4, k5, k6, k7⟩ | ⟨σ5, t5, i', c, k1, k2, k3, k4, k5⟩
  · left
    refine ⟨σ5, t5, n, nw, nf, ft, lt, Eq.trans k1 ?_, k2, k4, k5, fun k q => (k6 k (by omega)).trans (hS k q), hL.tr k7⟩
    show fX6_read_J76 1 σ5 = _
    rw [fX6_read_J76, if_pos k3]
    (try dsimp only)
    rw [wr_place (by decide), k3]
  · obtain ⟨i1, i2, i3, i4, i5, i6⟩ := k3
    right
    refine ⟨σ5, t5, c, pAt m K pl i', Eq.trans k1 ?_, k2, i2, i4, i6, fun k q => (k4 k (by omega)).trans (hS k q), hL.tr k5⟩
    have h18 : σ5 18 i' = nI (pAt m K pl i') := by
      rw [k4 18 (by decide), s17 18 (by decide)]
      unfold pAt
      by_cases e : i' < K
      · rw [if_pos e]; exact (hTk.1 i' e).2.1
      · obtain rfl : i' = K := by omega
        rw [if_neg e]; exact hTk.2.2.1
    show fX6_read_J76 1 σ5 = _
    rw [fX6_read_J76, if_neg (by rw [i3]; exact i2), i5, at_nI (by decide) (by show i' < 701; omega), bd_some]
    (try dsimp only)
    rw [wr_place (by decide), i3, h18]
