/-! ===== land: taking over ===== -/
theorem cr_ex {s : St} {r0 r1 : Nat} (h0 : LN r0 < 1000000) (h1 : LN r1 < 1000000) (h : LN r0 ≤ LN r1) : ∃ s', fX11_copyRow r0 r1 s = some (0, s') ∧ (∀ j, j < LN r0 → s' r1 j = s r0 j) ∧ ∀ k, k ≠ r1 → s' k = s k :=
  ⟨_, c_copyRow h0 h1 h, fun j hj => by rw [ovl_in (Nat.zero_le _) (by omega), Nat.sub_zero], fun k hk => ovl_slot hk⟩
theorem c_landCopy {s : St} (ht : s 11 3 = 0 ∨ s 11 3 = 1) : ∃ s', fX4_copyFrom 21 3 s = some (0, s') ∧ s' 21 0 = s 3 0 ∧ s' 21 4 = s 3 4 ∧ s' 21 6 = s 3 6 ∧ s' 21 10 = s 3 10 ∧ (∀ j, j < 12 → s' 22 j = s 4 j ∧ s' 23 j = s 5 j ∧ s' 24 j = s 6 j) ∧ (∀ j, j < 144 → s' 25 j = s 7 j) ∧ (∀ j, j < 6 → s' 26 j = s 8 j ∧ s' 27 j = s 9 j ∧ s' 28 j = s 10 j) ∧ s' 29 2 = s 11 2 ∧ s' 29 3 = s 11 3 ∧ (∀ j, j < 700 → s' 30 j = s 12 j) ∧ ∀ k, k < 21 ∨ 31 ≤ k → s' k = s k := by
  obtain ⟨u, hu⟩ : ∃ u, u = wr (wr (wr (wr s 21 0 (s 3 0)) 21 4 (s 3 4)) 21 6 (s 3 6)) 21 10 (s 3 10) := ⟨_, rfl⟩
  have ux : ∀ k, k ≠ 21 → u k = s k := fun k hk => by rw [hu, wr_slot hk, wr_slot hk, wr_slot hk, wr_slot hk]
  obtain ⟨a1, e1, g1, x1⟩ := cr_ex (s := u) (r0 := 4) (r1 := 22) (by decide) (by decide) (by decide)
  obtain ⟨a2, e2, g2, x2⟩ := cr_ex (s := a1) (r0 := 5) (r1 := 23) (by decide) (by decide) (by decide)
  obtain ⟨a3, e3, g3, x3⟩ := cr_ex (s := a2) (r0 := 6) (r1 := 24) (by decide) (by decide) (by decide)
  obtain ⟨a4, e4, g4, x4⟩ := cr_ex (s := a3) (r0 := 7) (r1 := 25) (by decide) (by decide) (by decide)
  obtain ⟨a5, e5, g5, x5⟩ := cr_ex (s := a4) (r0 := 8) (r1 := 26) (by decide) (by decide) (by decide)
  obtain ⟨a6, e6, g6, x6⟩ := cr_ex (s := a5) (r0 := 9) (r1 := 27) (by decide) (by decide) (by decide)
  obtain ⟨a7, e7, g7, x7⟩ := cr_ex (s := a6) (r0 := 10) (r1 := 28) (by decide) (by decide) (by decide)
  obtain ⟨v, hv⟩ : ∃ v, v = wr (wr a7 29 2 (a7 11 2)) 29 3 (a7 11 3) := ⟨_, rfl⟩
  have vx : ∀ k, k ≠ 29 → v k = a7 k := fun k hk => by rw [hv, wr_slot hk, wr_slot hk]
  obtain ⟨a8, e8, g8, x8⟩ := cr_ex (s := v) (r0 := 12) (r1 := 30) (by decide) (by decide) (by decide)
  have back : ∀ k, k < 21 → a7 k = s k := fun k hk => by rw [x7 k (by omega), x6 k (by omega), x5 k (by omega), x4 k (by omega), x3 k (by omega), x2 k (by omega), x1 k (by omega), ux k (by omega)]
  have h5 : fX5_copyFrom 29 11 a7 = some (0, a8) := by
    rw [fX5_copyFrom]
    (try dsimp only)
    rw [wr_slot (show (11 : Nat) ≠ 29 by decide), if_pos (by rw [back 11 (by decide)]; exact ht), ← hv, e8, bd_some]
  have hm : fX4_copyFrom 21 3 s = some (0, a8) := by
    rw [fX4_copyFrom]
    (try dsimp only)
    simp only [wr_slot (show (3 : Nat) ≠ 21 by decide)]
    rw [← hu, e1, bd_some, e2, bd_some, e3, bd_some, e4, bd_some, e5, bd_some, e6, bd_some, e7, bd_some, h5, bd_some]
  have t21 : a8 21 = u 21 := by rw [x8 21 (by decide), vx 21 (by decide), x7 21 (by decide), x6 21 (by decide), x5 21 (by decide), x4 21 (by decide), x3 21 (by decide), x2 21 (by decide), x1 21 (by decide)]
  refine ⟨a8, hm, ?_, ?_, ?_, ?_, fun j hj => ⟨?_, ?_, ?_⟩, fun j hj => ?_, fun j hj => ⟨?_, ?_, ?_⟩, ?_, ?_, fun j hj => ?_, fun k hk => ?_⟩
  · rw [t21, hu, wr_place (by decide), wr_place (by decide), wr_place (by decide), wr_hit]
  · rw [t21, hu, wr_place (by decide), wr_place (by decide), wr_hit]
  · rw [t21, hu, wr_place (by decide), wr_hit]
  · rw [t21, hu, wr_hit]
  · rw [x8 22 (by decide), vx 22 (by decide), x7 22 (by decide), x6 22 (by decide), x5 22 (by decide), x4 22 (by decide), x3 22 (by decide), x2 22 (by decide), g1 j hj, ux 4 (by decide)]
  · rw [x8 23 (by decide), vx 23 (by decide), x7 23 (by decide), x6 23 (by decide), x5 23 (by decide), x4 23 (by decide), x3 23 (by decide), g2 j hj, x1 5 (by decide), ux 5 (by decide)]
  · rw [x8 24 (by decide), vx 24 (by decide), x7 24 (by decide), x6 24 (by decide), x5 24 (by decide), x4 24 (by decide), g3 j hj, x2 6 (by decide), x1 6 (by decide), ux 6 (by decide)]
  · rw [x8 25 (by decide), vx 25 (by decide), x7 25 (by decide), x6 25 (by decide), x5 25 (by decide), g4 j hj, x3 7 (by decide), x2 7 (by decide), x1 7 (by decide), ux 7 (by decide)]
  · rw [x8 26 (by decide), vx 26 (by decide), x7 26 (by decide), x6 26 (by decide), g5 j hj, x4 8 (by decide), x3 8 (by decide), x2 8 (by decide), x1 8 (by decide), ux 8 (by decide)]
  · rw [x8 27 (by decide), vx 27 (by decide), x7 27 (by decide), g6 j hj, x5 9 (by decide), x4 9 (by decide), x3 9 (by decide), x2 9 (by decide), x1 9 (by decide), ux 9 (by decide)]
  · rw [x8 28 (by decide), vx 28 (by decide), g7 j hj, x6 10 (by decide), x5 10 (by decide), x4 10 (by decide), x3 10 (by decide), x2 10 (by decide), x1 10 (by decide), ux 10 (by decide)]
  · rw [x8 29 (by decide), hv, wr_place (by decide), wr_hit, back 11 (by decide)]
  · rw [x8 29 (by decide), hv, wr_hit, back 11 (by decide)]
  · rw [g8 j hj, vx 12 (by decide), back 12 (by decide)]
  · rw [x8 k (by omega), vx k (by omega), x7 k (by omega), x6 k (by omega), x5 k (by omega), x4 k (by omega), x3 k (by omega), x2 k (by omega), x1 k (by omega), ux k (by omega)]
theorem c_beginS {s : St} : ∃ s', fX8_begin 32 14 s = some (0, s') ∧ (∀ j, j < 94 → s' 34 j = s 15 j) ∧ s' 32 2 = 0 ∧ s' 32 3 = 0 ∧ s' 32 6 = 0 ∧ ∀ k, k ≠ 32 → k ≠ 34 → s' k = s k := by
  obtain ⟨a1, e1, g1, x1⟩ := cr_ex (s := s) (r0 := 15) (r1 := 34) (by decide) (by decide) (by decide)
  refine ⟨wr (wr (wr a1 32 2 0) 32 3 0) 32 6 0, ?_, fun j hj => ?_, ?_, ?_, wr_hit, fun k h1 h2 => ?_⟩
  · rw [fX8_begin, fX10_copyFrom, e1, bd_some, bd_some]
  · rw [wr_slot (by decide), wr_slot (by decide), wr_slot (by decide), g1 j hj]
  · rw [wr_place (by decide), wr_place (by decide), wr_hit]
  · rw [wr_place (by decide), wr_hit]
  · rw [wr_slot h1, wr_slot h1, wr_slot h1, x1 k h2]
theorem m_halfL {r H : Nat} (hr : LN r = 2 * H) (hd : Int32.ofNat (LN r) / (2 : Int32) = nI H) (hH : H ≤ 700) : ∀ k i fu (t : St), i + k = H → k < fu → ∃ t', fX12_takeHalf_L2 r fu (nI i) t = some (0, t') ∧ (∀ j, i ≤ j → j < H → t' r j = t r (H + j)) ∧ ∀ x, x ≠ r → t' x = t x := by
  have key : ∀ k i fu (t : St), i + k = H → k < fu → ∃ t', fX12_takeHalf_L2 r fu (nI i) t = some (0, t') ∧ (∀ j, i ≤ j → j < H → t' r j = t r (H + j)) ∧ (∀ j, j < i → t' r j = t r j) ∧ ∀ x, x ≠ r → t' x = t x := by
    intro k
    induction k with
    | zero =>
      intro i fu t hi hfu
      obtain ⟨fu, rfl⟩ : ∃ z, fu = z + 1 := ⟨fu - 1, by omega⟩
      obtain rfl : i = H := by omega
      exact ⟨t, by rw [fX12_takeHalf_L2, hd, if_pos (Int32.le_refl _)], fun j h1 h2 => absurd h2 (by omega), fun _ _ => rfl, fun _ _ => rfl⟩
    | succ k ih =>
      intro i fu t hi hfu
      obtain ⟨fu, rfl⟩ : ∃ z, fu = z + 1 := ⟨fu - 1, by omega⟩
      obtain ⟨t', a1, a2, a3, a4⟩ := ih (i + 1) fu (wr t r i (t r (H + i))) (by omega) (by omega)
      refine ⟨t', ?_, fun j h1 h2 => ?_, fun j h1 => by rw [a3 j (by omega), wr_place (by omega)], fun x hx => by rw [a4 x hx, wr_slot hx]⟩
      · rw [fX12_takeHalf_L2, hd, if_neg (by rw [nI_leI (by omega) (by omega)]; omega), nI_add, if_pos (inA_lt (by omega) (by omega)), if_pos (inA_lt (by omega) (by omega)), nI_clamp (by omega), nI_clamp (by omega), zra_1]
        exact a1
      · by_cases e : j = i
        · rw [a3 j (by omega), e, wr_hit]
        · rw [a2 j (by omega) h2, wr_place (by omega)]
  intro k i fu t hi hfu
  obtain ⟨t', a1, a2, -, a4⟩ := key k i fu t hi hfu
  exact ⟨t', a1, a2, a4⟩
theorem m_half {r : Nat} (H : Nat) (hr : LN r = 2 * H) (hd : Int32.ofNat (LN r) / (2 : Int32) = nI H) (hH : H ≤ 700) (t : St) : ∃ t', fX12_takeHalf r t = some (0, t') ∧ (∀ j, j < H → t' r j = t r (H + j)) ∧ ∀ x, x ≠ r → t' x = t x := by
  obtain ⟨t', a1, a2, a3⟩ := m_halfL hr hd hH H 0 FU t (by omega) (by show _ < 20000; omega)
  exact ⟨t', a1, fun j hj => a2 j (Nat.zero_le _) hj, a3⟩
theorem m_zero87 (kk : St → Option (Int32 × St)) : ∀ k i fu (t : St), i + k = 12 → k < fu → ∃ t', fX12_takeOver_L100 kk fu (nI i) t = kk t' ∧ (∀ j, i ≤ j → j < 12 → t' 87 j = 0) ∧ (∀ j, j < i → t' 87 j = t 87 j) ∧ ∀ x, x ≠ 87 → t' x = t x := by
  intro k
  induction k with
  | zero =>
    intro i fu t hi hfu
    obtain ⟨fu, rfl⟩ : ∃ z, fu = z + 1 := ⟨fu - 1, by omega⟩
    obtain rfl : i = 12 := by omega
    exact ⟨t, by rw [fX12_takeOver_L100, if_pos (by decide)], fun j h1 h2 => absurd h2 (by omega), fun _ _ => rfl, fun _ _ => rfl⟩
  | succ k ih =>
    intro i fu t hi hfu
    obtain ⟨fu, rfl⟩ : ∃ z, fu = z + 1 := ⟨fu - 1, by omega⟩
    obtain ⟨t', a1, a2, a3, a4⟩ := ih (i + 1) fu (wr t 87 i 0) (by omega) (by omega)
    refine ⟨t', ?_, fun j h1 h2 => ?_, fun j h1 => by rw [a3 j (by omega), wr_place (by omega)], fun x hx => by rw [a4 x hx, wr_slot hx]⟩
    · rw [fX12_takeOver_L100, if_neg (by rw [zll_12 _ (by omega)]; omega), if_pos (inA_lt (by decide) (by omega)), nI_clamp (by omega), zra_1]
      exact a1
    · by_cases e : j = i
      · rw [a3 j (by omega), e, wr_hit]
      · exact a2 j (by omega) h2
theorem m_zero88 (kk : St → Option (Int32 × St)) : ∀ k i fu (t : St), i + k = 10 → k < fu → ∃ t', fX12_takeOver_L121 kk fu (nI i) t = kk t' ∧ (∀ j, i ≤ j → j < 10 → t' 88 j = 0) ∧ (∀ j, j < i → t' 88 j = t 88 j) ∧ ∀ x, x ≠ 88 → t' x = t x := by
  intro k
  induction k with
  | zero =>
    intro i fu t hi hfu
    obtain ⟨fu, rfl⟩ : ∃ z, fu = z + 1 := ⟨fu - 1, by omega⟩
    obtain rfl : i = 10 := by omega
    exact ⟨t, by rw [fX12_takeOver_L121, if_pos (by decide)], fun j h1 h2 => absurd h2 (by omega), fun _ _ => rfl, fun _ _ => rfl⟩
  | succ k ih =>
    intro i fu t hi hfu
    obtain ⟨fu, rfl⟩ : ∃ z, fu = z + 1 := ⟨fu - 1, by omega⟩
    obtain ⟨t', a1, a2, a3, a4⟩ := ih (i + 1) fu (wr t 88 i 0) (by omega) (by omega)
    refine ⟨t', ?_, fun j h1 h2 => ?_, fun j h1 => by rw [a3 j (by omega), wr_place (by omega)], fun x hx => by rw [a4 x hx, wr_slot hx]⟩
    · rw [fX12_takeOver_L121, if_neg (by rw [zll_10 _ (by omega)]; omega), if_pos (inA_lt (by decide) (by omega)), nI_clamp (by omega), zra_1]
      exact a1
    · by_cases e : j = i
      · rw [a3 j (by omega), e, wr_hit]
      · exact a2 j (by omega) h2
theorem full_bits : ∀ n : Nat, n < 13 → (jshl 1 (nI n) - 1 = nI (2 ^ n - 1)) ∧ ∀ p, p < n → (2 ^ n - 1).testBit p = true := by decide +kernel
theorem m_takeOver {t : St} {n : Nat} (hn : n ≤ 12) (h5 : t 71 5 = nI n) : ∃ t', fX12_takeOver t = some (0, t') ∧ (∀ j, j < 5 → t' 71 j = t 71 (5 + j)) ∧ (∀ j, j < 48 → t' 72 j = t 72 (48 + j)) ∧ (∀ x, 73 ≤ x → x ≤ 80 → ∀ j, j < 12 → t' x j = t x (12 + j)) ∧ (∀ x, 81 ≤ x → x ≤ 83 → ∀ j, j < 6 → t' x j = t x (6 + j)) ∧ (∀ j, j < 700 → t' 84 j = t 84 (700 + j)) ∧ (∀ j, j < 12 → t' 87 j = 0) ∧ (∀ j, j < 10 → t' 88 j = 0) ∧
    (t' 69 17 = nI (2 ^ n - 1) ∧ t' 69 32 = 0 ∧ t' 69 33 = 0 ∧ t' 69 44 = -1 ∧ t' 69 48 = 0 ∧ t' 69 51 = -1 ∧ t' 69 58 = 0) ∧ (∀ j, j ≠ 17 → j ≠ 32 → j ≠ 33 → j ≠ 44 → j ≠ 48 → j ≠ 51 → j ≠ 58 → t' 69 j = t 69 j) ∧ ∀ x, x < 69 ∨ x = 85 ∨ x = 86 ∨ 88 < x → t' x = t x := by
  obtain ⟨a1, e1, g1, x1⟩ := m_half (r := 71) 5 (by decide) (by decide) (by decide) t
  obtain ⟨a2, e2, g2, x2⟩ := m_half (r := 72) 48 (by decide) (by decide) (by decide) a1
  obtain ⟨a3, e3, g3, x3⟩ := m_half (r := 73) 12 (by decide) (by decide) (by decide) a2
  obtain ⟨a4, e4, g4, x4⟩ := m_half (r := 74) 12 (by decide) (by decide) (by decide) a3
  obtain ⟨a5, e5, g5, x5⟩ := m_half (r := 75) 12 (by decide) (by decide) (by decide) a4
  obtain ⟨a6, e6, g6, x6⟩ := m_half (r := 76) 12 (by decide) (by decide) (by decide) a5
  obtain ⟨a7, e7, g7, x7⟩ := m_half (r := 77) 12 (by decide) (by decide) (by decide) a6
  obtain ⟨a8, e8, g8, x8⟩ := m_half (r := 78) 12 (by decide) (by decide) (by decide) a7
  obtain ⟨a9, e9, g9, x9⟩ := m_half (r := 79) 12 (by decide) (by decide) (by decide) a8
  obtain ⟨a10, e10, g10, x10⟩ := m_half (r := 80) 12 (by decide) (by decide) (by decide) a9
  obtain ⟨a11, e11, g11, x11⟩ := m_half (r := 81) 6 (by decide) (by decide) (by decide) a10
  obtain ⟨a12, e12, g12, x12⟩ := m_half (r := 82) 6 (by decide) (by decide) (by decide) a11
  obtain ⟨a13, e13, g13, x13⟩ := m_half (r := 83) 6 (by decide) (by decide) (by decide) a12
  obtain ⟨a14, e14, g14, x14⟩ := m_half (r := 84) 700 (by decide) (by decide) (by decide) a13
  have back : ∀ k, k < 71 ∨ 84 < k → a14 k = t k := fun k hk => by rw [x14 k (by omega), x13 k (by omega), x12 k (by omega), x11 k (by omega), x10 k (by omega), x9 k (by omega), x8 k (by omega), x7 k (by omega), x6 k (by omega), x5 k (by omega), x4 k (by omega), x3 k (by omega), x2 k (by omega), x1 k (by omega)]
  have h0 : ∀ s : St, s 71 = a14 71 → s 71 0 = nI n := fun s q => by rw [q, x14 71 (by decide), x13 71 (by decide), x12 71 (by decide), x11 71 (by decide), x10 71 (by decide), x9 71 (by decide), x8 71 (by decide), x7 71 (by decide), x6 71 (by decide), x5 71 (by decide), x4 71 (by decide), x3 71 (by decide), x2 71 (by decide), g1 0 (by decide)]; exact h5
  obtain ⟨b1, f1, f2, -, f4⟩ := m_zero87 (fun s_16 => fX12_takeOver_L121 (fun s_18 => if inA (0 : Int32) 10 then
    (let s_19 := wr s_18 69 17 ((jshl (1 : Int32) (s_18 71 (0 : Int32).toNatClampNeg)) - (1 : Int32));
    let s_20 := wr s_19 69 32 (0 : Int32);
    let s_21 := wr s_20 69 33 (0 : Int32);
    let s_22 := wr s_21 69 44 (-1 : Int32);
    let s_23 := wr s_22 69 48 (0 : Int32);
    let s_24 := wr s_23 69 51 (-1 : Int32);
    let s_25 := wr s_24 69 58 (0 : Int32);
    some (0, s_25)) else none) FU (0 : Int32) s_16) 12 0 FU a14 (by omega) (by decide)
  obtain ⟨b2, k1, k2, -, k4⟩ := m_zero88 (fun s_18 => if inA (0 : Int32) 10 then
    (let s_19 := wr s_18 69 17 ((jshl (1 : Int32) (s_18 71 (0 : Int32).toNatClampNeg)) - (1 : Int32));
    let s_20 := wr s_19 69 32 (0 : Int32);
    let s_21 := wr s_20 69 33 (0 : Int32);
    let s_22 := wr s_21 69 44 (-1 : Int32);
    let s_23 := wr s_22 69 48 (0 : Int32);
    let s_24 := wr s_23 69 51 (-1 : Int32);
    let s_25 := wr s_24 69 58 (0 : Int32);
    some ((0 : Int32), s_25)) else none) 10 0 FU b1 (by omega) (by decide)
  have hb : ∀ k, k ≠ 87 → k ≠ 88 → b2 k = a14 k := fun k q1 q2 => by rw [k4 k q2, f4 k q1]
  have e0 : b2 71 0 = nI n := h0 b2 (hb 71 (by decide) (by decide))
  have fin : fX12_takeOver t = some (0, wr (wr (wr (wr (wr (wr (wr b2 69 17 (nI (2 ^ n - 1))) 69 32 0) 69 33 0) 69 44 (-1)) 69 48 0) 69 51 (-1)) 69 58 0) := by
    rw [fX12_takeOver, e1, bd_some, e2, bd_some, e3, bd_some, e4, bd_some, e5, bd_some, e6, bd_some, e7, bd_some, e8, bd_some, e9, bd_some, e10, bd_some, e11, bd_some, e12, bd_some, e13, bd_some, e14, bd_some]
    refine Eq.trans f1 ?_
    refine Eq.trans k1 ?_
    show (if inA (0 : Int32) 10 then _ else _) = _
    rw [if_pos inA_0, i00, e0, (full_bits n (by omega)).1]
  have hw : ∀ k, k ≠ 69 → (wr (wr (wr (wr (wr (wr (wr b2 69 17 (nI (2 ^ n - 1))) 69 32 0) 69 33 0) 69 44 (-1)) 69 48 0) 69 51 (-1)) 69 58 0) k = b2 k := fun k q => by rw [wr_slot q, wr_slot q, wr_slot q, wr_slot q, wr_slot q, wr_slot q, wr_slot q]
  have hwa : ∀ k, 71 ≤ k → k ≤ 84 → (wr (wr (wr (wr (wr (wr (wr b2 69 17 (nI (2 ^ n - 1))) 69 32 0) 69 33 0) 69 44 (-1)) 69 48 0) 69 51 (-1)) 69 58 0) k = a14 k := fun k q1 q2 => by rw [hw k (by omega), hb k (by omega) (by omega)]
  refine ⟨_, fin, fun j hj => ?_, fun j hj => ?_, fun x hx1 hx2 j hj => ?_, fun x hx1 hx2 j hj => ?_, fun j hj => ?_, fun j hj => ?_, fun j hj => ?_, ⟨?_, ?_, ?_, ?_, ?_, ?_, wr_hit⟩, fun j q1 q2 q3 q4 q5 q6 q7 => ?_, fun x hx => ?_⟩
  · rw [hwa 71 (by decide) (by decide), x14 71 (by decide), x13 71 (by decide), x12 71 (by decide), x11 71 (by decide), x10 71 (by decide), x9 71 (by decide), x8 71 (by decide), x7 71 (by decide), x6 71 (by decide), x5 71 (by decide), x4 71 (by decide), x3 71 (by decide), x2 71 (by decide), g1 j hj]
  · rw [hwa 72 (by decide) (by decide), x14 72 (by decide), x13 72 (by decide), x12 72 (by decide), x11 72 (by decide), x10 72 (by decide), x9 72 (by decide), x8 72 (by decide), x7 72 (by decide), x6 72 (by decide), x5 72 (by decide), x4 72 (by decide), x3 72 (by decide), g2 j hj, x1 72 (by decide)]
  · rw [hwa x (by omega) (by omega)]
    have hx : x = 73 ∨ x = 74 ∨ x = 75 ∨ x = 76 ∨ x = 77 ∨ x = 78 ∨ x = 79 ∨ x = 80 := by omega
    rcases hx with rfl | rfl | rfl | rfl | rfl | rfl | rfl | rfl
    · rw [x14 73 (by decide), x13 73 (by decide), x12 73 (by decide), x11 73 (by decide), x10 73 (by decide), x9 73 (by decide), x8 73 (by decide), x7 73 (by decide), x6 73 (by decide), x5 73 (by decide), x4 73 (by decide), g3 j hj, x2 73 (by decide), x1 73 (by decide)]
    · rw [x14 74 (by decide), x13 74 (by decide), x12 74 (by decide), x11 74 (by decide), x10 74 (by decide), x9 74 (by decide), x8 74 (by decide), x7 74 (by decide), x6 74 (by decide), x5 74 (by decide), g4 j hj, x3 74 (by decide), x2 74 (by decide), x1 74 (by decide)]
    · rw [x14 75 (by decide), x13 75 (by decide), x12 75 (by decide), x11 75 (by decide), x10 75 (by decide), x9 75 (by decide), x8 75 (by decide), x7 75 (by decide), x6 75 (by decide), g5 j hj, x4 75 (by decide), x3 75 (by decide), x2 75 (by decide), x1 75 (by decide)]
    · rw [x14 76 (by decide), x13 76 (by decide), x12 76 (by decide), x11 76 (by decide), x10 76 (by decide), x9 76 (by decide), x8 76 (by decide), x7 76 (by decide), g6 j hj, x5 76 (by decide), x4 76 (by decide), x3 76 (by decide), x2 76 (by decide), x1 76 (by decide)]
    · rw [x14 77 (by decide), x13 77 (by decide), x12 77 (by decide), x11 77 (by decide), x10 77 (by decide), x9 77 (by decide), x8 77 (by decide), g7 j hj, x6 77 (by decide), x5 77 (by decide), x4 77 (by decide), x3 77 (by decide), x2 77 (by decide), x1 77 (by decide)]
    · rw [x14 78 (by decide), x13 78 (by decide), x12 78 (by decide), x11 78 (by decide), x10 78 (by decide), x9 78 (by decide), g8 j hj, x7 78 (by decide), x6 78 (by decide), x5 78 (by decide), x4 78 (by decide), x3 78 (by decide), x2 78 (by decide), x1 78 (by decide)]
    · rw [x14 79 (by decide), x13 79 (by decide), x12 79 (by decide), x11 79 (by decide), x10 79 (by decide), g9 j hj, x8 79 (by decide), x7 79 (by decide), x6 79 (by decide), x5 79 (by decide), x4 79 (by decide), x3 79 (by decide), x2 79 (by decide), x1 79 (by decide)]
    · rw [x14 80 (by decide), x13 80 (by decide), x12 80 (by decide), x11 80 (by decide), g10 j hj, x9 80 (by decide), x8 80 (by decide), x7 80 (by decide), x6 80 (by decide), x5 80 (by decide), x4 80 (by decide), x3 80 (by decide), x2 80 (by decide), x1 80 (by decide)]
  · rw [hwa x (by omega) (by omega)]
    have hx : x = 81 ∨ x = 82 ∨ x = 83 := by omega
    rcases hx with rfl | rfl | rfl
    · rw [x14 81 (by decide), x13 81 (by decide), x12 81 (by decide), g11 j hj, x10 81 (by decide), x9 81 (by decide), x8 81 (by decide), x7 81 (by decide), x6 81 (by decide), x5 81 (by decide), x4 81 (by decide), x3 81 (by decide), x2 81 (by decide), x1 81 (by decide)]
    · rw [x14 82 (by decide), x13 82 (by decide), g12 j hj, x11 82 (by decide), x10 82 (by decide), x9 82 (by decide), x8 82 (by decide), x7 82 (by decide), x6 82 (by decide), x5 82 (by decide), x4 82 (by decide), x3 82 (by decide), x2 82 (by decide), x1 82 (by decide)]
    · rw [x14 83 (by decide), g13 j hj, x12 83 (by decide), x11 83 (by decide), x10 83 (by decide), x9 83 (by decide), x8 83 (by decide), x7 83 (by decide), x6 83 (by decide), x5 83 (by decide), x4 83 (by decide), x3 83 (by decide), x2 83 (by decide), x1 83 (by decide)]
  · rw [hwa 84 (by decide) (by decide), g14 j hj, x13 84 (by decide), x12 84 (by decide), x11 84 (by decide), x10 84 (by decide), x9 84 (by decide), x8 84 (by decide), x7 84 (by decide), x6 84 (by decide), x5 84 (by decide), x4 84 (by decide), x3 84 (by decide), x2 84 (by decide), x1 84 (by decide)]
  · rw [hw 87 (by decide), k4 87 (by decide)]
    exact f2 j (Nat.zero_le _) hj
  · rw [hw 88 (by decide)]
    exact k2 j (Nat.zero_le _) hj
  · rw [wr_place (by decide), wr_place (by decide), wr_place (by decide), wr_place (by decide), wr_place (by decide), wr_place (by decide), wr_hit]
  · rw [wr_place (by decide), wr_place (by decide), wr_place (by decide), wr_place (by decide), wr_place (by decide), wr_hit]
  · rw [wr_place (by decide), wr_place (by decide), wr_place (by decide), wr_place (by decide), wr_hit]
  · rw [wr_place (by decide), wr_place (by decide), wr_place (by decide), wr_hit]
  · rw [wr_place (by decide), wr_place (by decide), wr_hit]
  · rw [wr_place (by decide), wr_hit]
  · rw [wr_place q7, wr_place q6, wr_place q5, wr_place q4, wr_place q3, wr_place q2, wr_place q1, hb 69 (by decide) (by decide), back 69 (by decide)]
  · rw [hw x (by omega), hb x (by omega) (by omega), back x (by omega)]
