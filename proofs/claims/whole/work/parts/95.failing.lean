/-! ===== failing ===== -/
theorem pow12 : ∀ i : Nat, i < 12 → 2 ^ i < 4096 := by decide
theorem searchL (F : Nat → Nat → Option (Int32 × St)) (f : Nat → Bool) (N : Nat) (s : St) (hF : ∀ m i, i < N → F (m + 1) i = if f i then some (1, s) else F m (i + 1)) (hE : ∀ m, F (m + 1) N = some (0, s)) : ∀ k i m, i + k = N → k < m → (F m i = some (1, s) ∧ ∃ h, i ≤ h ∧ h < N ∧ f h = true) ∨ (F m i = some (0, s) ∧ ∀ h, i ≤ h → h < N → f h = false)
  | 0, i, m, hi, hm => by
    obtain ⟨m, rfl⟩ : ∃ q, m = q + 1 := ⟨m - 1, by omega⟩
    obtain rfl : i = N := by omega
    exact Or.inr ⟨hE m, fun h h1 h2 => absurd h1 (by omega)⟩
  | k + 1, i, m, hi, hm => by
    obtain ⟨m, rfl⟩ : ∃ q, m = q + 1 := ⟨m - 1, by omega⟩
    rw [hF m i (by omega)]
    by_cases e : f i = true
    · rw [if_pos e]
      exact Or.inl ⟨rfl, i, by omega, by omega, e⟩
    · rw [if_neg e]
      rcases searchL F f N s hF hE k (i + 1) m (by omega) (by omega) with ⟨h1, h, h2, h3, h4⟩ | ⟨h1, h2⟩
      · exact Or.inl ⟨h1, h, by omega, h3, h4⟩
      · refine Or.inr ⟨h1, fun h q1 q2 => ?_⟩
        by_cases eh : h = i
        · subst eh; exact Bool.eq_false_iff.mpr e
        · exact h2 h (by omega) q2
theorem bit_or2 {B i p : Nat} : (B ||| 2 ^ i).testBit p = true ↔ B.testBit p = true ∨ p = i := by
  rw [Nat.testBit_or, Nat.testBit_two_pow, Bool.or_eq_true, decide_eq_true_eq]
  exact ⟨fun h => h.imp id Eq.symm, fun h => h.imp id Eq.symm⟩
theorem bit_add {B i : Nat} {c : Nat → Prop} (h : ∀ p, B.testBit p = true ↔ p < i ∧ c p) (hc : c i) : ∀ p, (B ||| 2 ^ i).testBit p = true ↔ p < i + 1 ∧ c p := fun p => by
  rw [bit_or2, h p]
  constructor
  · rintro (⟨h1, h2⟩ | rfl)
    · exact ⟨by omega, h2⟩
    · exact ⟨by omega, hc⟩
  · rintro ⟨h1, h2⟩
    by_cases e : p = i
    · exact Or.inr e
    · exact Or.inl ⟨by omega, h2⟩
theorem bit_skip {B i : Nat} {c : Nat → Prop} (h : ∀ p, B.testBit p = true ↔ p < i ∧ c p) (hc : ¬ c i) : ∀ p, B.testBit p = true ↔ p < i + 1 ∧ c p := fun p => by
  rw [h p]
  constructor
  · rintro ⟨h1, h2⟩; exact ⟨by omega, h2⟩
  · rintro ⟨h1, h2⟩
    by_cases e : p = i
    · subst e; exact absurd h2 hc
    · exact ⟨by omega, h2⟩
theorem bit_lt {B i : Nat} {c : Nat → Prop} (h : ∀ p, B.testBit p = true ↔ p < i ∧ c p) (hi : i ≤ 12) : B < 4096 := by
  refine Nat.lt_pow_two_of_testBit (n := 12) B (fun p hp => ?_)
  rw [Bool.eq_false_iff]
  intro e
  have := ((h p).mp e).1
  omega
theorem bit_zero {c : Nat → Prop} : ∀ p, Nat.testBit 0 p = true ↔ p < 0 ∧ c p := fun p => by
  rw [Nat.zero_testBit]
  constructor
  · intro h; cases h
  · intro h; exact absurd h.1 (by omega)
theorem bit_eq {B B' : Nat} (h : ∀ p, B.testBit p = true ↔ B'.testBit p = true) : B = B' := Nat.eq_of_testBit_eq (fun p => Bool.eq_iff_iff.mpr (h p))
theorem b_not (Y : Nat) (hY : Y < 4096) : (nI Y ^^^ (-1 : Int32)) = nI (4294967295 - Y) ∧ ∀ p : Nat, p < 12 → (4294967295 - Y).testBit p = !Y.testBit p :=
  b_split (P := fun Y => (nI Y ^^^ (-1 : Int32)) = nI (4294967295 - Y) ∧ ∀ p : Nat, p < 12 → (4294967295 - Y).testBit p = !Y.testBit p) (by decide +kernel) Y hY
theorem good_failing : Good0 fX11_failing fX12_failing := by
  intro s hs
  obtain ⟨n, nw, nf, r1, ⟨hw, hwi, -⟩, -⟩ := id hs
  obtain ⟨⟨hn, hm, h12⟩, ⟨nw1, nw2, nw12⟩, -⟩ := id r1
  have hwl := r1.2.2.2.2.2.2.1
  obtain ⟨A, hA, hAn, hA2, hA3, -⟩ := sw_bits h12 hw
  have hA2' : s 69 17 = nI A := hA2
  have will : ∀ o h, o < n → h < n → fX4_left 21 (nI o) (nI h) s = some (s 25 (12 * o + h), s) := fun o h ho hh => by
    rw [fX4_left, zrm_12, nI_add, at_nI (by decide) (by show o * 12 + h < 144; omega), bd_some, Nat.mul_comm]
  have wz : ∀ o h, o < n → h < n → (s 25 (12 * o + h) ≤ 0 ↔ s 25 (12 * o + h) = 0) := fun o h ho hh => by
    obtain ⟨v, hv, e, -⟩ := will_nat h12 hwl (d := o) (p := h) (by omega) (by omega)
    rw [e, zrl_0 _ (by omega), zle_0 _ (by omega)]
    omega
  have c1 : ∀ o, o < n → (fX4_hasWill 21 (nI o) s = some (1, s) ∧ ∃ h, 0 ≤ h ∧ h < n ∧ (!decide (s 25 (12 * o + h) = 0)) = true) ∨ (fX4_hasWill 21 (nI o) s = some (0, s) ∧ ∀ h, 0 ≤ h → h < n → (!decide (s 25 (12 * o + h) = 0)) = false) := fun o ho =>
    searchL (fun m i => fX4_hasWill_L2 21 (nI o) m (nI i) s) (fun h => !decide (s 25 (12 * o + h) = 0)) n s (fun m i hi => by
      simp only [fX4_hasWill_L2]
      rw [hn, if_neg (by rw [nI_leI (by omega) (by omega)]; omega), will o i ho hi, bd_some, ite_iff (wz o i ho hi), zra_1]
      by_cases e : s 25 (12 * o + i) = 0
      · rw [if_pos e, decide_eq_true e, if_neg (by decide)]
      · rw [if_neg e, decide_eq_false e, if_pos (by decide)]) (fun m => by
      simp only [fX4_hasWill_L2]
      rw [hn, if_pos (Int32.le_refl _)]) n 0 FU (by omega) (by show n < 20000; omega)
  have c2 : ∀ o, o < n → (fX11_hasWillToAlive (nI o) s = some (1, s) ∧ ∃ h, 0 ≤ h ∧ h < n ∧ (!decide (s 34 (48 + h) = -1) && !decide (s 25 (12 * o + h) = 0)) = true) ∨ (fX11_hasWillToAlive (nI o) s = some (0, s) ∧ ∀ h, 0 ≤ h → h < n → (!decide (s 34 (48 + h) = -1) && !decide (s 25 (12 * o + h) = 0)) = false) := fun o ho =>
    searchL (fun m i => fX11_hasWillToAlive_L2 (nI o) m (nI i) s) (fun h => !decide (s 34 (48 + h) = -1) && !decide (s 25 (12 * o + h) = 0)) n s (fun m i hi => by
      simp only [fX11_hasWillToAlive_L2]
      rw [hn, if_neg (by rw [nI_leI (by omega) (by omega)]; omega), w_alive rfl (by omega), bd_some, zra_1]
      by_cases q : s 34 (48 + i) = -1
      · rw [if_pos q, if_pos rfl, decide_eq_true q, if_neg (by simp)]
      · rw [if_neg q, if_neg (by decide), decide_eq_false q, will o i ho hi, bd_some, ite_iff (wz o i ho hi)]
        by_cases e : s 25 (12 * o + i) = 0
        · rw [if_pos e, decide_eq_true e, if_neg (by decide)]
        · rw [if_neg e, decide_eq_false e, if_pos (by decide)]) (fun m => by
      simp only [fX11_hasWillToAlive_L2]
      rw [hn, if_pos (Int32.le_refl _)]) n 0 FU (by omega) (by show n < 20000; omega)
  obtain ⟨cond, hcond⟩ : ∃ cond : Nat → Prop, cond = fun o => ¬ s 34 (48 + o) = -1 ∧ (∃ h, h < n ∧ ¬ s 25 (12 * o + h) = 0) ∧ ¬ ∃ h, h < n ∧ ¬ s 34 (48 + h) = -1 ∧ ¬ s 25 (12 * o + h) = 0 := ⟨_, rfl⟩
  have cls : ∀ k i m B, i + k = n → k < m → (∀ p, B.testBit p = true ↔ p < i ∧ cond p) → ∃ B', fX11_failing_L4 m (nI B) (nI i) s = some (nI B', s) ∧ ∀ p, B'.testBit p = true ↔ p < n ∧ cond p := by
    intro k
    induction k with
    | zero =>
      intro i m B hi hm' hB
      obtain ⟨m, rfl⟩ : ∃ q, m = q + 1 := ⟨m - 1, by omega⟩
      obtain rfl : i = n := by omega
      exact ⟨B, by rw [fX11_failing_L4, hn, if_pos (Int32.le_refl _)], hB⟩
    | succ k ih =>
      intro i m B hi hm' hB
      obtain ⟨m, rfl⟩ : ∃ q, m = q + 1 := ⟨m - 1, by omega⟩
      have hB12 := bit_lt hB (by omega)
      rw [fX11_failing_L4, hn, if_neg (by rw [nI_leI (by omega) (by omega)]; omega), w_alive rfl (by omega), bd_some, zra_1]
      by_cases q : s 34 (48 + i) = -1
      · rw [if_pos q, if_pos rfl]
        exact ih (i + 1) m B (by omega) (by omega) (bit_skip hB (by rw [hcond]; exact fun h => h.1 q))
      · rw [if_neg q, if_neg (by decide)]
        rcases c1 i (by omega) with ⟨e1, h, -, h1, h2⟩ | ⟨e1, h1⟩
        · rw [e1, bd_some, if_neg (by decide)]
          have hh : ¬ s 25 (12 * i + h) = 0 := by simpa using h2
          rcases c2 i (by omega) with ⟨e2, g, -, g1, g2⟩ | ⟨e2, g1⟩
          · rw [e2, bd_some, if_neg (by decide)]
            have hg : ¬ s 34 (48 + g) = -1 ∧ ¬ s 25 (12 * i + g) = 0 := by simpa using g2
            exact ih (i + 1) m B (by omega) (by omega) (bit_skip hB (by rw [hcond]; exact fun h => h.2.2 ⟨g, g1, hg⟩))
          · rw [e2, bd_some, if_pos rfl, b_shl i (by omega), b_or B (2 ^ i) hB12 (pow12 i (by omega))]
            exact ih (i + 1) m _ (by omega) (by omega) (bit_add hB (by rw [hcond]; exact ⟨q, ⟨h, h1, hh⟩, fun ⟨g, z1, z2, z3⟩ => by have := g1 g (by omega) z1; simp [z2, z3] at this⟩))
        · rw [e1, bd_some, if_pos rfl]
          exact ih (i + 1) m B (by omega) (by omega) (bit_skip hB (by rw [hcond]; exact fun h => by obtain ⟨g, z1, z2⟩ := h.2.1; have := h1 g (by omega) z1; simp [z2] at this))
  obtain ⟨B, b1, b2⟩ := cls n 0 FU 0 (by omega) (by show n < 20000; omega) bit_zero
  obtain ⟨u, hu⟩ : ∃ u : St, u = wr s 69 1 0 := ⟨_, rfl⟩
  have uk : ∀ k, k ≠ 69 → u k = s k := fun k hk => by rw [hu, wr_slot hk]
  have u17 : u 69 17 = nI A := by rw [hu, wr_place (by decide), hA2']
  have i1 : inA (1 : Int32) 10 := by decide
  have z1 : (1 : Int32).toNatClampNeg = 1 := rfl
  have mdl : ∀ k i m X Y, i + k = nw → k < m → (∀ p, X.testBit p = true ↔ ∃ j, j < i ∧ s 78 j = nI p ∧ p < n) → (∀ p, Y.testBit p = true ↔ ∃ j h, j < i ∧ s 78 j = nI p ∧ s 79 j = nI h ∧ h < n ∧ p < n ∧ ¬ s 34 (48 + h) = -1) → ∃ X' Y', fX12_failing_L11 m (nI X) (nI Y) (nI i) u = some ((nI X' &&& (nI Y' ^^^ (-1 : Int32))) &&& nI A, u) ∧ (∀ p, X'.testBit p = true ↔ ∃ j, j < nw ∧ s 78 j = nI p ∧ p < n) ∧ ∀ p, Y'.testBit p = true ↔ ∃ j h, j < nw ∧ s 78 j = nI p ∧ s 79 j = nI h ∧ h < n ∧ p < n ∧ ¬ s 34 (48 + h) = -1 := by
    intro k
    induction k with
    | zero =>
      intro i m X Y hi hm' hX hY
      obtain ⟨m, rfl⟩ : ∃ q, m = q + 1 := ⟨m - 1, by omega⟩
      obtain rfl : i = nw := by omega
      refine ⟨X, Y, ?_, hX, hY⟩
      rw [fX12_failing_L11, if_pos i1, z1, uk 71 (by decide), nw2, if_pos (Int32.le_refl _), u17]
    | succ k ih =>
      intro i m X Y hi hm' hX hY
      obtain ⟨m, rfl⟩ : ∃ q, m = q + 1 := ⟨m - 1, by omega⟩
      obtain ⟨a, b, v, ha, hb, hab, hv1, hv2, f1, f2, f3, f4⟩ := hwl.1 i (by omega)
      have hXl : X < 4096 := Nat.lt_pow_two_of_testBit (n := 12) X (fun p hp => by
        rw [Bool.eq_false_iff]; intro e
        obtain ⟨j, -, -, h⟩ := (hX p).mp e; omega)
      have hYl : Y < 4096 := Nat.lt_pow_two_of_testBit (n := 12) Y (fun p hp => by
        rw [Bool.eq_false_iff]; intro e
        obtain ⟨j, h, -, -, -, -, hh, -⟩ := (hY p).mp e; omega)
      have h2a : 2 ^ a < 4096 := pow12 a (by omega)
      rw [fX12_failing_L11, if_pos i1, z1, uk 71 (by decide), nw2, if_neg (by rw [nI_leI (by omega) (by omega)]; omega), if_pos (inA_lt (by decide) (by omega)), if_pos (inA_lt (by decide) (by omega)), nI_clamp (n := i) (by omega), uk 79 (by decide), uk 78 (by decide), f1, f2, m_alive_c (c := s 34) h12 hA u17 hA3 hb, bd_some, zra_1, b_shl a (by omega), b_or X _ hXl h2a]
      have hX' : ∀ p, (X ||| 2 ^ a).testBit p = true ↔ ∃ j, j < i + 1 ∧ s 78 j = nI p ∧ p < n := fun p => by
        rw [bit_or2, hX p]
        constructor
        · rintro (⟨j, h1, h2⟩ | rfl)
          · exact ⟨j, by omega, h2⟩
          · exact ⟨i, by omega, f1, ha⟩
        · rintro ⟨j, h1, h2, h3⟩
          by_cases e : j = i
          · subst e
            exact Or.inr ((nI_eq (by omega) (by omega)).mp (h2.symm.trans f1))
          · exact Or.inl ⟨j, by omega, h2, h3⟩
      by_cases q : s 34 (48 + b) = -1
      · rw [if_pos q, if_pos rfl]
        refine ih (i + 1) m _ Y (by omega) (by omega) hX' (fun p => ?_)
        rw [hY p]
        constructor
        · rintro ⟨j, h, h1, h2⟩; exact ⟨j, h, by omega, h2⟩
        · rintro ⟨j, h, h1, h2, h3, h4, h5, h6⟩
          by_cases e : j = i
          · subst e
            have : h = b := (nI_eq (by omega) (by omega)).mp (h3.symm.trans f2)
            subst this
            exact absurd q h6
          · exact ⟨j, h, by omega, h2, h3, h4, h5, h6⟩
      · rw [if_neg q, if_neg (by decide), if_pos (inA_lt (by decide) (by omega)), uk 78 (by decide), f1, b_shl a (by omega), b_or Y _ hYl h2a]
        refine ih (i + 1) m _ _ (by omega) (by omega) hX' (fun p => ?_)
        rw [bit_or2, hY p]
        constructor
        · rintro (⟨j, h, h1, h2⟩ | rfl)
          · exact ⟨j, h, by omega, h2⟩
          · exact ⟨i, b, by omega, f1, f2, hb, ha, q⟩
        · rintro ⟨j, h, h1, h2, h3⟩
          by_cases e : j = i
          · subst e
            exact Or.inr ((nI_eq (by omega) (by omega)).mp (h2.symm.trans f1))
          · exact Or.inl ⟨j, h, by omega, h2, h3⟩
  obtain ⟨X, Y, m1, m2, m3⟩ := mdl nw 0 FU 0 0 (by omega) (by show nw < 20000; omega) (fun p => by rw [Nat.zero_testBit]; exact ⟨fun h => (by cases h), fun ⟨j, h, _⟩ => absurd h (by omega)⟩) (fun p => by rw [Nat.zero_testBit]; exact ⟨fun h => (by cases h), fun ⟨j, h, h1, _⟩ => absurd h1 (by omega)⟩)
  have hYl : Y < 4096 := Nat.lt_pow_two_of_testBit (n := 12) Y (fun p hp => by
    rw [Bool.eq_false_iff]; intro e
    obtain ⟨j, h, -, -, -, -, hh, -⟩ := (m3 p).mp e; omega)
  obtain ⟨n1, n2⟩ := b_not Y hYl
  have hBeq : B = (X &&& (4294967295 - Y)) &&& A := bit_eq (fun p => by
    rw [Nat.testBit_and, Nat.testBit_and, Bool.and_eq_true, Bool.and_eq_true, b2 p, hcond]
    constructor
    · rintro ⟨hp, h1, ⟨h, h2, h3⟩, h4⟩
      obtain ⟨i, hi, g1, g2⟩ := hwl.2.2 p h (by omega) (by omega) h3
      refine ⟨⟨(m2 p).mpr ⟨i, hi, g1, hp⟩, ?_⟩, (hA3 p hp).mpr h1⟩
      rw [n2 p (by omega), Bool.not_eq_true', Bool.eq_false_iff]
      intro e
      obtain ⟨j, g, j1, j2, j3, j4, j5, j6⟩ := (m3 p).mp e
      refine h4 ⟨g, j4, j6, fun e0 => ?_⟩
      obtain ⟨a, b, v, ha, hb, hab, hv1, hv2, f1, f2, f3, f4⟩ := hwl.1 j j1
      have y1 : p = a := (nI_eq (by omega) (by omega)).mp (j2.symm.trans f1)
      have y2 : g = b := (nI_eq (by omega) (by omega)).mp (j3.symm.trans f2)
      subst y1 y2
      rw [f4, zle_0 _ (by omega)] at e0
      omega
    · rintro ⟨⟨h1, h2⟩, h3⟩
      obtain ⟨j, j1, j2, hp⟩ := (m2 p).mp h1
      obtain ⟨a, b, v, ha, hb, hab, hv1, hv2, f1, f2, f3, f4⟩ := hwl.1 j j1
      have y1 : p = a := (nI_eq (by omega) (by omega)).mp (j2.symm.trans f1)
      subst y1
      refine ⟨hp, (hA3 p hp).mp h3, ⟨b, hb, fun e0 => ?_⟩, fun ⟨g, g1, g2, g3⟩ => ?_⟩
      · rw [f4, zle_0 _ (by omega)] at e0
        omega
      · obtain ⟨i, hi, i1, i2⟩ := hwl.2.2 p g (by omega) (by omega) g3
        rw [n2 p (by omega), (m3 p).mpr ⟨i, g, hi, i1, i2, g1, hp, g2⟩] at h2
        cases h2)
  refine ⟨nI B, s, u, b1, ?_, by rw [hu]; exact hs.keep keep_code⟩
  rw [fX12_failing, ← hu]
  refine Eq.trans m1 ?_
  rw [n1, b_and, b_and, ← hBeq]
