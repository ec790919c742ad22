/-! ===== land: what holds behind a text that is refused, and behind one that is taken ===== -/
theorem DatI.w22 {n nw nf : Nat} {ft lt : Bool} {σ t : St} {v : Int32} (h : DatI n nw nf ft lt σ t) : DatI n nw nf ft lt (wr σ 2 2 v) t := by
  unfold DatI at h ⊢
  rw [wr_slot (show (3 : Nat) ≠ 2 by decide), wr_slot (show (4 : Nat) ≠ 2 by decide), wr_slot (show (5 : Nat) ≠ 2 by decide), wr_slot (show (6 : Nat) ≠ 2 by decide), wr_slot (show (7 : Nat) ≠ 2 by decide), wr_slot (show (8 : Nat) ≠ 2 by decide), wr_slot (show (9 : Nat) ≠ 2 by decide), wr_slot (show (10 : Nat) ≠ 2 by decide), wr_slot (show (11 : Nat) ≠ 2 by decide), wr_slot (show (12 : Nat) ≠ 2 by decide), wr_slot (show (15 : Nat) ≠ 2 by decide), wr_place (show (8 : Nat) ≠ 2 by decide)]
  exact h
theorem RLawOf.cong {st sg st' sg' : Nat → Int32} {len : Nat} (h1 : ∀ i, i < 700 → st' i = st i) (h2 : ∀ i, i < 700 → sg' i = sg i) (h : RLawOf st sg len) : RLawOf st' sg' len := by
  obtain ⟨hl, h⟩ := h
  refine ⟨hl, ?_⟩
  rcases h with h | ⟨dep, a1, a2, a3, a4⟩
  · exact Or.inl h
  · exact Or.inr ⟨dep, a1, a2, a3, fun i hi => by rw [h1 i (by omega), h2 i (by omega)]; exact a4 i hi⟩
theorem RLand.half {s s' : St} {n nw nf : Nat} (hc : ∀ k, 21 ≤ k → k ≤ 30 → s' k = s k) (hm : ∀ k j, 71 ≤ k → k ≤ 84 → j < LN k / 2 → s' k j = s k j) (h : RLand s n nw nf) : RLand s' n nw nf := by
  obtain ⟨⟨a1, a2, a3⟩, ⟨b1, b2, b3⟩, ⟨c1, c2, c3⟩, d, e, f, ⟨w1, w2, w3⟩, ⟨len, l1, l2, l3, l4⟩⟩ := h
  have m71 : ∀ j, j < 5 → s' 71 j = s 71 j := fun j hj => hm 71 j (by decide) (by decide) hj
  have m12 : ∀ k, 74 ≤ k → k ≤ 80 → ∀ j, j < 12 → s' k j = s k j := fun k h1 h2 j hj => hm k j (by omega) (by omega) (by
    have hk : k = 74 ∨ k = 75 ∨ k = 76 ∨ k = 77 ∨ k = 78 ∨ k = 79 ∨ k = 80 := by omega
    rcases hk with rfl | rfl | rfl | rfl | rfl | rfl | rfl <;> exact hj)
  have m6 : ∀ k, 81 ≤ k → k ≤ 83 → ∀ j, j < 6 → s' k j = s k j := fun k h1 h2 j hj => hm k j (by omega) (by omega) (by
    have hk : k = 81 ∨ k = 82 ∨ k = 83 := by omega
    rcases hk with rfl | rfl | rfl <;> exact hj)
  refine ⟨⟨by rw [hc 21 (by decide) (by decide)]; exact a1, by rw [m71 0 (by decide)]; exact a2, a3⟩, ⟨by rw [hc 21 (by decide) (by decide)]; exact b1, by rw [m71 1 (by decide)]; exact b2, b3⟩, ⟨by rw [hc 21 (by decide) (by decide)]; exact c1, by rw [m71 2 (by decide)]; exact c2, c3⟩, by rw [hc 21 (by decide) (by decide), m71 3 (by decide)]; exact d, fun p hp => ?_, fun g hg => ?_, ⟨fun i hi => ?_, fun i j hi hj e1 e2 => ?_, fun x y hx hy he => ?_⟩, ⟨len, by rw [hc 29 (by decide) (by decide)]; exact l1, by rw [m71 4 (by decide)]; exact l2, by rw [hc 29 (by decide) (by decide)]; exact l3, ?_⟩⟩
  · rw [m12 74 (by decide) (by decide) p (by omega), m12 75 (by decide) (by decide) p (by omega), m12 76 (by decide) (by decide) p (by omega), hc 22 (by decide) (by decide), hc 23 (by decide) (by decide), hc 24 (by decide) (by decide)]
    exact e p hp
  · rw [m6 81 (by decide) (by decide) g (by omega), m6 82 (by decide) (by decide) g (by omega), m6 83 (by decide) (by decide) g (by omega), hc 26 (by decide) (by decide), hc 27 (by decide) (by decide), hc 28 (by decide) (by decide)]
    exact f g hg
  · rw [m12 78 (by decide) (by decide) i (by omega), m12 79 (by decide) (by decide) i (by omega), m12 80 (by decide) (by decide) i (by omega), hc 25 (by decide) (by decide)]
    exact w1 i hi
  · rw [m12 78 (by decide) (by decide) i (by omega), m12 78 (by decide) (by decide) j (by omega)] at e1
    rw [m12 79 (by decide) (by decide) i (by omega), m12 79 (by decide) (by decide) j (by omega)] at e2
    exact w2 i j hi hj e1 e2
  · rw [hc 25 (by decide) (by decide)] at he
    obtain ⟨i, i1, i2, i3⟩ := w3 x y hx hy he
    exact ⟨i, i1, by rw [m12 78 (by decide) (by decide) i (by omega)]; exact i2, by rw [m12 79 (by decide) (by decide) i (by omega)]; exact i3⟩
  · exact l4.cong (fun i _ => by rw [hc 30 (by decide) (by decide)]) (fun i hi => hm 84 i (by decide) (by decide) hi)
theorem vr_half {s s' : St} (hm : ∀ k j, 71 ≤ k → k ≤ 84 → j < LN k / 2 → s' k j = s k j) (h87 : s' 87 = s 87) (h88 : s' 88 = s 88) (h17 : s' 69 17 = s 69 17) : vr s' = vr s := by
  funext j
  rw [vr, vr, h87, h88, h17]
  by_cases e1 : j < 48
  · rw [if_pos e1, if_pos e1]
    exact hm 72 j (by decide) (by decide) e1
  · rw [if_neg e1, if_neg e1]
    by_cases e2 : j < 60
    · rw [if_pos e2, if_pos e2]
      exact hm 73 (j - 48) (by decide) (by decide) (by show j - 48 < 12; omega)
    · rw [if_neg e2, if_neg e2]
      by_cases e3 : j < 72
      · rw [if_pos e3, if_pos e3]
        exact hm 77 (j - 60) (by decide) (by decide) (by show j - 60 < 12; omega)
      · rw [if_neg e3, if_neg e3]
theorem rs_fault {s s4 : St} (hs : RS s) (hc : ∀ k, 20 < k → k < 69 → k ≠ 38 → s4 k = s k) (h1 : s4 1 = s 1) (h0 : s4 0 7 = s 0 7) (h01 : s4 0 1 = 0) (hm : ∀ k j, 71 ≤ k → k ≤ 84 → j < LN k / 2 → s4 k j = s k j) (hx : ∀ k, 86 ≤ k → k ≤ 110 → s4 k = s k) (h69 : ∀ j, relM j = true → j ≠ 19 → j ≠ 28 → s4 69 j = s 69 j) (h19 : s4 69 19 = 0) (h28 : s4 69 28 = s4 0 2) (hst : RStat (s4 38) (s4 85)) : RS s4 := by
  obtain ⟨n, nw, nf, r1, r2, r3, r4, r5, r6, r7⟩ := hs
  refine ⟨n, nw, nf, r1.half (fun k q1 q2 => hc k (by omega) (by omega) (by omega)) hm, ?_, ?_, ⟨⟨0, by decide, h01, h19⟩, fun i hi => ?_, h28⟩, ?_, ?_, ?_⟩
  · obtain ⟨a1, a2, a3, a4, -⟩ := r2
    refine ⟨?_, ?_, ?_, ?_, hst⟩
    · rw [vr_half hm (hx 87 (by decide) (by decide)) (hx 88 (by decide) (by decide)) (h69 17 rfl (by decide) (by decide)), hc 34 (by decide) (by decide) (by decide)]
      exact a1
    · rw [hc 34 (by decide) (by decide) (by decide)]
      exact a2
    · rw [hc 35 (by decide) (by decide) (by decide), hc 32 (by decide) (by decide) (by decide), hx 89 (by decide) (by decide), h69 32 rfl (by decide) (by decide)]
      exact a3
    · rw [hc 36 (by decide) (by decide) (by decide), hc 37 (by decide) (by decide) (by decide), hc 32 (by decide) (by decide) (by decide), hx 102 (by decide) (by decide), hx 103 (by decide) (by decide), h69 33 rfl (by decide) (by decide)]
      exact a4
  · unfold RKept at r3 ⊢
    rw [h0, h69 58 rfl (by decide) (by decide), h69 59 rfl (by decide) (by decide), h69 60 rfl (by decide) (by decide), hc 39 (by decide) (by decide) (by decide), hc 41 (by decide) (by decide) (by decide), hc 42 (by decide) (by decide) (by decide), hc 43 (by decide) (by decide) (by decide), hc 44 (by decide) (by decide) (by decide), hc 45 (by decide) (by decide) (by decide), hx 106 (by decide) (by decide), hx 107 (by decide) (by decide), hx 108 (by decide) (by decide), hx 109 (by decide) (by decide), hx 110 (by decide) (by decide)]
    exact r3
  · rw [hx 86 (by decide) (by decide), h1]
    exact r4.2.1 i hi
  · rw [hc 51 (by decide) (by decide) (by decide), hc 56 (by decide) (by decide) (by decide), hx 97 (by decide) (by decide), h69 44 rfl (by decide) (by decide)]
    exact r5
  · unfold RPost at r6 ⊢
    rw [hc 57 (by decide) (by decide) (by decide), hc 59 (by decide) (by decide) (by decide), hx 98 (by decide) (by decide), h69 48 rfl (by decide) (by decide), h69 47 rfl (by decide) (by decide)]
    exact r6
  · rw [hc 62 (by decide) (by decide) (by decide), hc 64 (by decide) (by decide) (by decide), hx 101 (by decide) (by decide), h69 51 rfl (by decide) (by decide)]
    exact r7
theorem rs_landed {n nw nf : Nat} {ft lt : Bool} {τ t' s4 : St} (hD : DatI n nw nf ft lt τ t')
    (c21 : s4 21 0 = τ 3 0 ∧ s4 21 4 = τ 3 4 ∧ s4 21 6 = τ 3 6 ∧ s4 21 10 = τ 3 10) (cP : ∀ j, j < 12 → s4 22 j = τ 4 j ∧ s4 23 j = τ 5 j ∧ s4 24 j = τ 6 j) (cS : ∀ j, j < 144 → s4 25 j = τ 7 j) (cF : ∀ j, j < 6 → s4 26 j = τ 8 j ∧ s4 27 j = τ 9 j ∧ s4 28 j = τ 10 j) (cl2 : s4 29 2 = τ 11 2) (cl3 : s4 29 3 = τ 11 3) (cL : ∀ j, j < 700 → s4 30 j = τ 12 j) (cW : ∀ j, j < 94 → s4 34 j = τ 15 j)
    (c32 : s4 32 2 = 0 ∧ s4 32 3 = 0 ∧ s4 32 6 = 0) (c0 : s4 0 7 = 0 ∧ s4 0 1 = 0 ∧ s4 0 2 = -1) (c5 : s4 51 4 = 0 ∧ s4 57 2 = 0 ∧ s4 62 2 = 0)
    (m71 : ∀ j, j < 5 → s4 71 j = t' 71 (5 + j)) (m72 : ∀ j, j < 48 → s4 72 j = t' 72 (48 + j)) (m12 : ∀ x, 73 ≤ x → x ≤ 80 → ∀ j, j < 12 → s4 x j = t' x (12 + j)) (m6 : ∀ x, 81 ≤ x → x ≤ 83 → ∀ j, j < 6 → s4 x j = t' x (6 + j)) (m84 : ∀ j, j < 700 → s4 84 j = t' 84 (700 + j)) (m87 : ∀ j, j < 12 → s4 87 j = 0) (m88 : ∀ j, j < 10 → s4 88 j = 0)
    (m69 : s4 69 17 = nI (2 ^ n - 1) ∧ s4 69 32 = 0 ∧ s4 69 33 = 0 ∧ s4 69 44 = -1 ∧ s4 69 48 = 0 ∧ s4 69 51 = -1 ∧ s4 69 58 = 0) (m19 : s4 69 19 = 0) (m28 : s4 69 28 = -1) (tp : ∀ i, i < 700 → s4 86 i = s4 1 i ∧ ∃ b, b < 256 ∧ s4 1 i = nI b) (stat : RStat (s4 38) (s4 85)) : RS s4 := by
  obtain ⟨⟨a1, a2, h12⟩, ⟨b1, b2, b3⟩, ⟨c1, c2, c3⟩, d4, d5, d6, d7, d8, ⟨d9, d9'⟩, d10, ⟨w1, w2, w3⟩, ⟨len, l1, l2, l3, l4, l5⟩⟩ := hD
  have z0 : (0 : Int32) = nI 0 := rfl
  refine ⟨n, nw, nf, ⟨⟨c21.1.trans a1, (m71 0 (by decide)).trans a2, h12⟩, ⟨c21.2.1.trans b1, (m71 1 (by decide)).trans b2, b3⟩, ⟨c21.2.2.1.trans c1, (m71 2 (by decide)).trans c2, c3⟩, (m71 3 (by decide)).trans (d4.trans c21.2.2.2.symm), fun p hp => ?_, fun f hf => ?_, ⟨fun i hi => ?_, fun i j hi hj e1 e2 => ?_, fun x y hx hy he => ?_⟩, ⟨len, cl2.trans l1, (m71 4 (by decide)).trans l2, ?_, l5.cong cL m84⟩⟩, ⟨⟨fun p k hp hk => ?_, fun p hp => ?_, fun p hp => ?_, fun j hj => ?_, fun q hq => ?_, ⟨2 ^ n - 1, ?_, m69.1, fun p hp => ⟨fun _ => ?_, fun _ => ?_⟩⟩, fun p hp1 hp2 => ?_⟩, ⟨fun p hp => ?_, fun p hp => ?_, ⟨fun j => (τ 15 j).toNatClampNeg, fun p k hp hk => ?_, fun k hk => ?_⟩, fun j hj => ?_, ⟨fun _ => 0, fun q hq => ?_, ?_⟩⟩, ?_, ?_, stat⟩, Or.inl ⟨c0.1, m69.2.2.2.2.2.2⟩, ⟨⟨0, by decide, c0.2.1, m19⟩, tp, m28.trans c0.2.2.symm⟩, ⟨0, by decide, c5.1, Or.inl ⟨m69.2.2.2.1, rfl⟩, fun i hi => absurd hi (by omega)⟩, ⟨0, Nat.two_pow_pos n, c5.2.1, Or.inl ⟨m69.2.2.2.2.1, rfl⟩, fun p _ hb => absurd hb (by rw [Nat.zero_testBit]; decide)⟩, ⟨0, by decide, c5.2.2, Or.inl ⟨m69.2.2.2.2.2.1, rfl⟩, fun i hi => absurd hi (by omega)⟩⟩
  · obtain ⟨q1, q2, q3⟩ := cP p (by omega)
    rw [m12 74 (by decide) (by decide) p (by omega), m12 75 (by decide) (by decide) p (by omega), m12 76 (by decide) (by decide) p (by omega), q1, q2, q3]
    exact d6 p hp
  · obtain ⟨q1, q2, q3⟩ := cF f (by omega)
    rw [m6 81 (by decide) (by decide) f (by omega), m6 82 (by decide) (by decide) f (by omega), m6 83 (by decide) (by decide) f (by omega), q1, q2, q3]
    exact d10 f hf
  · obtain ⟨a, b, v, e1, e2, e3, e4, e5, e6, e7, e8, e9⟩ := w1 i hi
    exact ⟨a, b, v, e1, e2, e3, e4, e5, by rw [m12 78 (by decide) (by decide) i (by omega)]; exact e6, by rw [m12 79 (by decide) (by decide) i (by omega)]; exact e7, by rw [m12 80 (by decide) (by decide) i (by omega)]; exact e8, by rw [cS _ (by omega)]; exact e9⟩
  · rw [m12 78 (by decide) (by decide) i (by omega), m12 78 (by decide) (by decide) j (by omega)] at e1
    rw [m12 79 (by decide) (by decide) i (by omega), m12 79 (by decide) (by decide) j (by omega)] at e2
    exact w2 i j hi hj e1 e2
  · rw [cS _ (by omega)] at he
    obtain ⟨i, i1, i2, i3⟩ := w3 x y hx hy he
    exact ⟨i, i1, by rw [m12 78 (by decide) (by decide) i (by omega)]; exact i2, by rw [m12 79 (by decide) (by decide) i (by omega)]; exact i3⟩
  · rw [cl3, l3]
    cases lt with
    | false => rw [if_neg (by decide), if_pos (l4.mp rfl)]
    | true => rw [if_pos rfl, if_neg (fun q => absurd (l4.mpr q) (by decide))]
  · obtain ⟨v, v1, v2, v3⟩ := (d7 p hp).1 k hk
    rw [vr_sky (by omega) hk, m72 _ (by omega), v3, cW _ (by omega), v2]
  · obtain ⟨q, q1, q2, q3⟩ := (d7 p hp).2
    rw [vr_pl (by omega), m12 73 (by decide) (by decide) p (by omega), q3, cW _ (by omega), q2]
  · rw [vr_sp (by omega), m12 77 (by decide) (by decide) p (by omega), (d8 p hp).1, cW _ (by omega)]
  · rw [vr_got hj, m87 j hj, cW _ (by omega), d9' _ (by omega) (by omega)]
  · rw [vr_noon hq, m88 q hq, cW _ (by omega), d9' _ (by omega) (by omega)]
  · have := Nat.two_pow_pos n
    omega
  · obtain ⟨q, q1, q2, q3⟩ := (d7 p hp).2
    rw [cW _ (by omega), q2]
    exact neg1 (by omega)
  · exact (full_bits n (by omega)).2 p hp
  · rw [cW _ (by omega)]
    exact (d9 p hp1 hp2).1
  · obtain ⟨q, q1, q2, q3⟩ := (d7 p hp).2
    exact Or.inr ⟨q, q1, by rw [cW _ (by omega)]; exact q2⟩
  · rw [cW _ (by omega)]
    rcases (d8 p hp).2 with e | ⟨q, e1, e2, e3, e4⟩
    · exact Or.inl e
    · exact Or.inr ⟨q, e1, e2, e3, by rw [cW _ (by omega)]; exact e4⟩
  · obtain ⟨v, v1, v2, v3⟩ := (d7 p hp).1 k hk
    rw [cW _ (by omega), v2]
    dsimp only
    rw [v2, nI_clamp (by omega)]
  · refine Nat.le_trans (sumN_const (b := 999) n (fun p hp => ?_)) (by omega)
    obtain ⟨v, v1, v2, v3⟩ := (d7 p hp).1 k hk
    dsimp only
    rw [v2, nI_clamp (by omega)]
    exact v1
  · exact ⟨0, by omega, by rw [cW _ (by omega), d9' _ (by omega) (by omega)]; rfl⟩
  · rw [cW _ (by omega), d9' _ (by omega) (by omega)]
    rfl
  · have h1 : sumN (fun _ => 0) 10 = 0 := by decide
    have h2 : sumN (fun p => if s4 34 (48 + p) = -1 then 0 else 1) n ≤ n * 1 := sumN_const n (fun p _ => by
      by_cases e : s4 34 (48 + p) = -1
      · rw [if_pos e]; omega
      · rw [if_neg e]; omega)
    omega
  · exact ⟨0, 0, by decide, by decide, c32.1, c32.2.1, m69.2.1, fun i hi => absurd hi (by omega)⟩
  · exact ⟨0, by decide, c32.2.2, m69.2.2.1, fun i hi => absurd hi (by omega)⟩
