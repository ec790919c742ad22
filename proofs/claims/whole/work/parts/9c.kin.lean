/-! ===== kin ===== -/
def anyB (f : Nat → Bool) : Nat → Bool
  | 0 => false
  | n + 1 => anyB f n || f n
theorem anyB_iff {f : Nat → Bool} : ∀ n, anyB f n = true ↔ ∃ p, p < n ∧ f p = true
  | 0 => ⟨fun h => (by cases h), fun ⟨p, hp, _⟩ => absurd hp (by omega)⟩
  | n + 1 => by
    rw [anyB, Bool.or_eq_true, anyB_iff n]
    constructor
    · rintro (⟨p, h1, h2⟩ | h)
      · exact ⟨p, by omega, h2⟩
      · exact ⟨n, by omega, h⟩
    · rintro ⟨p, h1, h2⟩
      by_cases e : p = n
      · subst e; exact Or.inr h2
      · exact Or.inl ⟨p, by omega, h2⟩
/-- who is reached by k steps -/
def Rb (adj : Nat → Nat → Bool) (n a : Nat) : Nat → Nat → Bool
  | 0, q => decide (q = a)
  | k + 1, q => Rb adj n a k q || anyB (fun p => Rb adj n a k p && adj p q) n
def firstK (adj : Nat → Nat → Bool) (n a q : Nat) : Nat → Nat → Int32
  | _, 0 => -1
  | k, r + 1 => if Rb adj n a k q then nI k else firstK adj n a q (k + 1) r
section KIN
variable {adj : Nat → Nat → Bool} {n a : Nat}
theorem firstK_one {q k : Nat} : firstK adj n a q k 1 = if Rb adj n a k q then nI k else -1 := rfl
theorem rb_mono {q : Nat} : ∀ j k, Rb adj n a k q = true → Rb adj n a (k + j) q = true
  | 0, _, h => h
  | j + 1, k, h => by
    rw [← Nat.add_assoc, Rb, rb_mono j k h, Bool.true_or]
theorem rb_step {k p q : Nat} (hp : p < n) (h : Rb adj n a k p = true) (ha : adj p q = true) : Rb adj n a (k + 1) q = true := by
  rw [Rb, (anyB_iff n).mpr ⟨p, hp, by rw [h, ha]; rfl⟩, Bool.or_true]
theorem sum_eq_all {f g : Nat → Nat} : ∀ n, (∀ i, i < n → f i ≤ g i) → sumN f n = sumN g n → ∀ i, i < n → f i = g i
  | 0, _, _, i, hi => absurd hi (by omega)
  | n + 1, h, e, i, hi => by
    have hle : ∀ m, m ≤ n → sumN f m ≤ sumN g m := by
      intro m
      induction m with
      | zero => intro _; exact Nat.le_refl _
      | succ m ih =>
        intro hm
        have := ih (by omega)
        have := h m (by omega)
        rw [sumN, sumN]; omega
    have h1 := hle n (Nat.le_refl _)
    have h2 := h n (by omega)
    rw [sumN, sumN] at e
    by_cases ei : i = n
    · subst ei; omega
    · exact sum_eq_all n (fun j hj => h j (by omega)) (by omega) i (by omega)
theorem rb_stop (han : a < n) : ∃ k, k < n ∧ ∀ q, q < n → Rb adj n a (k + 1) q = Rb adj n a k q := by
  refine Classical.byContradiction (fun hno => ?_)
  have hgrow : ∀ k, k ≤ n → k + 1 ≤ sumN (fun q => if Rb adj n a k q then 1 else 0) n := by
    intro k
    induction k with
    | zero =>
      intro _
      have := sumN_ge (f := fun q => if Rb adj n a 0 q then 1 else 0) n han
      simp only [Rb, decide_true, if_true] at this
      exact this
    | succ k ih =>
      intro hk
      have h1 := ih (by omega)
      have hle : ∀ i, i < n → (if Rb adj n a k i then 1 else 0) ≤ (if Rb adj n a (k + 1) i then 1 else 0) := fun i _ => by
        by_cases e : Rb adj n a k i = true
        · rw [if_pos e, if_pos (rb_mono 1 k e)]; omega
        · rw [if_neg e]; omega
      have hs : sumN (fun q => if Rb adj n a k q then 1 else 0) n ≤ sumN (fun q => if Rb adj n a (k + 1) q then 1 else 0) n := sumN_le (fun i => by
        by_cases e : Rb adj n a k i = true
        · rw [if_pos e, if_pos (rb_mono 1 k e)]; omega
        · rw [if_neg e]; omega) n
      have hne : sumN (fun q => if Rb adj n a k q then 1 else 0) n ≠ sumN (fun q => if Rb adj n a (k + 1) q then 1 else 0) n := fun e => hno ⟨k, by omega, fun q hq => by
        have := sum_eq_all n hle e q hq
        by_cases e1 : Rb adj n a k q = true
        · rw [e1, rb_mono 1 k e1]
        · have e1' : Rb adj n a k q = false := Bool.eq_false_iff.mpr e1
          rw [if_neg e1] at this
          by_cases e2 : Rb adj n a (k + 1) q = true
          · rw [if_pos e2] at this; omega
          · rw [e1', Bool.eq_false_iff.mpr e2]⟩
      omega
  have h1 := hgrow n (Nat.le_refl _)
  have h2 := sumN_const (f := fun q => if Rb adj n a n q then 1 else 0) (b := 1) n (fun p _ => by split <;> omega)
  omega
theorem rb_late (han : a < n) {q : Nat} (hq : q < n) {j : Nat} (hj : n ≤ j) : Rb adj n a j q = Rb adj n a n q := by
  obtain ⟨k, hk, hst⟩ := rb_stop (adj := adj) han
  have hall : ∀ i, ∀ q, q < n → Rb adj n a (k + i) q = Rb adj n a k q := by
    intro i
    induction i with
    | zero => intro q _; rfl
    | succ i ih =>
      intro q hq
      rw [← hst q hq, ← Nat.add_assoc, Rb, Rb, ih q hq]
      congr 1
      rw [Bool.eq_iff_iff, anyB_iff, anyB_iff]
      constructor
      · rintro ⟨p, h1, h2⟩; exact ⟨p, h1, by rw [ih p h1] at h2; exact h2⟩
      · rintro ⟨p, h1, h2⟩; exact ⟨p, h1, by rw [ih p h1]; exact h2⟩
  have e1 := hall (j - k) q hq
  have e2 := hall (n - k) q hq
  rw [show k + (j - k) = j by omega] at e1
  rw [show k + (n - k) = n by omega] at e2
  rw [e1, e2]
theorem firstK_no {q : Nat} : ∀ r k, (∀ j, k ≤ j → j < k + r → Rb adj n a j q = false) → firstK adj n a q k r = -1
  | 0, _, _ => rfl
  | r + 1, k, h => by
    rw [firstK, h k (by omega) (by omega), if_neg (by decide)]
    exact firstK_no r (k + 1) (fun j h1 h2 => h j (by omega) (by omega))
theorem firstK_neg {q : Nat} : ∀ r k, k + r < 1000 → firstK adj n a q k r = -1 → ∀ j, k ≤ j → j < k + r → Rb adj n a j q = false
  | 0, _, _, _, j, h1, h2 => absurd h2 (by omega)
  | r + 1, k, hb, h, j, h1, h2 => by
    rw [firstK] at h
    by_cases e : Rb adj n a k q = true
    · rw [if_pos e] at h
      exact absurd h (neg1 (by omega))
    · rw [if_neg e] at h
      by_cases ej : j = k
      · subst ej; exact Bool.eq_false_iff.mpr e
      · exact firstK_neg r (k + 1) (by omega) h j (by omega) (by omega)
theorem firstK_split {q : Nat} (r2 : Nat) : ∀ r1 k, k + r1 < 1000 → firstK adj n a q k (r1 + r2) = if firstK adj n a q k r1 = -1 then firstK adj n a q (k + r1) r2 else firstK adj n a q k r1
  | 0, k, _ => by rw [Nat.zero_add, firstK, if_pos rfl, Nat.add_zero]
  | r1 + 1, k, hb => by
    rw [show r1 + 1 + r2 = r1 + r2 + 1 by omega, firstK, firstK]
    by_cases e : Rb adj n a k q = true
    · rw [if_pos e, if_pos e, if_neg (neg1 (by omega))]
    · rw [if_neg e, if_neg e, firstK_split r2 r1 (k + 1) (by omega), show k + 1 + r1 = k + (r1 + 1) by omega]
theorem firstK_all (han : a < n) (h12 : n ≤ 12) {q : Nat} (hq : q < n) : firstK adj n a q 0 13 = firstK adj n a q 0 (n + 1) := by
  rw [show 13 = (n + 1) + (12 - n) by omega, firstK_split _ _ _ (by omega)]
  by_cases e : firstK adj n a q 0 (n + 1) = -1
  · rw [if_pos e, e]
    have h := firstK_neg (n + 1) 0 (by omega) e n (by omega) (by omega)
    exact firstK_no _ _ (fun j h1 h2 => by rw [rb_late han hq (by omega), h])
  · rw [if_neg e]
theorem firstK_at {q m : Nat} (hm : m < 900) (h : firstK adj n a q 0 (m + 1) = nI m) : Rb adj n a m q = true := by
  rw [firstK_split 1 m 0 (by omega)] at h
  by_cases e : firstK adj n a q 0 m = -1
  · rw [if_pos e, Nat.zero_add, firstK] at h
    by_cases e2 : Rb adj n a m q = true
    · exact e2
    · rw [if_neg e2, firstK] at h
      exact absurd h.symm (neg1 (by omega))
  · rw [if_neg e] at h
    exfalso
    have : ∀ r k, k + r ≤ m → firstK adj n a q k r ≠ nI m := by
      intro r
      induction r with
      | zero => intro k _ e; exact neg1 (by omega) e.symm
      | succ r ih =>
        intro k hk
        rw [firstK]
        by_cases e2 : Rb adj n a k q = true
        · rw [if_pos e2]
          intro e3
          have := (nI_eq (by omega) (by omega)).mp e3
          omega
        · rw [if_neg e2]; exact ih (k + 1) (by omega)
    exact this m 0 (by omega) h
theorem firstK_first {q m : Nat} (hm : m < 900) (h : Rb adj n a m q = true) (hn : ∀ j, j < m → Rb adj n a j q = false) : firstK adj n a q 0 (m + 1) = nI m := by
  rw [firstK_split 1 m 0 (by omega), if_pos (firstK_no m 0 (fun j _ h2 => hn j (by omega))), Nat.zero_add, firstK, if_pos h]
end KIN
def adjB (f g c : Nat → Int32) (p q : Nat) : Bool := ofB f g p (nI q) || ofB f g q (nI p) || decide (c (60 + p) = nI q)
theorem c_nextOf {s : St} {n p : Nat} (hn : s 21 0 = nI n) (h12 : n ≤ 12) (hp : p < n) : ∃ M, fX11_nextOfKin (nI p) s = some (nI M, s) ∧ M < 4096 ∧ ∀ q, M.testBit q = true ↔ q < n ∧ adjB (s 22) (s 23) (s 34) p q = true := by
  have key : ∀ k i m B, i + k = n → k < m → (∀ q, B.testBit q = true ↔ q < i ∧ adjB (s 22) (s 23) (s 34) p q = true) → ∃ M, fX11_nextOfKin_L4 (nI p) m (nI B) (nI i) s = some (nI M, s) ∧ M < 4096 ∧ ∀ q, M.testBit q = true ↔ q < n ∧ adjB (s 22) (s 23) (s 34) p q = true := by
    intro k
    induction k with
    | zero =>
      intro i m B hi hm hB
      obtain ⟨m, rfl⟩ : ∃ q, m = q + 1 := ⟨m - 1, by omega⟩
      obtain rfl : i = n := by omega
      exact ⟨B, by rw [fX11_nextOfKin_L4, hn, if_pos (Int32.le_refl _)], bit_lt hB h12, hB⟩
    | succ k ih =>
      intro i m B hi hm hB
      obtain ⟨m, rfl⟩ : ∃ q, m = q + 1 := ⟨m - 1, by omega⟩
      have hBl := bit_lt hB (by omega)
      have h1 : fX11_nextOfKin_L4 (nI p) (m + 1) (nI B) (nI i) s = if adjB (s 22) (s 23) (s 34) p i then fX11_nextOfKin_L4 (nI p) m (nI (B ||| 2 ^ i)) (nI (i + 1)) s else fX11_nextOfKin_L4 (nI p) m (nI B) (nI (i + 1)) s := by
        rw [fX11_nextOfKin_L4, hn, if_neg (by rw [nI_leI (by omega) (by omega)]; omega), c_isParent (by omega), bd_some, c_isParent (by omega), bd_some, w_spouse (w := 33) rfl (by omega), bd_some, kf_if, kf_if, b_shl i (by omega), b_or B _ hBl (pow12 i (by omega)), zra_1, adjB]
        show (if ofB (s 22) (s 23) i (nI p) = true then _ else if ofB (s 22) (s 23) p (nI i) = true then _ else if s 34 (60 + p) = nI i then _ else _) = _
        cases ofB (s 22) (s 23) i (nI p)
        · cases ofB (s 22) (s 23) p (nI i)
          · by_cases e : s 34 (60 + p) = nI i
            · rw [if_neg (by decide), if_neg (by decide), if_pos e, decide_eq_true e]; rfl
            · rw [if_neg (by decide), if_neg (by decide), if_neg e, decide_eq_false e]; rfl
          · rw [if_neg (by decide), if_pos rfl, Bool.true_or, Bool.true_or, if_pos rfl]
        · rw [if_pos rfl, Bool.or_true, Bool.true_or, if_pos rfl]
      rw [h1]
      by_cases e : adjB (s 22) (s 23) (s 34) p i = true
      · rw [if_pos e]
        exact ih (i + 1) m _ (by omega) (by omega) (bit_add hB e)
      · rw [if_neg e]
        exact ih (i + 1) m B (by omega) (by omega) (bit_skip hB e)
  exact key n 0 FU 0 (by omega) (by show n < 20000; omega) bit_zero
theorem c_further {s : St} {n a k B : Nat} (hn : s 21 0 = nI n) (h12 : n ≤ 12) (hB : ∀ q, B.testBit q = true ↔ q < n ∧ Rb (adjB (s 22) (s 23) (s 34)) n a k q = true) : ∃ B', fX11_stepFurther (nI B) s = some (nI B', s) ∧ ∀ q, B'.testBit q = true ↔ q < n ∧ Rb (adjB (s 22) (s 23) (s 34)) n a (k + 1) q = true := by
  have hBl := bit_lt hB h12
  have key : ∀ k' i m F, i + k' = n → k' < m → F < 4096 → (∀ q, F.testBit q = true ↔ B.testBit q = true ∨ ∃ p, p < i ∧ B.testBit p = true ∧ q < n ∧ adjB (s 22) (s 23) (s 34) p q = true) → ∃ B', fX11_stepFurther_L4 (nI B) m (nI F) (nI i) s = some (nI B', s) ∧ ∀ q, B'.testBit q = true ↔ B.testBit q = true ∨ ∃ p, p < n ∧ B.testBit p = true ∧ q < n ∧ adjB (s 22) (s 23) (s 34) p q = true := by
    intro k'
    induction k' with
    | zero =>
      intro i m F hi hm hFl hF
      obtain ⟨m, rfl⟩ : ∃ q, m = q + 1 := ⟨m - 1, by omega⟩
      obtain rfl : i = n := by omega
      exact ⟨F, by rw [fX11_stepFurther_L4, hn, if_pos (Int32.le_refl _)], hF⟩
    | succ k' ih =>
      intro i m F hi hm hFl hF
      obtain ⟨m, rfl⟩ : ∃ q, m = q + 1 := ⟨m - 1, by omega⟩
      obtain ⟨M, m1, m2, m3⟩ := c_nextOf (p := i) hn h12 (by omega)
      rw [fX11_stepFurther_L4, hn, if_neg (by rw [nI_leI (by omega) (by omega)]; omega), b_test B hBl i (by omega), zra_1]
      by_cases e : B.testBit i = true
      · rw [if_pos e, if_pos rfl, m1, bd_some, b_or F M hFl m2]
        refine ih (i + 1) m _ (by omega) (by omega) (Nat.or_lt_two_pow (n := 12) hFl m2) (fun q => ?_)
        rw [Nat.testBit_or, Bool.or_eq_true, hF q, m3 q]
        constructor
        · rintro ((h | ⟨p, h1, h2⟩) | h)
          · exact Or.inl h
          · exact Or.inr ⟨p, by omega, h2⟩
          · exact Or.inr ⟨i, by omega, e, h⟩
        · rintro (h | ⟨p, h1, h2, h3⟩)
          · exact Or.inl (Or.inl h)
          · by_cases ep : p = i
            · subst ep; exact Or.inr h3
            · exact Or.inl (Or.inr ⟨p, by omega, h2, h3⟩)
      · rw [if_neg e, if_neg (by decide)]
        refine ih (i + 1) m F (by omega) (by omega) hFl (fun q => ?_)
        rw [hF q]
        constructor
        · rintro (h | ⟨p, h1, h2⟩)
          · exact Or.inl h
          · exact Or.inr ⟨p, by omega, h2⟩
        · rintro (h | ⟨p, h1, h2, h3⟩)
          · exact Or.inl h
          · by_cases ep : p = i
            · subst ep; exact absurd h2 e
            · exact Or.inr ⟨p, by omega, h2, h3⟩
  obtain ⟨B', b1, b2⟩ := key n 0 FU B (by omega) (by show n < 20000; omega) hBl (fun q => ⟨Or.inl, fun h => by
    rcases h with h | ⟨p, h1, -⟩
    · exact h
    · exact absurd h1 (by omega)⟩)
  refine ⟨B', b1, fun q => ?_⟩
  rw [b2 q, hB q, Rb, Bool.or_eq_true, anyB_iff]
  constructor
  · rintro (⟨h1, h2⟩ | ⟨p, h1, h2, h3, h4⟩)
    · exact ⟨h1, Or.inl h2⟩
    · exact ⟨h3, Or.inr ⟨p, h1, by rw [((hB p).mp h2).2, h4]; rfl⟩⟩
  · rintro ⟨h1, h2 | ⟨p, h3, h4⟩⟩
    · exact Or.inl ⟨h1, h2⟩
    · rw [Bool.and_eq_true] at h4
      exact Or.inr ⟨p, h3, (hB p).mpr ⟨h3, h4.1⟩, h1, h4.2⟩
theorem good_kin (a b : Int32) : Good (fX11_kin a b) (fX12_kin a b) c12 := by
  intro s hs
  show GoodAt _ _ _ _
  obtain ⟨n, nw, nf, r1, ⟨hw, hwi, -⟩, -⟩ := id hs
  obtain ⟨⟨hn, hm, h12⟩, -, -, -, hpar, -⟩ := id r1
  have hb : ∀ u s3, Pre s u s3 → u 71 0 = nI n := fun u s3 h => by rw [h.2.1 71 (by decide) (by decide)]; exact hm
  rcases i_cases a (n := n) (by omega) with ⟨p, hp, rfl⟩ | ho
  · rcases i_cases b (n := n) (by omega) with ⟨z, hz, rfl⟩ | ho
    · obtain ⟨adj, hadj⟩ : ∃ adj, adj = adjB (s 22) (s 23) (s 34) := ⟨_, rfl⟩
      have cls : ∀ r k m B, k + r = 13 → r < m → (∀ q, B.testBit q = true ↔ q < n ∧ Rb adj n p k q = true) → fX11_kin_L17 (nI z) m (nI B) (nI k) s = some (.inl (firstK adj n p z k r), s) := by
        intro r
        induction r with
        | zero =>
          intro k m B hk hm2 hB
          obtain ⟨m, rfl⟩ : ∃ q, m = q + 1 := ⟨m - 1, by omega⟩
          obtain rfl : k = 13 := by omega
          rw [fX11_kin_L17, if_pos (by decide)]
          rfl
        | succ r ih =>
          intro k m B hk hm2 hB
          obtain ⟨m, rfl⟩ : ∃ q, m = q + 1 := ⟨m - 1, by omega⟩
          have hBl := bit_lt hB h12
          have h12' : ((12 : Int32) < nI k) ↔ 12 < k := nI_ltI (a := 12) (by decide) (by omega)
          obtain ⟨B', b1, b2⟩ := c_further (a := p) (k := k) hn h12 (by rw [← hadj]; exact hB)
          rw [← hadj] at b2
          rw [fX11_kin_L17, if_neg (by rw [h12']; omega), b_test B hBl z (by omega), firstK, b1, bd_some, zra_1]
          by_cases e : Rb adj n p k z = true
          · rw [if_pos ((hB z).mpr ⟨hz, e⟩), if_pos rfl, if_pos e]
          · rw [if_neg (fun h => e ((hB z).mp h).2), if_neg (by decide), if_neg e]
            exact ih (k + 1) m B' (by omega) (by omega) b2
      have hB0 : ∀ q, (2 ^ p).testBit q = true ↔ q < n ∧ Rb adj n p 0 q = true := fun q => by
        rw [Nat.testBit_two_pow, decide_eq_true_eq, Rb, decide_eq_true_eq]
        constructor
        · rintro rfl; exact ⟨hp, rfl⟩
        · rintro ⟨-, h⟩; exact h.symm
      have fc : fX11_kin (nI p) (nI z) s = some (.inl (firstK adj n p z 0 (n + 1)), s) := by
        rw [fX11_kin, c_person_in hn h12 hp, bx_val, c_person_in hn h12 hz, bx_val, b_shl p (by omega), ← firstK_all hp h12 hz]
        exact cls 13 0 FU (2 ^ p) rfl (by decide) hB0
      refine gat_scr (s1 := s) (a := firstK adj n p z 0 (n + 1)) hs fc (Keep.rfl' s) (fun _ _ => rfl) (fun u s3 h => ?_)
      have g1 := hb u s3 h
      have hrS : ∀ R : Nat → Int32, (rset u 93 R) 71 0 = nI n := fun R => by rw [rset_off (by decide), g1]
      -- the row at the start
      have st0 : ∀ kk k i m (R : Nat → Int32), i + k = n → k < m → (∀ q, q < i → R q = if q = p then 0 else -1) → ∃ R', fX12_kin_L29 kk (nI p) (nI z) m (nI i) (rset u 93 R) = kk (rset u 93 R') ∧ ∀ q, q < n → R' q = if q = p then 0 else -1 := by
        intro kk k
        induction k with
        | zero =>
          intro i m R hi hm2 hR
          obtain ⟨m, rfl⟩ : ∃ q, m = q + 1 := ⟨m - 1, by omega⟩
          obtain rfl : i = n := by omega
          exact ⟨R, by rw [fX12_kin_L29, if_pos inA_0, i00, hrS, if_pos (Int32.le_refl _)], hR⟩
        | succ k ih =>
          intro i m R hi hm2 hR
          obtain ⟨m, rfl⟩ : ∃ q, m = q + 1 := ⟨m - 1, by omega⟩
          have nxt : ∀ v : Int32, v = (if i = p then 0 else -1) → ∃ R', fX12_kin_L29 kk (nI p) (nI z) m (nI (i + 1)) (rset u 93 (ur R i v)) = kk (rset u 93 R') ∧ ∀ q, q < n → R' q = if q = p then 0 else -1 := fun v hv => ih (i + 1) m (ur R i v) (by omega) (by omega) (fun q hq => by
            by_cases e : q = i
            · subst e; rw [ur_hit, hv]
            · rw [ur_off e]; exact hR q (by omega))
          rw [fX12_kin_L29, if_pos inA_0, i00, hrS, if_neg (by rw [nI_leI (by omega) (by omega)]; omega), ite_iff (nI_eq (a := i) (b := p) (by omega) (by omega)), if_pos (inA_lt (by decide) (by omega)), if_pos (inA_lt (by decide) (by omega)), nI_clamp (by omega), wr_rset, wr_rset, zra_1]
          by_cases e : i = p
          · rw [if_pos e]; exact nxt 0 (by rw [if_pos e])
          · rw [if_neg e]; exact nxt (-1) (by rw [if_neg e])
      have adjm : ∀ x y (R : Nat → Int32), x < n → y < n → (ofB ((rset u 93 R) 74) ((rset u 93 R) 75) x (nI y) = ofB (s 22) (s 23) x (nI y)) ∧ (rset u 93 R) 77 x = s 34 (60 + x) := fun x y R hx hy => by
        rw [rset_off (by decide), rset_off (by decide), rset_off (by decide), ofB, ofB, h.2.1 74 (by decide) (by decide), h.2.1 75 (by decide) (by decide), (hpar x hx).1, (hpar x hx).2.1, ← vr_sp (s := u) (by omega), h.2.2.2, hw.2.2.1 x hx]
        exact ⟨rfl, rfl⟩
      -- one who is reached reaches others
      have l90 : ∀ (kk : St → Option (Int32 × St)) (x m0 : Nat), x < n → m0 ≤ 12 → ∀ k i m (R : Nat → Int32), i + k = n → k < m → ∃ R', fX12_kin_L90 kk (nI z) (nI m0) (nI x) m (nI i) (rset u 93 R) = kk (rset u 93 R') ∧ ∀ q, R' q = if R x = nI m0 ∧ i ≤ q ∧ q < n ∧ R q = -1 ∧ adj x q = true then nI (m0 + 1) else R q := by
        intro kk x m0 hx hm0 k
        induction k with
        | zero =>
          intro i m R hi hm2
          obtain ⟨m, rfl⟩ : ∃ q, m = q + 1 := ⟨m - 1, by omega⟩
          obtain rfl : i = n := by omega
          exact ⟨R, by rw [fX12_kin_L90, if_pos inA_0, i00, hrS, if_pos (Int32.le_refl _)], fun q => by rw [if_neg (fun h => by omega)]⟩
        | succ k ih =>
          intro i m R hi hm2
          obtain ⟨m, rfl⟩ : ∃ q, m = q + 1 := ⟨m - 1, by omega⟩
          have hin : i < n := by omega
          have h1 : fX12_kin_L90 kk (nI z) (nI m0) (nI x) (m + 1) (nI i) (rset u 93 R) = if R x = nI m0 then (if R i = -1 ∧ adj x i = true then fX12_kin_L90 kk (nI z) (nI m0) (nI x) m (nI (i + 1)) (rset u 93 (ur R i (nI (m0 + 1)))) else fX12_kin_L90 kk (nI z) (nI m0) (nI x) m (nI (i + 1)) (rset u 93 R)) else kk (rset u 93 R) := by
            rw [fX12_kin_L90, if_pos inA_0, i00, hrS, if_neg (by rw [nI_leI (by omega) (by omega)]; omega), if_pos (inA_lt (by decide) (by omega)), nI_clamp (n := x) (by omega), rset_hit]
            by_cases e1 : R x = nI m0
            · rw [if_pos e1, if_pos e1, if_pos (inA_lt (by decide) (by omega)), nI_clamp (n := i) (by omega)]
              by_cases e2 : R i = -1
              · rw [if_pos e2, m_isOf (by omega), bd_some, m_isOf (by omega), bd_some, kf_if, kf_if, (adjm x i R hx hin).1, (adjm i x R hin hx).1, (adjm x i R hx hin).2, if_pos (inA_lt (by decide) (by omega)), if_pos (inA_lt (by decide) (by omega)), wr_rset, zra_1, zra_1, hadj, adjB]
                cases ofB (s 22) (s 23) x (nI i)
                · cases ofB (s 22) (s 23) i (nI x)
                  · rw [if_neg (by decide), if_neg (by decide)]
                    by_cases e3 : s 34 (60 + x) = nI i
                    · rw [if_pos e3, if_pos ⟨e2, by rw [decide_eq_true e3]; rfl⟩]
                    · rw [if_neg e3, if_neg (fun h => by rw [decide_eq_false e3] at h; exact absurd h.2 (by decide))]
                  · rw [if_neg (by decide), if_pos rfl, if_pos ⟨e2, by rw [Bool.or_true, Bool.true_or]⟩]
                · rw [if_pos rfl, if_pos ⟨e2, by rw [Bool.true_or, Bool.true_or]⟩]
              · rw [if_neg e2, if_neg (fun h => e2 h.1), zra_1]
            · rw [if_neg e1, if_neg e1]
          rw [h1]
          by_cases e1 : R x = nI m0
          · rw [if_pos e1]
            by_cases e2 : R i = -1 ∧ adj x i = true
            · rw [if_pos e2]
              obtain ⟨R', b1, b2⟩ := ih (i + 1) m (ur R i (nI (m0 + 1))) (by omega) (by omega)
              have hxi : x ≠ i := fun e => by
                subst e
                rw [e1] at e2
                exact neg1 (by omega) e2.1
              refine ⟨R', b1, fun q => ?_⟩
              rw [b2 q, ur_off hxi]
              by_cases eq : q = i
              · subst eq
                rw [ur_hit, if_neg (fun h => by omega), if_pos ⟨e1, by omega, hin, e2.1, e2.2⟩]
              · rw [ur_off eq]
                by_cases h3 : R x = nI m0 ∧ i ≤ q ∧ q < n ∧ R q = -1 ∧ adj x q = true
                · rw [if_pos h3, if_pos ⟨h3.1, by omega, h3.2.2⟩]
                · rw [if_neg h3, if_neg (fun h => h3 ⟨h.1, by omega, h.2.2⟩)]
            · rw [if_neg e2]
              obtain ⟨R', b1, b2⟩ := ih (i + 1) m R (by omega) (by omega)
              refine ⟨R', b1, fun q => ?_⟩
              rw [b2 q]
              by_cases h3 : R x = nI m0 ∧ i ≤ q ∧ q < n ∧ R q = -1 ∧ adj x q = true
              · have : q ≠ i := fun e => by subst e; exact e2 ⟨h3.2.2.2.1, h3.2.2.2.2⟩
                rw [if_pos h3, if_pos ⟨h3.1, by omega, h3.2.2⟩]
              · rw [if_neg h3, if_neg (fun h => h3 ⟨h.1, by omega, h.2.2⟩)]
          · rw [if_neg e1]
            exact ⟨R, rfl, fun q => by rw [if_neg (fun h => e1 h.1)]⟩
      have l76 : ∀ (kk : St → Option (Int32 × St)) (m0 : Nat), m0 ≤ 12 → ∀ (R0 : Nat → Int32), (∀ q, R0 q ≠ nI (m0 + 1)) → ∀ k i m (R : Nat → Int32), i + k = n → k < m → (∀ q, q < n → R q = if R0 q = -1 ∧ (∃ x, x < i ∧ R0 x = nI m0 ∧ adj x q = true) then nI (m0 + 1) else R0 q) → ∃ R', fX12_kin_L76 kk (nI z) (nI m0) m (nI i) (rset u 93 R) = kk (rset u 93 R') ∧ ∀ q, q < n → R' q = if R0 q = -1 ∧ (∃ x, x < n ∧ R0 x = nI m0 ∧ adj x q = true) then nI (m0 + 1) else R0 q := by
        intro kk m0 hm0 R0 hR0 k
        induction k with
        | zero =>
          intro i m R hi hm2 hR
          obtain ⟨m, rfl⟩ : ∃ q, m = q + 1 := ⟨m - 1, by omega⟩
          obtain rfl : i = n := by omega
          exact ⟨R, by rw [fX12_kin_L76, if_pos inA_0, i00, hrS, if_pos (Int32.le_refl _)], hR⟩
        | succ k ih =>
          intro i m R hi hm2 hR
          obtain ⟨m, rfl⟩ : ∃ q, m = q + 1 := ⟨m - 1, by omega⟩
          have hin : i < n := by omega
          obtain ⟨R1, b1, b2⟩ := l90 (fun s_13 => fX12_kin_L76 kk (nI z) (nI m0) m (nI i + 1) s_13) i m0 hin hm0 n 0 FU R (by omega) (by show n < 20000; omega)
          have hii : R i = nI m0 ↔ R0 i = nI m0 := by
            rw [hR i hin]
            by_cases e : R0 i = -1 ∧ (∃ x, x < i ∧ R0 x = nI m0 ∧ adj x i = true)
            · rw [if_pos e, e.1]
              constructor
              · intro h; have := (nI_eq (by omega) (by omega)).mp h; omega
              · intro h; exact absurd h.symm (neg1 (by omega))
            · rw [if_neg e]
          rw [fX12_kin_L76, if_pos inA_0, i00, hrS, if_neg (by rw [nI_leI (by omega) (by omega)]; omega)]
          have b1' : fX12_kin_L90 (fun s_13 => fX12_kin_L76 kk (nI z) (nI m0) m (nI i + 1) s_13) (nI z) (nI m0) (nI i) FU (0 : Int32) (rset u 93 R) = _ := b1
          rw [b1', zra_1]
          refine ih (i + 1) m R1 (by omega) (by omega) (fun q hq => ?_)
          rw [b2 q, hR q hq]
          by_cases e : R0 q = -1 ∧ (∃ x, x < i ∧ R0 x = nI m0 ∧ adj x q = true)
          · obtain ⟨e1, x, x1, x2, x3⟩ := id e
            rw [if_pos e, if_neg (fun h => absurd h.2.2.2.1 (neg1 (by omega))), if_pos ⟨e1, x, by omega, x2, x3⟩]
          · rw [if_neg e]
            by_cases e2 : R i = nI m0 ∧ 0 ≤ q ∧ q < n ∧ R0 q = -1 ∧ adj i q = true
            · rw [if_pos e2, if_pos ⟨e2.2.2.2.1, i, by omega, hii.mp e2.1, e2.2.2.2.2⟩]
            · rw [if_neg e2, if_neg]
              rintro ⟨h1, x, h2, h3, h4⟩
              by_cases ex : x = i
              · subst ex; exact e2 ⟨hii.mpr h3, by omega, hq, h1, h4⟩
              · exact e ⟨h1, x, by omega, h3, h4⟩
      have l63 : ∀ k i m (R : Nat → Int32), i + k = n → k < m → (∀ q, q < n → R q = firstK adj n p q 0 (i + 1)) → (∀ q, n ≤ q → R q ≠ nI 0 → True) → ∃ R', fX12_kin_L63 (nI z) m (nI i) (rset u 93 R) = some (firstK adj n p z 0 (n + 1), rset u 93 R') := by
        intro k
        induction k with
        | zero =>
          intro i m R hi hm2 hR _
          obtain ⟨m, rfl⟩ : ∃ q, m = q + 1 := ⟨m - 1, by omega⟩
          obtain rfl : i = n := by omega
          exact ⟨R, by rw [fX12_kin_L63, if_pos inA_0, i00, hrS, if_pos (Int32.le_refl _), if_pos (inA_lt (by decide) (by omega)), nI_clamp (by omega), rset_hit, hR z hz]⟩
        | succ k ih =>
          intro i m R hi hm2 hR _
          obtain ⟨m, rfl⟩ : ∃ q, m = q + 1 := ⟨m - 1, by omega⟩
          obtain ⟨R0, hR0⟩ : ∃ R0 : Nat → Int32, R0 = fun q => if q < n then R q else -1 := ⟨_, rfl⟩
          have hR0n : ∀ q, q < n → R0 q = firstK adj n p q 0 (i + 1) := fun q hq => by rw [hR0]; show (if q < n then R q else -1) = _; rw [if_pos hq, hR q hq]
          have hsmall : ∀ r k' q, k' + r ≤ i + 1 → firstK adj n p q k' r ≠ nI (i + 1) := by
            intro r
            induction r with
            | zero => intro k' q _ e; exact neg1 (by omega) e.symm
            | succ r ih2 =>
              intro k' q hk
              rw [firstK]
              by_cases e2 : Rb adj n p k' q = true
              · rw [if_pos e2]
                intro e3
                have := (nI_eq (by omega) (by omega)).mp e3
                omega
              · rw [if_neg e2]; exact ih2 (k' + 1) q (by omega)
          obtain ⟨R', b1, b2⟩ := l76 (fun s_14 => fX12_kin_L63 (nI z) m (nI i + 1) s_14) i (by omega) R0 (fun q => by
            by_cases hq : q < n
            · rw [hR0n q hq]; exact hsmall (i + 1) 0 q (by omega)
            · rw [hR0]; show (if q < n then R q else -1) ≠ _; rw [if_neg hq]; exact fun e => neg1 (by omega) e.symm) n 0 FU R (by omega) (by show n < 20000; omega) (fun q hq => by
            rw [if_neg (fun h => by obtain ⟨-, x, hx, -⟩ := h; omega), hR0n q hq, hR q hq])
          have b1' : fX12_kin_L76 (fun s_14 => fX12_kin_L63 (nI z) m (nI i + 1) s_14) (nI z) (nI i) FU (0 : Int32) (rset u 93 R) = _ := b1
          rw [fX12_kin_L63, if_pos inA_0, i00, hrS, if_neg (by rw [nI_leI (by omega) (by omega)]; omega), b1', zra_1]
          refine ih (i + 1) m R' (by omega) (by omega) (fun q hq => ?_) (fun _ _ _ => trivial)
          rw [b2 q hq, hR0n q hq, firstK_split 1 (i + 1) 0 (by omega)]
          by_cases e : firstK adj n p q 0 (i + 1) = -1
          · rw [if_pos e, Nat.zero_add, firstK_one]
            have hno := firstK_neg (i + 1) 0 (by omega) e
            by_cases e2 : Rb adj n p (i + 1) q = true
            · rw [if_pos e2, if_pos]
              refine ⟨e, ?_⟩
              rw [Rb, hno i (by omega) (by omega), Bool.false_or, anyB_iff] at e2
              obtain ⟨x, x1, x2⟩ := e2
              rw [Bool.and_eq_true] at x2
              refine ⟨x, x1, ?_, x2.2⟩
              rw [hR0n x x1]
              refine firstK_first (by omega) x2.1 (fun j hj => ?_)
              by_cases e3 : Rb adj n p j x = true
              · have h4 := rb_step x1 e3 x2.2
                have h5 := rb_mono (i - (j + 1)) (j + 1) h4
                rw [show j + 1 + (i - (j + 1)) = i by omega, hno i (by omega) (by omega)] at h5
                cases h5
              · exact Bool.eq_false_iff.mpr e3
            · have hn2 : ¬ (firstK adj n p q 0 (i + 1) = -1 ∧ ∃ x, x < n ∧ R0 x = nI i ∧ adj x q = true) := by
                rintro ⟨-, x, x1, x2, x3⟩
                rw [hR0n x x1] at x2
                exact e2 (rb_step x1 (firstK_at (by omega) x2) x3)
              rw [if_neg e2, if_neg hn2, e]
          · rw [if_neg e, if_neg (fun h => e h.1)]
      obtain ⟨R1, c1, c2⟩ := st0 (fun s_7 => fX12_kin_L63 (nI z) FU (0 : Int32) s_7) n 0 FU (u 93) (by omega) (by show n < 20000; omega) (fun q hq => absurd hq (by omega))
      rw [rset_self] at c1
      obtain ⟨R2, d1⟩ := l63 n 0 FU R1 (by omega) (by show n < 20000; omega) (fun q hq => by
        rw [c2 q hq, firstK, firstK, Rb]
        by_cases e : q = p
        · rw [if_pos e, decide_eq_true e, if_pos rfl]; rfl
        · rw [if_neg e, decide_eq_false e, if_neg (by decide)]) (fun _ _ _ => trivial)
      refine ⟨rset u 93 R2, ?_, Keep.off [93] [] (by decide) (by decide) (fun j _ hj => rset_off (fun e => hj (by rw [e]; decide))) (fun j _ => by rw [rset_off (by decide)]), rset_off (by decide), by rw [rset_off (by decide)]⟩
      rw [fX12_kin, h.1, m_person_in g1 h12 hp, bd_some, if_neg (by decide), m_person_in g1 h12 hz, bd_some, if_neg (by decide)]
      exact c1.trans d1
    · refine gat_thr (x := 0) hs (Or.inl rfl) (by decide) ?_ (fun u s3 h => ?_)
      · rw [fX11_kin, c_person_in hn h12 hp, bx_val, c_person_out hn ho, bx_thr]
      · have g1 := hb u s3 h
        rw [fX12_kin, h.1, m_person_in g1 h12 hp, bd_some, if_neg (by decide), m_person_out g1 h12 ho, bd_some, if_pos rfl, m_fail]
        rfl
  · refine gat_thr (x := 0) hs (Or.inl rfl) (by decide) ?_ (fun u s3 h => ?_)
    · rw [fX11_kin, c_person_out hn ho, bx_thr]
    · have g1 := hb u s3 h
      rw [fX12_kin, h.1, m_person_out g1 h12 ho, bd_some, if_pos rfl, m_fail]
      rfl
