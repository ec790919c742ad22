/-! ===== calls that only look ===== -/
theorem good_read {f : St → Option (RT × St)} {g : St → Option (Int32 × St)} {code : Nat → Int32} (h : ∀ s, RS s → ∃ r : RT, f s = some (r, s) ∧ ∀ t u : St, wr t 69 1 0 = u → (∀ k, k ≠ 111 → k ≠ 69 → u k = s k) → vr u = vr s → (∀ j, j ≠ 1 → u 69 j = s 69 j) → (match r with
    | .inl a => g t = some (a, u)
    | .inr n => n ≤ 1 ∧ code n ≠ 0 ∧ ∃ y, g t = some (y, wr u 69 1 (code n)))) : Good f g code := by
  intro s hs
  obtain ⟨r, h1, h2⟩ := h s hs
  refine ⟨r, s, h1, fun s3 e3 => ?_⟩
  have hv : vr (wr s3 69 1 0) = vr s := (vr_keep keep_code).trans (vr_keep (keep_out e3))
  have h3 := h2 s3 (wr s3 69 1 0) rfl (fun k q1 q2 => by rw [wr_slot q2, e3 k q1]) hv (fun j hj => by rw [wr_place hj, e3 69 (by decide)])
  cases r with
  | inl a => exact ⟨a, wr s3 69 1 0, h3, (hs.keep (keep_out e3)).keep keep_code, wr_slot (by decide), wr_hit, rfl⟩
  | inr n =>
    obtain ⟨hn, hc, y, hy⟩ := h3
    exact ⟨y, _, hy, ((hs.keep (keep_out e3)).keep keep_code).keep keep_code, by rw [wr_slot (by decide), wr_slot (by decide)], wr_hit, by omega, hc⟩
theorem m_fail {u : St} {v : Int32} : fX12_fail v u = some (0, wr u 69 1 v) := rfl
def pop (A : Nat) : Nat := sumN (fun p => if A.testBit p then 1 else 0) 12
theorem pop_step (A : Nat) (hA : A < 4096) : A ≠ 0 → pop (A &&& (A - 1)) + 1 = pop A ∧ (nI A &&& (nI A - 1)) = nI (A &&& (A - 1)) :=
  b_split (P := fun A => A ≠ 0 → pop (A &&& (A - 1)) + 1 = pop A ∧ (nI A &&& (nI A - 1)) = nI (A &&& (A - 1))) (by decide +kernel) A hA
theorem m_bitsOf_L {s : St} : ∀ (k A m : Nat) (acc : Int32), A < 4096 → pop A = k → k < m → fX12_bitsOf_L4 m acc (nI A) s = some (acc + nI k, s) := by
  intro k
  induction k with
  | zero =>
    intro A m acc hA hp hm
    obtain ⟨m, rfl⟩ : ∃ q, m = q + 1 := ⟨m - 1, by omega⟩
    have h0 : A = 0 := by
      by_cases h : A = 0
      · exact h
      · have := (pop_step A hA h).1
        omega
    subst h0
    rw [fX12_bitsOf_L4, if_pos n00, n00, Int32.add_zero]
  | succ k ih =>
    intro A m acc hA hp hm
    obtain ⟨m, rfl⟩ : ∃ q, m = q + 1 := ⟨m - 1, by omega⟩
    have h0 : A ≠ 0 := by
      rintro rfl
      rw [show pop 0 = 0 from rfl] at hp
      omega
    obtain ⟨h1, h2⟩ := pop_step A hA h0
    have h3 : (A &&& (A - 1)) < 4096 := Nat.lt_of_le_of_lt Nat.and_le_left hA
    rw [fX12_bitsOf_L4, if_neg (by rw [zle_0 _ (by omega)]; exact h0), h2, ih _ m _ h3 (by omega) (by omega), Int32.add_assoc, show (1 : Int32) = nI 1 from rfl, nI_add, Nat.add_comm 1 k]
theorem sumN_le {f g : Nat → Nat} (h : ∀ i, f i ≤ g i) : ∀ n, sumN f n ≤ sumN g n
  | 0 => Nat.le_refl _
  | n + 1 => Nat.add_le_add (sumN_le h n) (h n)
theorem sumN_congr {f g : Nat → Nat} : ∀ n, (∀ i, i < n → f i = g i) → sumN f n = sumN g n
  | 0, _ => rfl
  | n + 1, h => by rw [sumN, sumN, sumN_congr n (fun i hi => h i (by omega)), h n (by omega)]
theorem sumN_zero {f : Nat → Nat} (n : Nat) : ∀ k, (∀ i, n ≤ i → i < n + k → f i = 0) → sumN f (n + k) = sumN f n
  | 0, _ => rfl
  | k + 1, h => by rw [← Nat.add_assoc, sumN, sumN_zero n k (fun i h1 h2 => h i h1 (by omega)), h (n + k) (by omega) (by omega), Nat.add_zero]
theorem m_bitsOf {s : St} {A : Nat} (hA : A < 4096) : fX12_bitsOf (nI A) s = some (nI (pop A), s) := by
  have hp : pop A ≤ 12 := by
    have : ∀ n, sumN (fun _ => 1) n = n := by
      intro n
      induction n with
      | zero => rfl
      | succ n ih => rw [sumN, ih]
    refine Nat.le_trans (sumN_le (g := fun _ => 1) (fun i => ?_) 12) (Nat.le_of_eq (this 12))
    split <;> omega
  rw [fX12_bitsOf, m_bitsOf_L (pop A) A FU 0 hA rfl (by show _ < 20000; omega), Int32.zero_add]
theorem aliveS_nat (c : Nat → Int32) : ∀ n, aliveS c n = nI (sumN (fun p => if c (48 + p) = -1 then 0 else 1) n) := by
  intro n
  induction n with
  | zero => rfl
  | succ n ih =>
    rw [aliveS, accN_succ, Nat.zero_add]
    rw [aliveS] at ih
    rw [ih, sumN]
    by_cases h : c (48 + n) = -1
    · rw [if_pos h, if_pos h, Nat.add_zero]
    · rw [if_neg h, if_neg h, nI_1]
theorem two_pow_12 {n A : Nat} (h : n ≤ 12) (hA : A < 2 ^ n) : A < 4096 := Nat.lt_of_lt_of_le hA (Nat.pow_le_pow_right (by decide) h : 2 ^ n ≤ 2 ^ 12)
theorem pop_alive {n A : Nat} {c : Nat → Int32} (h12 : n ≤ 12) (hA : A < 2 ^ n) (h : ∀ p, p < n → (A.testBit p = true ↔ ¬ c (48 + p) = -1)) : pop A = sumN (fun p => if c (48 + p) = -1 then 0 else 1) n := by
  rw [pop, show 12 = n + (12 - n) by omega, sumN_zero]
  · refine sumN_congr n (fun p hp => ?_)
    by_cases hc : c (48 + p) = -1
    · rw [if_pos hc, if_neg (fun e => (h p hp).mp e hc)]
    · rw [if_neg hc, if_pos ((h p hp).mpr hc)]
  · intro i h1 h2
    rw [Nat.testBit_lt_two_pow (Nat.lt_of_lt_of_le hA (Nat.pow_le_pow_right (by decide) h1))]
    rfl
theorem sw_bits {n : Nat} {c m : Nat → Int32} (h12 : n ≤ 12) (h : SW n c m) : ∃ A, A < 4096 ∧ A < 2 ^ n ∧ m 94 = nI A ∧ (∀ p, p < n → (A.testBit p = true ↔ ¬ c (48 + p) = -1)) ∧ aliveS c 12 = nI (pop A) := by
  obtain ⟨A, h1, h2, h3⟩ := h.2.2.2.2.2.1
  exact ⟨A, two_pow_12 h12 h1, h1, h2, h3, by rw [alive_12 h12 h, aliveS_nat, pop_alive h12 h1 h3]⟩
