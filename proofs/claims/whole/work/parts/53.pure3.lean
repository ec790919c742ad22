/-! ===== people, parts, places; two worlds that are the same ===== -/
theorem i_cases (a : Int32) {n : Nat} (hn : n < 2147483648) : (∃ p, p < n ∧ a = nI p) ∨ (a < 0 ∨ nI n ≤ a) := by
  by_cases h : a < 0
  · exact Or.inr (Or.inl h)
  · obtain ⟨j, hj, rfl⟩ := nI_of h
    by_cases hjn : j < n
    · exact Or.inl ⟨j, hjn, rfl⟩
    · exact Or.inr (Or.inr (by rw [nI_leI (by omega) (by omega)]; omega))
theorem out_int {a : Int32} {n : Nat} (hn : n < 2147483648) (h : a < 0 ∨ nI n ≤ a) : a.toInt < 0 ∨ (n : Int) ≤ a.toInt := by
  rcases h with h | h
  · rw [i_lt] at h; exact Or.inl h
  · rw [i_le, nI_toInt (by omega)] at h; exact Or.inr h
theorem m_isIn {a b c : Int32} {s : St} : fX12_isIn (Int32.toInt64 a) (Int32.toInt64 b) (Int32.toInt64 c) s = some ((if b.toInt ≤ a.toInt ∧ a.toInt ≤ c.toInt then 1 else 0), s) := by
  have h1 : (lg_cmp (Int32.toInt64 a) (Int32.toInt64 b) < 0) ↔ a.toInt < b.toInt := by
    rw [lg_cmp_lt, Int64.lt_iff_toInt_lt, Int32.toInt_toInt64, Int32.toInt_toInt64]
  have h2 : (0 < lg_cmp (Int32.toInt64 a) (Int32.toInt64 c)) ↔ c.toInt < a.toInt := by
    rw [lg_cmp_gt, Int64.lt_iff_toInt_lt, Int32.toInt_toInt64, Int32.toInt_toInt64]
  rw [fX12_isIn]
  by_cases h3 : a.toInt < b.toInt
  · rw [if_pos (h1.mpr h3), if_neg (by omega)]
  · rw [if_neg (fun h => h3 (h1.mp h))]
    by_cases h4 : c.toInt < a.toInt
    · rw [if_pos (h2.mpr h4), if_neg (by omega)]
    · rw [if_neg (fun h => h4 (h2.mp h)), if_pos (by omega)]
theorem l64_0 : (0 : Int64) = Int32.toInt64 0 := by decide
theorem l64_1 : (1 : Int64) = Int32.toInt64 1 := by decide
theorem l64_3 : (3 : Int64) = Int32.toInt64 3 := by decide
theorem l64_6 : (6 : Int64) = Int32.toInt64 6 := by decide
theorem l64_7 : (7 : Int64) = Int32.toInt64 7 := by decide
theorem l64_9 : (9 : Int64) = Int32.toInt64 9 := by decide
theorem l64_2 : (2 : Int64) = Int32.toInt64 2 := by decide
theorem l64_60 : (60 : Int64) = Int32.toInt64 60 := by decide
theorem l64_100 : (100 : Int64) = Int32.toInt64 100 := by decide
theorem l64_9999 : (9999 : Int64) = Int32.toInt64 9999 := by decide
theorem nI_pred_int {n : Nat} (hn : n < 2147483648) : (nI n - 1).toInt = (n : Int) - 1 := by
  have o : (1 : Int32).toInt = 1 := rfl
  have h := nI_toInt (n := n) (by omega)
  rw [i_sub (by rw [h, o]; omega) (by rw [h, o]; omega), h, o]
section PEOPLE
variable {s : St} {n : Nat} {a : Int32}
theorem m_isPerson (hn : s 71 0 = nI n) (h12 : n ≤ 12) : fX12_isPerson a s = some ((if 0 ≤ a.toInt ∧ a.toInt < n then 1 else 0), s) := by
  rw [fX12_isPerson, if_pos inA_0, i00, hn, l64_0, m_isIn, bd_some, nI_pred_int (by omega), show (0 : Int32).toInt = 0 from rfl]
  by_cases h : 0 ≤ a.toInt ∧ a.toInt < n
  · rw [if_pos h, if_pos (show 0 ≤ a.toInt ∧ a.toInt ≤ (n : Int) - 1 by omega)]
    rfl
  · rw [if_neg h, if_neg (show ¬ (0 ≤ a.toInt ∧ a.toInt ≤ (n : Int) - 1) by omega)]
    rfl
theorem m_person_in {p : Nat} (hn : s 71 0 = nI n) (h12 : n ≤ 12) (hp : p < n) : fX12_isPerson (nI p) s = some (1, s) := by
  rw [m_isPerson hn h12, nI_toInt (by omega), if_pos (by omega)]
theorem m_person_out (hn : s 71 0 = nI n) (h12 : n ≤ 12) (h : a < 0 ∨ nI n ≤ a) : fX12_isPerson a s = some (0, s) := by
  have := out_int (by omega) h
  rw [m_isPerson hn h12, if_neg (by omega)]
theorem c_person_in {p : Nat} (hn : s 21 0 = nI n) (h12 : n ≤ 12) (hp : p < n) : fX11_needPerson (nI p) s = some (.inl 0, s) := by
  rw [fX11_needPerson, if_neg (nI_pos (by omega)), hn, if_pos (by rw [nI_ltI (by omega) (by omega)]; exact hp)]
theorem c_person_out (hn : s 21 0 = nI n) (h : a < 0 ∨ nI n ≤ a) : fX11_needPerson a s = some (.inr 0, s) := by
  rw [fX11_needPerson]
  by_cases h0 : a < 0
  · rw [if_pos h0]
  · rw [if_neg h0, hn, if_neg]
    rcases h with h | h
    · exact absurd h h0
    · rw [i_le] at h
      rw [i_lt]
      omega
theorem m_isPart : fX12_isPart a s = some ((if 0 ≤ a.toInt ∧ a.toInt < 4 then 1 else 0), s) := by
  rw [fX12_isPart, l64_0, l64_3, m_isIn, bd_some, show (0 : Int32).toInt = 0 from rfl, show (3 : Int32).toInt = 3 from rfl]
  by_cases h : 0 ≤ a.toInt ∧ a.toInt < 4
  · rw [if_pos h, if_pos (show 0 ≤ a.toInt ∧ a.toInt ≤ 3 by omega)]
    rfl
  · rw [if_neg h, if_neg (show ¬ (0 ≤ a.toInt ∧ a.toInt ≤ 3) by omega)]
    rfl
theorem m_part_in {p : Nat} (hp : p < 4) : fX12_isPart (nI p) s = some (1, s) := by
  rw [m_isPart, nI_toInt (by omega), if_pos (by omega)]
theorem m_part_out (h : a < 0 ∨ nI 4 ≤ a) : fX12_isPart a s = some (0, s) := by
  have := out_int (by omega) h
  rw [m_isPart, if_neg (by omega)]
theorem c_part_in {p : Nat} (hp : p < 4) : fX11_needPart (nI p) s = some (.inl 0, s) := by
  rw [fX11_needPart, if_neg (nI_pos (by omega)), if_pos (by rw [zrt_4 _ (by omega)]; exact hp)]
theorem c_part_out (h : a < 0 ∨ nI 4 ≤ a) : fX11_needPart a s = some (.inr 0, s) := by
  rw [fX11_needPart]
  by_cases h0 : a < 0
  · rw [if_pos h0]
  · rw [if_neg h0, if_neg]
    rcases h with h | h
    · exact absurd h h0
    · rw [i_le] at h
      rw [i_lt]
      have : (nI 4).toInt = (4 : Int32).toInt := rfl
      omega
theorem c_place_in {p : Nat} (hp : p < 10) : fX11_isPlace (nI p) s = some (1, s) := by
  rw [fX11_isPlace, if_neg (nI_pos (by omega)), if_neg (by rw [zll_10 _ (by omega)]; omega)]
theorem c_place_out (h : a < 0 ∨ nI 10 ≤ a) : fX11_isPlace a s = some (0, s) := by
  rw [fX11_isPlace]
  by_cases h0 : a < 0
  · rw [if_pos h0]
  · rw [if_neg h0, if_pos]
    rcases h with h | h
    · exact absurd h h0
    · exact h
theorem m_alive {A p : Nat} (hA : s 69 17 = nI A) (h : A < 4096) (hp : p < 12) : fX12_isAlive (nI p) s = some ((if A.testBit p then 1 else 0), s) := by
  rw [fX12_isAlive, hA, b_test A h p hp]
  by_cases hb : A.testBit p = true
  · rw [if_pos hb, if_pos rfl]
  · rw [if_neg hb, if_neg (by decide)]
end PEOPLE
def sumN (f : Nat → Nat) : Nat → Nat
  | 0 => 0
  | n + 1 => sumN f n + f n
/-- a row of the class and one of the reference tell the same, of n people -/
def SW (n : Nat) (c m : Nat → Int32) : Prop :=
  (∀ p k, p < n → k < 4 → m (4 * p + k) = c (4 * p + k)) ∧ (∀ p, p < n → m (48 + p) = c (48 + p)) ∧ (∀ p, p < n → m (60 + p) = c (60 + p)) ∧ (∀ j, j < 12 → m (72 + j) = c (72 + j)) ∧ (∀ q, q < 10 → m (84 + q) = c (84 + q)) ∧
  (∃ A, A < 2 ^ n ∧ m 94 = nI A ∧ ∀ p, p < n → (A.testBit p = true ↔ ¬ c (48 + p) = -1)) ∧ (∀ p, n ≤ p → p < 12 → c (48 + p) = -1)
/-- a row is a world that can be -/
def WI (n : Nat) (c : Nat → Int32) : Prop :=
  (∀ p, p < n → c (48 + p) = -1 ∨ ∃ q, q < 10 ∧ c (48 + p) = nI q) ∧ (∀ p, p < n → c (60 + p) = -1 ∨ ∃ q, q < n ∧ q ≠ p ∧ c (60 + p) = nI q ∧ c (60 + q) = nI p) ∧
  (∃ S : Nat → Nat, (∀ p k, p < n → k < 4 → c (4 * p + k) = nI (S (4 * p + k))) ∧ ∀ k, k < 4 → sumN (fun p => S (4 * p + k)) n ≤ 11988) ∧ (∀ j, j < 12 → ∃ g, g ≤ 9999 ∧ c (72 + j) = nI g) ∧
  (∃ N : Nat → Nat, (∀ q, q < 10 → c (84 + q) = nI (N q)) ∧ sumN N 10 + sumN (fun p => if c (48 + p) = -1 then 0 else 1) n ≤ 12)
section RWS
variable {n : Nat} {c m : Nat → Int32}
theorem falls_rel (h : SW n c m) {q k : Nat} (hq : q < 10) (hk : k < 4) : fallsS m n q k = fallsS c n q k := by
  rw [fallsS, fallsS, h.2.2.2.2.1 q hq]
  refine accN_congr _ _ _ (fun j b _ hj => ?_)
  rw [fallsF, fallsF, h.2.1 j (by omega), h.1 j k (by omega) hk]
theorem falls_12 (h12 : n ≤ 12) (h : SW n c m) (q k : Nat) (hq : q < 10) : fallsS c 12 q k = fallsS c n q k := by
  rw [fallsS, fallsS, show 12 = n + (12 - n) by omega, accN_add]
  refine accN_id _ _ _ (fun j b h1 h2 => ?_)
  rw [fallsF, h.2.2.2.2.2.2 j (by omega) (by omega), if_neg (fun e => neg1 (by omega) e.symm)]
theorem noons_rel (h : SW n c m) : noonsS m = noonsS c := accN_congr _ _ _ (fun j b _ hj => by rw [h.2.2.2.2.1 j (by omega)])
theorem apart_rel (h : SW n c m) {p q : Nat} (hp : p < n) (hq : q < n) : apartS m p q = apartS c p q := accN_congr _ _ _ (fun j b _ hj => by rw [h.1 p j hp (by omega), h.1 q j hq (by omega)])
theorem ripe_rel (h : SW n c m) {sun rain sun' rain' : Nat → Int32} {f : Nat} (hf : f < 6) (h1 : sun' f = sun f) (h2 : rain' f = rain f) : ripeS m sun' rain' f = ripeS c sun rain f := by
  rw [ripeS, ripeS, h.2.2.2.1 (2 * f) (by omega), h.2.2.2.1 (2 * f + 1) (by omega), h1, h2]
theorem ripes_rel (h : SW n c m) {sun rain sun' rain' : Nat → Int32} {nf : Nat} (hf : nf ≤ 6) (h1 : ∀ f, f < nf → sun' f = sun f) (h2 : ∀ f, f < nf → rain' f = rain f) : ripesS m sun' rain' nf = ripesS c sun rain nf := accN_congr _ _ _ (fun j b _ hj => by rw [ripe_rel h (by omega) (h1 j (by omega)) (h2 j (by omega))])
theorem there_rel (h : SW n c m) (q : Nat) : thereS m n q = thereS c n q := accN_congr _ _ _ (fun j b _ hj => by rw [h.2.1 j (by omega)])
theorem there_12 (h12 : n ≤ 12) (h : SW n c m) (q : Nat) (hq : q < 10) : thereS c 12 q = thereS c n q := by
  rw [thereS, thereS, show 12 = n + (12 - n) by omega, accN_add]
  refine accN_id _ _ _ (fun j b h1 h2 => ?_)
  rw [h.2.2.2.2.2.2 j (by omega) (by omega), if_neg (fun e => neg1 (by omega) e.symm)]
theorem alive_12 (h12 : n ≤ 12) (h : SW n c m) : aliveS c 12 = aliveS c n := by
  rw [aliveS, aliveS, show 12 = n + (12 - n) by omega, accN_add]
  refine accN_id _ _ _ (fun j b h1 h2 => ?_)
  rw [h.2.2.2.2.2.2 j (by omega) (by omega), if_pos rfl]
end RWS
