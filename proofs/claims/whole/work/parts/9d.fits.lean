/-! ===== fits ===== -/
theorem allFrom_iff {f : Nat → Bool} : ∀ k i, allFrom f i k = true ↔ ∀ j, i ≤ j → j < i + k → f j = true
  | 0, i => ⟨fun _ j h1 h2 => absurd h1 (by omega), fun _ => rfl⟩
  | k + 1, i => by
    rw [allFrom, Bool.and_eq_true, allFrom_iff k (i + 1)]
    constructor
    · rintro ⟨h1, h2⟩ j q1 q2
      by_cases e : j = i
      · subst e; exact h1
      · exact h2 j (by omega) (by omega)
    · intro h
      exact ⟨h i (by omega) (by omega), fun j q1 q2 => h j (by omega) (by omega)⟩
/-- what sets have in a part -/
def WN (S kk : Nat → Nat) (n i Z : Nat) : Nat := sumN (fun p => if Z.testBit p then S (4 * p + kk i) else 0) n
def fitB (S kk M : Nat → Nat) (n ns A Z : Nat) : Bool := decide (Z &&& A = Z) && allFrom (fun i => decide (WN S kk n i Z = M i)) 0 ns
def FA : Type := Nat × Int32 × Nat × (Nat → Nat)
def updF (Z : Nat) (a : FA) : FA := (a.1 + 1, (if a.1 = 0 then nI Z else a.2.1), a.2.2.1 &&& Z, fun p => a.2.2.2 p + (if Z.testBit p then 1 else 0))
def stepF (S kk M : Nat → Nat) (n ns A Z : Nat) (a : FA) : FA := if fitB S kk M n ns A Z then updF Z a else a
theorem sub_iff {Z A : Nat} : Z &&& A = Z ↔ ∀ p, Z.testBit p = true → A.testBit p = true := by
  constructor
  · intro h p hp
    rw [← h, Nat.testBit_and, Bool.and_eq_true] at hp
    exact hp.2
  · intro h
    refine Nat.eq_of_testBit_eq (fun p => ?_)
    rw [Nat.testBit_and]
    by_cases e : Z.testBit p = true
    · rw [e, h p e]; rfl
    · rw [Bool.eq_false_iff.mpr e, Bool.false_and]
theorem or_add (X : Nat) (hX : X < 4096) : ∀ q : Nat, q < 12 → X % 2 ^ (q + 1) = 0 → X ||| 2 ^ q = X + 2 ^ q :=
  b_split (P := fun X => ∀ q : Nat, q < 12 → X % 2 ^ (q + 1) = 0 → X ||| 2 ^ q = X + 2 ^ q) (by decide +kernel) X hX
theorem low_bits {X q p : Nat} (h : X % 2 ^ q = 0) (hp : p < q) : X.testBit p = false := by
  have := Nat.testBit_mod_two_pow X q p
  rw [h, Nat.zero_testBit, decide_eq_true hp, Bool.true_and] at this
  exact this.symm
theorem high_bits {X y q p : Nat} (h : X % 2 ^ q = 0) (hy : y < 2 ^ q) (hp : q ≤ p) : (X + y).testBit p = X.testBit p := by
  have h1 : ((X + y) / 2 ^ q).testBit (p - q) = (X + y).testBit (p - q + q) := Nat.testBit_div_two_pow _ _
  have h2 : (X / 2 ^ q).testBit (p - q) = X.testBit (p - q + q) := Nat.testBit_div_two_pow _ _
  rw [show p - q + q = p by omega] at h1 h2
  have hd : (X + y) / 2 ^ q = X / 2 ^ q := by
    have hx : X = 2 ^ q * (X / 2 ^ q) := by
      have := Nat.div_add_mod X (2 ^ q)
      rw [h, Nat.add_zero] at this
      exact this.symm
    rw [hx, Nat.mul_add_div (Nat.two_pow_pos q), Nat.div_eq_of_lt hy, Nat.add_zero, Nat.mul_div_cancel_left _ (Nat.two_pow_pos q)]
  rw [← h1, hd, h2]
theorem sub_bits {X y q p : Nat} (h : X % 2 ^ q = 0) (hy : y < 2 ^ q) (hx : X.testBit p = true) : (X + y).testBit p = true := by
  rcases Nat.lt_or_ge p q with z | z
  · rw [low_bits h z] at hx; cases hx
  · rw [high_bits h hy z]; exact hx
theorem WN_mono {S kk : Nat → Nat} {n i X Z : Nat} (h : ∀ p, X.testBit p = true → Z.testBit p = true) : WN S kk n i X ≤ WN S kk n i Z := sumN_le (fun p => by
  by_cases e : X.testBit p = true
  · rw [if_pos e, if_pos (h p e)]; omega
  · rw [if_neg e]; omega) n
theorem WN_add {S kk : Nat → Nat} {n i X q : Nat} (hq : q < n) (hX : X.testBit q = false) : WN S kk n i (X ||| 2 ^ q) = WN S kk n i X + S (4 * q + kk i) := by
  have := sumN_pt (f := fun p => if X.testBit p then S (4 * p + kk i) else 0) (g := fun p => if (X ||| 2 ^ q).testBit p then S (4 * p + kk i) else 0) (i := q) n hq (fun p _ hp => by
    have : (X ||| 2 ^ q).testBit p = X.testBit p := by
      rw [Bool.eq_iff_iff, bit_or2]
      exact ⟨fun h => h.elim id (fun e => absurd e hp), Or.inl⟩
    rw [this])
  have e1 : (X ||| 2 ^ q).testBit q = true := bit_or2.mpr (Or.inr rfl)
  simp only [e1, hX, if_true] at this
  rw [WN, WN]
  simp only [Bool.false_eq_true, if_false] at this
  omega
def FC (σ : St) (a : FA) : Prop := σ 65 2 = nI a.1 ∧ σ 65 3 = a.2.1 ∧ σ 65 4 = nI a.2.2.1 ∧ ∀ p, p < 12 → σ 67 p = nI (a.2.2.2 p)
section FITS
variable {S kk M : Nat → Nat} {n ns A : Nat}
theorem stepF_cnt : ∀ k X (a : FA), (accN (stepF S kk M n ns A) k X a).1 ≤ a.1 + k
  | 0, _, a => Nat.le_refl _
  | k + 1, X, a => by
    have h := stepF_cnt k (X + 1) (stepF S kk M n ns A X a)
    have h2 : (stepF S kk M n ns A X a).1 ≤ a.1 + 1 := by
      rw [stepF]
      split
      · exact Nat.le_refl _
      · omega
    show (accN (stepF S kk M n ns A) k (X + 1) (stepF S kk M n ns A X a)).1 ≤ _
    omega
theorem c_take {s σ : St} {q : Nat} {c3 : Int32} (hns : ns ≤ 4) (hσ : ∀ x, x ≠ 65 → x ≠ 66 → x ≠ 67 → σ x = s x) (h6 : s 32 6 = nI ns) (hkk : ∀ i, i < ns → kk i < 4 ∧ s 36 i = nI (kk i)) (hq : q < n) (h12 : n ≤ 12) (hS : ∀ p k, p < n → k < 4 → s 34 (4 * p + k) = nI (S (4 * p + k))) :
    ∃ σ', fX3_take 32 (nI q) c3 σ = some (kflag (allFrom (fun i => !decide (σ 66 i - c3 * nI (S (4 * q + kk i)) < 0)) 0 ns), σ') ∧ (∀ i, i < ns → σ' 66 i = σ 66 i - c3 * nI (S (4 * q + kk i))) ∧ ∀ x, x ≠ 66 → σ' x = σ x := by
  have key : ∀ k i m b (τ : St), i + k = ns → k < m → (∀ x, x ≠ 66 → τ x = σ x) → (∀ j, j < i → τ 66 j = σ 66 j - c3 * nI (S (4 * q + kk j))) → (∀ j, i ≤ j → τ 66 j = σ 66 j) → ∃ σ', fX3_take_L6 32 (nI q) c3 m (kflag b) (nI i) τ = some (kflag (b && allFrom (fun i => !decide (σ 66 i - c3 * nI (S (4 * q + kk i)) < 0)) i k), σ') ∧ (∀ i, i < ns → σ' 66 i = σ 66 i - c3 * nI (S (4 * q + kk i))) ∧ ∀ x, x ≠ 66 → σ' x = σ x := by
    intro k
    induction k with
    | zero =>
      intro i m b τ hi hm h1 h2 h3
      obtain ⟨m, rfl⟩ : ∃ q, m = q + 1 := ⟨m - 1, by omega⟩
      obtain rfl : i = ns := by omega
      refine ⟨τ, ?_, h2, h1⟩
      rw [fX3_take_L6, h1 32 (by decide), hσ 32 (by decide) (by decide) (by decide), h6, if_pos (Int32.le_refl _), allFrom, Bool.and_true]
      cases b
      · rw [if_pos (Or.inl kf_f)]
      · rw [if_pos (Or.inr kf_t)]
    | succ k ih =>
      intro i m b τ hi hm h1 h2 h3
      obtain ⟨m, rfl⟩ : ∃ q, m = q + 1 := ⟨m - 1, by omega⟩
      obtain ⟨k1, k2⟩ := hkk i (by omega)
      have hpt : fX10_part 33 (nI q) (nI (kk i)) τ = some (nI (S (4 * q + kk i)), τ) := by
        rw [w_part (w := 33) rfl (by omega) k1]
        show some (τ 34 (4 * q + kk i), τ) = _
        rw [h1 34 (by decide), hσ 34 (by decide) (by decide) (by decide), hS q (kk i) hq k1]
      have h36 : fX11_at (32 + 4) (nI i) τ = some (nI (kk i), τ) := by
        rw [at_nI (by decide) (by show i < 4; omega)]
        show some (τ 36 i, τ) = _
        rw [h1 36 (by decide), hσ 36 (by decide) (by decide) (by decide), k2]
      have e66 : τ 66 i = σ 66 i := h3 i (by omega)
      have nxt := fun b' => ih (i + 1) m b' (wr τ 66 i (σ 66 i - c3 * nI (S (4 * q + kk i)))) (by omega) (by omega) (fun x hx => by rw [wr_slot hx, h1 x hx]) (fun j hj => by
        by_cases e : j = i
        · subst e; rw [wr_hit]
        · rw [wr_place e, h2 j (by omega)]) (fun j hj => by rw [wr_place (by omega), h3 j (by omega)])
      have n0 := nxt false
      have n1 := nxt true
      rw [kf_f, Bool.false_and] at n0
      rw [kf_t, Bool.true_and] at n1
      have hput : fX11_put 66 (nI i) (σ 66 i - c3 * nI (S (4 * q + kk i))) τ = some (0, wr τ 66 i (σ 66 i - c3 * nI (S (4 * q + kk i)))) := put_nI (by decide) (by show i < 4; omega)
      rw [fX3_take_L6, h1 32 (by decide), hσ 32 (by decide) (by decide) (by decide), h6, if_neg (by rw [nI_leI (by omega) (by omega)]; omega), at_nI (by decide) (by show i < 4; omega), bd_some, h36, bd_some]
      show ∃ σ', bd (fX10_part 33 (nI q) (nI (kk i)) τ) _ = _ ∧ _
      rw [hpt, bd_some, e66, hput, bd_some, kf_if, zra_1, allFrom]
      cases b
      · rw [if_neg (by decide), Bool.false_and]
        exact n0
      · rw [if_pos rfl, Bool.true_and]
        by_cases e : σ 66 i - c3 * nI (S (4 * q + kk i)) < 0
        · rw [if_pos e, decide_eq_true e, Bool.not_true, Bool.false_and]
          exact n0
        · rw [if_neg e, decide_eq_false e, Bool.not_false, Bool.true_and]
          exact n1
  have := key ns 0 FU true σ (by omega) (by show ns < 20000; omega) (fun _ _ => rfl) (fun j hj => absurd hj (by omega)) (fun _ _ => rfl)
  rw [Bool.true_and] at this
  exact this
theorem c_count {s σ : St} {X : Nat} {a : FA} (hns : ns ≤ 4) (hσ : ∀ x, x ≠ 65 → x ≠ 66 → x ≠ 67 → σ x = s x) (h6 : s 32 6 = nI ns) (hX : X < 4096) (hXA : X &&& A = X) (hM : ∀ i, i < ns → WN S kk n i X ≤ M i ∧ M i ≤ 9999 ∧ σ 66 i = nI (M i - WN S kk n i X)) (ha : a.1 ≤ X) (hF : FC σ a) : ∃ σ', fX3_countSet 32 (nI X) σ = some (0, σ') ∧ FC σ' (stepF S kk M n ns A X a) ∧ (∀ x, x ≠ 65 → x ≠ 67 → σ' x = σ x) := by
  have chk : ∀ kk2 k i m, i + k = ns → k < m → (fX3_countSet_L2 kk2 32 (nI X) m (nI i) σ = if allFrom (fun i => decide (WN S kk n i X = M i)) i k then kk2 σ else some (0, σ)) := by
    intro kk2 k
    induction k with
    | zero =>
      intro i m hi hm
      obtain ⟨m, rfl⟩ : ∃ q, m = q + 1 := ⟨m - 1, by omega⟩
      obtain rfl : i = ns := by omega
      rw [fX3_countSet_L2, hσ 32 (by decide) (by decide) (by decide), h6, if_pos (Int32.le_refl _), allFrom, if_pos rfl]
    | succ k ih =>
      intro i m hi hm
      obtain ⟨m, rfl⟩ : ∃ q, m = q + 1 := ⟨m - 1, by omega⟩
      obtain ⟨m1, m2, m3⟩ := hM i (by omega)
      rw [fX3_countSet_L2, hσ 32 (by decide) (by decide) (by decide), h6, if_neg (by rw [nI_leI (by omega) (by omega)]; omega), at_nI (by decide) (by show i < 4; omega), bd_some, m3, ite_iff (zle_0 _ (by omega)), zra_1, allFrom]
      by_cases e : WN S kk n i X = M i
      · rw [if_pos (by omega), ih (i + 1) m (by omega) (by omega), decide_eq_true e, Bool.true_and]
      · rw [if_neg (by omega), decide_eq_false e, Bool.false_and, if_neg (by decide)]
  rw [fX3_countSet]
  have chk' := chk (fun s_2 => if (s_2 65 2) = 0 then (fX3_countSet_J44 32 (nI X) (nI X) s_2) else (fX3_countSet_J44 32 (nI X) (s_2 65 3) s_2)) ns 0 FU (by omega) (by show ns < 20000; omega)
  have chk'' : fX3_countSet_L2 (fun s_2 => if (s_2 65 2) = 0 then (fX3_countSet_J44 32 (nI X) (nI X) s_2) else (fX3_countSet_J44 32 (nI X) (s_2 65 3) s_2)) 32 (nI X) FU (0 : Int32) σ = _ := chk'
  rw [chk'']
  have hfb : fitB S kk M n ns A X = allFrom (fun i => decide (WN S kk n i X = M i)) 0 ns := by rw [fitB, decide_eq_true hXA, Bool.true_and]
  rw [stepF, hfb]
  by_cases e : allFrom (fun i => decide (WN S kk n i X = M i)) 0 ns = true
  · rw [if_pos e, if_pos e]
    obtain ⟨f1, f2, f3, f4⟩ := hF
    have J : ∀ q0 : Int32, q0 = (if a.1 = 0 then nI X else a.2.1) → ∃ σ', fX3_countSet_J44 32 (nI X) q0 σ = some (0, σ') ∧ FC σ' (updF X a) ∧ ∀ x, x ≠ 65 → x ≠ 67 → σ' x = σ x := fun q0 hq0 => by
      obtain ⟨τ, hτ⟩ : ∃ τ, τ = wr (wr (wr σ 65 3 q0) 65 2 (nI (a.1 + 1))) 65 4 (nI (a.2.2.1 &&& X)) := ⟨_, rfl⟩
      have hJ : fX3_countSet_J44 32 (nI X) q0 σ = fX3_countSet_L69 32 (nI X) FU 0 τ := by
        rw [fX3_countSet_J44, wr_place (j := 3) (j' := 2) (by decide), f1, zra_1, wr_place (j := 2) (j' := 4) (by decide), wr_place (j := 3) (j' := 4) (by decide), f3, b_and, hτ]
      have key : ∀ k i m (R : Nat → Int32), i + k = 12 → k < m → (∀ p, p < i → R p = nI ((updF X a).2.2.2 p)) → (∀ p, i ≤ p → p < 12 → R p = nI (a.2.2.2 p)) → ∃ R', fX3_countSet_L69 32 (nI X) m (nI i) (rset τ 67 R) = some (0, rset τ 67 R') ∧ ∀ p, p < 12 → R' p = nI ((updF X a).2.2.2 p) := by
        intro k
        induction k with
        | zero =>
          intro i m R hi hm h1 h2
          obtain ⟨m, rfl⟩ : ∃ q, m = q + 1 := ⟨m - 1, by omega⟩
          obtain rfl : i = 12 := by omega
          exact ⟨R, by rw [fX3_countSet_L69, if_pos (by decide)], h1⟩
        | succ k ih =>
          intro i m R hi hm h1 h2
          obtain ⟨m, rfl⟩ : ∃ q, m = q + 1 := ⟨m - 1, by omega⟩
          have hbit : (if X.testBit i = true then (1 : Int32) else 0) = nI (if X.testBit i = true then 1 else 0) := by
            by_cases e : X.testBit i = true
            · rw [if_pos e, if_pos e]; rfl
            · rw [if_neg e, if_neg e]; rfl
          rw [fX3_countSet_L69, if_neg (by rw [zll_12 _ (by omega)]; omega), at_nI (by decide) (by show i < 12; omega), bd_some, rset_hit, h2 i (by omega) (by omega), b_test X hX i (by omega), hbit, nI_add, put_nI (by decide) (by show i < 12; omega), bd_some, wr_rset, zra_1]
          refine ih (i + 1) m _ (by omega) (by omega) (fun p hp => ?_) (fun p q1 q2 => by rw [ur_off (by omega)]; exact h2 p (by omega) q2)
          by_cases ep : p = i
          · subst ep; rw [ur_hit]; rfl
          · rw [ur_off ep]; exact h1 p (by omega)
      obtain ⟨R', g1, g2⟩ := key 12 0 FU (τ 67) rfl (by decide) (fun p hp => absurd hp (by omega)) (fun p _ hp => by rw [hτ, wr_slot (by decide), wr_slot (by decide), wr_slot (by decide)]; exact f4 p hp)
      rw [rset_self] at g1
      refine ⟨rset τ 67 R', by rw [hJ]; exact g1, ⟨?_, ?_, ?_, fun p hp => by rw [rset_hit]; exact g2 p hp⟩, fun x q1 q2 => by rw [rset_off q2, hτ, wr_slot q1, wr_slot q1, wr_slot q1]⟩
      · rw [rset_off (by decide), hτ, wr_place (by decide), wr_hit]; rfl
      · rw [rset_off (by decide), hτ, wr_place (by decide), wr_place (by decide), wr_hit, hq0]; rfl
      · rw [rset_off (by decide), hτ, wr_hit]; rfl
    show ∃ σ', (if σ 65 2 = 0 then _ else _) = _ ∧ _
    rw [f1, ite_iff (zle_0 _ (by omega))]
    by_cases e0 : a.1 = 0
    · rw [if_pos e0]
      exact J (nI X) (by rw [if_pos e0])
    · rw [if_neg e0]
      exact J (σ 65 3) (by rw [if_neg e0, f2])
  · rw [if_neg e, if_neg e]
    exact ⟨σ, rfl, hF, fun _ _ _ => rfl⟩
theorem c_descend {s : St} (hns : ns ≤ 4) (h12 : n ≤ 12) (h6 : s 32 6 = nI ns) (hkk : ∀ i, i < ns → kk i < 4 ∧ s 36 i = nI (kk i)) (hS : ∀ p k, p < n → k < 4 → s 34 (4 * p + k) = nI (S (4 * p + k))) (hSb : ∀ p k, p < n → k < 4 → S (4 * p + k) ≤ 11988) (hal : ∀ p, p < 12 → (A.testBit p = true ↔ ¬ s 34 (48 + p) = -1)) (hAn : ∀ p, A.testBit p = true → p < n) (hM9 : ∀ i, i < ns → M i ≤ 9999) :
    ∀ q fu X (σ : St) (a : FA), q ≤ 12 → q < fu → X % 2 ^ q = 0 → X + 2 ^ q ≤ 4096 → X &&& A = X → (∀ x, x ≠ 65 → x ≠ 66 → x ≠ 67 → σ x = s x) → (∀ i, i < ns → WN S kk n i X ≤ M i ∧ σ 66 i = nI (M i - WN S kk n i X)) → a.1 ≤ X → FC σ a →
    ∃ σ', fX3_descend 32 fu (nI q - 1) (nI X) σ = some (0, σ') ∧ FC σ' (accN (stepF S kk M n ns A) (2 ^ q) X a) ∧ (∀ i, i < ns → σ' 66 i = σ 66 i) ∧ ∀ x, x ≠ 65 → x ≠ 66 → x ≠ 67 → σ' x = s x := by
  intro q
  induction q with
  | zero =>
    intro fu X σ a hq hf hX0 hX hXA hσ hM ha hF
    obtain ⟨fu, rfl⟩ : ∃ q, fu = q + 1 := ⟨fu - 1, by omega⟩
    obtain ⟨σ', c1, c2, c3⟩ := c_count (S := S) (kk := kk) (M := M) (n := n) (A := A) hns hσ h6 (by omega) hXA (fun i hi => ⟨(hM i hi).1, hM9 i hi, (hM i hi).2⟩) ha hF
    refine ⟨σ', ?_, c2, fun i hi => by rw [c3 66 (by decide) (by decide)], fun x q1 q2 q3 => by rw [c3 x q1 q3, hσ x q1 q2 q3]⟩
    rw [fX3_descend, gX3_descend, if_neg (by decide), c1, bd_some]
  | succ q ih =>
    intro fu X σ a hq hf hX0 hX hXA hσ hM ha hF
    obtain ⟨fu, rfl⟩ : ∃ q, fu = q + 1 := ⟨fu - 1, by omega⟩
    have hX0' : X % 2 ^ q = 0 := by
      have : X % 2 ^ (q + 1) % 2 ^ q = X % 2 ^ q := Nat.mod_mod_of_dvd X (Nat.pow_dvd_pow 2 (by omega))
      rw [hX0, Nat.zero_mod] at this
      exact this.symm
    have h2q : 2 ^ (q + 1) = 2 ^ q + 2 ^ q := by rw [Nat.pow_succ]; omega
    have hpos : 0 < 2 ^ q := Nat.two_pow_pos q
    have hXl : X < 4096 := by omega
    have hor := or_add X hXl q (by omega) hX0
    have hXq : X.testBit q = false := low_bits hX0 (by omega)
    obtain ⟨σ1, a1, a2, a3, a4⟩ := ih fu X σ a (by omega) (by omega) hX0' (by omega) hXA hσ hM ha hF
    have hcnt := stepF_cnt (S := S) (kk := kk) (M := M) (n := n) (ns := ns) (A := A) (2 ^ q) X a
    have hacc : accN (stepF S kk M n ns A) (2 ^ (q + 1)) X a = accN (stepF S kk M n ns A) (2 ^ q) (X + 2 ^ q) (accN (stepF S kk M n ns A) (2 ^ q) X a) := by rw [h2q, accN_add]
    obtain ⟨a', ha'⟩ : ∃ a', a' = accN (stepF S kk M n ns A) (2 ^ q) X a := ⟨_, rfl⟩
    rw [← ha'] at a2 hcnt hacc
    have hX1 : (X + 2 ^ q) % 2 ^ q = 0 := by rw [Nat.add_mod_right]; exact hX0'
    have inX1 : ∀ y, y < 2 ^ q → ∀ p, (X ||| 2 ^ q).testBit p = true → (X + 2 ^ q + y).testBit p = true := fun y hy p hp => by
      rw [hor] at hp
      exact sub_bits hX1 hy hp
    have idle : (∀ y, y < 2 ^ q → fitB S kk M n ns A (X + 2 ^ q + y) = false) → accN (stepF S kk M n ns A) (2 ^ q) (X + 2 ^ q) a' = a' := fun h => accN_id _ _ _ (fun j b h1 h2 => by
      rw [stepF, show j = X + 2 ^ q + (j - (X + 2 ^ q)) by omega, h _ (by omega), if_neg (by decide)])
    have hdesc : fX3_descend 32 (fu + 1) (nI (q + 1) - 1) (nI X) σ = bd (fX10_alive 33 (nI q) σ1) (fun y_2 s_2 =>
      if y_2 = 0 then (some (0, s_2)) else (bd (fX3_take 32 (nI q) (1 : Int32) s_2) (fun y_3 s_3 =>
      if y_3 = 0 then (bd (fX3_take 32 (nI q) (-1 : Int32) s_3) (fun y_4 s_4 => some (0, s_4)))
      else (bd (fX3_descend 32 fu (nI q - 1) (nI X ||| (jshl (1 : Int32) (nI q))) s_3) (fun y_5 s_5 => bd (fX3_take 32 (nI q) (-1 : Int32) s_5) (fun y_6 s_6 => some (0, s_6)))))) ) := by
      rw [fX3_descend, gX3_descend, nI_pred, if_pos (nI_pos' (by omega)), a1, bd_some]
    rw [hdesc, w_alive (w := 33) rfl (by omega), bd_some]
    show ∃ σ', (if (if σ1 34 (48 + q) = -1 then (0 : Int32) else 1) = 0 then _ else _) = _ ∧ _
    rw [a4 34 (by decide) (by decide) (by decide), hacc]
    by_cases ed : s 34 (48 + q) = -1
    · rw [if_pos ed, if_pos rfl]
      refine ⟨σ1, rfl, ?_, a3, a4⟩
      rw [idle (fun y hy => ?_)]
      · exact a2
      · rw [fitB]
        have : ¬ ((X + 2 ^ q + y) &&& A = X + 2 ^ q + y) := fun h => by
          have h1 := (sub_iff.mp h) q (inX1 y hy q (bit_or2.mpr (Or.inr rfl)))
          exact ((hal q (by omega)).mp h1) ed
        rw [decide_eq_false this, Bool.false_and]
    · rw [if_neg ed, if_neg (by decide)]
      have hqA : A.testBit q = true := (hal q (by omega)).mpr ed
      have hqn : q < n := hAn q hqA
      obtain ⟨σ2, b1, b2, b3⟩ := c_take (S := S) (kk := kk) (n := n) (c3 := 1) (q := q) hns a4 h6 hkk hqn h12 hS
      have m1 : ∀ i, i < ns → σ1 66 i = nI (M i - WN S kk n i X) := fun i hi => by rw [a3 i hi]; exact (hM i hi).2
      have back : ∀ σ3 : St, (∀ x, x ≠ 65 → x ≠ 66 → x ≠ 67 → σ3 x = s x) → (∀ i, i < ns → σ3 66 i = σ1 66 i - 1 * nI (S (4 * q + kk i))) → ∃ b σ4, fX3_take 32 (nI q) (-1 : Int32) σ3 = some (b, σ4) ∧ (∀ i, i < ns → σ4 66 i = σ 66 i) ∧ ∀ x, x ≠ 66 → σ4 x = σ3 x := fun σ3 h1 h2 => by
        obtain ⟨σ4, d1, d2, d3⟩ := c_take (S := S) (kk := kk) (n := n) (c3 := -1) (q := q) hns h1 h6 hkk hqn h12 hS
        refine ⟨_, σ4, d1, fun i hi => ?_, d3⟩
        rw [d2 i hi, h2 i hi, a3 i hi, Int32.one_mul, Int32.neg_mul, Int32.one_mul, Int32.sub_eq_add_neg, Int32.sub_eq_add_neg, Int32.neg_neg, Int32.add_assoc, Int32.add_comm (-nI (S (4 * q + kk i))), ← Int32.sub_eq_add_neg, Int32.sub_self, Int32.add_zero]
      have σ2s : ∀ x, x ≠ 65 → x ≠ 66 → x ≠ 67 → σ2 x = s x := fun x q1 q2 q3 => by rw [b3 x q2, a4 x q1 q2 q3]
      rw [b1, bd_some, kf_if, b_shl q (by omega), b_or X _ hXl (pow12 q (by omega)), hor]
      have hWX : ∀ i, WN S kk n i (X + 2 ^ q) = WN S kk n i X + S (4 * q + kk i) := fun i => by rw [← hor, WN_add hqn hXq]
      by_cases en : allFrom (fun i => !decide (σ1 66 i - 1 * nI (S (4 * q + kk i)) < 0)) 0 ns = true
      · rw [if_pos en]
        have hle : ∀ i, i < ns → WN S kk n i (X + 2 ^ q) ≤ M i ∧ σ2 66 i = nI (M i - WN S kk n i (X + 2 ^ q)) := fun i hi => by
          have h1 := (allFrom_iff ns 0).mp en i (by omega) (by omega)
          have hmi := hM9 i hi
          have hmi2 := (hM i hi).1
          have hsb := hSb q (kk i) hqn (hkk i hi).1
          rw [Bool.not_eq_true', decide_eq_false_iff_not, Int32.one_mul, m1 i hi] at h1
          have h3 : S (4 * q + kk i) ≤ M i - WN S kk n i X := by
            rcases Nat.lt_or_ge (M i - WN S kk n i X) (S (4 * q + kk i)) with z | z
            · exact absurd (pk_sneg (by omega) z) h1
            · exact z
          rw [hWX i, b2 i hi, Int32.one_mul, m1 i hi, pk_sub h3, Nat.sub_add_eq]
          exact ⟨by omega, rfl⟩
        obtain ⟨σ3, e1, e2, e3, e4⟩ := ih fu (X + 2 ^ q) σ2 a' (by omega) (by omega) hX1 (by omega) (by
          rw [← hor]
          refine sub_iff.mpr (fun p hp => ?_)
          rcases bit_or2.mp hp with h | h
          · exact sub_iff.mp hXA p h
          · subst h; exact hqA) σ2s hle (by omega) (by
          obtain ⟨g1, g2, g3, g4⟩ := a2
          exact ⟨by rw [b3 65 (by decide)]; exact g1, by rw [b3 65 (by decide)]; exact g2, by rw [b3 65 (by decide)]; exact g3, fun p hp => by rw [b3 67 (by decide)]; exact g4 p hp⟩)
        obtain ⟨b', σ4, f1, f2, f3⟩ := back σ3 e4 (fun i hi => by rw [e3 i hi, b2 i hi])
        rw [e1, bd_some, f1, bd_some]
        obtain ⟨g1, g2, g3, g4⟩ := e2
        exact ⟨σ4, rfl, ⟨by rw [f3 65 (by decide)]; exact g1, by rw [f3 65 (by decide)]; exact g2, by rw [f3 65 (by decide)]; exact g3, fun p hp => by rw [f3 67 (by decide)]; exact g4 p hp⟩, f2, fun x q1 q2 q3 => by rw [f3 x q2, e4 x q1 q2 q3]⟩
      · rw [if_neg en]
        obtain ⟨b', σ4, f1, f2, f3⟩ := back σ2 σ2s b2
        rw [f1, bd_some]
        refine ⟨σ4, rfl, ?_, f2, fun x q1 q2 q3 => by rw [f3 x q2, σ2s x q1 q2 q3]⟩
        rw [idle (fun y hy => ?_)]
        · obtain ⟨g1, g2, g3, g4⟩ := a2
          exact ⟨by rw [f3 65 (by decide), b3 65 (by decide)]; exact g1, by rw [f3 65 (by decide), b3 65 (by decide)]; exact g2, by rw [f3 65 (by decide), b3 65 (by decide)]; exact g3, fun p hp => by rw [f3 67 (by decide), b3 67 (by decide)]; exact g4 p hp⟩
        · rw [Bool.eq_false_iff]
          intro hfit
          rw [fitB, Bool.and_eq_true] at hfit
          refine en ((allFrom_iff ns 0).mpr (fun i _ hi => ?_))
          have hi' : i < ns := by omega
          have h1 := (allFrom_iff ns 0).mp hfit.2 i (by omega) (by omega)
          rw [decide_eq_true_eq] at h1
          have h2 := WN_mono (S := S) (kk := kk) (n := n) (i := i) (inX1 y hy)
          rw [hor, hWX i, h1] at h2
          have hmi := hM9 i hi'
          rw [Int32.one_mul, m1 i hi', pk_sub (by omega)]
          have : ¬ nI (M i - WN S kk n i X - S (4 * q + kk i)) < 0 := nI_pos (by omega)
          rw [decide_eq_false this]
          rfl
end FITS
