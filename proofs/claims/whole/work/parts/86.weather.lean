/-! ===== weather ===== -/
theorem ite_iff {α : Type} {c c' : Prop} {d : Decidable c} [d' : Decidable c'] (h : c ↔ c') {x y : α} : @ite α c d x y = @ite α c' d' x y := by
  by_cases q : c
  · rw [if_pos q, if_pos (h.mp q)]
  · rw [if_neg q, if_neg (fun e => q (h.mpr e))]
def g4 (X : Nat → Nat) : Nat := if max (max (X 0) (X 1)) (max (X 2) (X 3)) = 0 then 4 else if X 0 = max (max (X 0) (X 1)) (max (X 2) (X 3)) then 0 else if X 1 = max (max (X 0) (X 1)) (max (X 2) (X 3)) then 1 else if X 2 = max (max (X 0) (X 1)) (max (X 2) (X 3)) then 2 else 3
def GP (X : Nat → Nat) (k b : Nat) : Prop := (b = 4 ∧ ∀ i, i < k → X i = 0) ∨ (b < k ∧ 0 < X b ∧ (∀ i, i < k → X i ≤ X b) ∧ ∀ i, i < b → X i < X b)
theorem GP.uniq {X : Nat → Nat} {b b' : Nat} (h : GP X 4 b) (h' : GP X 4 b') : b = b' := by
  rcases h with ⟨e, h⟩ | ⟨e, h1, h2, h3⟩ <;> rcases h' with ⟨e', h'⟩ | ⟨e', h1', h2', h3'⟩
  · omega
  · have := h b' e'; omega
  · have := h' b e; omega
  · rcases Nat.lt_trichotomy b b' with q | q | q
    · have := h3' b q; have := h2 b' e'; omega
    · exact q
    · have := h3 b' q; have := h2' b e; omega
theorem four {P : Nat → Prop} (h0 : P 0) (h1 : P 1) (h2 : P 2) (h3 : P 3) : ∀ i, i < 4 → P i := by
  intro i hi
  match i, hi with
  | 0, _ => exact h0
  | 1, _ => exact h1
  | 2, _ => exact h2
  | 3, _ => exact h3
theorem g4_gp (X : Nat → Nat) : GP X 4 (g4 X) := by
  rw [g4]
  by_cases h : max (max (X 0) (X 1)) (max (X 2) (X 3)) = 0
  · rw [if_pos h]
    exact Or.inl ⟨rfl, four (by omega) (by omega) (by omega) (by omega)⟩
  · rw [if_neg h]
    by_cases h0 : X 0 = max (max (X 0) (X 1)) (max (X 2) (X 3))
    · rw [if_pos h0]
      exact Or.inr ⟨by omega, by omega, four (by omega) (by omega) (by omega) (by omega), fun i hi => absurd hi (by omega)⟩
    · rw [if_neg h0]
      by_cases h1 : X 1 = max (max (X 0) (X 1)) (max (X 2) (X 3))
      · rw [if_pos h1]
        exact Or.inr ⟨by omega, by omega, four (by omega) (by omega) (by omega) (by omega), fun i hi => by obtain rfl : i = 0 := (by omega); omega⟩
      · rw [if_neg h1]
        by_cases h2 : X 2 = max (max (X 0) (X 1)) (max (X 2) (X 3))
        · rw [if_pos h2]
          refine Or.inr ⟨by omega, by omega, four (by omega) (by omega) (by omega) (by omega), fun i hi => ?_⟩
          rcases (by omega : i = 0 ∨ i = 1) with rfl | rfl <;> omega
        · rw [if_neg h2]
          refine Or.inr ⟨by omega, by omega, four (by omega) (by omega) (by omega) (by omega), fun i hi => ?_⟩
          rcases (by omega : i = 0 ∨ i = 1 ∨ i = 2) with rfl | rfl | rfl <;> omega
theorem g4_le (X : Nat → Nat) : g4 X ≤ 4 := by
  rw [g4]
  split
  · omega
  split
  · omega
  split
  · omega
  split <;> omega
theorem jmax_nI {a b : Nat} (ha : a < 2147483648) (hb : b < 2147483648) : jmax (nI a) (nI b) = nI (max a b) := by
  rw [jmax]
  by_cases h : a < b
  · rw [if_pos (by rw [nI_ltI ha hb]; exact h), Nat.max_eq_right (by omega)]
  · rw [if_neg (by rw [nI_ltI ha hb]; exact h), Nat.max_eq_left (by omega)]
theorem c_great {X : Nat → Nat} {s : St} (h : ∀ k, k < 4 → X k < 2147483648) : fX11_greatest (nI (X 0)) (nI (X 1)) (nI (X 2)) (nI (X 3)) s = some (nI (g4 X), s) := by
  have h0 := h 0 (by decide)
  have h1 := h 1 (by decide)
  have h2 := h 2 (by decide)
  have h3 := h 3 (by decide)
  rw [fX11_greatest, jmax_nI h0 h1, jmax_nI h2 h3, jmax_nI (by omega) (by omega), ite_iff (zlt_0 _ (by omega)), ite_iff (nI_eq (by omega) (by omega)), ite_iff (nI_eq (by omega) (by omega)), ite_iff (nI_eq (by omega) (by omega)), g4]
  by_cases h : max (max (X 0) (X 1)) (max (X 2) (X 3)) = 0
  · rw [if_neg (by omega), if_pos h]; rfl
  · rw [if_pos (by omega), if_neg h]
    by_cases h0 : X 0 = max (max (X 0) (X 1)) (max (X 2) (X 3))
    · rw [if_pos h0, if_pos h0]; rfl
    · rw [if_neg h0, if_neg h0]
      by_cases h1 : X 1 = max (max (X 0) (X 1)) (max (X 2) (X 3))
      · rw [if_pos h1, if_pos h1]; rfl
      · rw [if_neg h1, if_neg h1]
        by_cases h2 : X 2 = max (max (X 0) (X 1)) (max (X 2) (X 3))
        · rw [if_pos h2, if_pos h2]; rfl
        · rw [if_neg h2, if_neg h2]; rfl
def encG (b : Nat) : Int32 := if b = 4 then -1 else nI b
theorem m_great {s : St} {X : Nat → Nat} {p : Nat} (hp : p < 12) (hX : ∀ k, k < 4 → s 72 (4 * p + k) = nI (X k)) (hb : ∀ k, k < 4 → X k < 2147483648) : fX12_greatest (nI p) s = some (encG (g4 X), s) := by
  have key : ∀ k i m b, i + k = 4 → k < m → GP X i b → fX12_greatest_L4 (nI p) m (encG b) (nI i) s = some (encG (g4 X), s) := by
    intro k
    induction k with
    | zero =>
      intro i m b hi hm hg
      obtain ⟨m, rfl⟩ : ∃ q, m = q + 1 := ⟨m - 1, by omega⟩
      obtain rfl : i = 4 := by omega
      rw [fX12_greatest_L4, if_pos (by decide), hg.uniq (g4_gp X)]
    | succ k ih =>
      intro i m b hi hm hg
      obtain ⟨m, rfl⟩ : ∃ q, m = q + 1 := ⟨m - 1, by omega⟩
      have hbi := hb i (by omega)
      rw [fX12_greatest_L4, if_neg (by rw [zll_4 _ (by omega)]; omega), zlm_4, nI_add, if_pos (inA_lt (by decide) (by omega)), nI_clamp (by omega), hX i (by omega), zra_1, ite_iff (zrl_0 _ hbi)]
      by_cases h0 : X i ≤ 0
      · rw [if_pos h0]
        refine ih (i + 1) m b (by omega) (by omega) ?_
        rcases hg with ⟨e, g⟩ | ⟨e, g1, g2, g3⟩
        · exact Or.inl ⟨e, fun x hx => by
            by_cases hxi : x = i
            · subst hxi; omega
            · exact g x (by omega)⟩
        · exact Or.inr ⟨by omega, g1, fun x hx => by
            by_cases hxi : x = i
            · subst hxi; omega
            · exact g2 x (by omega), g3⟩
      · rw [if_neg h0]
        by_cases hb4 : b = 4
        · rw [encG, if_pos hb4, if_pos rfl]
          have := ih (i + 1) m i (by omega) (by omega) (by
            rcases hg with ⟨e, g⟩ | ⟨e, -⟩
            · exact Or.inr ⟨by omega, by omega, fun x hx => by
                by_cases hxi : x = i
                · subst hxi; omega
                · have := g x (by omega); omega, fun x hx => by have := g x hx; omega⟩
            · omega)
          rw [encG, if_neg (by omega)] at this
          exact this
        · have hg' : b < i ∧ 0 < X b ∧ (∀ x, x < i → X x ≤ X b) ∧ ∀ x, x < b → X x < X b := by
            rcases hg with ⟨e, g⟩ | g
            · exact absurd e hb4
            · exact g
          obtain ⟨e, g1, g2, g3⟩ := hg'
          have hbb := hb b (by omega)
          rw [encG, if_neg hb4, if_neg (neg1 (by omega)), nI_add, if_pos (inA_lt (by decide) (by omega)), if_pos (inA_lt (by decide) (by omega)), nI_clamp (by omega), hX b (by omega), ite_iff (nI_leI hbi hbb)]
          by_cases hle : X i ≤ X b
          · rw [if_pos hle]
            have := ih (i + 1) m b (by omega) (by omega) (Or.inr ⟨by omega, g1, fun x hx => by
              by_cases hxi : x = i
              · subst hxi; exact hle
              · exact g2 x (by omega), g3⟩)
            rw [encG, if_neg hb4] at this
            exact this
          · rw [if_neg hle]
            have := ih (i + 1) m i (by omega) (by omega) (Or.inr ⟨by omega, by omega, fun x hx => by
              by_cases hxi : x = i
              · subst hxi; omega
              · have := g2 x (by omega); omega, fun x hx => by have := g2 x hx; omega⟩)
            rw [encG, if_neg (by omega)] at this
            exact this
  exact key 4 0 FU 4 rfl (by decide) (Or.inl ⟨rfl, fun i hi => absurd hi (by omega)⟩)
/-- which parts are somebody's greatest there, as bits -/
def kindB (c : Nat → Int32) (S : Nat → Nat) (q n : Nat) : Nat := accN (fun p B => if c (48 + p) = nI q then B ||| 2 ^ g4 (fun k => S (4 * p + k)) else B) n 0 0
theorem kindB_lt {c : Nat → Int32} {S : Nat → Nat} {q : Nat} : ∀ n, kindB c S q n < 32 := by
  intro n
  have := accN_inv (step := fun p B => if c (48 + p) = nI q then B ||| 2 ^ g4 (fun k => S (4 * p + k)) else B) (fun _ B => B < 32) n 0 0 (by omega) (fun j b _ _ hb => by
    show (if _ then _ else _) < 32
    split
    · exact Nat.or_lt_two_pow (n := 5) hb (Nat.pow_lt_pow_right (by decide) (by have := g4_le (fun k => S (4 * j + k)); omega))
    · exact hb)
  exact this
theorem kind_and : ∀ B : Nat, B < 32 → ((nI B &&& (10 : Int32)) = 10 ↔ B.testBit 1 = true ∧ B.testBit 3 = true) := by decide +kernel
theorem c_kindL {w q n : Nat} {s : St} {S : Nat → Nat} (kk : Int32 → St → Option (Int32 × St)) (hw : LN (w + 1) = 94) (h12 : n ≤ 12) (hS : ∀ p k, p < n → k < 4 → s (w + 1) (4 * p + k) = nI (S (4 * p + k))) (hb : ∀ p k, p < n → k < 4 → S (4 * p + k) < 2147483648) (hn : ∀ p, n ≤ p → p < 12 → s (w + 1) (48 + p) = -1) (hq : q < 10) :
    fX10_kind_L4 kk w (nI q) FU 0 0 s = kk (nI (kindB (s (w + 1)) S q n)) s := by
  have h := loopI (fun m a i => fX10_kind_L4 kk w (nI q) m (nI a) (nI i) s) 12 (fun p B => if s (w + 1) (48 + p) = nI q then B ||| 2 ^ g4 (fun k => S (4 * p + k)) else B) (fun a => kk (nI a) s) (fun _ B => B < 32) (fun B i _ hB => by
    show (if _ then _ else _) < 32
    split
    · exact Nat.or_lt_two_pow (n := 5) hB (Nat.pow_lt_pow_right (by decide) (by have := g4_le (fun k => S (4 * i + k)); omega))
    · exact hB) (fun m a i hi ha => by
    simp only [fX10_kind_L4]
    rw [if_neg (by rw [zll_12 _ (by omega)]; omega), w_place hw hi, bd_some, zra_1]
    by_cases e : s (w + 1) (48 + i) = nI q
    · have hin : i < n := by
        rcases Nat.lt_or_ge i n with z | z
        · exact z
        · rw [hn i z hi] at e
          exact absurd e.symm (neg1 (by omega))
      have h0 : fX10_part w (nI i) (0 : Int32) s = _ := w_part (k := 0) hw hi (by decide)
      have h1 : fX10_part w (nI i) (1 : Int32) s = _ := w_part (k := 1) hw hi (by decide)
      have h2 : fX10_part w (nI i) (2 : Int32) s = _ := w_part (k := 2) hw hi (by decide)
      have h3 : fX10_part w (nI i) (3 : Int32) s = _ := w_part (k := 3) hw hi (by decide)
      have hg := c_great (X := fun k => S (4 * i + k)) (s := s) (fun k hk => hb i k hin hk)
      have hl := g4_le (fun k => S (4 * i + k))
      rw [if_pos e, if_pos e, h0, bd_some, h1, bd_some, h2, bd_some, h3, bd_some, hS i 0 hin (by decide), hS i 1 hin (by decide), hS i 2 hin (by decide), hS i 3 hin (by decide), hg, bd_some, b_shl _ (by omega), b_or _ _ (by omega) (Nat.lt_of_le_of_lt (Nat.pow_le_pow_right (by decide) hl) (by decide))]
    · rw [if_neg e, if_neg e]) (fun m a ha => by
    simp only [fX10_kind_L4]
    rw [if_pos (by decide)]) 12 FU 0 0 (by decide) rfl (by decide)
  have e12 : accN (fun p B => if s (w + 1) (48 + p) = nI q then B ||| 2 ^ g4 (fun k => S (4 * p + k)) else B) 12 0 0 = kindB (s (w + 1)) S q n := by
    rw [kindB, show 12 = n + (12 - n) by omega, accN_add]
    refine accN_id _ _ _ (fun j b h1 h2 => ?_)
    rw [hn j (by omega) (by omega), if_neg (fun e => neg1 (by omega) e.symm)]
  rw [e12] at h
  exact h
def kindS (c : Nat → Int32) (S : Nat → Nat) (q n : Nat) (F : Nat → Nat) : Int32 := if (kindB c S q n).testBit 1 = true ∧ (kindB c S q n).testBit 3 = true then 5 else nI (g4 F)
theorem c_kind {w q n : Nat} {s : St} {S F : Nat → Nat} (hw : LN (w + 1) = 94) (h12 : n ≤ 12) (hS : ∀ p k, p < n → k < 4 → s (w + 1) (4 * p + k) = nI (S (4 * p + k))) (hb : ∀ p k, p < n → k < 4 → S (4 * p + k) < 2147483648) (hn : ∀ p, n ≤ p → p < 12 → s (w + 1) (48 + p) = -1) (hq : q < 10) (hF : ∀ k, k < 4 → fallsS (s (w + 1)) n q k = nI (F k)) (hFb : ∀ k, k < 4 → F k < 2147483648) :
    fX10_kind w (nI q) s = some (kindS (s (w + 1)) S q n F, s) := by
  have hf : ∀ k, k < 4 → fX10_falls w (nI q) (nI k) s = some (nI (F k), s) := fun k hk => by rw [w_falls hw hq hk, falls_up h12 hn q k hq, hF k hk]
  have f0 : fX10_falls w (nI q) (0 : Int32) s = _ := hf 0 (by decide)
  have f1 : fX10_falls w (nI q) (1 : Int32) s = _ := hf 1 (by decide)
  have f2 : fX10_falls w (nI q) (2 : Int32) s = _ := hf 2 (by decide)
  have f3 : fX10_falls w (nI q) (3 : Int32) s = _ := hf 3 (by decide)
  rw [fX10_kind, c_kindL _ hw h12 hS hb hn hq, kindS]
  simp only [f0, f1, f2, f3, bd_some, c_great hFb]
  by_cases h : (kindB (s (w + 1)) S q n).testBit 1 = true ∧ (kindB (s (w + 1)) S q n).testBit 3 = true
  · rw [if_pos ((kind_and _ (kindB_lt n)).mpr h), if_pos h]
  · rw [if_neg (fun e => h ((kind_and _ (kindB_lt n)).mp e)), if_neg h]
theorem m_kindG {s : St} {q n : Nat} {F : Nat → Nat} (hn : s 71 0 = nI n) (h12 : n ≤ 12) (hq : q < 10) (hF : ∀ k, k < 4 → fallsS (vr s) n q k = nI (F k)) (hFb : ∀ k, k < 4 → F k < 2147483648) : fX12_kindOf_J88 (nI q) s = some (nI (g4 F), s) := by
  have key : ∀ k i m b, i + k = 4 → k < m → GP F i b → fX12_kindOf_L97 (nI q) m (nI b) (nI (if b = 4 then 0 else F b)) (nI i) s = some (nI (g4 F), s) := by
    intro k
    induction k with
    | zero =>
      intro i m b hi hm hg
      obtain ⟨m, rfl⟩ : ∃ q, m = q + 1 := ⟨m - 1, by omega⟩
      obtain rfl : i = 4 := by omega
      rw [fX12_kindOf_L97, if_pos (by decide), hg.uniq (g4_gp F)]
    | succ k ih =>
      intro i m b hi hm hg
      obtain ⟨m, rfl⟩ : ∃ q, m = q + 1 := ⟨m - 1, by omega⟩
      have hbi := hFb i (by omega)
      have hv : (if b = 4 then 0 else F b) < 2147483648 := by
        by_cases e : b = 4
        · rw [if_pos e]; omega
        · rw [if_neg e]
          rcases hg with ⟨e', -⟩ | ⟨e', -⟩
          · exact absurd e' e
          · exact hFb b (by omega)
      rw [fX12_kindOf_L97, if_neg (by rw [zll_4 _ (by omega)]; omega), m_partAt hn h12 hq (by omega), bd_some, hF i (by omega), ite_iff (nI_ltI hv hbi), zra_1]
      by_cases h0 : (if b = 4 then 0 else F b) < F i
      · rw [if_pos h0, m_partAt hn h12 hq (by omega), bd_some, hF i (by omega)]
        have := ih (i + 1) m i (by omega) (by omega) (by
          rcases hg with ⟨e, g⟩ | ⟨e, g1, g2, g3⟩
          · rw [if_pos e] at h0
            exact Or.inr ⟨by omega, by omega, fun x hx => by
                by_cases hxi : x = i
                · subst hxi; omega
                · have := g x (by omega); omega, fun x hx => by have := g x hx; omega⟩
          · rw [if_neg (by omega)] at h0
            exact Or.inr ⟨by omega, by omega, fun x hx => by
                by_cases hxi : x = i
                · subst hxi; omega
                · have := g2 x (by omega); omega, fun x hx => by have := g2 x hx; omega⟩)
        rw [if_neg (by omega)] at this
        exact this
      · rw [if_neg h0]
        refine ih (i + 1) m b (by omega) (by omega) ?_
        rcases hg with ⟨e, g⟩ | ⟨e, g1, g2, g3⟩
        · rw [if_pos e] at h0
          exact Or.inl ⟨e, fun x hx => by
            by_cases hxi : x = i
            · subst hxi; omega
            · exact g x (by omega)⟩
        · rw [if_neg (by omega)] at h0
          exact Or.inr ⟨by omega, g1, fun x hx => by
            by_cases hxi : x = i
            · subst hxi; omega
            · exact g2 x (by omega), g3⟩
  exact key 4 0 FU 4 rfl (by decide) (Or.inl ⟨rfl, fun i hi => absurd hi (by omega)⟩)
def kflag (t : Bool) : Int32 := if t then 1 else 0
theorem kf_t : kflag true = 1 := rfl
theorem kf_f : kflag false = 0 := rfl
theorem kf_if {b : Bool} {α : Type} (u v : α) : (if kflag b = 0 then u else v) = if b then v else u := by
  cases b
  · rw [kf_f, if_pos rfl]; rfl
  · rw [kf_t, if_neg (by decide)]; rfl
theorem m_kind {s : St} {c : Nat → Int32} {q n : Nat} {S F : Nat → Nat} (hn : s 71 0 = nI n) (h12 : n ≤ 12) (hq : q < 10) (hpl : ∀ p, p < n → s 73 p = c (48 + p)) (hS : ∀ p k, p < n → k < 4 → s 72 (4 * p + k) = nI (S (4 * p + k))) (hb : ∀ p k, p < n → k < 4 → S (4 * p + k) < 2147483648) (hF : ∀ k, k < 4 → fallsS (vr s) n q k = nI (F k)) (hFb : ∀ k, k < 4 → F k < 2147483648) :
    fX12_kindOf (nI q) s = some (kindS c S q n F, s) := by
  have hL : ∀ kk : Int32 → Int32 → St → Option (Int32 × St), fX12_kindOf_L7 kk (nI q) FU 0 0 0 s = kk (kflag ((kindB c S q n).testBit 1)) (kflag ((kindB c S q n).testBit 3)) s := by
    intro kk
    refine loopN (fun m B i => fX12_kindOf_L7 kk (nI q) m (kflag (Nat.testBit B 1)) (kflag (Nat.testBit B 3)) (nI i) s) n (fun p B => if c (48 + p) = nI q then B ||| 2 ^ g4 (fun k => S (4 * p + k)) else B) (fun B => kk (kflag (Nat.testBit B 1)) (kflag (Nat.testBit B 3)) s) ?_ ?_ n FU 0 0 (by omega) (by show n < 20000; omega)
    · intro m B i hi
      simp only [fX12_kindOf_L7]
      rw [if_pos inA_0, i00, hn, if_neg (by rw [nI_leI (by omega) (by omega)]; omega), if_pos (inA_lt (by decide) (by omega)), nI_clamp (by omega), hpl i hi, zra_1]
      by_cases e : c (48 + i) = nI q
      · have hg := m_great (X := fun k => S (4 * i + k)) (s := s) (p := i) (by omega) (fun k hk => hS i k hi hk) (fun k hk => hb i k hi hk)
        have hl := g4_le (fun k => S (4 * i + k))
        rw [if_pos e, if_pos e]
        generalize g4 (fun k => S (4 * i + k)) = g at hg hl
        have e1 : (encG g = 1) ↔ g = 1 := by
          rw [encG]
          by_cases h : g = 4
          · rw [if_pos h]; subst h; decide
          · rw [if_neg h]; exact zle_1 g (by omega)
        have e3 : (encG g = 3) ↔ g = 3 := by
          rw [encG]
          by_cases h : g = 4
          · rw [if_pos h]; subst h; decide
          · rw [if_neg h]; exact zle_3 g (by omega)
        have b1 : (B ||| 2 ^ g).testBit 1 = (B.testBit 1 || decide (g = 1)) := by rw [Nat.testBit_or, Nat.testBit_two_pow]
        have b3 : (B ||| 2 ^ g).testBit 3 = (B.testBit 3 || decide (g = 3)) := by rw [Nat.testBit_or, Nat.testBit_two_pow]
        have j51 : ∀ q0, fX12_kindOf_J51 kk (fX12_kindOf_L7 kk (nI q) m) (nI q) (kflag (Nat.testBit B 3)) (nI i) q0 s = fX12_kindOf_L7 kk (nI q) m q0 (kflag ((B ||| 2 ^ g).testBit 3)) (nI (i + 1)) s := fun q0 => by
          rw [fX12_kindOf_J51, hg, bd_some, b3, zra_1]
          cases B.testBit 3
          · rw [kf_f, if_pos rfl, Bool.false_or]
            by_cases h : g = 3
            · rw [if_pos (e3.mpr h), decide_eq_true h, kf_t]
            · rw [if_neg (fun x => h (e3.mp x)), decide_eq_false h, kf_f]
          · rw [kf_t, if_neg (by decide), Bool.true_or, kf_t]
        rw [hg, bd_some, fX12_kindOf_J46, j51, j51, b1]
        cases B.testBit 1
        · rw [kf_f, if_pos rfl, Bool.false_or]
          by_cases h : g = 1
          · rw [if_pos (e1.mpr h), decide_eq_true h, kf_t]
          · rw [if_neg (fun x => h (e1.mp x)), decide_eq_false h, kf_f]
        · rw [kf_t, if_neg (by decide), Bool.true_or, kf_t]
      · rw [if_neg e, if_neg e]
    · intro m B
      simp only [fX12_kindOf_L7]
      rw [if_pos inA_0, i00, hn, if_pos (Int32.le_refl _)]
  rw [fX12_kindOf, hL, m_kindG hn h12 hq hF hFb, kindS]
  cases h1 : (kindB c S q n).testBit 1
  · rw [kf_f, if_pos rfl, if_neg (fun e => by cases e.1)]
  · cases h3 : (kindB c S q n).testBit 3
    · rw [kf_t, kf_f, if_neg (by decide), if_pos rfl, if_neg (fun e => by cases e.2)]
    · rw [kf_t, if_neg (by decide), if_neg (by decide), if_pos ⟨rfl, rfl⟩]
theorem good_weather (a b : Int32) : Good (fX11_weather a b) (fX12_weather a b) c12 := good_read (fun s hs => by
  obtain ⟨n, nw, nf, ⟨⟨hn, hm, h12⟩, -⟩, ⟨hw, hwi, -⟩, -⟩ := id hs
  have z6 : ∀ (k : Nat) (u : St), k < 7 → fX12_isIn (Int32.toInt64 (nI k)) (0 : Int64) (6 : Int64) u = some (1, u) := fun k u hk => by rw [l64_0, l64_6, m_isIn, nI_toInt (by omega), show (0 : Int32).toInt = 0 from rfl, show (6 : Int32).toInt = 6 from rfl, if_pos (by omega)]
  rcases i_cases a (n := 10) (by omega) with ⟨q, hq, rfl⟩ | ho
  · rcases i_cases b (n := 7) (by omega) with ⟨k, hk, rfl⟩ | ho
    · have e0 : nI 0 = (0 : Int32) := rfl
      have hfal : ∀ k, k < 4 → fX11_weather (nI q) (nI k) s = some (.inl (fallsS (s 34) n q k), s) := fun k hk => by
        have f : fX10_falls 33 (nI q) (nI k) s = some (fallsS (s 34) n q k, s) := by
          rw [w_falls rfl hq hk]
          show some (fallsS (s 34) 12 q k, s) = _
          rw [falls_12 h12 hw q k hq]
        rw [fX11_weather, c_place_in hq, bd_some, if_neg (by decide), f, bd_some]
        rcases (by omega : k = 0 ∨ k = 1 ∨ k = 2 ∨ k = 3) with rfl | rfl | rfl | rfl
        · rw [if_pos (by decide)]
        · rw [if_neg (by decide), if_pos (by decide)]
        · rw [if_neg (by decide), if_neg (by decide), if_pos (by decide)]
        · rw [if_neg (by decide), if_neg (by decide), if_neg (by decide), if_pos (by decide)]
      by_cases h4 : k < 4
      · refine ⟨_, hfal k h4, fun t u hu e hv hj => ?_⟩
        show fX12_weather (nI q) (nI k) t = some (fallsS (s 34) n q k, u)
        rw [fX12_weather, hu, m_place_in hq, bd_some, if_neg (by decide), z6 k u hk, bd_some, if_neg (by decide), if_neg (by rw [zll_4 _ (by omega)]; omega), m_partAt (by rw [e 71 (by decide) (by decide)]; exact hm) h12 hq h4, bd_some, hv, falls_rel hw hq h4]
      · rcases (by omega : k = 4 ∨ k = 5 ∨ k = 6) with rfl | rfl | rfl
        · obtain ⟨S, s1, s2⟩ := hwi.2.2.1
          have hSb : ∀ p k, p < n → k < 4 → S (4 * p + k) < 2147483648 := fun p k hp hk => by
            have := Nat.le_trans (sumN_ge (f := fun p => S (4 * p + k)) n hp) (s2 k hk)
            omega
          have hFe : ∃ F : Nat → Nat, ∀ k, k < 4 → F k ≤ 12108 ∧ fallsS (s 34) n q k = nI (F k) := by
            obtain ⟨F0, a0, b0⟩ := falls_nat (k := 0) hwi hq (by decide)
            obtain ⟨F1, a1, b1⟩ := falls_nat (k := 1) hwi hq (by decide)
            obtain ⟨F2, a2, b2⟩ := falls_nat (k := 2) hwi hq (by decide)
            obtain ⟨F3, a3, b3⟩ := falls_nat (k := 3) hwi hq (by decide)
            exact ⟨fun k => if k = 0 then F0 else if k = 1 then F1 else if k = 2 then F2 else F3, four ⟨a0, b0⟩ ⟨a1, b1⟩ ⟨a2, b2⟩ ⟨a3, b3⟩⟩
          obtain ⟨F, hF⟩ := hFe
          have hFb : ∀ k, k < 4 → F k < 2147483648 := fun k hk => by have := (hF k hk).1; omega
          refine ⟨.inl (kindS (s 34) S q n F), ?_, fun t u hu e hv hj => ?_⟩
          · rw [fX11_weather, c_place_in hq, bd_some, if_neg (by decide), if_neg (by decide), if_neg (by decide), if_neg (by decide), if_neg (by decide), if_pos (by decide), c_kind (w := 33) (s := s) (S := S) (F := F) rfl h12 s1 hSb hw.2.2.2.2.2.2 hq (fun k hk => (hF k hk).2) hFb, bd_some]
          · show fX12_weather (nI q) (nI 4) t = some (kindS (s 34) S q n F, u)
            rw [fX12_weather, hu, m_place_in hq, bd_some, if_neg (by decide), z6 4 u (by decide), bd_some, if_neg (by decide), if_pos (by decide), if_pos (by decide), m_kind (c := s 34) (S := S) (F := F) (by rw [e 71 (by decide) (by decide)]; exact hm) h12 hq (fun p hp => by rw [← vr_pl (s := u) (by omega), hv, hw.2.1 p hp]) (fun p k hp hk => by rw [← vr_sky (s := u) (by omega) hk, hv, hw.1 p k hp hk, s1 p k hp hk]) hSb (fun k hk => by rw [hv, falls_rel hw hq hk]; exact (hF k hk).2) hFb, bd_some]
        · refine ⟨.inl (thereS (s 34) n q), ?_, fun t u hu e hv hj => ?_⟩
          · rw [fX11_weather, c_place_in hq, bd_some, if_neg (by decide), if_neg (by decide), if_neg (by decide), if_neg (by decide), if_neg (by decide), if_neg (by decide), if_pos (by decide), w_manyThere rfl, bd_some]
            show some ((.inl (thereS (s 34) 12 q) : RT), s) = _
            rw [there_12 h12 hw q hq]
          · show fX12_weather (nI q) (nI 5) t = some (thereS (s 34) n q, u)
            have hL : ∀ kk : Int32 → St → Option (Int32 × St), fX12_weather_L63 kk (nI q) (nI 5) FU 0 0 u = kk (thereS (s 34) n q) u := by
              intro kk
              refine loopN (fun m a i => fX12_weather_L63 kk (nI q) (nI 5) m a (nI i) u) n (fun p a => if s 34 (48 + p) = nI q then a + 1 else a) (fun a => kk a u) ?_ ?_ n FU 0 0 (by omega) (by show n < 20000; omega)
              · intro m a i hi
                simp only [fX12_weather_L63]
                rw [if_pos inA_0, i00, e 71 (by decide) (by decide), hm, if_neg (by rw [nI_leI (by omega) (by omega)]; omega), if_pos (inA_lt (by decide) (by omega)), nI_clamp (by omega), ← vr_pl (s := u) (by omega), hv, hw.2.1 i hi, zra_1]
                by_cases h : s 34 (48 + i) = nI q
                · rw [if_pos h, if_pos h]
                · rw [if_neg h, if_neg h, Int32.add_zero]
              · intro m a
                simp only [fX12_weather_L63]
                rw [if_pos inA_0, i00, e 71 (by decide) (by decide), hm, if_pos (Int32.le_refl _)]
            rw [fX12_weather, hu, m_place_in hq, bd_some, if_neg (by decide), z6 5 u (by decide), bd_some, if_neg (by decide), if_pos (by decide), if_neg (by decide), hL, if_pos (by decide)]
        · refine ⟨.inl (s 34 (84 + q)), ?_, fun t u hu e hv hj => ?_⟩
          · rw [fX11_weather, c_place_in hq, bd_some, if_neg (by decide), if_neg (by decide), if_neg (by decide), if_neg (by decide), if_neg (by decide), if_neg (by decide), if_neg (by decide), if_pos (by decide), w_noons rfl hq, bd_some]
          · show fX12_weather (nI q) (nI 6) t = some (s 34 (84 + q), u)
            have hL : ∀ kk : Int32 → St → Option (Int32 × St), fX12_weather_L63 kk (nI q) (nI 6) FU 0 0 u = kk (thereS (s 34) n q) u := by
              intro kk
              refine loopN (fun m a i => fX12_weather_L63 kk (nI q) (nI 6) m a (nI i) u) n (fun p a => if s 34 (48 + p) = nI q then a + 1 else a) (fun a => kk a u) ?_ ?_ n FU 0 0 (by omega) (by show n < 20000; omega)
              · intro m a i hi
                simp only [fX12_weather_L63]
                rw [if_pos inA_0, i00, e 71 (by decide) (by decide), hm, if_neg (by rw [nI_leI (by omega) (by omega)]; omega), if_pos (inA_lt (by decide) (by omega)), nI_clamp (by omega), ← vr_pl (s := u) (by omega), hv, hw.2.1 i hi, zra_1]
                by_cases h : s 34 (48 + i) = nI q
                · rw [if_pos h, if_pos h]
                · rw [if_neg h, if_neg h, Int32.add_zero]
              · intro m a
                simp only [fX12_weather_L63]
                rw [if_pos inA_0, i00, e 71 (by decide) (by decide), hm, if_pos (Int32.le_refl _)]
            rw [fX12_weather, hu, m_place_in hq, bd_some, if_neg (by decide), z6 6 u (by decide), bd_some, if_neg (by decide), if_pos (by decide), if_neg (by decide), hL, if_neg (by decide), if_pos (inA_lt (by decide) hq), nI_clamp (by omega), ← vr_noon (s := u) hq, hv, hw.2.2.2.2.1 q hq]
    · have hne : ∀ k, k < 7 → ¬ b = nI k := fun k hk e => by
        subst e
        rcases ho with h | h
        · exact nI_pos (by omega) h
        · rw [nI_leI (by omega) (by omega)] at h; omega
      have hne0 : ¬ b = 0 := hne 0 (by decide)
      have hne1 : ¬ b = 1 := hne 1 (by decide)
      have hne2 : ¬ b = 2 := hne 2 (by decide)
      have hne3 : ¬ b = 3 := hne 3 (by decide)
      have hne4 : ¬ b = 4 := hne 4 (by decide)
      have hne5 : ¬ b = 5 := hne 5 (by decide)
      have hne6 : ¬ b = 6 := hne 6 (by decide)
      refine ⟨.inr 0, by rw [fX11_weather, c_place_in hq, bd_some, if_neg (by decide), if_neg hne0, if_neg hne1, if_neg hne2, if_neg hne3, if_neg hne4, if_neg hne5, if_neg hne6], fun t u hu e hv hj => ⟨by omega, by decide, 0, ?_⟩⟩
      have ho' := out_int (by omega) ho
      rw [fX12_weather, hu, m_place_in hq, bd_some, if_neg (by decide), l64_0, l64_6, m_isIn, bd_some, show (0 : Int32).toInt = 0 from rfl, show (6 : Int32).toInt = 6 from rfl, if_neg (show ¬ (0 ≤ b.toInt ∧ b.toInt ≤ 6) by omega), if_pos rfl, m_fail]
      rfl
  · refine ⟨.inr 0, by rw [fX11_weather, c_place_out ho, bd_some, if_pos rfl], fun t u hu e hv hj => ⟨by omega, by decide, 0, ?_⟩⟩
    rw [fX12_weather, hu, m_place_out ho, bd_some, if_pos rfl, m_fail]
    rfl)
