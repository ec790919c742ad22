/-! ===== the law ===== -/
def ofB (f g : Nat → Int32) (h : Nat) (v : Int32) : Bool := decide (f h = v) || decide (g h = v)
def hpB (f g : Nat → Int32) (h : Nat) (v : Int32) : Bool := !decide (v = -1) && ofB f g h v
def valS (f g a c : Nat → Int32) (d h : Nat) (x : Int32) : Int32 :=
  if x = -6 then nI h else if x = -5 then kflag (hpB f g h (f d) || hpB f g h (g d)) else if x = -4 then kflag (ofB f g d (nI h)) else if x = -3 then kflag (decide (c (60 + d) = nI h)) else
  if x = -2 then kflag (ofB f g h (nI d) && decide (a h = 1)) else if x = -1 then kflag (ofB f g h (nI d) && !decide (a h = 1)) else kflag (decide (c (48 + d) = c (48 + h)))
def joinS (x a b : Int32) : Int32 :=
  if x = -18 then a * b else if x = -17 then a - b else if x = -16 then a + b else if x = -15 then kflag (decide (a = b)) else if x = -14 then kflag (decide (a < b)) else
  if x = -13 then kflag (!decide (a = 0) && !decide (b = 0)) else if x = -12 then kflag (!decide (a = 0) || !decide (b = 0)) else if b = 0 then 0 else a / b
theorem c_isParent {s : St} {p : Nat} {v : Int32} (hp : p < 12) : fX4_isParent 21 v (nI p) s = some (kflag (ofB (s 22) (s 23) p v), s) := by
  rw [fX4_isParent, at_nI (by decide) (by show p < 12; omega), bd_some, ofB]
  by_cases h : s 22 p = v
  · rw [if_pos h, decide_eq_true h]; rfl
  · rw [if_neg h, decide_eq_false h, at_nI (by decide) (by show p < 12; omega), bd_some]
    by_cases h2 : s 23 p = v
    · rw [if_pos h2, decide_eq_true h2]; rfl
    · rw [if_neg h2, decide_eq_false h2]; rfl
theorem m_isOf {s : St} {p : Nat} {v : Int32} (hp : p < 12) : fX12_isOf (nI p) v s = some (kflag (ofB (s 74) (s 75) p v), s) := by
  rw [fX12_isOf, if_pos (inA_lt (by decide) (by omega)), nI_clamp (by omega), ofB]
  by_cases h : s 74 p = v
  · rw [if_pos h, decide_eq_true h]; rfl
  · rw [if_neg h, decide_eq_false h, if_pos (inA_lt (by decide) (by omega))]
    by_cases h2 : s 75 p = v
    · rw [if_pos h2, decide_eq_true h2]; rfl
    · rw [if_neg h2, decide_eq_false h2]; rfl
theorem m_hasParent {s : St} {p : Nat} {v : Int32} (hp : p < 12) : fX12_hasParent (nI p) v s = some (kflag (hpB (s 74) (s 75) p v), s) := by
  rw [fX12_hasParent, hpB]
  by_cases h : v = -1
  · rw [if_pos h, decide_eq_true h]; rfl
  · rw [if_neg h, decide_eq_false h, m_isOf hp, bd_some]
    cases ofB (s 74) (s 75) p v
    · rw [kf_f, if_pos rfl]; rfl
    · rw [kf_t, if_neg (by decide)]; rfl
theorem c_isOneOf {s : St} {f g : Nat → Int32} {h : Nat} {v : Int32} : fX4_isOneOf v (f h) (g h) s = some (kflag (hpB f g h v), s) := by
  rw [fX4_isOneOf, hpB, ofB]
  by_cases h1 : v = -1
  · rw [if_pos h1, decide_eq_true h1]; rfl
  · rw [if_neg h1, decide_eq_false h1]
    by_cases h2 : v = f h
    · rw [if_pos h2, decide_eq_true h2.symm]; rfl
    · rw [if_neg h2, decide_eq_false (fun e => h2 e.symm)]
      by_cases h3 : v = g h
      · rw [if_pos h3, decide_eq_true h3.symm]; rfl
      · rw [if_neg h3, decide_eq_false (fun e => h3 e.symm)]; rfl
theorem c_sib {s : St} {d h : Nat} (hd : d < 12) (hh : h < 12) : fX4_areSiblings 21 (nI d) (nI h) s = some (kflag (hpB (s 22) (s 23) h (s 22 d) || hpB (s 22) (s 23) h (s 23 d)), s) := by
  rw [fX4_areSiblings, at_nI (by decide) (by show h < 12; omega), bd_some, at_nI (by decide) (by show h < 12; omega), bd_some, at_nI (by decide) (by show d < 12; omega), bd_some, c_isOneOf (f := s 22) (g := s 23), bd_some]
  cases hpB (s 22) (s 23) h (s 22 d)
  · rw [kf_f, if_pos rfl, at_nI (by decide) (by show d < 12; omega), bd_some, c_isOneOf (f := s 22) (g := s 23), bd_some]
    cases hpB (s 22) (s 23) h (s 23 d)
    · rw [kf_f, if_pos rfl]; rfl
    · rw [kf_t, if_neg (by decide)]; rfl
  · rw [kf_t, if_neg (by decide)]; rfl
theorem c_isAdopted {s : St} {h : Nat} (hh : h < 12) : fX4_isAdopted 21 (nI h) s = some (kflag (decide (s 24 h = 1)), s) := by
  rw [fX4_isAdopted, at_nI (by decide) (by show h < 12; omega), bd_some]
  by_cases e : s 24 h = 1
  · rw [if_pos e, decide_eq_true e]; rfl
  · rw [if_neg e, decide_eq_false e]; rfl
theorem c_value {s : St} {w d h : Nat} {x : Int32} (hw : LN (w + 1) = 94) (hd : d < 12) (hh : h < 12) : fX5_valueOf x 21 w (nI d) (nI h) s = some (valS (s 22) (s 23) (s 24) (s (w + 1)) d h x, s) := by
  have kb : ∀ (b : Bool) {α : Type} (u v : α), (if kflag b = 0 then u else v) = if b then v else u := by
    intro b α u v
    cases b
    · rw [kf_f, if_pos rfl]; rfl
    · rw [kf_t, if_neg (by decide)]; rfl
  rw [fX5_valueOf, valS]
  by_cases h6 : x = -6
  · rw [if_pos h6, if_pos h6]
  rw [if_neg h6, if_neg h6]
  by_cases h5 : x = -5
  · rw [if_pos h5, if_pos h5, c_sib hd hh, bd_some, kb]
    cases hpB (s 22) (s 23) h (s 22 d) || hpB (s 22) (s 23) h (s 23 d) <;> rfl
  rw [if_neg h5, if_neg h5]
  by_cases h4 : x = -4
  · rw [if_pos h4, if_pos h4, c_isParent hd, bd_some, kb]
    cases ofB (s 22) (s 23) d (nI h) <;> rfl
  rw [if_neg h4, if_neg h4]
  by_cases h3 : x = -3
  · rw [if_pos h3, if_pos h3, w_spouse hw hd, bd_some]
    by_cases e : s (w + 1) (60 + d) = nI h
    · rw [if_pos e, decide_eq_true e]; rfl
    · rw [if_neg e, decide_eq_false e]; rfl
  rw [if_neg h3, if_neg h3]
  by_cases h2 : x = -2
  · rw [if_pos h2, if_pos h2, c_isParent hh, bd_some, kb, c_isAdopted hh, bd_some, kb]
    cases ofB (s 22) (s 23) h (nI d) <;> cases decide (s 24 h = 1) <;> rfl
  rw [if_neg h2, if_neg h2]
  by_cases h1 : x = -1
  · rw [if_pos h1, if_pos h1, c_isParent hh, bd_some, kb, c_isAdopted hh, bd_some, kb]
    cases ofB (s 22) (s 23) h (nI d) <;> cases decide (s 24 h = 1) <;> rfl
  rw [if_neg h1, if_neg h1, w_place hw hd, bd_some, w_place hw hh, bd_some]
  by_cases e : s (w + 1) (48 + d) = s (w + 1) (48 + h)
  · rw [if_pos e, decide_eq_true e]; rfl
  · rw [if_neg e, decide_eq_false e]; rfl
theorem c_joined {s : St} {x a b : Int32} : fX5_joined x a b s = some (joinS x a b, s) := by
  rw [fX5_joined, joinS]
  by_cases h1 : x = -18
  · rw [if_pos h1, if_pos h1]
  rw [if_neg h1, if_neg h1]
  by_cases h2 : x = -17
  · rw [if_pos h2, if_pos h2]
  rw [if_neg h2, if_neg h2]
  by_cases h3 : x = -16
  · rw [if_pos h3, if_pos h3]
  rw [if_neg h3, if_neg h3]
  by_cases h4 : x = -15
  · rw [if_pos h4, if_pos h4]
    by_cases e : a = b
    · rw [if_pos e, decide_eq_true e]; rfl
    · rw [if_neg e, decide_eq_false e]; rfl
  rw [if_neg h4, if_neg h4]
  by_cases h5 : x = -14
  · rw [if_pos h5, if_pos h5]
    by_cases e : a < b
    · rw [if_neg (by rw [i_le]; rw [i_lt] at e; omega), decide_eq_true e]; rfl
    · rw [if_pos (i_nlt.mp e), decide_eq_false e]; rfl
  rw [if_neg h5, if_neg h5]
  by_cases h6 : x = -13
  · rw [if_pos h6, if_pos h6]
    by_cases e : a = 0
    · rw [if_pos e, decide_eq_true e]; rfl
    · rw [if_neg e, decide_eq_false e]
      by_cases e2 : b = 0
      · rw [if_pos e2, decide_eq_true e2]; rfl
      · rw [if_neg e2, decide_eq_false e2]; rfl
  rw [if_neg h6, if_neg h6]
  by_cases h7 : x = -12
  · rw [if_pos h7, if_pos h7]
    by_cases e : a = 0
    · rw [if_pos e, decide_eq_true e]
      by_cases e2 : b = 0
      · rw [if_pos e2, decide_eq_true e2]; rfl
      · rw [if_neg e2, decide_eq_false e2]; rfl
    · rw [if_neg e, decide_eq_false e]; rfl
  rw [if_neg h7, if_neg h7]
  by_cases e : b = 0
  · rw [if_pos e, if_pos e]
  · rw [if_neg e, if_neg e, if_neg e]
theorem jn_18 {a b : Int32} : joinS (-18) a b = a * b := by rw [joinS, if_pos rfl]
theorem jn_17 {a b : Int32} : joinS (-17) a b = a - b := by rw [joinS, if_neg (by decide), if_pos rfl]
theorem jn_16 {a b : Int32} : joinS (-16) a b = a + b := by rw [joinS, if_neg (by decide), if_neg (by decide), if_pos rfl]
theorem jn_15 {a b : Int32} : joinS (-15) a b = kflag (decide (a = b)) := by rw [joinS, if_neg (by decide), if_neg (by decide), if_neg (by decide), if_pos rfl]
theorem jn_14 {a b : Int32} : joinS (-14) a b = kflag (decide (a < b)) := by rw [joinS, if_neg (by decide), if_neg (by decide), if_neg (by decide), if_neg (by decide), if_pos rfl]
theorem jn_13 {a b : Int32} : joinS (-13) a b = kflag (!decide (a = 0) && !decide (b = 0)) := by rw [joinS, if_neg (by decide), if_neg (by decide), if_neg (by decide), if_neg (by decide), if_neg (by decide), if_pos rfl]
theorem jn_12 {a b : Int32} : joinS (-12) a b = kflag (!decide (a = 0) || !decide (b = 0)) := by rw [joinS, if_neg (by decide), if_neg (by decide), if_neg (by decide), if_neg (by decide), if_neg (by decide), if_neg (by decide), if_pos rfl]
theorem jn_19 {a b : Int32} : joinS (-19) a b = (if b = 0 then 0 else a / b) := by rw [joinS, if_neg (by decide), if_neg (by decide), if_neg (by decide), if_neg (by decide), if_neg (by decide), if_neg (by decide), if_neg (by decide)]
theorem m_reckon {s : St} {x y a b : Int32} (h : (x = -12 ∧ y = -27) ∨ (x = -13 ∧ y = -26) ∨ (x = -14 ∧ y = -24) ∨ (x = -15 ∧ y = -25) ∨ (x = -16 ∧ y = -20) ∨ (x = -17 ∧ y = -21) ∨ (x = -18 ∧ y = -22) ∨ (x = -19 ∧ y = -23)) : fX12_reckon y a b s = some (joinS x a b, s) := by
  rcases h with ⟨rfl, rfl⟩ | ⟨rfl, rfl⟩ | ⟨rfl, rfl⟩ | ⟨rfl, rfl⟩ | ⟨rfl, rfl⟩ | ⟨rfl, rfl⟩ | ⟨rfl, rfl⟩ | ⟨rfl, rfl⟩
  · rw [jn_12, fX12_reckon, if_neg (by decide), if_neg (by decide), if_neg (by decide), if_neg (by decide), if_neg (by decide), if_neg (by decide), if_neg (by decide)]
    by_cases e : a = 0
    · rw [if_pos e, decide_eq_true e]
      by_cases e2 : b = 0
      · rw [if_pos e2, decide_eq_true e2]; rfl
      · rw [if_neg e2, decide_eq_false e2]; rfl
    · rw [if_neg e, decide_eq_false e]; rfl
  · rw [jn_13, fX12_reckon, if_pos rfl]
    by_cases e : a = 0
    · rw [if_pos e, decide_eq_true e]; rfl
    · rw [if_neg e, decide_eq_false e]
      by_cases e2 : b = 0
      · rw [if_pos e2, decide_eq_true e2]; rfl
      · rw [if_neg e2, decide_eq_false e2]; rfl
  · rw [jn_14, fX12_reckon, if_neg (by decide), if_neg (by decide), if_pos rfl]
    by_cases e : a < b
    · rw [if_neg (by rw [i_le]; rw [i_lt] at e; omega), decide_eq_true e]; rfl
    · rw [if_pos (i_nlt.mp e), decide_eq_false e]; rfl
  · rw [jn_15, fX12_reckon, if_neg (by decide), if_pos rfl]
    by_cases e : a = b
    · rw [if_pos e, decide_eq_true e]; rfl
    · rw [if_neg e, decide_eq_false e]; rfl
  · rw [jn_16, fX12_reckon, if_neg (by decide), if_neg (by decide), if_neg (by decide), if_neg (by decide), if_neg (by decide), if_neg (by decide), if_pos rfl]
  · rw [jn_17, fX12_reckon, if_neg (by decide), if_neg (by decide), if_neg (by decide), if_neg (by decide), if_neg (by decide), if_pos rfl]
  · rw [jn_18, fX12_reckon, if_neg (by decide), if_neg (by decide), if_neg (by decide), if_neg (by decide), if_pos rfl]
  · rw [jn_19, fX12_reckon, if_neg (by decide), if_neg (by decide), if_neg (by decide), if_pos rfl]
    by_cases e : b = 0
    · rw [if_pos e, if_pos e]
    · rw [if_neg e, if_neg e, if_neg e]
/-- a step of the law upon a stack, the height being told -/
def stepS (st : Nat → Int32) (val : Int32 → Int32) (dep : Nat → Nat) (i : Nat) (S : Nat → Int32) : Nat → Int32 :=
  if st i ≤ -11 then (if st i = -11 then ur S (dep i - 1) (if S (dep i - 1) = 0 then 1 else 0) else ur S (dep i - 2) (joinS (st i) (S (dep i - 2)) (S (dep i - 1)))) else ur S (dep i) (if st i < 0 then val (st i) else st i)
def clampS (x : Int32) : Int32 := jmax 0 (jmin 999 x)
theorem nI_neg {v : Nat} (h : v < 7) : ¬ (-1 - nI v ≤ -11) ∧ -1 - nI v < 0 ∧ ¬ (-1 - nI v ≤ -20) ∧ (-1 : Int32) - (-1 - nI v) = nI v := by
  have : ∀ v : Nat, v < 7 → ¬ (-1 - nI v ≤ -11) ∧ -1 - nI v < 0 ∧ ¬ (-1 - nI v ≤ -20) ∧ (-1 : Int32) - (-1 - nI v) = nI v := by decide +kernel
  exact this v h
theorem nI_posL {v : Nat} (h : v ≤ 9999) : ¬ (nI v ≤ -11) ∧ ¬ (nI v ≤ -20) := by
  constructor
  · rw [i_le, nI_toInt (by omega), show (-11 : Int32).toInt = -11 from rfl]; omega
  · rw [i_le, nI_toInt (by omega), show (-20 : Int32).toInt = -20 from rfl]; omega
section LAWEVAL
variable {st sg : Nat → Int32} {dep : Nat → Nat} {len : Nat}
theorem c_lawL {w d h : Nat} {s0 : St} (hw : LN (w + 1) = 94) (hd : d < 12) (hh : h < 12) (hlen : s0 29 2 = nI len) (hl7 : len ≤ 700) (hst : s0 30 = st) (hdep : dep len = 1) (h64 : ∀ i, i ≤ len → dep i ≤ 64) (hstep : ∀ i, i < len → RStep (st i) (sg i) (dep i) (dep (i + 1))) :
    ∀ k i m (S : Nat → Int32) (s : St), i + k = len → k < m → (∀ j, j < dep i → s 31 j = S j) → (∀ x, x ≠ 31 → s x = s0 x) →
    ∃ s', fX5_gives_L29 (fun s_12 => bd (fX11_at (29 + 2) (0 : Int32) s_12) (fun y_13 s_13 => some ((jmax (0 : Int32) (jmin (999 : Int32) y_13)), s_13))) 29 21 w (nI d) (nI h) m (nI (dep i)) (nI i) s = some (clampS (accN (stepS st (valS (s0 22) (s0 23) (s0 24) (s0 (w + 1)) d h) dep) k i S 0), s') ∧ ∀ x, x ≠ 31 → s' x = s0 x := by
  have hw31 : w + 1 ≠ 31 := by
    intro e
    rw [e] at hw
    exact absurd hw (by decide)
  intro k
  induction k with
  | zero =>
    intro i m S s hi hm hS hs
    obtain ⟨m, rfl⟩ : ∃ q, m = q + 1 := ⟨m - 1, by omega⟩
    obtain rfl : i = len := by omega
    refine ⟨s, ?_, hs⟩
    have : fX11_at (29 + 2) (0 : Int32) s = some (s 31 0, s) := at_nI (r := 31) (j := 0) (by decide) (by decide)
    rw [fX5_gives_L29, hs 29 (by decide), hlen, if_pos (Int32.le_refl _)]
    simp only [this, bd_some, accN, clampS]
    rw [hS 0 (by omega)]
  | succ k ih =>
    intro i m S s hi hm hS hs
    obtain ⟨m, rfl⟩ : ∃ q, m = q + 1 := ⟨m - 1, by omega⟩
    have hin : i < len := by omega
    have hdi := h64 i (by omega)
    have hdi1 := h64 (i + 1) (by omega)
    have hs30 : ∀ j, s (29 + 1) j = st j := fun j => by show s 30 j = _; rw [hs 30 (by decide), hst]
    rw [fX5_gives_L29, hs 29 (by decide), hlen, if_neg (by rw [nI_leI (by omega) (by omega)]; omega), at_nI (by decide) (by show i < 700; omega), bd_some, hs30, zra_1]
    have e31 : ∀ v j, (wr s 31 j v) 31 = ur (s 31) j v := fun v j => wr_row
    have acc : accN (stepS st (valS (s0 22) (s0 23) (s0 24) (s0 (w + 1)) d h) dep) (k + 1) i S = accN (stepS st (valS (s0 22) (s0 23) (s0 24) (s0 (w + 1)) d h) dep) k (i + 1) (stepS st (valS (s0 22) (s0 23) (s0 24) (s0 (w + 1)) d h) dep i S) := rfl
    rw [acc]
    rcases hstep i hin with ⟨q1, q2⟩ | ⟨q1, q2, q3, -⟩ | ⟨q1, q2, q3⟩
    · have push : ∀ v : Int32, (if st i < 0 then valS (s0 22) (s0 23) (s0 24) (s0 (w + 1)) d h (st i) else st i) = v → ¬ st i ≤ -11 → ∃ s', fX5_gives_L29 (fun s_12 => bd (fX11_at (29 + 2) (0 : Int32) s_12) (fun y_13 s_13 => some ((jmax (0 : Int32) (jmin (999 : Int32) y_13)), s_13))) 29 21 w (nI d) (nI h) m (nI (dep i) + 1) (nI (i + 1)) (wr s 31 (dep i) v) = some (clampS (accN (stepS st (valS (s0 22) (s0 23) (s0 24) (s0 (w + 1)) d h) dep) k (i + 1) (stepS st (valS (s0 22) (s0 23) (s0 24) (s0 (w + 1)) d h) dep i S) 0), s') ∧ ∀ x, x ≠ 31 → s' x = s0 x := fun v hv hn => by
        rw [zra_1, ← q1]
        refine ih (i + 1) m _ _ (by omega) (by omega) (fun j hj => ?_) (fun x hx => by rw [wr_slot hx, hs x hx])
        rw [e31, stepS, if_neg hn, hv, ur, ur]
        by_cases e : j = dep i
        · rw [if_pos e, if_pos e]
        · rw [if_neg e, if_neg e, hS j (by omega)]
      rcases q2 with ⟨v, hv, e, -⟩ | ⟨v, hv, e, -⟩
      · have hp := (nI_posL hv).1
        have hp2 : ¬ nI v < 0 := nI_pos (by omega)
        rw [e, if_neg hp, if_neg hp2, put_nI (by decide) (by show dep i < 64; omega), bd_some]
        exact push (nI v) (by rw [e, if_neg hp2]) (by rw [e]; exact hp)
      · obtain ⟨z1, z2, -, -⟩ := nI_neg hv
        have hval := c_value (s := s) (w := w) (d := d) (h := h) (x := -1 - nI v) hw hd hh
        rw [hs 22 (by decide), hs 23 (by decide), hs 24 (by decide), hs (w + 1) hw31] at hval
        rw [e, if_neg z1, if_pos z2, hval, bd_some, put_nI (by decide) (by show dep i < 64; omega), bd_some]
        exact push _ (by rw [e, if_pos z2]) (by rw [e]; exact z1)
    · have hpred : nI (dep i) - 1 = nI (dep i - 1) := by rw [show dep i = dep i - 1 + 1 by omega, nI_pred, Nat.add_sub_cancel]
      rw [q3, if_pos (by decide), if_pos rfl, hpred, at_nI (by decide) (by show dep i - 1 < 64; omega), bd_some]
      have fin : ∀ v : Int32, (if S (dep i - 1) = 0 then (1 : Int32) else 0) = v → ∃ s', fX5_gives_L29 (fun s_12 => bd (fX11_at (29 + 2) (0 : Int32) s_12) (fun y_13 s_13 => some ((jmax (0 : Int32) (jmin (999 : Int32) y_13)), s_13))) 29 21 w (nI d) (nI h) m (nI (dep i)) (nI (i + 1)) (wr s 31 (dep i - 1) v) = some (clampS (accN (stepS st (valS (s0 22) (s0 23) (s0 24) (s0 (w + 1)) d h) dep) k (i + 1) (stepS st (valS (s0 22) (s0 23) (s0 24) (s0 (w + 1)) d h) dep i S) 0), s') ∧ ∀ x, x ≠ 31 → s' x = s0 x := fun v hv => by
        rw [show nI (dep i) = nI (dep (i + 1)) by rw [q2]]
        refine ih (i + 1) m _ _ (by omega) (by omega) (fun j hj => ?_) (fun x hx => by rw [wr_slot hx, hs x hx])
        rw [e31, stepS, if_pos (by rw [q3]; decide), if_pos q3, hv, ur, ur]
        by_cases e : j = dep i - 1
        · rw [if_pos e, if_pos e]
        · rw [if_neg e, if_neg e, hS j (by omega)]
      have hrd : s (29 + 2) (dep i - 1) = S (dep i - 1) := hS _ (by omega)
      rw [hrd]
      by_cases e : S (dep i - 1) = 0
      · rw [if_pos e, put_nI (by decide) (by show dep i - 1 < 64; omega), bd_some]
        exact fin 1 (if_pos e)
      · rw [if_neg e, put_nI (by decide) (by show dep i - 1 < 64; omega), bd_some]
        exact fin 0 (if_neg e)
    · have hx : st i ≤ -11 ∧ ¬ st i = -11 := by rcases q3 with ⟨e, -⟩ | ⟨e, -⟩ | ⟨e, -⟩ | ⟨e, -⟩ | ⟨e, -⟩ | ⟨e, -⟩ | ⟨e, -⟩ | ⟨e, -⟩ <;> (rw [e]; decide)
      have hp1 : nI (dep i) + -1 = nI (dep i - 1) := sb_m1 (by omega)
      have hp2 : nI (dep i - 1) - 1 = nI (dep i - 2) := by rw [show dep i - 1 = dep i - 2 + 1 by omega, nI_pred]
      have hr1 : s (29 + 2) (dep i - 1) = S (dep i - 1) := hS _ (by omega)
      have hr2 : s (29 + 2) (dep i - 2) = S (dep i - 2) := hS _ (by omega)
      rw [if_pos hx.1, if_neg hx.2, hp1, hp2, at_nI (by decide) (by show dep i - 2 < 64; omega), bd_some, at_nI (by decide) (by show dep i - 1 < 64; omega), bd_some, hr1, hr2, c_joined, bd_some, put_nI (by decide) (by show dep i - 2 < 64; omega), bd_some, show dep i - 1 = dep (i + 1) by omega]
      refine ih (i + 1) m _ _ (by omega) (by omega) (fun j hj => ?_) (fun x hx => by rw [wr_slot hx, hs x hx])
      show (wr s 31 (dep i - 2) _) 31 j = _
      rw [e31, stepS, if_pos hx.1, if_neg hx.2, ur, ur, show dep (i + 1) = dep i - 1 by omega]
      by_cases e : j = dep i - 2
      · rw [if_pos e, if_pos e]
      · rw [if_neg e, if_neg e, hS j (by omega)]
theorem m_lawL {val : Int32 → Int32} {t0 : St} (hlen : t0 71 4 = nI len) (hl7 : len ≤ 700) (hsg : t0 84 = sg) (hask : ∀ v : Nat, v < 7 → t0 90 v = val (-1 - nI v)) (hdep : dep len = 1) (h64 : ∀ i, i ≤ len → dep i ≤ 64) (hstep : ∀ i, i < len → RStep (st i) (sg i) (dep i) (dep (i + 1))) :
    ∀ k i m (S : Nat → Int32) (t : St), i + k = len → k < m → (∀ j, j < dep i → t 91 j = S j) → (∀ x, x ≠ 91 → t x = t0 x) →
    ∃ t', fX12_valueNow_L4 m (nI (dep i)) (nI i) t = some (accN (stepS st val dep) k i S 0, t') ∧ ∀ x, x ≠ 91 → t' x = t0 x := by
  have i4 : inA (4 : Int32) 10 := by decide
  have c4 : (4 : Int32).toNatClampNeg = 4 := rfl
  intro k
  induction k with
  | zero =>
    intro i m S t hi hm hS ht
    obtain ⟨m, rfl⟩ : ∃ q, m = q + 1 := ⟨m - 1, by omega⟩
    obtain rfl : i = len := by omega
    refine ⟨t, ?_, ht⟩
    rw [fX12_valueNow_L4, if_pos i4, c4, ht 71 (by decide), hlen, if_pos (Int32.le_refl _), if_pos (by decide), i00, hS 0 (by omega)]
    rfl
  | succ k ih =>
    intro i m S t hi hm hS ht
    obtain ⟨m, rfl⟩ : ∃ q, m = q + 1 := ⟨m - 1, by omega⟩
    have hin : i < len := by omega
    have hdi := h64 i (by omega)
    have hdi1 := h64 (i + 1) (by omega)
    have ht84 : t 84 = sg := by rw [ht 84 (by decide), hsg]
    rw [fX12_valueNow_L4, if_pos i4, c4, ht 71 (by decide), hlen, if_neg (by rw [nI_leI (by omega) (by omega)]; omega), if_pos (inA_lt (by decide) (by omega)), nI_clamp (n := i) (by omega), ht84, zra_1]
    have e91 : ∀ v j, (wr t 91 j v) 91 = ur (t 91) j v := fun v j => wr_row
    have acc : accN (stepS st val dep) (k + 1) i S = accN (stepS st val dep) k (i + 1) (stepS st val dep i S) := rfl
    rw [acc]
    rcases hstep i hin with ⟨q1, q2⟩ | ⟨q1, q2, q3, q4⟩ | ⟨q1, q2, q3⟩
    · have push : ∀ v : Int32, (if st i < 0 then val (st i) else st i) = v → ¬ st i ≤ -11 → ∃ t', fX12_valueNow_L4 m (nI (dep i) + 1) (nI (i + 1)) (wr t 91 (dep i) v) = some (accN (stepS st val dep) k (i + 1) (stepS st val dep i S) 0, t') ∧ ∀ x, x ≠ 91 → t' x = t0 x := fun v hv hn => by
        rw [zra_1, ← q1]
        refine ih (i + 1) m _ _ (by omega) (by omega) (fun j hj => ?_) (fun x hx => by rw [wr_slot hx, ht x hx])
        rw [e91, stepS, if_neg hn, hv, ur, ur]
        by_cases e : j = dep i
        · rw [if_pos e, if_pos e]
        · rw [if_neg e, if_neg e, hS j (by omega)]
      rcases q2 with ⟨v, hv, e, e'⟩ | ⟨v, hv, e, e'⟩
      · have hp := nI_posL hv
        have hp2 : ¬ nI v < 0 := nI_pos (by omega)
        rw [e', e, if_neg hp.2, if_neg hp2, if_pos (inA_lt (by decide) (by omega)), nI_clamp (by omega)]
        exact push (nI v) (by rw [e, if_neg hp2]) (by rw [e]; exact hp.1)
      · obtain ⟨z1, z2, z3, z4⟩ := nI_neg hv
        rw [e', e, if_neg z3, if_pos z2, z4, if_pos (inA_lt (by decide) hv), if_pos (inA_lt (by decide) (by omega)), nI_clamp (n := dep i) (by omega), nI_clamp (n := v) (by omega), ht 90 (by decide), hask v hv]
        exact push _ (by rw [e, if_pos z2]) (by rw [e]; exact z1)
    · have hpred : nI (dep i) - 1 = nI (dep i - 1) := by rw [show dep i = dep i - 1 + 1 by omega, nI_pred, Nat.add_sub_cancel]
      rw [q4, if_pos (by decide), if_pos rfl, hpred, if_pos (inA_lt (by decide) (by omega)), nI_clamp (by omega), hS _ (by omega)]
      have fin : ∀ v : Int32, (if S (dep i - 1) = 0 then (1 : Int32) else 0) = v → ∃ t', fX12_valueNow_L4 m (nI (dep i)) (nI (i + 1)) (wr t 91 (dep i - 1) v) = some (accN (stepS st val dep) k (i + 1) (stepS st val dep i S) 0, t') ∧ ∀ x, x ≠ 91 → t' x = t0 x := fun v hv => by
        rw [show nI (dep i) = nI (dep (i + 1)) by rw [q2]]
        refine ih (i + 1) m _ _ (by omega) (by omega) (fun j hj => ?_) (fun x hx => by rw [wr_slot hx, ht x hx])
        rw [e91, stepS, if_pos (by rw [q3]; decide), if_pos q3, hv, ur, ur]
        by_cases e : j = dep i - 1
        · rw [if_pos e, if_pos e]
        · rw [if_neg e, if_neg e, hS j (by omega)]
      by_cases e : S (dep i - 1) = 0
      · rw [if_pos e, if_pos (inA_lt (by decide) (by omega))]
        exact fin 1 (if_pos e)
      · rw [if_neg e, if_pos (inA_lt (by decide) (by omega))]
        exact fin 0 (if_neg e)
    · have hx : st i ≤ -11 ∧ ¬ st i = -11 := by rcases q3 with ⟨e, -⟩ | ⟨e, -⟩ | ⟨e, -⟩ | ⟨e, -⟩ | ⟨e, -⟩ | ⟨e, -⟩ | ⟨e, -⟩ | ⟨e, -⟩ <;> (rw [e]; decide)
      have hy : sg i ≤ -20 ∧ ¬ sg i = -28 := by rcases q3 with ⟨-, e⟩ | ⟨-, e⟩ | ⟨-, e⟩ | ⟨-, e⟩ | ⟨-, e⟩ | ⟨-, e⟩ | ⟨-, e⟩ | ⟨-, e⟩ <;> (rw [e]; decide)
      have hp1 : nI (dep i) + -1 = nI (dep i - 1) := sb_m1 (by omega)
      have hp2 : nI (dep i - 1) - 1 = nI (dep i - 2) := by rw [show dep i - 1 = dep i - 2 + 1 by omega, nI_pred]
      rw [if_pos hy.1, if_neg hy.2, hp1, hp2, if_pos (inA_lt (by decide) (by omega)), if_pos (inA_lt (by decide) (by omega)), nI_clamp (n := dep i - 2) (by omega), nI_clamp (n := dep i - 1) (by omega), hS _ (by omega), hS _ (by omega), m_reckon q3, bd_some, if_pos (inA_lt (by decide) (by omega)), show dep i - 1 = dep (i + 1) by omega]
      refine ih (i + 1) m _ _ (by omega) (by omega) (fun j hj => ?_) (fun x hx => by rw [wr_slot hx, ht x hx])
      rw [e91, stepS, if_pos hx.1, if_neg hx.2, ur, ur, show dep (i + 1) = dep i - 1 by omega]
      by_cases e : j = dep i - 2
      · rw [if_pos e, if_pos e]
      · rw [if_neg e, if_neg e, hS j (by omega)]
end LAWEVAL
/-- what the law gives an heir of a dead one -/
def lawV (s : St) (dep : Nat → Nat) (len : Nat) (c : Nat → Int32) (d h : Nat) : Int32 :=
  if len = 0 then kflag (ofB (s 22) (s 23) h (nI d)) else clampS (accN (stepS (s 30) (valS (s 22) (s 23) (s 24) c d h) dep) len 0 (fun _ => 0) 0)
theorem clamp_nat (x : Int32) : ∃ v : Nat, v ≤ 999 ∧ clampS x = nI v := by
  have z : (0 : Int32).toInt = 0 := rfl
  have z9 : (999 : Int32).toInt = 999 := rfl
  rw [clampS, jmax, jmin]
  by_cases h : x < 999
  · rw [if_pos h]
    by_cases h0 : 0 < x
    · rw [if_pos h0]
      rw [i_lt, z9] at h
      rw [i_lt, z] at h0
      obtain ⟨j, hj, rfl⟩ := nI_of (x := x) (by rw [i_lt, z]; omega)
      rw [nI_toInt (by omega)] at h
      exact ⟨j, by omega, rfl⟩
    · rw [if_neg h0]
      exact ⟨0, by omega, rfl⟩
  · rw [if_neg h, if_pos (by decide)]
    exact ⟨999, by omega, rfl⟩
theorem lawV_nat (s : St) (dep : Nat → Nat) (len : Nat) (c : Nat → Int32) (d h : Nat) : ∃ v : Nat, v ≤ 999 ∧ lawV s dep len c d h = nI v := by
  rw [lawV]
  by_cases e : len = 0
  · rw [if_pos e]
    cases ofB (s 22) (s 23) h (nI d)
    · exact ⟨0, by omega, rfl⟩
    · exact ⟨1, by omega, rfl⟩
  · rw [if_neg e]
    exact clamp_nat _
/-- the law with the heights of its stack -/
def LawD (s : St) (dep : Nat → Nat) (len : Nat) : Prop := s 29 2 = nI len ∧ s 71 4 = nI len ∧ s 29 3 = (if len = 0 then 0 else 1) ∧ len ≤ 700 ∧ (len = 0 ∨ (dep 0 = 0 ∧ dep len = 1 ∧ (∀ i, i ≤ len → dep i ≤ 64) ∧ ∀ i, i < len → RStep (s 30 i) (s 84 i) (dep i) (dep (i + 1))))
theorem RLaw.dep {s : St} (h : RLaw s) : ∃ dep len, LawD s dep len := by
  obtain ⟨len, h1, h2, h3, h4, h5⟩ := h
  rcases h5 with h5 | ⟨dep, h6⟩
  · exact ⟨fun _ => 0, len, h1, h2, h3, h4, Or.inl h5⟩
  · exact ⟨dep, len, h1, h2, h3, h4, Or.inr h6⟩
/-- the class's land is the same; the reference's -/
def LC (s s' : St) : Prop := ∀ k, 21 ≤ k → k ≤ 30 → s' k = s k
def LM (s t : St) : Prop := ∀ k, k = 71 ∨ (74 ≤ k ∧ k ≤ 84 ∧ k ≠ 77) → t k = s k
theorem law_c {s s' : St} {dep : Nat → Nat} {len w d h : Nat} (hl : LawD s dep len) (hs : LC s s') (hw : LN (w + 1) = 94) (hd : d < 12) (hh : h < 12) : ∃ s'', fX5_gives (21 + 8) 21 w (nI d) (nI h) s' = some (lawV s dep len (s' (w + 1)) d h, s'') ∧ ∀ k, k ≠ 31 → s'' k = s' k := by
  obtain ⟨h1, h2, h3, h4, h5⟩ := hl
  show ∃ s'', fX5_gives 29 21 w (nI d) (nI h) s' = _ ∧ _
  have s29 : s' 29 = s 29 := hs 29 (by decide) (by decide)
  rcases h5 with h5 | ⟨g1, g2, g3, g4⟩
  · refine ⟨s', ?_, fun _ _ => rfl⟩
    rw [fX5_gives, s29, h3, if_pos h5, if_pos rfl, c_isParent hh, bd_some, lawV, if_pos h5, hs 22 (by decide) (by decide), hs 23 (by decide) (by decide)]
    cases ofB (s 22) (s 23) h (nI d)
    · rw [kf_f, if_pos rfl]
    · rw [kf_t, if_neg (by decide)]
  · have hl0 : len ≠ 0 := by
      rintro rfl
      rw [g1] at g2
      cases g2
    obtain ⟨s'', e1, e2⟩ := c_lawL (st := s 30) (sg := s 84) (dep := dep) (len := len) (w := w) (d := d) (h := h) (s0 := s') hw hd hh (by rw [s29]; exact h1) h4 (hs 30 (by decide) (by decide)) g2 g3 g4 len 0 FU (fun _ => 0) s' (by omega) (by show len < 20000; omega) (fun j hj => by rw [g1] at hj; exact absurd hj (by omega)) (fun _ _ => rfl)
    refine ⟨s'', ?_, e2⟩
    rw [g1] at e1
    rw [fX5_gives, s29, h3, if_neg hl0, if_neg (by decide), lawV, if_neg hl0, ← hs 22 (by decide) (by decide), ← hs 23 (by decide) (by decide), ← hs 24 (by decide) (by decide)]
    exact e1
