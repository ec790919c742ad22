/-! ===== land: the reference steps on ===== -/
def mkB (x : Int32) : Prop := x = 40 ∨ x = 41 ∨ x = 42 ∨ x = 43 ∨ x = 45 ∨ x = 47 ∨ x = 59 ∨ x = 60 ∨ x = 61
def mkD (x : Int32) : Bool := decide (x = 40) || decide (x = 41) || decide (x = 42) || decide (x = 43) || decide (x = 45) || decide (x = 47) || decide (x = 59) || decide (x = 60) || decide (x = 61)
theorem mkD_iff (x : Int32) : mkD x = true ↔ mkB x := by
  unfold mkD mkB
  simp [or_assoc]
theorem chB_spec (x : Int32) : ((x = 10 ∨ x = 32) ∧ chB x = -3) ∨ (mkB x ∧ chB x = x) ∨ (¬ (x = 10 ∨ x = 32) ∧ ¬ mkB x ∧ chB x = -2) := by
  unfold chB mkB
  by_cases h1 : x = 10
  · rw [if_pos h1]; exact Or.inl ⟨Or.inl h1, rfl⟩
  rw [if_neg h1]
  by_cases h2 : x = 32
  · rw [if_pos h2]; exact Or.inl ⟨Or.inr h2, rfl⟩
  rw [if_neg h2]
  right
  by_cases h40 : x = 40
  · rw [if_pos h40]; exact Or.inl ⟨by simp [h40], rfl⟩
  rw [if_neg h40]
  by_cases h41 : x = 41
  · rw [if_pos h41]; exact Or.inl ⟨by simp [h41], rfl⟩
  rw [if_neg h41]
  by_cases h42 : x = 42
  · rw [if_pos h42]; exact Or.inl ⟨by simp [h42], rfl⟩
  rw [if_neg h42]
  by_cases h43 : x = 43
  · rw [if_pos h43]; exact Or.inl ⟨by simp [h43], rfl⟩
  rw [if_neg h43]
  by_cases h45 : x = 45
  · rw [if_pos h45]; exact Or.inl ⟨by simp [h45], rfl⟩
  rw [if_neg h45]
  by_cases h47 : x = 47
  · rw [if_pos h47]; exact Or.inl ⟨by simp [h47], rfl⟩
  rw [if_neg h47]
  by_cases h59 : x = 59
  · rw [if_pos h59]; exact Or.inl ⟨by simp [h59], rfl⟩
  rw [if_neg h59]
  by_cases h60 : x = 60
  · rw [if_pos h60]; exact Or.inl ⟨by simp [h60], rfl⟩
  rw [if_neg h60]
  by_cases h61 : x = 61
  · rw [if_pos h61]; exact Or.inl ⟨by simp [h61], rfl⟩
  rw [if_neg h61]
  exact Or.inr ⟨by simp [h1, h2], by simp [h40, h41, h42, h43, h45, h47, h59, h60, h61], rfl⟩
theorem chB_not (x : Int32) : ¬ chB x = 300 ∧ ¬ chB x = 200 := by
  rcases chB_spec x with ⟨-, h⟩ | ⟨h, h2⟩ | ⟨-, -, h⟩
  · rw [h]; decide
  · rw [h2]
    unfold mkB at h
    rcases h with h | h | h | h | h | h | h | h | h <;> (subst h; decide)
  · rw [h]; decide
theorem chK_spec (x : Int32) : (¬ x < 97 ∧ ¬ 122 < x ∧ chK x = 300) ∨ ((x < 97 ∨ 122 < x) ∧ ¬ x < 48 ∧ ¬ 57 < x ∧ chK x = 200) ∨ ((x < 97 ∨ 122 < x) ∧ (x < 48 ∨ 57 < x) ∧ chK x = chB x) := by
  unfold chK
  have hd : (¬ x < 48 ∧ ¬ 57 < x ∧ chD x = 200) ∨ ((x < 48 ∨ 57 < x) ∧ chD x = chB x) := by
    unfold chD
    by_cases h1 : x < 48
    · rw [if_pos h1]; exact Or.inr ⟨Or.inl h1, rfl⟩
    · rw [if_neg h1]
      by_cases h2 : 57 < x
      · rw [if_pos h2]; exact Or.inr ⟨Or.inr h2, rfl⟩
      · rw [if_neg h2]; exact Or.inl ⟨h1, h2, rfl⟩
  by_cases h1 : x < 97
  · rw [if_pos h1]
    rcases hd with ⟨a, b, c⟩ | ⟨a, b⟩
    · exact Or.inr (Or.inl ⟨Or.inl h1, a, b, c⟩)
    · exact Or.inr (Or.inr ⟨Or.inl h1, a, b⟩)
  · rw [if_neg h1]
    by_cases h2 : 122 < x
    · rw [if_pos h2]
      rcases hd with ⟨a, b, c⟩ | ⟨a, b⟩
      · exact Or.inr (Or.inl ⟨Or.inr h2, a, b, c⟩)
      · exact Or.inr (Or.inr ⟨Or.inr h2, a, b⟩)
    · rw [if_neg h2]; exact Or.inl ⟨h1, h2, rfl⟩
theorem m_isLetter (x : Int32) (t : St) : fX12_isLetter x t = some (kflag (decide (chK x = 300)), t) := by
  unfold fX12_isLetter
  rcases chK_spec x with ⟨h1, h2, h3⟩ | ⟨h1, -, -, h3⟩ | ⟨h1, -, h3⟩
  · rw [if_neg h1, if_neg h2, h3]; rfl
  · have : decide (chK x = 300) = false := by rw [h3]; rfl
    rw [this]
    by_cases e : x < 97
    · rw [if_pos e]; rfl
    · rw [if_neg e, if_pos (h1.resolve_left e)]; rfl
  · have : decide (chK x = 300) = false := by rw [h3]; exact decide_eq_false (chB_not x).1
    rw [this]
    by_cases e : x < 97
    · rw [if_pos e]; rfl
    · rw [if_neg e, if_pos (h1.resolve_left e)]; rfl
theorem m_isDigit (x : Int32) (t : St) : fX12_isDigit x t = some (kflag (decide (chK x = 200)), t) := by
  unfold fX12_isDigit
  rcases chK_spec x with ⟨h1, h2, h3⟩ | ⟨-, h1, h2, h3⟩ | ⟨-, h1, h3⟩
  · have : decide (chK x = 200) = false := by rw [h3]; rfl
    have e : ¬ x < 48 := fun q => h1 (by rw [i_lt] at *; exact Int.lt_trans q (by decide))
    have e2 : 57 < x := by
      rw [i_lt] at *
      have z : (97 : Int32).toInt = 97 := rfl
      have z2 : (57 : Int32).toInt = 57 := rfl
      omega
    rw [this, if_neg e, if_pos e2]; rfl
  · rw [if_neg h1, if_neg h2, h3]; rfl
  · have : decide (chK x = 200) = false := by rw [h3]; exact decide_eq_false (chB_not x).2
    rw [this]
    by_cases e : x < 48
    · rw [if_pos e]; rfl
    · rw [if_neg e, if_pos (h1.resolve_left e)]; rfl
theorem chK_blank (x : Int32) : chK x = -3 ↔ x = 10 ∨ x = 32 := by
  constructor
  · intro h
    rcases chK_spec x with ⟨-, -, h3⟩ | ⟨-, -, -, h3⟩ | ⟨-, -, h3⟩
    · rw [h3] at h; exact absurd h (by decide)
    · rw [h3] at h; exact absurd h (by decide)
    · rw [h3] at h
      rcases chB_spec x with ⟨q, -⟩ | ⟨q, q2⟩ | ⟨-, -, q2⟩
      · exact q
      · rw [q2] at h
        subst h
        exact absurd ((mkD_iff _).mpr q) (by decide)
      · rw [q2] at h; exact absurd h (by decide)
  · intro h
    rcases h with h | h <;> (subst h; decide)
theorem m_isMark (x : Int32) (t : St) : fX12_isMark x t = some (kflag (mkD x), t) := by
  unfold fX12_isMark mkD
  by_cases h59 : x = 59
  · subst h59; rfl
  rw [if_neg h59]
  by_cases h40 : x = 40
  · subst h40; rfl
  rw [if_neg h40]
  by_cases h41 : x = 41
  · subst h41; rfl
  rw [if_neg h41]
  by_cases h43 : x = 43
  · subst h43; rfl
  rw [if_neg h43]
  by_cases h45 : x = 45
  · subst h45; rfl
  rw [if_neg h45]
  by_cases h42 : x = 42
  · subst h42; rfl
  rw [if_neg h42]
  by_cases h47 : x = 47
  · subst h47; rfl
  rw [if_neg h47]
  by_cases h60 : x = 60
  · subst h60; rfl
  rw [if_neg h60]
  by_cases h61 : x = 61
  · subst h61; rfl
  rw [if_neg h61, decide_eq_false h40, decide_eq_false h41, decide_eq_false h42, decide_eq_false h43, decide_eq_false h45, decide_eq_false h47, decide_eq_false h59, decide_eq_false h60, decide_eq_false h61]
  rfl
