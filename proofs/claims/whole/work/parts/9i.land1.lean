/-! ===== land: kinds, words, numbers ===== -/
def chB (x : Int32) : Int32 := if x = 10 then -3 else if x = 32 then -3 else if x = 40 then x else if x = 41 then x else if x = 42 then x else if x = 43 then x else if x = 45 then x else if x = 47 then x else if x = 59 then x else if x = 60 then x else if x = 61 then x else -2
def chD (x : Int32) : Int32 := if x < 48 then chB x else if 57 < x then chB x else 200
def chK (x : Int32) : Int32 := if x < 97 then chD x else if 122 < x then chD x else 300
theorem c_kindB (x : Int32) (s : St) : fX9_kindOf_J32 x s = some (chB x, s) := by
  unfold fX9_kindOf_J32 chB
  by_cases h1 : x = 10
  · rw [if_pos h1, if_pos h1]
  rw [if_neg h1, if_neg h1]
  by_cases h2 : x = 32
  · rw [if_pos h2, if_pos h2]
  rw [if_neg h2, if_neg h2]
  by_cases h40 : x = 40
  · rw [if_pos h40, if_pos h40]
  rw [if_neg h40, if_neg h40]
  by_cases h41 : x = 41
  · rw [if_pos h41, if_pos h41]
  rw [if_neg h41, if_neg h41]
  by_cases h42 : x = 42
  · rw [if_pos h42, if_pos h42]
  rw [if_neg h42, if_neg h42]
  by_cases h43 : x = 43
  · rw [if_pos h43, if_pos h43]
  rw [if_neg h43, if_neg h43]
  by_cases h45 : x = 45
  · rw [if_pos h45, if_pos h45]
  rw [if_neg h45, if_neg h45]
  by_cases h47 : x = 47
  · rw [if_pos h47, if_pos h47]
  rw [if_neg h47, if_neg h47]
  by_cases h59 : x = 59
  · rw [if_pos h59, if_pos h59]
  rw [if_neg h59, if_neg h59]
  by_cases h60 : x = 60
  · rw [if_pos h60, if_pos h60]
  rw [if_neg h60, if_neg h60]
  by_cases h61 : x = 61
  · rw [if_pos h61, if_pos h61]
  rw [if_neg h61, if_neg h61]
theorem c_kindOf (x : Int32) (s : St) : fX9_kindOf x s = some (chK x, s) := by
  unfold fX9_kindOf chK fX9_kindOf_J16 chD
  rw [c_kindB]
  by_cases e1 : x < 97
  · rw [if_pos e1, if_pos e1]
    by_cases e2 : x < 48
    · rw [if_pos e2, if_pos e2]
    · rw [if_neg e2, if_neg e2]
      by_cases e3 : 57 < x
      · rw [if_pos e3, if_pos e3]
      · rw [if_neg e3, if_neg e3]
  · rw [if_neg e1, if_neg e1]
    by_cases e4 : 122 < x
    · rw [if_pos e4, if_pos e4]
      by_cases e2 : x < 48
      · rw [if_pos e2, if_pos e2]
      · rw [if_neg e2, if_neg e2]
        by_cases e3 : 57 < x
        · rw [if_pos e3, if_pos e3]
        · rw [if_neg e3, if_neg e3]
    · rw [if_neg e4, if_neg e4]
def SL (t : Nat) : Nat := STRL.getD (t - 1000) 0
def spellsS (b : Nat → Int32) (p l t : Nat) : Bool := decide (l = SL t) && allFrom (fun j => decide (b (p + j) = strAt t j)) 0 (SL t)
def WL : List (Nat × Int32) := [(1007, 301), (1000, 302), (1001, 303), (1008, 304), (1009, 305), (1010, 306), (1011, 307), (1012, 308), (1013, 309), (1014, 310), (1015, 311), (1002, 312), (1003, 313), (1004, 314), (1005, 315), (1006, 316)]
def pickW (b : Nat → Int32) (p l : Nat) : List (Nat × Int32) → Int32
  | [] => 300
  | x :: r => if spellsS b p l x.1 = true then x.2 else pickW b p l r
def wordS (b : Nat → Int32) (p l : Nat) : Int32 := pickW b p l WL
def sameT (t t' : Nat) : Bool := decide (SL t = SL t') && allFrom (fun j => decide (strAt t j = strAt t' j)) 0 (SL t)
theorem allFrom_all {f : Nat → Bool} : ∀ k i, allFrom f i k = true ↔ ∀ j, i ≤ j → j < i + k → f j = true
  | 0, i => ⟨fun _ j h1 h2 => absurd h2 (by omega), fun _ => rfl⟩
  | k + 1, i => by
    rw [allFrom, Bool.and_eq_true, allFrom_all k (i + 1)]
    constructor
    · intro h j h1 h2
      by_cases e : j = i
      · rw [e]; exact h.1
      · exact h.2 j (by omega) (by omega)
    · exact fun h => ⟨h i (Nat.le_refl _) (by omega), fun j h1 h2 => h j (by omega) (by omega)⟩
theorem spells_same {b : Nat → Int32} {p l t t' : Nat} (h : spellsS b p l t = true) (h' : spellsS b p l t' = true) : sameT t t' = true := by
  simp only [spellsS, Bool.and_eq_true, decide_eq_true_eq, allFrom_all] at h h'
  simp only [sameT, Bool.and_eq_true, decide_eq_true_eq, allFrom_all]
  exact ⟨h.1.symm.trans h'.1, fun j h1 h2 => (h.2 j h1 h2).symm.trans (h'.2 j h1 (by omega))⟩
theorem wl_same : ∀ x ∈ WL, ∀ y ∈ WL, sameT x.1 y.1 = true → x = y := by decide +kernel
theorem wl_code : ∀ x ∈ WL, ∀ y ∈ WL, x.2 = y.2 → x = y := by decide +kernel
theorem wl_300 : ∀ x ∈ WL, ¬ x.2 = 300 := by decide +kernel
theorem pick_spec (b : Nat → Int32) (p l : Nat) : ∀ L, (∃ x ∈ L, spellsS b p l x.1 = true ∧ pickW b p l L = x.2) ∨ ((∀ x ∈ L, ¬ spellsS b p l x.1 = true) ∧ pickW b p l L = 300)
  | [] => Or.inr ⟨fun _ h => (by cases h), rfl⟩
  | y :: r => by
    rw [pickW]
    by_cases e : spellsS b p l y.1 = true
    · rw [if_pos e]
      exact Or.inl ⟨y, List.mem_cons_self, e, rfl⟩
    · rw [if_neg e]
      rcases pick_spec b p l r with ⟨x, h1, h2, h3⟩ | ⟨h1, h2⟩
      · exact Or.inl ⟨x, List.mem_cons_of_mem _ h1, h2, h3⟩
      · refine Or.inr ⟨fun x hx => ?_, h2⟩
        rcases List.mem_cons.mp hx with q | q
        · rw [q]; exact e
        · exact h1 x q
theorem word_iff {b : Nat → Int32} {p l : Nat} {x : Nat × Int32} (hx : x ∈ WL) : wordS b p l = x.2 ↔ spellsS b p l x.1 = true := by
  unfold wordS
  rcases pick_spec b p l WL with ⟨y, h1, h2, h3⟩ | ⟨h1, h2⟩
  · constructor
    · intro h
      have : y = x := wl_code y h1 x hx (h3.symm.trans h)
      rw [← this]; exact h2
    · intro h
      have : y = x := wl_same y h1 x hx (spells_same h2 h)
      rw [← this]; exact h3
  · exact ⟨fun h => absurd (h.symm.trans h2) (wl_300 x hx), fun h => absurd h (h1 x hx)⟩
theorem word_cases (b : Nat → Int32) (p l : Nat) : wordS b p l = 300 ∨ ∃ x ∈ WL, wordS b p l = x.2 ∧ spellsS b p l x.1 = true := by
  unfold wordS
  rcases pick_spec b p l WL with ⟨y, h1, h2, h3⟩ | ⟨h1, h2⟩
  · exact Or.inr ⟨y, h1, h3, h2⟩
  · exact Or.inl h2
theorem sl_strLen (t : Nat) : strLen t = nI (SL t) := rfl
theorem c_spells {s : St} {p l t : Nat} (hp : p + l ≤ 700) (ht : SL t < 100) : fX9_spells 1 (nI p) (nI l) t s = some (kflag (spellsS (s 1) p l t), s) := by
  rw [fX9_spells]
  unfold spellsS
  have hN := sl_strLen t
  generalize SL t = N at ht hN ⊢
  rw [hN]
  by_cases e : l = N
  · rw [if_pos (by rw [e]), decide_eq_true e, Bool.true_and]
    have L : ∀ k i m, i + k = N → k < m → fX9_spells_L13 1 t (nI p) m (nI i) s = some (kflag (allFrom (fun j => decide (s 1 (p + j) = strAt t j)) i k), s) := by
      intro k
      induction k with
      | zero =>
        intro i m hi hm
        obtain ⟨m, rfl⟩ : ∃ q, m = q + 1 := ⟨m - 1, by omega⟩
        have hi : i = N := by omega
        rw [fX9_spells_L13, hN, hi, if_pos (Int32.le_refl _)]
        rfl
      | succ k ih =>
        intro i m hi hm
        obtain ⟨m, rfl⟩ : ∃ q, m = q + 1 := ⟨m - 1, by omega⟩
        rw [fX9_spells_L13, hN, if_neg (by rw [nI_leI (by omega) (by omega)]; omega), nI_add, at_nI (by decide) (by show p + i < 700; omega), bd_some, if_pos (by rw [nI_toInt (by omega), nI_toInt (by omega)]; omega), nI_clamp (by omega), allFrom, zra_1]
        by_cases e2 : s 1 (p + i) = strAt t i
        · rw [if_pos e2, decide_eq_true e2, Bool.true_and]
          exact ih (i + 1) m (by omega) (by omega)
        · rw [if_neg e2, decide_eq_false e2, Bool.false_and]
          rfl
    exact L N 0 FU (by omega) (by show _ < 20000; omega)
  · rw [if_neg (fun q => e ((nI_eq (by omega) (by omega)).mp q)), decide_eq_false e, Bool.false_and]
    rfl
theorem wl_len : ∀ x ∈ WL, SL x.1 < 100 := by decide +kernel
theorem c_lineWord {s : St} {p l : Nat} (hp : p + l ≤ 700) : fX9_lineWordAt 1 (nI p) (nI l) s = some (pickW (s 1) p l (WL.take 8), s) := by
  have h : ∀ t, SL t < 100 → fX9_spells 1 (nI p) (nI l) t s = some (kflag (spellsS (s 1) p l t), s) := fun t ht => c_spells hp ht
  have k0 : kflag false = 0 := rfl
  have k1 : ¬ kflag true = 0 := by decide
  show _ = some (pickW (s 1) p l [(1007, 301), (1000, 302), (1001, 303), (1008, 304), (1009, 305), (1010, 306), (1011, 307), (1012, 308)], s)
  unfold fX9_lineWordAt
  rw [h 1007 (by decide), bd_some, pickW]
  by_cases e1 : spellsS (s 1) p l 1007 = true
  · rw [if_pos e1, e1, if_neg k1]
  rw [if_neg e1, Bool.eq_false_iff.mpr e1, if_pos k0]
  rw [h 1000 (by decide), bd_some, pickW]
  by_cases e2 : spellsS (s 1) p l 1000 = true
  · rw [if_pos e2, e2, if_neg k1]
  rw [if_neg e2, Bool.eq_false_iff.mpr e2, if_pos k0]
  rw [h 1001 (by decide), bd_some, pickW]
  by_cases e3 : spellsS (s 1) p l 1001 = true
  · rw [if_pos e3, e3, if_neg k1]
  rw [if_neg e3, Bool.eq_false_iff.mpr e3, if_pos k0]
  rw [h 1008 (by decide), bd_some, pickW]
  by_cases e4 : spellsS (s 1) p l 1008 = true
  · rw [if_pos e4, e4, if_neg k1]
  rw [if_neg e4, Bool.eq_false_iff.mpr e4, if_pos k0]
  rw [h 1009 (by decide), bd_some, pickW]
  by_cases e5 : spellsS (s 1) p l 1009 = true
  · rw [if_pos e5, e5, if_neg k1]
  rw [if_neg e5, Bool.eq_false_iff.mpr e5, if_pos k0]
  rw [h 1010 (by decide), bd_some, pickW]
  by_cases e6 : spellsS (s 1) p l 1010 = true
  · rw [if_pos e6, e6, if_neg k1]
  rw [if_neg e6, Bool.eq_false_iff.mpr e6, if_pos k0]
  rw [h 1011 (by decide), bd_some, pickW]
  by_cases e7 : spellsS (s 1) p l 1011 = true
  · rw [if_pos e7, e7, if_neg k1]
  rw [if_neg e7, Bool.eq_false_iff.mpr e7, if_pos k0]
  rw [h 1012 (by decide), bd_some, pickW]
  by_cases e8 : spellsS (s 1) p l 1012 = true
  · rw [if_pos e8, e8, if_neg k1]
  rw [if_neg e8, Bool.eq_false_iff.mpr e8, if_pos k0]
  rfl
theorem pickW_app {b : Nat → Int32} {p l : Nat} : ∀ (L M : List (Nat × Int32)), (∀ x ∈ L, ¬ x.2 = 300) → pickW b p l (L ++ M) = if pickW b p l L = 300 then pickW b p l M else pickW b p l L
  | [], M, _ => by rw [List.nil_append, pickW, if_pos rfl]
  | x :: r, M, h => by
    rw [List.cons_append, pickW, pickW]
    by_cases e : spellsS b p l x.1 = true
    · rw [if_pos e, if_pos e, if_neg (h x List.mem_cons_self)]
    · rw [if_neg e, if_neg e]
      exact pickW_app r M (fun y hy => h y (List.mem_cons_of_mem _ hy))
theorem c_word {s : St} {p l : Nat} (hp : p + l ≤ 700) : fX9_wordAt 1 (nI p) (nI l) s = some (wordS (s 1) p l, s) := by
  have h : ∀ t, SL t < 100 → fX9_spells 1 (nI p) (nI l) t s = some (kflag (spellsS (s 1) p l t), s) := fun t ht => c_spells hp ht
  have k0 : kflag false = 0 := rfl
  have k1 : ¬ kflag true = 0 := by decide
  have ew : wordS (s 1) p l = if pickW (s 1) p l (WL.take 8) = 300 then pickW (s 1) p l [(1013, 309), (1014, 310), (1015, 311), (1002, 312), (1003, 313), (1004, 314), (1005, 315), (1006, 316)] else pickW (s 1) p l (WL.take 8) := pickW_app (WL.take 8) _ (by decide)
  rw [ew]
  unfold fX9_wordAt
  rw [c_lineWord hp, bd_some]
  by_cases e0 : pickW (s 1) p l (WL.take 8) = 300
  · rw [if_pos e0, if_pos e0]
    rw [h 1013 (by decide), bd_some, pickW]
    by_cases e1 : spellsS (s 1) p l 1013 = true
    · rw [if_pos e1, e1, if_neg k1]
    rw [if_neg e1, Bool.eq_false_iff.mpr e1, if_pos k0]
    rw [h 1014 (by decide), bd_some, pickW]
    by_cases e2 : spellsS (s 1) p l 1014 = true
    · rw [if_pos e2, e2, if_neg k1]
    rw [if_neg e2, Bool.eq_false_iff.mpr e2, if_pos k0]
    rw [h 1015 (by decide), bd_some, pickW]
    by_cases e3 : spellsS (s 1) p l 1015 = true
    · rw [if_pos e3, e3, if_neg k1]
    rw [if_neg e3, Bool.eq_false_iff.mpr e3, if_pos k0]
    rw [h 1002 (by decide), bd_some, pickW]
    by_cases e4 : spellsS (s 1) p l 1002 = true
    · rw [if_pos e4, e4, if_neg k1]
    rw [if_neg e4, Bool.eq_false_iff.mpr e4, if_pos k0]
    rw [h 1003 (by decide), bd_some, pickW]
    by_cases e5 : spellsS (s 1) p l 1003 = true
    · rw [if_pos e5, e5, if_neg k1]
    rw [if_neg e5, Bool.eq_false_iff.mpr e5, if_pos k0]
    rw [h 1004 (by decide), bd_some, pickW]
    by_cases e6 : spellsS (s 1) p l 1004 = true
    · rw [if_pos e6, e6, if_neg k1]
    rw [if_neg e6, Bool.eq_false_iff.mpr e6, if_pos k0]
    rw [h 1005 (by decide), bd_some, pickW]
    by_cases e7 : spellsS (s 1) p l 1005 = true
    · rw [if_pos e7, e7, if_neg k1]
    rw [if_neg e7, Bool.eq_false_iff.mpr e7, if_pos k0]
    rw [h 1006 (by decide), bd_some, pickW]
    by_cases e8 : spellsS (s 1) p l 1006 = true
    · rw [if_pos e8, e8, if_neg k1]
    rw [if_neg e8, Bool.eq_false_iff.mpr e8, if_pos k0]
    rfl
  · rw [if_neg e0, if_neg e0]
