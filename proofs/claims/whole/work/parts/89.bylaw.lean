/-! ===== the law at the reference's side ===== -/
section BYLAW
variable {d h : Nat}
theorem m_J154 {s : St} {q0 : Int32} (hd : d < 12) (hh : h < 12) : fX12_byLaw_J154 (nI d) (nI h) q0 4 s = fX12_byLaw_J188 (kflag (decide (s 73 h = s 73 d))) 6 (wr (wr s 90 4 q0) 90 5 (nI h)) := by
  have e73 : (wr (wr s 90 4 q0) 90 5 (nI h)) 73 = s 73 := by rw [wr_slot (by decide), wr_slot (by decide)]
  rw [fX12_byLaw_J154, if_pos (by decide)]
  dsimp only
  rw [zcl_4, zcl_5, if_pos (by decide), if_pos (inA_lt (by decide) (by omega)), if_pos (inA_lt (by decide) (by omega)), nI_clamp (n := h) (by omega), nI_clamp (n := d) (by omega), e73]
  by_cases e : s 73 h = s 73 d
  · rw [if_pos e, decide_eq_true e, kf_t]
  · rw [if_neg e, decide_eq_false e, kf_f]
theorem m_J115 {s : St} {q0 : Int32} (hd : d < 12) (hh : h < 12) : fX12_byLaw_J115 (nI d) (nI h) q0 3 s = fX12_byLaw_J154 (nI d) (nI h) (kflag (hpB (s 74) (s 75) h (s 74 d) || hpB (s 74) (s 75) h (s 75 d))) 4 (wr s 90 3 q0) := by
  have e74 : (wr s 90 3 q0) 74 = s 74 := wr_slot (by decide)
  have e75 : (wr s 90 3 q0) 75 = s 75 := wr_slot (by decide)
  rw [fX12_byLaw_J115, if_pos (by decide)]
  dsimp only
  rw [zcl_3, if_pos (inA_lt (by decide) (by omega)), nI_clamp (by omega), m_hasParent hh, bd_some, m_hasParent hh, bd_some, e74, e75, kf_if, kf_if, fX12_byLaw_J149, if_pos (inA_lt (by decide) (by omega))]
  cases hpB (s 74) (s 75) h (s 74 d) <;> cases hpB (s 74) (s 75) h (s 75 d) <;> simp only [Bool.false_eq_true, ↓reduceIte, Bool.or_false, Bool.or_true, Bool.true_or, Bool.false_or, Bool.or_self, Bool.and_true, Bool.and_false, Bool.true_and, Bool.false_and, Bool.and_self, kf_t, kf_f]
theorem m_J95 {s : St} {q0 : Int32} (hd : d < 12) : fX12_byLaw_J95 (nI d) (nI h) q0 2 s = fX12_byLaw_J115 (nI d) (nI h) (kflag (ofB (s 74) (s 75) d (nI h))) 3 (wr s 90 2 q0) := by
  have e74 : (wr s 90 2 q0) 74 = s 74 := wr_slot (by decide)
  have e75 : (wr s 90 2 q0) 75 = s 75 := wr_slot (by decide)
  rw [fX12_byLaw_J95, if_pos (by decide)]
  dsimp only
  rw [zcl_2, m_isOf hd, bd_some, e74, e75, kf_if]
  cases ofB (s 74) (s 75) d (nI h) <;> simp only [Bool.false_eq_true, ↓reduceIte, Bool.or_false, Bool.or_true, Bool.true_or, Bool.false_or, Bool.or_self, Bool.and_true, Bool.and_false, Bool.true_and, Bool.false_and, Bool.and_self, kf_t, kf_f]
theorem m_J74 {s : St} {q0 : Int32} (hh : h < 12) : fX12_byLaw_J74 (nI d) (nI h) q0 1 s = fX12_byLaw_J95 (nI d) (nI h) (kflag (decide (s 77 h = nI d))) 2 (wr s 90 1 q0) := by
  have e77 : (wr s 90 1 q0) 77 = s 77 := wr_slot (by decide)
  rw [fX12_byLaw_J74, if_pos (by decide)]
  dsimp only
  rw [zcl_1, if_pos (inA_lt (by decide) (by omega)), nI_clamp (by omega), e77]
  by_cases e : s 77 h = nI d
  · rw [if_pos e, decide_eq_true e, kf_t]
  · rw [if_neg e, decide_eq_false e, kf_f]
theorem m_J49 {s : St} {q0 : Int32} {b : Bool} (hh : h < 12) : fX12_byLaw_J49 (nI d) (nI h) (kflag b) q0 0 s = fX12_byLaw_J74 (nI d) (nI h) (kflag (b && decide (s 76 h = 1))) 1 (wr s 90 0 q0) := by
  have e76 : (wr s 90 0 q0) 76 = s 76 := wr_slot (by decide)
  rw [fX12_byLaw_J49, if_pos (by decide)]
  dsimp only
  rw [zcl_0, kf_if, fX12_byLaw_J73, if_pos (inA_lt (by decide) (by omega)), nI_clamp (by omega), e76]
  cases b
  · simp only [Bool.false_eq_true, ↓reduceIte, Bool.or_false, Bool.or_true, Bool.true_or, Bool.false_or, Bool.or_self, Bool.and_true, Bool.and_false, Bool.true_and, Bool.false_and, Bool.and_self, kf_t, kf_f]
  · by_cases e : s 76 h = 1
    · rw [if_pos rfl, if_pos e, decide_eq_true e, Bool.true_and, kf_t]
    · rw [if_pos rfl, if_neg e, decide_eq_false e, Bool.true_and, kf_f]
theorem law_m {s t : St} {dep : Nat → Nat} {len n nw nf : Nat} {c : Nat → Int32} (r : RLand s n nw nf) (hl : LawD s dep len) (ht : LM s t) (hd : d < n) (hh : h < n) (h77 : t 77 h = c (60 + h)) (h73 : t 73 h = c (48 + h)) (h73d : t 73 d = c (48 + d)) (hsym : c (60 + h) = nI d ↔ c (60 + d) = nI h) : ∃ t', fX12_byLaw (nI d) (nI h) t = some (lawV s dep len c d h, t') ∧ ∀ k, k ≠ 90 → k ≠ 91 → t' k = t k := by
  obtain ⟨h1, h2, h3, h4, h5⟩ := hl
  have h12 : n ≤ 12 := r.1.2.2
  have par := r.2.2.2.2.1
  have t71 : t 71 = s 71 := ht 71 (Or.inl rfl)
  have o74 : ∀ p, p < n → t 74 p = s 22 p := fun p hp => by rw [ht 74 (Or.inr (by decide))]; exact (par p hp).1
  have o75 : ∀ p, p < n → t 75 p = s 23 p := fun p hp => by rw [ht 75 (Or.inr (by decide))]; exact (par p hp).2.1
  have o76 : ∀ p, p < n → t 76 p = s 24 p := fun p hp => by rw [ht 76 (Or.inr (by decide))]; exact (par p hp).2.2.1
  have oB : ∀ p v, p < n → ofB (t 74) (t 75) p v = ofB (s 22) (s 23) p v := fun p v hp => by rw [ofB, ofB, o74 p hp, o75 p hp]
  have oH : ∀ v, hpB (t 74) (t 75) h v = hpB (s 22) (s 23) h v := fun v => by rw [hpB, hpB, oB h v hh]
  have i4 : inA (4 : Int32) 10 := by decide
  have c4 : (4 : Int32).toNatClampNeg = 4 := rfl
  have start : fX12_byLaw (nI d) (nI h) t = if len = 0 then some (kflag (ofB (s 22) (s 23) h (nI d)), t) else fX12_byLaw_J49 (nI d) (nI h) (kflag (ofB (s 22) (s 23) h (nI d))) (kflag (ofB (s 22) (s 23) h (nI d) && decide (s 24 h = 0))) 0 t := by
    rw [fX12_byLaw, m_isOf (by omega), bd_some, if_pos i4, c4, t71, h2, oB h _ hh, ite_iff (zle_0 _ (by omega)), if_pos (inA_lt (by decide) (by omega)), nI_clamp (by omega), o76 h hh]
    by_cases e : len = 0
    · rw [if_pos e, if_pos e, kf_if]
      cases ofB (s 22) (s 23) h (nI d) <;> simp only [Bool.false_eq_true, ↓reduceIte, Bool.or_false, Bool.or_true, Bool.true_or, Bool.false_or, Bool.or_self, Bool.and_true, Bool.and_false, Bool.true_and, Bool.false_and, Bool.and_self, kf_t, kf_f]
    · rw [if_neg e, if_neg e, kf_if, fX12_byLaw_J48]
      cases ofB (s 22) (s 23) h (nI d)
      · simp only [Bool.false_eq_true, ↓reduceIte, Bool.or_false, Bool.or_true, Bool.true_or, Bool.false_or, Bool.or_self, Bool.and_true, Bool.and_false, Bool.true_and, Bool.false_and, Bool.and_self, kf_t, kf_f]
      · by_cases e2 : s 24 h = 0
        · rw [if_pos rfl, if_pos e2, decide_eq_true e2, Bool.true_and, kf_t]
        · rw [if_pos rfl, if_neg e2, decide_eq_false e2, Bool.true_and, kf_f]
  rw [start]
  rcases h5 with h5 | ⟨g1, g2, g3, g4⟩
  · rw [if_pos h5, lawV, if_pos h5]
    exact ⟨t, rfl, fun _ _ _ => rfl⟩
  have hl0 : len ≠ 0 := by
    rintro rfl
    rw [g1] at g2
    cases g2
  rw [if_neg hl0, m_J49 (by omega), m_J74 (by omega), m_J95 (by omega), m_J115 (by omega) (by omega), m_J154 (by omega) (by omega), fX12_byLaw_J188, if_pos (by decide)]
  have off : ∀ (x : St) k j v, k ≠ 90 → (wr x 90 j v) k = x k := fun x k j v hk => wr_slot hk
  simp only [off _ 73 _ _ (by decide), off _ 74 _ _ (by decide), off _ 75 _ _ (by decide), off _ 76 _ _ (by decide), off _ 77 _ _ (by decide), oB d _ hd, oH, o76 h hh, o74 d hd, o75 d hd, h77, h73, h73d]
  generalize hU : wr (wr (wr (wr (wr (wr (wr t 90 0 (kflag (ofB (s 22) (s 23) h (nI d) && decide (s 24 h = 0)))) 90 1 (kflag (ofB (s 22) (s 23) h (nI d) && decide (s 24 h = 1)))) 90 2 (kflag (decide (c (60 + h) = nI d)))) 90 3 (kflag (ofB (s 22) (s 23) d (nI h)))) 90 4 (kflag (hpB (s 22) (s 23) h (s 22 d) || hpB (s 22) (s 23) h (s 23 d)))) 90 5 (nI h)) 90 (6 : Int32).toNatClampNeg (kflag (decide (c (48 + h) = c (48 + d)))) = U
  have hUk : ∀ k, k ≠ 90 → U k = t k := fun k hk => by rw [← hU, wr_slot hk, wr_slot hk, wr_slot hk, wr_slot hk, wr_slot hk, wr_slot hk, wr_slot hk]
  have c6 : (6 : Int32).toNatClampNeg = 6 := rfl
  have had : (!decide (s 24 h = 1)) = decide (s 24 h = 0) := by
    rcases (par h hh).2.2.2.2.2 with e | e <;> rw [e] <;> rfl
  have hask : ∀ v : Nat, v < 7 → U 90 v = valS (s 22) (s 23) (s 24) c d h (-1 - nI v) := by
    intro v hv
    rcases (by omega : v = 0 ∨ v = 1 ∨ v = 2 ∨ v = 3 ∨ v = 4 ∨ v = 5 ∨ v = 6) with rfl | rfl | rfl | rfl | rfl | rfl | rfl
    · rw [← hU, c6, wr_place (by decide), wr_place (by decide), wr_place (by decide), wr_place (by decide), wr_place (by decide), wr_place (by decide), wr_hit, valS, if_neg (by decide), if_neg (by decide), if_neg (by decide), if_neg (by decide), if_neg (by decide), if_pos (by decide), had]
    · rw [← hU, c6, wr_place (by decide), wr_place (by decide), wr_place (by decide), wr_place (by decide), wr_place (by decide), wr_hit, valS, if_neg (by decide), if_neg (by decide), if_neg (by decide), if_neg (by decide), if_pos (by decide)]
    · rw [← hU, c6, wr_place (by decide), wr_place (by decide), wr_place (by decide), wr_place (by decide), wr_hit, valS, if_neg (by decide), if_neg (by decide), if_neg (by decide), if_pos (by decide)]
      congr 1
      exact decide_eq_decide.mpr hsym
    · rw [← hU, c6, wr_place (by decide), wr_place (by decide), wr_place (by decide), wr_hit, valS, if_neg (by decide), if_neg (by decide), if_pos (by decide)]
    · rw [← hU, c6, wr_place (by decide), wr_place (by decide), wr_hit, valS, if_neg (by decide), if_pos (by decide)]
    · rw [← hU, c6, wr_place (by decide), wr_hit, valS, if_pos (by decide)]
    · rw [← hU, c6, wr_hit, valS, if_neg (by decide), if_neg (by decide), if_neg (by decide), if_neg (by decide), if_neg (by decide), if_neg (by decide)]
      congr 1
      exact decide_eq_decide.mpr ⟨fun e => e.symm, fun e => e.symm⟩
  obtain ⟨t', e1, e2⟩ := m_lawL (st := s 30) (sg := s 84) (dep := dep) (len := len) (val := valS (s 22) (s 23) (s 24) c d h) (t0 := U) (by rw [hUk 71 (by decide), t71]; exact h2) h4 (by rw [hUk 84 (by decide), ht 84 (Or.inr (by decide))]) hask g2 g3 g4 len 0 FU (fun _ => 0) U (by omega) (by show len < 20000; omega) (fun j hj => by rw [g1] at hj; exact absurd hj (by omega)) (fun _ _ => rfl)
  rw [g1] at e1
  refine ⟨t', ?_, fun k q1 q2 => by rw [e2 k q2, hUk k q1]⟩
  have e1' : fX12_valueNow U = some (accN (stepS (s 30) (valS (s 22) (s 23) (s 24) c d h) dep) len 0 (fun _ => 0) 0, t') := e1
  rw [e1', bd_some, lawV, if_neg hl0]
  rfl
end BYLAW
