/-- one act more, the ring not full -/
theorem past_lt {s1 s2 : St} {n od na : Nat} {c m ring queue : Nat → Int32} (h12 : n ≤ 12) (hna : na < 40) (ho : od < 40) (old : ∀ i, i < na → SW n (fun j => ring (94 * ((od + i) % 40) + j)) (fun j => queue (95 * i + j)) ∧ WI n (fun j => ring (94 * ((od + i) % 40) + j))) (hw : SW n c m) (hi : WI n c)
    (hr : ∀ j, s1 35 j = if 94 * ((od + na) % 40) ≤ j ∧ j < 94 * ((od + na) % 40) + 94 then c (j - 94 * ((od + na) % 40)) else ring j) (hq : ∀ j, s2 89 j = if 95 * na ≤ j ∧ j < 95 * na + 95 then m (j - 95 * na) else queue j) :
    ∀ i, i < na + 1 → SW n (fun j => s1 35 (94 * ((od + i) % 40) + j)) (fun j => s2 89 (95 * i + j)) ∧ WI n (fun j => s1 35 (94 * ((od + i) % 40) + j)) := by
  intro i hi9
  by_cases h : i = na
  · subst h
    have e1 : ∀ j, j < 94 → s1 35 (94 * ((od + i) % 40) + j) = c j := fun j hj => by rw [hr, if_pos (by omega), Nat.add_sub_cancel_left]
    have e2 : ∀ j, j < 95 → s2 89 (95 * i + j) = m j := fun j hj => by rw [hq, if_pos (by omega), Nat.add_sub_cancel_left]
    exact ⟨hw.cong h12 e1 e2, hi.cong h12 e1⟩
  · have hlt : i < na := by omega
    have e1 : ∀ j, j < 94 → s1 35 (94 * ((od + i) % 40) + j) = ring (94 * ((od + i) % 40) + j) := fun j hj => by
      have : (od + i) % 40 ≠ (od + na) % 40 := by omega
      rw [hr, if_neg (by omega)]
    have e2 : ∀ j, j < 95 → s2 89 (95 * i + j) = queue (95 * i + j) := fun j hj => by rw [hq, if_neg (by omega)]
    exact ⟨(old i hlt).1.cong h12 e1 e2, (old i hlt).2.cong h12 e1⟩
/-- one act more, the ring full: the oldest goes -/
theorem past_40 {s1 s2 : St} {n od : Nat} {c m ring queue : Nat → Int32} (h12 : n ≤ 12) (ho : od < 40) (old : ∀ i, i < 40 → SW n (fun j => ring (94 * ((od + i) % 40) + j)) (fun j => queue (95 * i + j)) ∧ WI n (fun j => ring (94 * ((od + i) % 40) + j))) (hw : SW n c m) (hi : WI n c)
    (hr : ∀ j, s1 35 j = if 94 * ((od + 40) % 40) ≤ j ∧ j < 94 * ((od + 40) % 40) + 94 then c (j - 94 * ((od + 40) % 40)) else ring j) (hq : ∀ j, s2 89 j = if 95 * 39 ≤ j ∧ j < 95 * 39 + 95 then m (j - 95 * 39) else if j < 3705 then queue (95 + j) else queue j) :
    ∀ i, i < 40 → SW n (fun j => s1 35 (94 * (((od + 1) % 40 + i) % 40) + j)) (fun j => s2 89 (95 * i + j)) ∧ WI n (fun j => s1 35 (94 * (((od + 1) % 40 + i) % 40) + j)) := by
  intro i hi9
  by_cases h : i = 39
  · subst h
    have e0 : ((od + 1) % 40 + 39) % 40 = (od + 40) % 40 := by omega
    have e1 : ∀ j, j < 94 → s1 35 (94 * (((od + 1) % 40 + 39) % 40) + j) = c j := fun j hj => by rw [e0, hr, if_pos (by omega), Nat.add_sub_cancel_left]
    have e2 : ∀ j, j < 95 → s2 89 (95 * 39 + j) = m j := fun j hj => by rw [hq, if_pos (by omega), Nat.add_sub_cancel_left]
    exact ⟨hw.cong h12 e1 e2, hi.cong h12 e1⟩
  · have e0 : ((od + 1) % 40 + i) % 40 = (od + (i + 1)) % 40 := by omega
    have e1 : ∀ j, j < 94 → s1 35 (94 * (((od + 1) % 40 + i) % 40) + j) = ring (94 * ((od + (i + 1)) % 40) + j) := fun j hj => by
      have : (od + (i + 1)) % 40 ≠ (od + 40) % 40 := by omega
      rw [e0, hr, if_neg (by omega)]
    have e2 : ∀ j, j < 95 → s2 89 (95 * i + j) = queue (95 * (i + 1) + j) := fun j hj => by
      rw [hq, if_neg (by omega), if_pos (by omega)]
      congr 1
      omega
    exact ⟨(old (i + 1) (by omega)).1.cong h12 e1 e2, (old (i + 1) (by omega)).2.cong h12 e1⟩
