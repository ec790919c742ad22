theorem sw_wed {n p q : Nat} {c m c' m' : Nat → Int32} (h12 : n ≤ 12) (hp : p < n) (hq : q < n) (hpq : p ≠ q) (hc : ∀ j, c' j = wedR c p q j) (hm : ∀ j, j < 60 ∨ 72 ≤ j → m' j = m j) (hm2 : ∀ x, x < n → m' (60 + x) = wedR c p q (60 + x)) (h : SW n c m) (hi : WI n c) : SW n c' m' ∧ WI n c' := by
  have ho : ∀ j, j < 60 ∨ 72 ≤ j → c' j = c j := fun j hj => by
    rw [hc, wedR, if_neg (by omega), if_neg (by omega), leaveR_out h12 hq (wi_leave h12 hp hi) j hj, leaveR_out h12 hp hi j hj]
  have hcc : c' = wedR c p q := funext hc
  obtain ⟨h1, h2, h3, h4, h5, ⟨A, a1, a2, a3⟩, h7⟩ := h
  refine ⟨⟨fun p' k hp' hk => ?_, fun p' hp' => ?_, fun p' hp' => ?_, fun j hj => ?_, fun j hj => ?_, ⟨A, a1, ?_, fun p' hp' => ?_⟩, fun p' q1 q2 => ?_⟩, by rw [hcc]; exact wi_wed h12 hp hq hpq hi⟩
  · rw [ho _ (by omega), hm _ (by omega), h1 p' k hp' hk]
  · rw [ho _ (by omega), hm _ (by omega), h2 p' hp']
  · rw [hc, hm2 p' hp']
  · rw [ho _ (by omega), hm _ (by omega), h4 j hj]
  · rw [ho _ (by omega), hm _ (by omega), h5 j hj]
  · rw [hm _ (by omega), a2]
  · rw [ho _ (by omega)]; exact a3 p' hp'
  · rw [ho _ (by omega)]; exact h7 p' q1 q2
theorem c_wed_act {s s1 : St} {n p q : Nat} (h12 : n ≤ 12) (hp : p < n) (hq : q < n) (hi : WI n (s 34)) (h34 : s1 34 = s 34) : ∃ s2 s3 s4, fX10_leaveSpouse 33 (nI p) s1 = some (0, s2) ∧ fX10_leaveSpouse 33 (nI q) s2 = some (0, s3) ∧ fX10_join 33 (nI p) (nI q) s3 = some (0, s4) ∧ (∀ j, s4 34 j = wedR (s 34) p q j) ∧ ∀ k, k ≠ 34 → s4 k = s1 k := by
  obtain ⟨s2, a1, a2, a3⟩ := w_leave (w := 33) (s := s1) rfl h12 hp (by show WI n (s1 34); rw [h34]; exact hi)
  have a2' : s2 34 = leaveR (s 34) p := by rw [← h34]; exact a2
  obtain ⟨s3, b1, b2, b3⟩ := w_leave (w := 33) (s := s2) rfl h12 hq (by show WI n (s2 34); rw [a2']; exact wi_leave h12 hp hi)
  have b2' : s3 34 = leaveR (leaveR (s 34) p) q := by rw [← a2']; exact b2
  refine ⟨s2, s3, _, a1, b1, w_join rfl (by omega) (by omega), fun j => ?_, fun k hk => ?_⟩
  · show wr (wr s3 34 (60 + p) (nI q)) 34 (60 + q) (nI p) 34 j = _
    rw [wedR]
    by_cases e : j = 60 + q
    · rw [if_pos e, e, wr_hit]
    · rw [if_neg e, wr_place e]
      by_cases e2 : j = 60 + p
      · rw [if_pos e2, e2, wr_hit]
      · rw [if_neg e2, wr_place e2, b2']
  · rw [wr_slot hk, wr_slot hk, b3 k hk, a3 k hk]
theorem m_wed_act {t : St} {c : Nat → Int32} {n p q : Nat} (h12 : n ≤ 12) (hp : p < n) (hq : q < n) (hi : WI n c) (hs : ∀ x, x < n → t 77 x = c (60 + x)) : ∃ t2 t3, fX12_unbind (nI p) t = some (0, t2) ∧ fX12_unbind (nI q) t2 = some (0, t3) ∧ (∀ x, x < n → wr (wr t3 77 p (nI q)) 77 q (nI p) 77 x = wedR c p q (60 + x)) ∧ ∀ k, k ≠ 77 → t3 k = t k := by
  obtain ⟨t2, a1, a2, a3⟩ := m_unbind h12 hp hi hs
  obtain ⟨t3, b1, b2, b3⟩ := m_unbind h12 hq (wi_leave h12 hp hi) a2
  refine ⟨t2, t3, a1, b1, fun x hx => ?_, fun k hk => by rw [b3 k hk, a3 k hk]⟩
  rw [wedR]
  by_cases e : x = q
  · rw [if_pos (by omega), e, wr_hit]
  · rw [if_neg (by omega), wr_place e]
    by_cases e2 : x = p
    · rw [if_pos (by omega), e2, wr_hit]
    · rw [if_neg (by omega), wr_place e2, b2 x hx]
