theorem m_place_in {s : St} {p : Nat} (hp : p < 10) : fX12_isIn (Int32.toInt64 (nI p)) (0 : Int64) (9 : Int64) s = some (1, s) := by
  rw [l64_0, l64_9, m_isIn, nI_toInt (by omega), show (0 : Int32).toInt = 0 from rfl, show (9 : Int32).toInt = 9 from rfl, if_pos (by omega)]
theorem m_place_out {s : St} {a : Int32} (h : a < 0 ∨ nI 10 ≤ a) : fX12_isIn (Int32.toInt64 a) (0 : Int64) (9 : Int64) s = some (0, s) := by
  have := out_int (by omega) h
  rw [l64_0, l64_9, m_isIn, show (0 : Int32).toInt = 0 from rfl, show (9 : Int32).toInt = 9 from rfl, if_neg (by omega)]
/-- a refused act, at the reference's side -/
theorem m_refused {s s3 : St} (hs : RS s) (e3 : ∀ k, k ≠ 111 → s3 k = wr s 38 1 (s 38 1 + 1) k) : ∃ s4, fX12_refuse (1 : Int32) (wr s3 69 1 0) = some (-1, s4) ∧ RS s4 ∧ s4 111 = s3 111 ∧ s4 69 1 = 0 :=
  ⟨_, m_refuse (i := 1) (by decide), rs_refused (i := 1) (u := wr s3 69 1 0) hs (fun k q1 q2 q3 => by rw [wr_slot q3, e3 k q2, wr_slot q1]) (fun j hj => by rw [wr_place hj, e3 69 (by decide), wr_slot (by decide)]) (by rw [wr_slot (by decide), e3 38 (by decide)]) rfl, by rw [wr_slot (by decide), wr_slot (by decide)], by rw [wr_slot (by decide), wr_hit]⟩
