/-! ===== rows changed at one place ===== -/
def ur (r : Nat → Int32) (j : Nat) (v : Int32) : Nat → Int32 := fun i => if i = j then v else r i
theorem ur_hit {r : Nat → Int32} {j : Nat} {v : Int32} : ur r j v j = v := if_pos rfl
theorem ur_off {r : Nat → Int32} {i j : Nat} {v : Int32} (h : i ≠ j) : ur r j v i = r i := if_neg h
theorem wr_row {s : St} {k j : Nat} {v : Int32} : wr s k j v k = ur (s k) j v := by
  funext i
  rw [wr, ur]
  by_cases h : i = j
  · rw [if_pos ⟨rfl, h⟩, if_pos h]
  · rw [if_neg (fun e => h e.2), if_neg h]
theorem vr_same {s t : St} (h1 : t 72 = s 72) (h2 : t 73 = s 73) (h3 : t 77 = s 77) (h4 : t 87 = s 87) (h5 : t 88 = s 88) (h6 : t 69 17 = s 69 17) : vr t = vr s := by
  funext j
  rw [vr, vr, h1, h2, h3, h4, h5, h6]
theorem vr_w72 {s : St} {j : Nat} {v : Int32} (hj : j < 48) : vr (wr s 72 j v) = ur (vr s) (j) v := by
  funext i
  rcases vr_cases i with h | h | h | h | h | h
  · rw [ur, vr_0 h, vr_0 h]
    by_cases e : i = j
    · rw [if_pos e, e, wr_hit]
    · rw [if_neg e, wr_place (show i ≠ j by omega)]
  · rw [ur_off (by omega), vr_1 h, vr_1 h, wr_slot (k' := 73) (by decide)]
  · rw [ur_off (by omega), vr_2 h, vr_2 h, wr_slot (k' := 77) (by decide)]
  · rw [ur_off (by omega), vr_3 h, vr_3 h, wr_slot (k' := 87) (by decide)]
  · rw [ur_off (by omega), vr_4 h, vr_4 h, wr_slot (k' := 88) (by decide)]
  · rw [ur_off (by omega), vr_5 h, vr_5 h, wr_slot (k' := 69) (by decide)]
theorem vr_w73 {s : St} {j : Nat} {v : Int32} (hj : j < 12) : vr (wr s 73 j v) = ur (vr s) (48 + j) v := by
  funext i
  rcases vr_cases i with h | h | h | h | h | h
  · rw [ur_off (by omega), vr_0 h, vr_0 h, wr_slot (k' := 72) (by decide)]
  · rw [ur, vr_1 h, vr_1 h]
    by_cases e : i = 48 + j
    · rw [if_pos e, e, Nat.add_sub_cancel_left, wr_hit]
    · rw [if_neg e, wr_place (show i - 48 ≠ j by omega)]
  · rw [ur_off (by omega), vr_2 h, vr_2 h, wr_slot (k' := 77) (by decide)]
  · rw [ur_off (by omega), vr_3 h, vr_3 h, wr_slot (k' := 87) (by decide)]
  · rw [ur_off (by omega), vr_4 h, vr_4 h, wr_slot (k' := 88) (by decide)]
  · rw [ur_off (by omega), vr_5 h, vr_5 h, wr_slot (k' := 69) (by decide)]
theorem vr_w77 {s : St} {j : Nat} {v : Int32} (hj : j < 12) : vr (wr s 77 j v) = ur (vr s) (60 + j) v := by
  funext i
  rcases vr_cases i with h | h | h | h | h | h
  · rw [ur_off (by omega), vr_0 h, vr_0 h, wr_slot (k' := 72) (by decide)]
  · rw [ur_off (by omega), vr_1 h, vr_1 h, wr_slot (k' := 73) (by decide)]
  · rw [ur, vr_2 h, vr_2 h]
    by_cases e : i = 60 + j
    · rw [if_pos e, e, Nat.add_sub_cancel_left, wr_hit]
    · rw [if_neg e, wr_place (show i - 60 ≠ j by omega)]
  · rw [ur_off (by omega), vr_3 h, vr_3 h, wr_slot (k' := 87) (by decide)]
  · rw [ur_off (by omega), vr_4 h, vr_4 h, wr_slot (k' := 88) (by decide)]
  · rw [ur_off (by omega), vr_5 h, vr_5 h, wr_slot (k' := 69) (by decide)]
theorem vr_w87 {s : St} {j : Nat} {v : Int32} (hj : j < 12) : vr (wr s 87 j v) = ur (vr s) (72 + j) v := by
  funext i
  rcases vr_cases i with h | h | h | h | h | h
  · rw [ur_off (by omega), vr_0 h, vr_0 h, wr_slot (k' := 72) (by decide)]
  · rw [ur_off (by omega), vr_1 h, vr_1 h, wr_slot (k' := 73) (by decide)]
  · rw [ur_off (by omega), vr_2 h, vr_2 h, wr_slot (k' := 77) (by decide)]
  · rw [ur, vr_3 h, vr_3 h]
    by_cases e : i = 72 + j
    · rw [if_pos e, e, Nat.add_sub_cancel_left, wr_hit]
    · rw [if_neg e, wr_place (show i - 72 ≠ j by omega)]
  · rw [ur_off (by omega), vr_4 h, vr_4 h, wr_slot (k' := 88) (by decide)]
  · rw [ur_off (by omega), vr_5 h, vr_5 h, wr_slot (k' := 69) (by decide)]
theorem vr_w88 {s : St} {j : Nat} {v : Int32} (hj : j < 10) : vr (wr s 88 j v) = ur (vr s) (84 + j) v := by
  funext i
  rcases vr_cases i with h | h | h | h | h | h
  · rw [ur_off (by omega), vr_0 h, vr_0 h, wr_slot (k' := 72) (by decide)]
  · rw [ur_off (by omega), vr_1 h, vr_1 h, wr_slot (k' := 73) (by decide)]
  · rw [ur_off (by omega), vr_2 h, vr_2 h, wr_slot (k' := 77) (by decide)]
  · rw [ur_off (by omega), vr_3 h, vr_3 h, wr_slot (k' := 87) (by decide)]
  · rw [ur, vr_4 h, vr_4 h]
    by_cases e : i = 84 + j
    · rw [if_pos e, e, Nat.add_sub_cancel_left, wr_hit]
    · rw [if_neg e, wr_place (show i - 84 ≠ j by omega)]
  · rw [ur_off (by omega), vr_5 h, vr_5 h, wr_slot (k' := 69) (by decide)]
theorem vr_w17 {s : St} {v : Int32} : vr (wr s 69 17 v) = fun i => if 94 ≤ i then v else vr s i := by
  funext i
  show vr (wr s 69 17 v) i = if 94 ≤ i then v else vr s i
  rcases vr_cases i with h | h | h | h | h | h
  · rw [if_neg (by omega), vr_0 h, vr_0 h, wr_slot (k' := 72) (by decide)]
  · rw [if_neg (by omega), vr_1 h, vr_1 h, wr_slot (k' := 73) (by decide)]
  · rw [if_neg (by omega), vr_2 h, vr_2 h, wr_slot (k' := 77) (by decide)]
  · rw [if_neg (by omega), vr_3 h, vr_3 h, wr_slot (k' := 87) (by decide)]
  · rw [if_neg (by omega), vr_4 h, vr_4 h, wr_slot (k' := 88) (by decide)]
  · rw [if_pos h, vr_5 h, wr_hit]
theorem sumN_point {f g : Nat → Nat} {i : Nat} : ∀ n, i < n → (∀ x, x ≠ i → g x = f x) → sumN g n + f i = sumN f n + g i
  | 0, h, _ => absurd h (by omega)
  | n + 1, h, e => by
    rw [sumN, sumN]
    by_cases hi : i = n
    · subst hi
      rw [sumN_congr (f := g) (g := f) i (fun x hx => e x (by omega))]
      omega
    · have := sumN_point n (by omega) e
      rw [e n (fun q => hi q.symm)]
      omega
theorem sumN_ge {f : Nat → Nat} {i : Nat} : ∀ n, i < n → f i ≤ sumN f n
  | 0, h => absurd h (by omega)
  | n + 1, h => by
    rw [sumN]
    by_cases hi : i = n
    · subst hi; omega
    · have := sumN_ge (f := f) n (i := i) (by omega)
      omega
/-- skies changed alike -/
theorem sw_sky {n : Nat} {c m c' m' : Nat → Int32} {S : Nat → Nat} (hc : ∀ j, 48 ≤ j → c' j = c j) (hm : ∀ j, 48 ≤ j → m' j = m j) (hcm : ∀ p k, p < n → k < 4 → m' (4 * p + k) = c' (4 * p + k)) (hS : ∀ p k, p < n → k < 4 → c' (4 * p + k) = nI (S (4 * p + k))) (hb : ∀ k, k < 4 → sumN (fun p => S (4 * p + k)) n ≤ 11988) (h : SW n c m) (hi : WI n c) : SW n c' m' ∧ WI n c' := by
  obtain ⟨h1, h2, h3, h4, h5, ⟨A, a1, a2, a3⟩, h7⟩ := h
  obtain ⟨i1, i2, -, i4, ⟨N, n1, n2⟩⟩ := hi
  refine ⟨⟨hcm, fun p hp => ?_, fun p hp => ?_, fun j hj => ?_, fun j hj => ?_, ⟨A, a1, ?_, fun p hp => ?_⟩, fun p q1 q2 => ?_⟩, ⟨fun p hp => ?_, fun p hp => ?_, ⟨S, hS, hb⟩, fun j hj => ?_, ⟨N, fun j hj => ?_, ?_⟩⟩⟩
  · rw [hc _ (by omega), hm _ (by omega), h2 p hp]
  · rw [hc _ (by omega), hm _ (by omega), h3 p hp]
  · rw [hc _ (by omega), hm _ (by omega), h4 j hj]
  · rw [hc _ (by omega), hm _ (by omega), h5 j hj]
  · rw [hm _ (by omega), a2]
  · rw [hc _ (by omega)]; exact a3 p hp
  · rw [hc _ (by omega)]; exact h7 p q1 q2
  · rw [hc _ (by omega)]; exact i1 p hp
  · rw [hc _ (by omega)]
    rcases i2 p hp with e | ⟨q', g1, g2, g3, g4⟩
    · exact Or.inl e
    · exact Or.inr ⟨q', g1, g2, g3, by rw [hc _ (by omega)]; exact g4⟩
  · rw [hc _ (by omega)]; exact i4 j hj
  · rw [hc _ (by omega)]; exact n1 j hj
  · rw [sumN_congr (g := fun p => if c (48 + p) = -1 then 0 else 1) n (fun p hp => by rw [hc _ (by omega)])]
    exact n2
/-! ===== pawn ===== -/
theorem w_addPart {w p k : Nat} {s : St} {v : Int32} (hw : LN (w + 1) = 94) (hp : p < 12) (hk : k < 4) : fX10_addPart w (nI p) (nI k) v s = some (0, wr s (w + 1) (4 * p + k) (s (w + 1) (4 * p + k) + v)) := by
  rw [fX10_addPart, w_part hw hp hk, bd_some, fX10_setPart, zrm_4, nI_add, put_nI (by omega) (by omega), bd_some, bd_some, Nat.mul_comm]
theorem sw_pawn {n p q k v : Nat} {c m : Nat → Int32} (hp : p < n) (hq : q < n) (hpq : p ≠ q) (hk : k < 4) (h12 : n ≤ 12) (hv : ¬ c (4 * p + k) < nI v) (hv2 : v < 2147483648) (h : SW n c m) (hi : WI n c) :
    SW n (ur (ur c (4 * p + k) (c (4 * p + k) - nI v)) (4 * q + k) (c (4 * q + k) + nI v)) (ur (ur m (4 * p + k) (m (4 * p + k) - nI v)) (4 * q + k) (m (4 * q + k) + nI v)) ∧ WI n (ur (ur c (4 * p + k) (c (4 * p + k) - nI v)) (4 * q + k) (c (4 * q + k) + nI v)) := by
  obtain ⟨S, s1, s2⟩ := hi.2.2.1
  have hsum := s2 k hk
  have hSp : S (4 * p + k) ≤ 11988 := Nat.le_trans (sumN_ge (f := fun p => S (4 * p + k)) n hp) hsum
  have hSq : S (4 * q + k) ≤ 11988 := Nat.le_trans (sumN_ge (f := fun p => S (4 * p + k)) n hq) hsum
  have hle : v ≤ S (4 * p + k) := by
    rw [s1 p k hp hk, nI_ltI (by omega) (by omega)] at hv
    omega
  refine sw_sky (S := fun j => if j = 4 * q + k then S (4 * q + k) + v else if j = 4 * p + k then S (4 * p + k) - v else S j) (fun j hj => ?_) (fun j hj => ?_) (fun x y hx hy => ?_) (fun x y hx hy => ?_) (fun y hy => ?_) h hi
  · rw [ur_off (by omega), ur_off (by omega)]
  · rw [ur_off (by omega), ur_off (by omega)]
  · rw [ur, ur, ur, ur, h.1 x y hx hy, h.1 p k hp hk, h.1 q k hq hk]
  · rw [ur, ur, s1 x y hx hy, s1 p k hp hk, s1 q k hq hk, nI_add, pk_sub hle]
    show (if _ then _ else _) = nI (if _ then _ else _)
    by_cases e1 : 4 * x + y = 4 * q + k
    · rw [if_pos e1, if_pos e1]
    · rw [if_neg e1, if_neg e1]
      by_cases e2 : 4 * x + y = 4 * p + k
      · rw [if_pos e2, if_pos e2]
      · rw [if_neg e2, if_neg e2]
  · by_cases hyk : y = k
    · subst hyk
      have f1 := sumN_point (f := fun x => S (4 * x + y)) (g := fun x => if 4 * x + y = 4 * p + y then S (4 * p + y) - v else S (4 * x + y)) (i := p) n hp (fun x hx => by rw [if_neg (by omega)])
      have f2 := sumN_point (f := fun x => if 4 * x + y = 4 * p + y then S (4 * p + y) - v else S (4 * x + y)) (g := fun x => if 4 * x + y = 4 * q + y then S (4 * q + y) + v else if 4 * x + y = 4 * p + y then S (4 * p + y) - v else S (4 * x + y)) (i := q) n hq (fun x hx => by rw [if_neg (by omega)])
      simp only [if_true] at f1 f2
      rw [if_neg (show ¬ 4 * q + y = 4 * p + y by omega)] at f2
      omega
    · have : ∀ x, (if 4 * x + y = 4 * q + k then S (4 * q + k) + v else if 4 * x + y = 4 * p + k then S (4 * p + k) - v else S (4 * x + y)) = S (4 * x + y) := fun x => by rw [if_neg (by omega), if_neg (by omega)]
      simp only [this]
      exact s2 y hy
theorem nI_m1 : ∀ v : Int32, ¬ v < 1 → ∃ n : Nat, n < 2147483648 ∧ v = nI n ∧ 1 ≤ n := by
  intro v h
  have o : (1 : Int32).toInt = 1 := rfl
  rw [i_lt, o] at h
  obtain ⟨j, hj, rfl⟩ := nI_of (x := v) (by rw [i_lt, show (0 : Int32).toInt = 0 from rfl]; omega)
  rw [nI_toInt (by omega)] at h
  exact ⟨j, by omega, rfl, by omega⟩
theorem i_nlt {a b : Int32} : ¬ a < b ↔ b ≤ a := by
  rw [i_lt, i_le]
  omega
theorem good_pawn (a b x v : Int32) : Good (fX11_pawn a b x v) (fX12_pawn a b x v) c12 := by
  intro s hs
  show GoodAt _ _ _ _
  obtain ⟨n, nw, nf, ⟨⟨hn, hm, h12⟩, -⟩, ⟨hw, hwi, -⟩, -⟩ := id hs
  obtain ⟨A, hA, hAn, hA2, hA3, -⟩ := sw_bits h12 hw
  have hb : ∀ u s3, Pre s u s3 → u 71 0 = nI n ∧ u 69 17 = nI A ∧ ∀ x y, x < n → y < 4 → u 72 (4 * x + y) = s 34 (4 * x + y) := fun u s3 h => ⟨by rw [h.2.1 71 (by decide) (by decide)]; exact hm, by rw [h.2.2.1 17 (by decide)]; exact hA2, fun x y hx hy => by rw [← vr_sky (s := u) (by omega) hy, h.2.2.2, hw.1 x y hx hy]⟩
  rcases i_cases a (n := n) (by omega) with ⟨p, hp, rfl⟩ | ho
  · rcases i_cases b (n := n) (by omega) with ⟨q, hq, rfl⟩ | ho
    · rcases i_cases x (n := 4) (by omega) with ⟨k, hk, rfl⟩ | ho
      · have hr : ∀ u, fX12_refuse (1 : Int32) u = some (-1, wr u 85 1 (u 85 1 + 1)) := fun u => m_refuse (u := u) (i := 1) (by decide)
        by_cases hpq : p = q
        · refine gat_ref hs (-1) ?_ (fun u s3 h => ?_)
          · rw [fX11_pawn, c_person_in hn h12 hp, bx_val, c_person_in hn h12 hq, bx_val, c_part_in hk, bx_val, if_pos (by rw [hpq]), c_refusedAct, bd_some]
          · obtain ⟨g1, g2, g3⟩ := hb u s3 h
            rw [fX12_pawn, h.1, m_person_in g1 h12 hp, bd_some, if_neg (by decide), m_person_in g1 h12 hq, bd_some, if_neg (by decide), m_part_in hk, bd_some, if_neg (by decide), if_pos (by rw [hpq]), hr, bd_some]
        have hne : ¬ nI p = nI q := fun e => hpq ((nI_eq (by omega) (by omega)).mp e)
        by_cases d1 : s 34 (48 + p) = -1
        · refine gat_ref hs (-1) ?_ (fun u s3 h => ?_)
          · rw [fX11_pawn, c_person_in hn h12 hp, bx_val, c_person_in hn h12 hq, bx_val, c_part_in hk, bx_val, if_neg hne, w_alive rfl (by omega), bd_some, if_pos d1, if_pos rfl, c_refusedAct, bd_some]
          · obtain ⟨g1, g2, g3⟩ := hb u s3 h
            rw [fX12_pawn, h.1, m_person_in g1 h12 hp, bd_some, if_neg (by decide), m_person_in g1 h12 hq, bd_some, if_neg (by decide), m_part_in hk, bd_some, if_neg (by decide), if_neg hne, m_alive_c h12 hA g2 hA3 hp, bd_some, if_pos d1, if_pos rfl, hr, bd_some]
        by_cases d2 : s 34 (48 + q) = -1
        · refine gat_ref hs (-1) ?_ (fun u s3 h => ?_)
          · rw [fX11_pawn, c_person_in hn h12 hp, bx_val, c_person_in hn h12 hq, bx_val, c_part_in hk, bx_val, if_neg hne, w_alive rfl (by omega), bd_some, if_neg d1, if_neg (by decide), w_alive rfl (by omega), bd_some, if_pos d2, if_pos rfl, c_refusedAct, bd_some]
          · obtain ⟨g1, g2, g3⟩ := hb u s3 h
            rw [fX12_pawn, h.1, m_person_in g1 h12 hp, bd_some, if_neg (by decide), m_person_in g1 h12 hq, bd_some, if_neg (by decide), m_part_in hk, bd_some, if_neg (by decide), if_neg hne, m_alive_c h12 hA g2 hA3 hp, bd_some, if_neg d1, if_neg (by decide), m_alive_c h12 hA g2 hA3 hq, bd_some, if_pos d2, if_pos rfl, hr, bd_some]
        have cc : fX11_pawn (nI p) (nI q) (nI k) v s = if v < (1 : Int32) then some (.inl (-1), wr s 38 1 (s 38 1 + 1)) else if v ≤ s 34 (4 * p + k) then (bd (fX8_keepAct 32 s) (fun y_10 s_10 =>
            bd (fX10_addPart 33 (nI p) (nI k) (-v) s_10) (fun y_11 s_11 =>
            bd (fX10_addPart 33 (nI q) (nI k) v s_11) (fun y_12 s_12 =>
            bd (fX10_part 33 (nI q) (nI k) s_12) (fun y_13 s_13 =>
            some (.inl y_13, s_13)))))) else some (.inl (-1), wr s 38 1 (s 38 1 + 1)) := by
          rw [fX11_pawn, c_person_in hn h12 hp, bx_val, c_person_in hn h12 hq, bx_val, c_part_in hk, bx_val, if_neg hne, w_alive rfl (by omega), bd_some, if_neg d1, if_neg (by decide), w_alive rfl (by omega), bd_some, if_neg d2, if_neg (by decide), c_refusedAct, bd_some, w_part rfl (by omega) hk, bd_some, c_refusedAct, bd_some]
        have mm : ∀ u s3, Pre s u s3 → fX12_pawn (nI p) (nI q) (nI k) v s3 = if v < (1 : Int32) then some (-1, wr u 85 1 (u 85 1 + 1)) else if v ≤ s 34 (4 * p + k) then (bd (fX12_keep u) (fun y_13 s_13 => some (wr (wr s_13 72 (4 * p + k) (s_13 72 (4 * p + k) - v)) 72 (4 * q + k) (wr s_13 72 (4 * p + k) (s_13 72 (4 * p + k) - v) 72 (4 * q + k) + v) 72 (4 * q + k), wr (wr s_13 72 (4 * p + k) (s_13 72 (4 * p + k) - v)) 72 (4 * q + k) (wr s_13 72 (4 * p + k) (s_13 72 (4 * p + k) - v) 72 (4 * q + k) + v)))) else some (-1, wr u 85 1 (u 85 1 + 1)) := fun u s3 h => by
          obtain ⟨g1, g2, g3⟩ := hb u s3 h
          have x1 : ∀ {α : Type} (x y : α), (if inA (nI (4 * p + k)) 96 then x else y) = x := fun x y => if_pos (inA_lt (by decide) (by omega))
          have x2 : ∀ {α : Type} (x y : α), (if inA (nI (4 * q + k)) 96 then x else y) = x := fun x y => if_pos (inA_lt (by decide) (by omega))
          have x3 : (nI (4 * p + k)).toNatClampNeg = 4 * p + k := nI_clamp (by omega)
          have x4 : (nI (4 * q + k)).toNatClampNeg = 4 * q + k := nI_clamp (by omega)
          rw [fX12_pawn, h.1, m_person_in g1 h12 hp, bd_some, if_neg (by decide), m_person_in g1 h12 hq, bd_some, if_neg (by decide), m_part_in hk, bd_some, if_neg (by decide), if_neg hne, m_alive_c h12 hA g2 hA3 hp, bd_some, if_neg d1, if_neg (by decide), m_alive_c h12 hA g2 hA3 hq, bd_some, if_neg d2, if_neg (by decide), hr, bd_some]
          simp only [zlm_4, nI_add, x1, x2, x3, x4, g3 p k hp hk]
        by_cases d3 : v < 1
        · exact gat_ref hs (-1) (by rw [cc, if_pos d3]) (fun u s3 h => by rw [mm u s3 h, if_pos d3])
        by_cases d4 : v ≤ s 34 (4 * p + k)
        · obtain ⟨v, hv1, rfl, hv2⟩ := nI_m1 v d3
          have hd5 : ¬ s 34 (4 * p + k) < nI v := i_nlt.mpr d4
          refine gat_act hs hn h12 (F := fun s_10 => bd (fX10_addPart 33 (nI p) (nI k) (-nI v) s_10) (fun y_11 s_11 =>
            bd (fX10_addPart 33 (nI q) (nI k) (nI v) s_11) (fun y_12 s_12 =>
            bd (fX10_part 33 (nI q) (nI k) s_12) (fun y_13 s_13 =>
            some (y_13, s_13))))) (G := fun s_13 => some (wr (wr s_13 72 (4 * p + k) (s_13 72 (4 * p + k) - nI v)) 72 (4 * q + k) (wr s_13 72 (4 * p + k) (s_13 72 (4 * p + k) - nI v) 72 (4 * q + k) + nI v) 72 (4 * q + k), wr (wr s_13 72 (4 * p + k) (s_13 72 (4 * p + k) - nI v)) 72 (4 * q + k) (wr s_13 72 (4 * p + k) (s_13 72 (4 * p + k) - nI v) 72 (4 * q + k) + nI v))) (fun s1 y s2 h1 h2 => ?_) (fun u s3 t y s4 h h1 h2 => ?_) (fun s1 e1 => ?_)
          · rw [cc, if_neg d3, if_pos d4, h1, bd_some]
            rw [w_addPart rfl (by omega) hk, bd_some, w_addPart rfl (by omega) hk, bd_some, w_part rfl (by omega) hk, bd_some] at h2 ⊢
            cases h2
            rfl
          · rw [mm u s3 h, if_neg d3, if_pos d4, h1, bd_some]
            exact h2
          · have e34 : s1 34 = s 34 := e1 34 (by decide) (by decide)
            have hne2 : 4 * q + k ≠ 4 * p + k := by omega
            have row : (wr (wr s1 34 (4 * p + k) (s1 34 (4 * p + k) + -nI v)) 34 (4 * q + k) ((wr s1 34 (4 * p + k) (s1 34 (4 * p + k) + -nI v)) 34 (4 * q + k) + nI v)) 34 = ur (ur (s 34) (4 * p + k) (s 34 (4 * p + k) - nI v)) (4 * q + k) (s 34 (4 * q + k) + nI v) := by
              rw [wr_row, wr_row, ur_off hne2, e34, Int32.sub_eq_add_neg]
            obtain ⟨q1, q2⟩ := sw_pawn (v := v) hp hq hpq hk h12 hd5 (by omega) hw hwi
            refine ⟨_, _, by rw [w_addPart rfl (by omega) hk, bd_some, w_addPart rfl (by omega) hk, bd_some, w_part rfl (by omega) hk, bd_some], KeepC.slot (z := 34) rfl (by decide) (relO_off rfl) (fun k hk => by rw [wr_slot hk, wr_slot hk]), ?_, fun t tk t69 tv => ?_⟩
            · show WI n ((wr (wr s1 34 (4 * p + k) _) 34 (4 * q + k) _) 34)
              rw [row]
              exact q2
            · have g3 : ∀ x y, x < n → y < 4 → t 72 (4 * x + y) = s 34 (4 * x + y) := fun x y hx hy => by rw [← vr_sky (s := t) (by omega) hy, tv, hw.1 x y hx hy]
              refine ⟨wr (wr t 72 (4 * p + k) (t 72 (4 * p + k) - nI v)) 72 (4 * q + k) (wr t 72 (4 * p + k) (t 72 (4 * p + k) - nI v) 72 (4 * q + k) + nI v), ?_, KeepM.slot (z := 72) rfl (by decide) (by decide) (relO_off rfl) (fun k hk => by rw [wr_slot hk, wr_slot hk]), ?_⟩
              · congr 2
                show _ = (wr (wr s1 34 (4 * p + k) _) 34 (4 * q + k) _) 34 (4 * q + k)
                rw [row, ur_hit, wr_hit, wr_place hne2, g3 q k hq hk]
              · show SW n ((wr (wr s1 34 (4 * p + k) _) 34 (4 * q + k) _) 34) _
                rw [row, vr_w72 (by omega), vr_w72 (by omega), wr_place hne2, tv]
                have z1 : t 72 (4 * p + k) = vr s (4 * p + k) := by rw [g3 p k hp hk, hw.1 p k hp hk]
                have z2 : t 72 (4 * q + k) = vr s (4 * q + k) := by rw [g3 q k hq hk, hw.1 q k hq hk]
                rw [z1, z2]
                exact q1
        · exact gat_ref hs (-1) (by rw [cc, if_neg d3, if_neg d4]) (fun u s3 h => by rw [mm u s3 h, if_neg d3, if_neg d4])
      · refine gat_thr (x := 0) hs (Or.inl rfl) (by decide) ?_ (fun u s3 h => ?_)
        · rw [fX11_pawn, c_person_in hn h12 hp, bx_val, c_person_in hn h12 hq, bx_val, c_part_out ho, bx_thr]
        · obtain ⟨g1, g2, g3⟩ := hb u s3 h
          rw [fX12_pawn, h.1, m_person_in g1 h12 hp, bd_some, if_neg (by decide), m_person_in g1 h12 hq, bd_some, if_neg (by decide), m_part_out ho, bd_some, if_pos rfl, m_fail]
          rfl
    · refine gat_thr (x := 0) hs (Or.inl rfl) (by decide) ?_ (fun u s3 h => ?_)
      · rw [fX11_pawn, c_person_in hn h12 hp, bx_val, c_person_out hn ho, bx_thr]
      · obtain ⟨g1, g2, g3⟩ := hb u s3 h
        rw [fX12_pawn, h.1, m_person_in g1 h12 hp, bd_some, if_neg (by decide), m_person_out g1 h12 ho, bd_some, if_pos rfl, m_fail]
        rfl
  · refine gat_thr (x := 0) hs (Or.inl rfl) (by decide) ?_ (fun u s3 h => ?_)
    · rw [fX11_pawn, c_person_out hn ho, bx_thr]
    · obtain ⟨g1, g2, g3⟩ := hb u s3 h
      rw [fX12_pawn, h.1, m_person_out g1 h12 ho, bd_some, if_pos rfl, m_fail]
      rfl
