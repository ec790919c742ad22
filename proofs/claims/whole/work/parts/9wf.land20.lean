/-! ===== land: the line of a field ===== -/
theorem i7 : inA (7 : Int32) 10 := by decide
theorem fz_fJ46 {σ : St} (h : ¬ σ 2 4 = 0) (v1 : Int32) : fX6_readField_J46 v1 σ = some (0, σ) := by
  rw [fX6_readField_J46, fz_advance h, bd_some, fz_takeNumber h, bd_some, fz_takeNumber h, bd_some, if_neg h]
theorem c_hasField {σ : St} {nf : Nat} (h : σ 3 6 = nI nf) (hf : nf ≤ 6) (y : Int32) : (fX4_hasFieldAt 3 y σ = some (0, σ) ∧ ∀ f, f < nf → ¬ σ 8 f = y) ∨ (fX4_hasFieldAt 3 y σ = some (1, σ) ∧ ∃ f, f < nf ∧ σ 8 f = y) := by
  have L : ∀ k j fu, j + k = nf → k < fu → (∀ f, f < j → ¬ σ 8 f = y) → (fX4_hasFieldAt_L2 3 y fu (nI j) σ = some (0, σ) ∧ ∀ f, f < nf → ¬ σ 8 f = y) ∨ (fX4_hasFieldAt_L2 3 y fu (nI j) σ = some (1, σ) ∧ ∃ f, f < nf ∧ σ 8 f = y) := by
    intro k
    induction k with
    | zero =>
      intro j fu hj hfu hx
      obtain ⟨fu, rfl⟩ : ∃ z, fu = z + 1 := ⟨fu - 1, by omega⟩
      obtain rfl : j = nf := by omega
      exact Or.inl ⟨by rw [fX4_hasFieldAt_L2, h, if_pos (Int32.le_refl _)], hx⟩
    | succ k ih =>
      intro j fu hj hfu hx
      obtain ⟨fu, rfl⟩ : ∃ z, fu = z + 1 := ⟨fu - 1, by omega⟩
      have hh : fX4_hasFieldAt_L2 3 y (fu + 1) (nI j) σ = if σ 8 j = y then some (1, σ) else fX4_hasFieldAt_L2 3 y fu (nI (j + 1)) σ := by
        rw [fX4_hasFieldAt_L2, h, if_neg (by rw [nI_leI (by omega) (by omega)]; omega), at_nI (r := 8) (by decide) (by show j < 6; omega), bd_some, zra_1]
      rw [hh]
      by_cases e : σ 8 j = y
      · rw [if_pos e]
        exact Or.inr ⟨rfl, j, by omega, e⟩
      · rw [if_neg e]
        exact ih (j + 1) fu (by omega) (by omega) (fun f hf2 => by
          by_cases q : f = j
          · rw [q]; exact e
          · exact hx f (by omega))
  exact L nf 0 FU (by omega) (by show _ < 20000; omega) (fun f hf2 => absurd hf2 (by omega))
theorem fzm_fJ94 {nf : Nat} (hn : nf < 6) {t : St} (h : ¬ t 69 26 = 0) : ∃ t', fX12_readField_J94 (nI (6 + nf)) t = some (0, t') ∧ t' 69 = t 69 ∧ LnM t t' := by
  have hi : inA (nI (6 + nf)) 12 := inA_lt (by decide) (by omega)
  refine ⟨_, ?_, ?_, ((LnM.w1 (k := 82) (j := 6 + nf) (v := 0) (by decide) (by decide) (by show 6 ≤ _; omega)).tr (LnM.w1 (k := 83) (j := 6 + nf) (v := 0) (by decide) (by decide) (by show 6 ≤ _; omega))).tr (LnM.w1 (k := 71) (j := 7) (v := (wr (wr t 82 (6 + nf) 0) 83 (6 + nf) 0) 71 7 + 1) (by decide) (by decide) (by decide))⟩
  · rw [fX12_readField_J94, if_neg h, fX12_readField_J105, fz_readNumber h, bd_some, if_pos hi, nI_clamp (by omega)]
    dsimp only
    rw [fz_readNumber (by rw [wr_slot (by decide)]; exact h), bd_some, if_pos hi, if_pos i7, if_pos i7, zcl_7]
  · rw [wr_slot (by decide), wr_slot (by decide), wr_slot (by decide)]
theorem fzm_fL56 {t : St} (h : ¬ t 69 26 = 0) (k94 : St → Option (Int32 × St)) (c1 v2 : Int32) (fu : Nat) : fX12_readField_L56 k94 c1 (fu + 1) v2 t = k94 t := by
  rw [fX12_readField_L56, if_neg h]
  by_cases e : c1 ≤ v2
  · rw [if_pos e]
  · rw [if_neg e]
theorem m_dupf {nf : Nat} (hn : nf < 6) {t t' : St} (k94 : St → Option (Int32 × St)) (h0 : t 69 26 = 0) (hw : fX12_wrong 4 t = some (0, t')) (hf : ¬ t' 69 26 = 0) : ∀ k j fu, j + k = nf → k < fu →
    (fX12_readField_L56 k94 (nI (6 + nf)) fu (nI (6 + j)) t = k94 t ∧ ∀ i, j ≤ i → i < nf → ¬ t 81 (6 + i) = t 81 (6 + nf)) ∨
    (fX12_readField_L56 k94 (nI (6 + nf)) fu (nI (6 + j)) t = k94 t' ∧ ∃ i, i < nf ∧ t 81 (6 + i) = t 81 (6 + nf)) := by
  intro k
  induction k with
  | zero =>
    intro j fu hj hfu
    obtain ⟨fu, rfl⟩ : ∃ z, fu = z + 1 := ⟨fu - 1, by omega⟩
    obtain rfl : j = nf := by omega
    exact Or.inl ⟨by rw [fX12_readField_L56, if_pos (Int32.le_refl _)], fun i h1 h2 => absurd h2 (by omega)⟩
  | succ k ih =>
    intro j fu hj hfu
    obtain ⟨fu, rfl⟩ : ∃ z, fu = z + 2 := ⟨fu - 2, by omega⟩
    have hi1 : inA (nI (6 + j)) 12 := inA_lt (by decide) (by omega)
    have hi2 : inA (nI (6 + nf)) 12 := inA_lt (by decide) (by omega)
    have hI := ih (j + 1) (fu + 1) (by omega) (by omega)
    have hx : nI (6 + j) + 1 = nI (6 + (j + 1)) := zra_1 (6 + j)
    by_cases e : t 81 (6 + j) = t 81 (6 + nf)
    · right
      refine ⟨?_, j, by omega, e⟩
      rw [fX12_readField_L56, if_neg (by rw [nI_leI (by omega) (by omega)]; omega), if_pos h0, if_pos hi1, if_pos hi2, nI_clamp (by omega), nI_clamp (by omega), if_pos e, hw, bd_some, fzm_fL56 hf]
    · rw [fX12_readField_L56, if_neg (by rw [nI_leI (by omega) (by omega)]; omega), if_pos h0, if_pos hi1, if_pos hi2, nI_clamp (by omega), nI_clamp (by omega), if_neg e, hx]
      rcases hI with ⟨g1, g2⟩ | ⟨g1, g2⟩
      · left
        refine ⟨g1, fun i q1 q2 => ?_⟩
        by_cases z : i = j
        · rw [z]; exact e
        · exact g2 i (by omega) q2
      · exact Or.inr ⟨g1, g2⟩
theorem c_addField {s : St} {nf : Nat} {a v w : Int32} (h : s 3 6 = nI nf) (hn : nf < 6) : fX4_addField 3 a v w s = some (0, wr (wr (wr (wr s 8 nf a) 9 nf v) 10 nf w) 3 6 (nI (nf + 1))) := by
  rw [fX4_addField, h, put_nI (r := 8) (by decide) (by show nf < 6; exact hn), bd_some, wr_slot (show (3 : Nat) ≠ 8 by decide), h, put_nI (r := 9) (by decide) (by show nf < 6; exact hn), bd_some]
  have h2 : (wr (wr s 8 nf a) 9 nf v) 3 6 = nI nf := by rw [wr_slot (by decide), wr_slot (by decide), h]
  rw [h2, put_nI (r := 10) (by decide) (by show nf < 6; exact hn), bd_some]
  dsimp only
  rw [wr_slot (show (3 : Nat) ≠ 10 by decide), h2, zra_1]
theorem dat_field {n nw nf : Nat} {ft lt : Bool} {σ t σ' t' : St} {a v w : Nat} (h : DatI n nw nf ft lt σ t) (hn : nf < 6) (ha : a < 10) (hv : v ≤ 9999) (hw : w ≤ 9999)
    (c3 : σ' 3 6 = nI (nf + 1)) (c3o : ∀ j, j ≠ 6 → σ' 3 j = σ 3 j) (c8 : ∀ f, σ' 8 f = if f = nf then nI a else σ 8 f) (c9 : ∀ f, σ' 9 f = if f = nf then nI v else σ 9 f) (c10 : ∀ f, σ' 10 f = if f = nf then nI w else σ 10 f) (cx : ∀ x, x ≠ 3 → x ≠ 8 → x ≠ 9 → x ≠ 10 → x ≠ 2 → σ' x = σ x) (c28 : σ' 2 8 = σ 2 8)
    (m7 : t' 71 7 = nI (nf + 1)) (m71 : ∀ j, j ≠ 7 → t' 71 j = t 71 j) (m81 : ∀ i, t' 81 (6 + i) = if i = nf then nI a else t 81 (6 + i)) (m82 : ∀ i, t' 82 (6 + i) = if i = nf then nI v else t 82 (6 + i)) (m83 : ∀ i, t' 83 (6 + i) = if i = nf then nI w else t 83 (6 + i)) (mx : ∀ x, x ≠ 69 → x ≠ 71 → x ≠ 81 → x ≠ 82 → x ≠ 83 → t' x = t x) : DatI n nw (nf + 1) ft lt σ' t' := by
  unfold DatI at h ⊢
  rw [c28, c3, c3o 0 (by decide), c3o 4 (by decide), c3o 10 (by decide), cx 4 (by decide) (by decide) (by decide) (by decide) (by decide), cx 5 (by decide) (by decide) (by decide) (by decide) (by decide), cx 6 (by decide) (by decide) (by decide) (by decide) (by decide), cx 7 (by decide) (by decide) (by decide) (by decide) (by decide), cx 11 (by decide) (by decide) (by decide) (by decide) (by decide), cx 12 (by decide) (by decide) (by decide) (by decide) (by decide), cx 15 (by decide) (by decide) (by decide) (by decide) (by decide), m7, m71 5 (by decide), m71 6 (by decide), m71 8 (by decide), m71 9 (by decide), mx 72 (by decide) (by decide) (by decide) (by decide) (by decide), mx 73 (by decide) (by decide) (by decide) (by decide) (by decide), mx 74 (by decide) (by decide) (by decide) (by decide) (by decide), mx 75 (by decide) (by decide) (by decide) (by decide) (by decide), mx 76 (by decide) (by decide) (by decide) (by decide) (by decide), mx 77 (by decide) (by decide) (by decide) (by decide) (by decide), mx 78 (by decide) (by decide) (by decide) (by decide) (by decide), mx 79 (by decide) (by decide) (by decide) (by decide) (by decide), mx 80 (by decide) (by decide) (by decide) (by decide) (by decide), mx 84 (by decide) (by decide) (by decide) (by decide) (by decide)]
  obtain ⟨d1, d2, d3, d4, d5, d6, d7, d8, d9, d10, d11⟩ := h
  refine ⟨d1, d2, ⟨rfl, rfl, by omega⟩, d4, d5, d6, d7, d8, d9, fun f hf => ?_, d11⟩
  rw [m81, m82, m83, c8, c9, c10]
  by_cases e : f = nf
  · rw [if_pos e, if_pos e, if_pos e, if_pos e, if_pos e, if_pos e]
    exact ⟨rfl, rfl, rfl, ⟨a, ha, rfl⟩, ⟨v, hv, rfl⟩, w, hw, rfl⟩
  · rw [if_neg e, if_neg e, if_neg e, if_neg e, if_neg e, if_neg e]
    exact d10 f (by omega)
section FLDS
variable {b : Nat → Int32} {m K : Nat} {pl ln : Nat → Nat}
theorem p_field (hm : m ≤ 700) (hK : K ≤ m) (hT : TokB b m K pl ln) (hB : Bytes b) {n nw nf i : Nat} {ft lt : Bool} {σ t : St} (h : At b m K pl ln i σ t) (hiK : i < K) (hD : DatI n nw nf ft lt σ t) :
    BOut b m K pl ln (fX6_readField σ) (fX12_readField t) ft lt i σ t := by
  obtain ⟨h6, h7, hf6⟩ := hD.2.2.1
  by_cases hn : nf < 6
  · obtain ⟨σ1, t1, n1, n2, n3, n4, n5⟩ := p_next hm hK hT hB h hiK
    have hD1 := hD.rd n4.rd n5.rd
    have hi : inA (nI (6 + nf)) 12 := inA_lt (by decide) (by omega)
    have c1 : fX6_readField σ = bd (fX6_lookNumber (0 : Int32) (9 : Int32) σ1) (fun y_2 s_2 => bd (fX4_hasFieldAt 3 y_2 s_2) (fun y_3 s_3 => if y_3 = 0 then (fX6_readField_J46 y_2 s_3) else (bd (fX6_refuse (4 : Int32) s_3) (fun y_8 s_8 => fX6_readField_J46 y_2 s_8)))) := by
      rw [fX6_readField, h6, if_pos (by rw [zrt_6 _ (by omega)]; exact hn), fX6_readField_J18, fX6_takeFirst, if_pos rfl, n1, bd_some, bd_some]
    have m1 : fX12_readField t = bd (fX12_numberNow (0 : Int32) (9 : Int32) t1) (fun y_2 s_2 => fX12_readField_L56 (fun s_5 => fX12_readField_J94 (nI (6 + nf)) s_5) (nI (6 + nf)) FU (6 : Int32) (wr s_2 81 (6 + nf) y_2)) := by
      rw [fX12_readField, if_pos i7, zcl_7, h7, if_neg (by rw [zle_6 _ (by omega)]; omega), fX12_readField_J17, if_pos h.2.2.2.2.1, n2, bd_some, if_pos i7, zcl_7, hD1.2.2.1.2.1, zla_6, nI_clamp (by omega)]
      simp only [if_pos hi]
    rw [c1, m1]
    rcases p_number hm hT n3 (lo := 0) (hi := 9) (by decide) (by decide) with ⟨hi2, a, -, a2, e1, e2⟩ | ⟨y, σ2, t2, e1, e2, cc, f3, r1, r2⟩
    · have e1 : fX6_lookNumber (0 : Int32) (9 : Int32) σ1 = some (nI a, σ1) := e1
      have e2 : fX12_numberNow (0 : Int32) (9 : Int32) t1 = some (nI a, t1) := e2
      obtain ⟨u, hu⟩ : ∃ u, u = wr t1 81 (6 + nf) (nI a) := ⟨_, rfl⟩
      have hAu : At b m K pl ln (i + 1) σ1 u := by rw [hu]; exact n3.wm (by decide) (by decide)
      have hMu : LnM t u := by rw [hu]; exact n5.rd.ln.tr (LnM.w1 (by decide) (by decide) (by show 6 ≤ _; omega))
      have u81 : ∀ j, u 81 (6 + j) = if j = nf then nI a else t1 81 (6 + j) := fun j => by
        rw [hu]
        by_cases e : j = nf
        · rw [if_pos e, e, wr_hit]
        · rw [if_neg e, wr_place (by omega)]
      have ux : ∀ x, x ≠ 81 → u x = t1 x := fun x q1 => by rw [hu, wr_slot q1]
      obtain ⟨f1, f2, f3⟩ := p_fault hAu (c := 4) (by decide)
      obtain ⟨b1, b2⟩ := flt_rd (m := m) (K := K) (pl := pl) (i := i + 1) (σ := σ1) (t := u) 4
      have hdup := m_dupf hn (fun s_5 => fX12_readField_J94 (nI (6 + nf)) s_5) hAu.2.2.2.2.1 f2 f3.ne.2 nf 0 FU (by omega) (by show _ < 20000; omega)
      rw [show nI (6 + 0) = (6 : Int32) from rfl] at hdup
      rw [e1, e2, bd_some, bd_some, ← hu]
      have hsame : ∀ f, f < nf → (u 81 (6 + f) = u 81 (6 + nf) ↔ σ1 8 f = nI a) := fun f hf => by
        rw [u81, u81, if_neg (by omega), if_pos rfl, (hD1.2.2.2.2.2.2.2.2.2.1 f hf).1]
      rcases c_hasField hD1.2.2.1.1 (by omega) (nI a) with ⟨g1, g2⟩ | ⟨g1, f, g2, g3⟩
      · rcases hdup with ⟨k1, k2⟩ | ⟨k1, j, k2, k3⟩
        · rw [g1, bd_some, if_pos rfl, k1, fX6_readField_J46, fX12_readField_J94, if_pos hAu.2.2.2.2.1]
          obtain ⟨σ3, t3, x1, x2, x3, x4, x5⟩ := p_next hm hK hT hB hAu hi2
          rw [x1, x2, bd_some, bd_some, fX12_readField_J105]
          rcases p_takeNumber hm hK hT hB x3 (lo := 0) (hi := 9999) (by decide) (by decide) with ⟨v, σ4, t4, -, v2, y1, y2, hi5, h5, s1, s2⟩ | ⟨y, σ4, t4, y1, y2, cc, f4, s1, s2⟩
          · have y1 : fX6_takeNumber (0 : Int32) (9999 : Int32) σ3 = some (nI v, σ4) := y1
            have y2 : fX12_readNumber (0 : Int32) (9999 : Int32) t3 = some (nI v, t4) := y2
            rw [y1, y2, bd_some, bd_some, if_pos hi, nI_clamp (by omega)]
            dsimp only
            have hA5 : At b m K pl ln (i + 1 + 1 + 1) σ4 (wr t4 82 (6 + nf) (nI v)) := h5.wm (by decide) (by decide)
            rcases p_takeNumber hm hK hT hB hA5 (lo := 0) (hi := 9999) (by decide) (by decide) with ⟨w, σ6, t6, -, w2, z1, z2, hi6, h66, q1, q2⟩ | ⟨y, σ6, t6, z1, z2, cc, f4, q1, q2⟩
            · have z1 : fX6_takeNumber (0 : Int32) (9999 : Int32) σ4 = some (nI w, σ6) := z1
              have z2 : fX12_readNumber (0 : Int32) (9999 : Int32) (wr t4 82 (6 + nf) (nI v)) = some (nI w, t6) := z2
              have sx : ∀ x, x ≠ 2 → σ6 x = σ1 x := fun x q => by rw [q1.1 x q, s1.1 x q, x4.1 x q]
              have tx : ∀ x, x ≠ 69 → x ≠ 82 → t6 x = u x := fun x q q' => by rw [q2.1 x q, wr_slot q', s2.1 x q, x5.1 x q]
              have c36 : σ6 3 6 = nI nf := by rw [sx 3 (by decide)]; exact hD1.2.2.1.1
              have t77 : t6 71 7 = nI nf := by rw [tx 71 (by decide) (by decide), ux 71 (by decide)]; exact hD1.2.2.1.2.1
              rw [z1, z2, bd_some, bd_some, if_pos h66.2.2.2.1, c_addField c36 hn, bd_some, if_pos hi, if_pos i7, if_pos i7, zcl_7, wr_slot (show (71 : Nat) ≠ 83 by decide), t77, zra_1]
              left
              refine ⟨i + 1 + 1 + 1 + 1, n, nw, nf + 1, _, _, rfl, rfl, h66.cong (fun x q1 q2 => by rw [wr_slot (by omega), wr_slot (by omega), wr_slot (by omega), wr_slot (by omega)]) (fun y _ _ => by rw [wr_slot (by decide), wr_slot (by decide), wr_slot (by decide), wr_slot (by decide)]) (fun y _ _ => by rw [wr_slot (by decide), wr_slot (by decide)]) (by rw [wr_slot (by decide), wr_slot (by decide)]), by omega, ?_, ((((n4.rd.ln.tr (x4.rd.ln.tr (s1.ln.tr q1.ln))).tr (LnC.w1 (by decide) (by decide))).tr (LnC.w1 (by decide) (by decide))).tr (LnC.w1 (by decide) (by decide))).tr (LnC.w1 (by decide) (by decide)), (((hMu.tr (x5.rd.ln.tr s2.ln)).tr (LnM.w1 (by decide) (by decide) (by show 6 ≤ _; omega))).tr q2.ln).tr ((LnM.w1 (by decide) (by decide) (by show 6 ≤ _; omega)).tr (LnM.w1 (by decide) (by decide) (by decide)))⟩
              refine dat_field hD1 hn (a := a) (v := v) (w := w) (by omega) v2 w2 wr_hit (fun j hj => ?_) (fun f => ?_) (fun f => ?_) (fun f => ?_) (fun x q1 q2 q3 q4 q5 => ?_) ?_ wr_hit (fun j hj => ?_) (fun j => ?_) (fun j => ?_) (fun j => ?_) (fun x q1 q2 q3 q4 q5 => ?_)
              · rw [wr_place hj, wr_slot (by decide), wr_slot (by decide), wr_slot (by decide), sx 3 (by decide)]
              · rw [wr_slot (by decide), wr_slot (by decide), wr_slot (by decide)]
                by_cases e : f = nf
                · rw [if_pos e, e, wr_hit]
                · rw [if_neg e, wr_place e, sx 8 (by decide)]
              · rw [wr_slot (by decide), wr_slot (by decide)]
                by_cases e : f = nf
                · rw [if_pos e, e, wr_hit]
                · rw [if_neg e, wr_place e, wr_slot (by decide), sx 9 (by decide)]
              · rw [wr_slot (by decide)]
                by_cases e : f = nf
                · rw [if_pos e, e, wr_hit]
                · rw [if_neg e, wr_place e, wr_slot (by decide), wr_slot (by decide), sx 10 (by decide)]
              · rw [wr_slot q1, wr_slot q4, wr_slot q3, wr_slot q2, sx x q5]
              · rw [wr_slot (by decide), wr_slot (by decide), wr_slot (by decide), wr_slot (by decide), q1.2 8 (by decide) (by decide) (by decide) (by decide), s1.2 8 (by decide) (by decide) (by decide) (by decide), x4.2 8 (by decide) (by decide) (by decide)]
              · rw [wr_place hj, wr_slot (by decide), tx 71 (by decide) (by decide), ux 71 (by decide)]
              · rw [wr_slot (by decide), wr_slot (by decide), tx 81 (by decide) (by decide), u81]
              · rw [wr_slot (by decide), wr_slot (by decide), q2.1 82 (by decide)]
                by_cases e : j = nf
                · rw [if_pos e, e, wr_hit]
                · rw [if_neg e, wr_place (by omega), s2.1 82 (by decide), x5.1 82 (by decide), ux 82 (by decide)]
              · rw [wr_slot (by decide)]
                by_cases e : j = nf
                · rw [if_pos e, e, wr_hit]
                · rw [if_neg e, wr_place (by omega), tx 83 (by decide) (by decide), ux 83 (by decide)]
              · rw [wr_slot q2, wr_slot q5, tx x q1 q4, ux x q3]
            · have z1 : fX6_takeNumber (0 : Int32) (9999 : Int32) σ4 = some (y, σ6) := z1
              have z2 : fX12_readNumber (0 : Int32) (9999 : Int32) (wr t4 82 (6 + nf) (nI v)) = some (0, t6) := z2
              rw [z1, z2, bd_some, bd_some, if_neg f4.ne.1, if_pos hi, if_pos i7, if_pos i7, zcl_7]
              right
              exact ⟨σ6, _, _, cc, rfl, rfl, f4.cong rfl (by rw [wr_slot (by decide), wr_slot (by decide)]), n4.rd.ln.tr (x4.rd.ln.tr (s1.ln.tr q1.ln)), (((hMu.tr (x5.rd.ln.tr s2.ln)).tr (LnM.w1 (by decide) (by decide) (by show 6 ≤ _; omega))).tr q2.ln).tr ((LnM.w1 (by decide) (by decide) (by show 6 ≤ _; omega)).tr (LnM.w1 (by decide) (by decide) (by decide)))⟩
          · have y1 : fX6_takeNumber (0 : Int32) (9999 : Int32) σ3 = some (y, σ4) := y1
            have y2 : fX12_readNumber (0 : Int32) (9999 : Int32) t3 = some (0, t4) := y2
            have hne : ¬ (wr t4 82 (6 + nf) 0) 69 26 = 0 := by rw [wr_slot (by decide)]; exact f4.ne.2
            rw [y1, y2, bd_some, bd_some, fz_takeNumber f4.ne.1, bd_some, if_neg f4.ne.1, if_pos hi, nI_clamp (by omega)]
            dsimp only
            rw [fz_readNumber hne, bd_some, if_pos hi, if_pos i7, if_pos i7, zcl_7]
            right
            exact ⟨σ4, _, _, cc, rfl, rfl, f4.cong rfl (by rw [wr_slot (by decide), wr_slot (by decide), wr_slot (by decide)]), n4.rd.ln.tr (x4.rd.ln.tr s1.ln), ((hMu.tr (x5.rd.ln.tr s2.ln)).tr (LnM.w1 (by decide) (by decide) (by show 6 ≤ _; omega))).tr ((LnM.w1 (by decide) (by decide) (by show 6 ≤ _; omega)).tr (LnM.w1 (by decide) (by decide) (by decide)))⟩
        · exact absurd ((hsame j k2).mp k3) (g2 j k2)
      · rcases hdup with ⟨k1, k2⟩ | ⟨k1, j, k2, k3⟩
        · exact absurd ((hsame f g2).mpr g3) (k2 f (by omega) g2)
        · obtain ⟨t6, w1, w2, w3⟩ := fzm_fJ94 hn f3.ne.2
          rw [g1, bd_some, if_neg (by decide), f1, bd_some, fz_fJ46 f3.ne.1, k1]
          exact Or.inr ⟨_, t6, _, 4, rfl, w1, f3.cong rfl w2, n4.rd.ln.tr b1.ln, hMu.tr (b2.ln.tr w3)⟩
    · have e1 : fX6_lookNumber (0 : Int32) (9 : Int32) σ1 = some (y, σ2) := e1
      have e2 : fX12_numberNow (0 : Int32) (9 : Int32) t1 = some (0, t2) := e2
      have hne : ¬ (wr t2 81 (6 + nf) 0) 69 26 = 0 := by rw [wr_slot (by decide)]; exact f3.ne.2
      obtain ⟨t6, w1, w2, w3⟩ := fzm_fJ94 hn hne
      have hc : bd (fX4_hasFieldAt 3 y σ2) (fun y_3 s_3 => if y_3 = 0 then (fX6_readField_J46 y s_3) else (bd (fX6_refuse (4 : Int32) s_3) (fun y_8 s_8 => fX6_readField_J46 y s_8))) = some (0, σ2) := by
        rcases c_hasField (σ := σ2) (nf := nf) (by rw [r1.1 3 (by decide)]; exact hD1.2.2.1.1) (by omega) y with ⟨g1, -⟩ | ⟨g1, -⟩
        · rw [g1, bd_some, if_pos rfl, fz_fJ46 f3.ne.1]
        · rw [g1, bd_some, if_neg (by decide), fz_refuse f3.ne.1, bd_some, fz_fJ46 f3.ne.1]
      rw [e1, e2, bd_some, bd_some, hc]
      right
      refine ⟨σ2, t6, _, cc, rfl, ?_, f3.cong rfl (w2.trans (wr_slot (by decide))), n4.rd.ln.tr r1.ln, (n5.rd.ln.tr r2.ln).tr ((LnM.w1 (by decide) (by decide) (by show 6 ≤ _; omega)).tr w3)⟩
      show fX12_readField_L56 _ _ (19999 + 1) _ _ = _
      rw [fzm_fL56 hne]
      exact w1
  · obtain rfl : nf = 6 := by omega
    obtain ⟨σ1, t1, f1, f2, ⟨cc, f3, r1, r2⟩, -⟩ := p_flt h (c := 2) (by decide)
    have hr : fX12_readField t = some (0, t1) := by
      rw [fX12_readField, if_pos i7, zcl_7, h7, if_pos (show nI 6 = (6 : Int32) from rfl), f2, bd_some, fX12_readField_J17, if_neg f3.ne.2]
    have hc : fX6_readField σ = some (0, σ1) := by
      rw [fX6_readField, h6, if_neg (by decide), fX6_readField_J18, fX6_takeFirst, if_neg (by decide), f1, bd_some, fz_advance f3.ne.1, bd_some, bd_some, fz_look f3.ne.1, bd_some]
      rcases c_hasField (σ := σ1) (nf := 6) (by rw [r1.1 3 (by decide)]; exact h6) (by omega) (σ1 2 7) with ⟨g1, -⟩ | ⟨g1, -⟩
      · rw [g1, bd_some, if_pos rfl, fz_fJ46 f3.ne.1]
      · rw [g1, bd_some, if_neg (by decide), fz_refuse f3.ne.1, bd_some, fz_fJ46 f3.ne.1]
    exact Or.inr ⟨σ1, t1, _, cc, hc, hr, f3, r1.ln, r2.ln⟩
end FLDS
