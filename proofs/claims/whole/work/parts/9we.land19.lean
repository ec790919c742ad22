/-! ===== land: the line of a will ===== -/
theorem i6 : inA (6 : Int32) 10 := by decide
theorem fz_wJ58 {σ : St} (h : ¬ σ 2 4 = 0) (v1 v2 : Int32) : fX6_readWill_J58 v1 v2 σ = some (0, σ) := by
  rw [fX6_readWill_J58, fz_advance h, bd_some, fz_takeNumber h, bd_some, if_neg h]
theorem fzm_wJ133 {nw : Nat} (hn : nw < 12) {t : St} (h : ¬ t 69 26 = 0) : ∃ t', fX12_readWill_J133 (nI (12 + nw)) t = some (0, t') ∧ t' 69 = t 69 ∧ LnM t t' := by
  refine ⟨_, ?_, ?_, (LnM.w1 (k := 80) (j := 12 + nw) (v := 0) (by decide) (by decide) (by show 12 ≤ _; omega)).tr (LnM.w1 (k := 71) (j := 6) (v := (wr t 80 (12 + nw) 0) 71 6 + 1) (by decide) (by decide) (by decide))⟩
  · rw [fX12_readWill_J133, fz_readNumber h, bd_some, if_pos (inA_lt (by decide) (by omega)), nI_clamp (by omega)]
    dsimp only
    rw [if_pos i6, if_pos i6, zcl_6]
  · rw [wr_slot (by decide), wr_slot (by decide)]
theorem fzm_wJ122 {nw : Nat} (hn : nw < 12) {t : St} (h : ¬ t 69 26 = 0) : ∃ t', fX12_readWill_J122 (nI (12 + nw)) t = some (0, t') ∧ t' 69 = t 69 ∧ LnM t t' := by
  rw [fX12_readWill_J122, if_neg h]
  exact fzm_wJ133 hn h
theorem fzm_wL69 {t : St} (h : ¬ t 69 26 = 0) (k122 : St → Option (Int32 × St)) (c1 v2 : Int32) (fu : Nat) : fX12_readWill_L69 k122 c1 (fu + 1) v2 t = k122 t := by
  rw [fX12_readWill_L69, if_neg h]
  by_cases e : c1 ≤ v2
  · rw [if_pos e]
  · rw [if_neg e]
/-- the look for a will told already -/
theorem m_dups {nw : Nat} (hn : nw < 12) {t t' : St} (k122 : St → Option (Int32 × St)) (h0 : t 69 26 = 0) (hw : fX12_wrong 4 t = some (0, t')) (hf : ¬ t' 69 26 = 0) : ∀ k j fu, j + k = nw → k < fu →
    (fX12_readWill_L69 k122 (nI (12 + nw)) fu (nI (12 + j)) t = k122 t ∧ ∀ i, j ≤ i → i < nw → ¬ (t 78 (12 + i) = t 78 (12 + nw) ∧ t 79 (12 + i) = t 79 (12 + nw))) ∨
    (fX12_readWill_L69 k122 (nI (12 + nw)) fu (nI (12 + j)) t = k122 t' ∧ ∃ i, i < nw ∧ t 78 (12 + i) = t 78 (12 + nw) ∧ t 79 (12 + i) = t 79 (12 + nw)) := by
  intro k
  induction k with
  | zero =>
    intro j fu hj hfu
    obtain ⟨fu, rfl⟩ : ∃ z, fu = z + 1 := ⟨fu - 1, by omega⟩
    obtain rfl : j = nw := by omega
    left
    exact ⟨by rw [fX12_readWill_L69, if_pos (Int32.le_refl _)], fun i h1 h2 => absurd h2 (by omega)⟩
  | succ k ih =>
    intro j fu hj hfu
    obtain ⟨fu, rfl⟩ : ∃ z, fu = z + 2 := ⟨fu - 2, by omega⟩
    have hi1 : inA (nI (12 + j)) 24 := inA_lt (by decide) (by omega)
    have hi2 : inA (nI (12 + nw)) 24 := inA_lt (by decide) (by omega)
    have hI := ih (j + 1) (fu + 1) (by omega) (by omega)
    have hx : nI (12 + j) + 1 = nI (12 + (j + 1)) := zra_1 (12 + j)
    have go : ¬ (t 78 (12 + j) = t 78 (12 + nw) ∧ t 79 (12 + j) = t 79 (12 + nw)) → fX12_readWill_L69 k122 (nI (12 + nw)) (fu + 2) (nI (12 + j)) t = fX12_readWill_L69 k122 (nI (12 + nw)) (fu + 1) (nI (12 + (j + 1))) t := fun q => by
      rw [fX12_readWill_L69, if_neg (by rw [nI_leI (by omega) (by omega)]; omega), if_pos h0, if_pos hi1, if_pos hi2, nI_clamp (by omega), nI_clamp (by omega), hx]
      by_cases e1 : t 78 (12 + j) = t 78 (12 + nw)
      · rw [if_pos e1, if_pos hi1, if_pos hi2, if_neg (fun e2 => q ⟨e1, e2⟩)]
      · rw [if_neg e1]
    by_cases e : t 78 (12 + j) = t 78 (12 + nw) ∧ t 79 (12 + j) = t 79 (12 + nw)
    · right
      refine ⟨?_, j, by omega, e.1, e.2⟩
      rw [fX12_readWill_L69, if_neg (by rw [nI_leI (by omega) (by omega)]; omega), if_pos h0, if_pos hi1, if_pos hi2, nI_clamp (by omega), nI_clamp (by omega), if_pos e.1, if_pos hi1, if_pos hi2, if_pos e.2, hw, bd_some, fzm_wL69 hf]
    · rw [go e]
      rcases hI with ⟨g1, g2⟩ | ⟨g1, g2⟩
      · left
        refine ⟨g1, fun i q1 q2 => ?_⟩
        by_cases z : i = j
        · rw [z]; exact e
        · exact g2 i (by omega) q2
      · exact Or.inr ⟨g1, g2⟩
theorem c_left3 {σ : St} {a c : Nat} (ha : a < 12) (hc : c < 12) : fX4_left 3 (nI a) (nI c) σ = some (σ 7 (12 * a + c), σ) := by
  rw [fX4_left, zrm_12, nI_add, at_nI (r := 7) (by decide) (by show _ < 144; omega), bd_some, Nat.mul_comm]
theorem c_addWill {σ : St} {a c nw : Nat} {v : Int32} (ha : a < 12) (hc : c < 12) (h : σ 3 4 = nI nw) : fX4_addWill 3 (nI a) (nI c) v σ = some (0, wr (wr σ 7 (12 * a + c) v) 3 4 (nI (nw + 1))) := by
  rw [fX4_addWill, zrm_12, nI_add, put_nI (r := 7) (by decide) (by show _ < 144; omega), bd_some]
  dsimp only
  rw [wr_slot (show (3 : Nat) ≠ 7 by decide), h, zra_1, Nat.mul_comm]
theorem dat_will {n nw nf : Nat} {ft lt : Bool} {σ t σ' t' : St} {a c v : Nat} (h : DatI n nw nf ft lt σ t) (hn : nw < 12) (ha : a < n) (hc : c < n) (hac : a ≠ c) (hv1 : 1 ≤ v) (hv2 : v ≤ 99) (hno : ∀ i, i < nw → ¬ (t 78 (12 + i) = nI a ∧ t 79 (12 + i) = nI c))
    (c3 : σ' 3 4 = nI (nw + 1)) (c3o : ∀ j, j ≠ 4 → σ' 3 j = σ 3 j) (c7 : ∀ x y, x < 12 → y < 12 → σ' 7 (12 * x + y) = if x = a ∧ y = c then nI v else σ 7 (12 * x + y)) (cx : ∀ x, x ≠ 3 → x ≠ 7 → x ≠ 2 → σ' x = σ x) (c28 : σ' 2 8 = σ 2 8)
    (m6 : t' 71 6 = nI (nw + 1)) (m71 : ∀ j, j ≠ 6 → t' 71 j = t 71 j) (m78 : ∀ i, t' 78 (12 + i) = if i = nw then nI a else t 78 (12 + i)) (m79 : ∀ i, t' 79 (12 + i) = if i = nw then nI c else t 79 (12 + i)) (m80 : ∀ i, t' 80 (12 + i) = if i = nw then nI v else t 80 (12 + i)) (mx : ∀ x, x ≠ 69 → x ≠ 71 → x ≠ 78 → x ≠ 79 → x ≠ 80 → t' x = t x) : DatI n (nw + 1) nf ft lt σ' t' := by
  unfold DatI at h ⊢
  rw [c28, c3, c3o 0 (by decide), c3o 6 (by decide), c3o 10 (by decide), cx 4 (by decide) (by decide) (by decide), cx 5 (by decide) (by decide) (by decide), cx 6 (by decide) (by decide) (by decide), cx 8 (by decide) (by decide) (by decide), cx 9 (by decide) (by decide) (by decide), cx 10 (by decide) (by decide) (by decide), cx 11 (by decide) (by decide) (by decide), cx 12 (by decide) (by decide) (by decide), cx 15 (by decide) (by decide) (by decide), m6, m71 5 (by decide), m71 7 (by decide), m71 8 (by decide), m71 9 (by decide), mx 72 (by decide) (by decide) (by decide) (by decide) (by decide), mx 73 (by decide) (by decide) (by decide) (by decide) (by decide), mx 74 (by decide) (by decide) (by decide) (by decide) (by decide), mx 75 (by decide) (by decide) (by decide) (by decide) (by decide), mx 76 (by decide) (by decide) (by decide) (by decide) (by decide), mx 77 (by decide) (by decide) (by decide) (by decide) (by decide), mx 81 (by decide) (by decide) (by decide) (by decide) (by decide), mx 82 (by decide) (by decide) (by decide) (by decide) (by decide), mx 83 (by decide) (by decide) (by decide) (by decide) (by decide), mx 84 (by decide) (by decide) (by decide) (by decide) (by decide)]
  obtain ⟨d1, d2, d3, d4, d5, d6, d7, d8, d9, d10, ⟨a1, a2, a3⟩, d12⟩ := h
  have h12 := d1.2.2
  refine ⟨d1, ⟨rfl, rfl, by omega⟩, d3, d4, d5, d6, d7, d8, d9, d10, ⟨fun i hi => ?_, fun i j hi hj e1 e2 => ?_, fun x y hx hy he => ?_⟩, d12⟩
  · rw [m78, m79, m80]
    by_cases e : i = nw
    · rw [if_pos e, if_pos e, if_pos e]
      exact ⟨a, c, v, ha, hc, hac, hv1, hv2, rfl, rfl, rfl, by rw [c7 a c (by omega) (by omega), if_pos ⟨rfl, rfl⟩]⟩
    · rw [if_neg e, if_neg e, if_neg e]
      obtain ⟨x, y, w, b1, b2, b3, b4, b5, b6, b7, b8, b9⟩ := a1 i (by omega)
      refine ⟨x, y, w, b1, b2, b3, b4, b5, b6, b7, b8, ?_⟩
      rw [c7 x y (by omega) (by omega), if_neg, b9]
      rintro ⟨rfl, rfl⟩
      exact hno i (by omega) ⟨b6, b7⟩
  · rw [m78, m78] at e1
    rw [m79, m79] at e2
    by_cases e : i = nw
    · by_cases e' : j = nw
      · omega
      · rw [if_pos e, if_neg e'] at e1 e2
        exact absurd ⟨e1.symm, e2.symm⟩ (hno j (by omega))
    · by_cases e' : j = nw
      · rw [if_neg e, if_pos e'] at e1 e2
        exact absurd ⟨e1, e2⟩ (hno i (by omega))
      · rw [if_neg e, if_neg e'] at e1 e2
        exact a2 i j (by omega) (by omega) e1 e2
  · rw [c7 x y hx hy] at he
    by_cases e : x = a ∧ y = c
    · exact ⟨nw, by omega, by rw [m78, if_pos rfl, e.1], by rw [m79, if_pos rfl, e.2]⟩
    · rw [if_neg e] at he
      obtain ⟨i, i1, i2, i3⟩ := a3 x y hx hy he
      exact ⟨i, by omega, by rw [m78, if_neg (by omega)]; exact i2, by rw [m79, if_neg (by omega)]; exact i3⟩
section WILLS
variable {b : Nat → Int32} {m K : Nat} {pl ln : Nat → Nat}
theorem p_will (hm : m ≤ 700) (hK : K ≤ m) (hT : TokB b m K pl ln) (hB : Bytes b) {n nw nf i : Nat} {ft lt : Bool} {σ t : St} (h : At b m K pl ln i σ t) (hiK : i < K) (hD : DatI n nw nf ft lt σ t) :
    BOut b m K pl ln (fX6_readWill σ) (fX12_readWill t) ft lt i σ t := by
  obtain ⟨h4, h6, hw12⟩ := hD.2.1
  have h12 := hD.1.2.2
  by_cases hn : nw < 12
  · obtain ⟨σ1, t1, n1, n2, n3, n4, n5⟩ := p_next hm hK hT hB h hiK
    have hD1 := hD.rd n4.rd n5.rd
    have hi : inA (nI (12 + nw)) 24 := inA_lt (by decide) (by omega)
    have c1 : fX6_readWill σ = bd (fX6_takePerson (-1) σ1) (fun y_2 s_2 => bd (fX6_lookPerson y_2 s_2) (fun y_3 s_3 => if (s_3 2 4) = 0 then (bd (fX4_left 3 y_2 y_3 s_3) (fun y_7 s_7 => if y_7 ≤ 0 then (fX6_readWill_J58 y_2 y_3 s_7) else (bd (fX6_refuse (4 : Int32) s_7) (fun y_8 s_8 => fX6_readWill_J58 y_2 y_3 s_8)))) else (fX6_readWill_J58 y_2 y_3 s_3))) := by
      rw [fX6_readWill, h4, if_pos (by rw [zrt_12 _ (by omega)]; exact hn), fX6_readWill_J18, fX6_takeFirst, if_pos rfl, n1, bd_some, bd_some]
    have m1 : fX12_readWill t = bd (fX12_readPerson t1) (fun y_2 s_2 => bd (fX12_otherNow y_2 (wr s_2 78 (12 + nw) y_2)) (fun y_4 s_4 => fX12_readWill_L69 (fun s_7 => fX12_readWill_J122 (nI (12 + nw)) s_7) (nI (12 + nw)) FU (12 : Int32) (wr s_4 79 (12 + nw) y_4))) := by
      rw [fX12_readWill, if_pos i6, zcl_6, h6, if_neg (by rw [zle_12 _ (by omega)]; omega), fX12_readWill_J17, if_pos h.2.2.2.2.1, n2, bd_some, if_pos i6, zcl_6, hD1.2.1.2.1, zla_12, nI_clamp (by omega)]
      simp only [if_pos hi, wr_hit]
    rw [c1, m1]
    rcases p_takePerson hm hK hT hB n3 (by omega) hD1.1.1 hD1.1.2.1 with ⟨a, σ2, t2, a1, e1, e2, hi2, h2, r1, r2⟩ | ⟨y, y', σ2, t2, e1, e2, cc, f3, r1, r2⟩
    · have hD2 := hD1.rd r1 r2
      rw [e1, e2, bd_some, bd_some]
      have hA : At b m K pl ln (i + 1 + 1) σ2 (wr t2 78 (12 + nw) (nI a)) := h2.wm (by decide) (by decide)
      have hL2 : LnC σ σ2 := n4.rd.ln.tr r1.ln
      have hM2 : LnM t (wr t2 78 (12 + nw) (nI a)) := (n5.rd.ln.tr r2.ln).tr (LnM.w1 (by decide) (by decide) (by show 12 ≤ _; omega))
      rcases p_other hm hT hA (n := n) (by omega) hD2.1.1 (by rw [wr_slot (by decide)]; exact hD2.1.2.1) (nI a) with ⟨hi3, c, c1', c2, g1, g2, -⟩ | ⟨⟨z, z', σ3, t3, g1, g2, cc, f3, q1, q2⟩, -⟩
      · have hac : a ≠ c := fun q => c2 (by rw [q])
        obtain ⟨u, hu⟩ : ∃ u, u = wr (wr t2 78 (12 + nw) (nI a)) 79 (12 + nw) (nI c) := ⟨_, rfl⟩
        have hAu : At b m K pl ln (i + 1 + 1) σ2 u := by rw [hu]; exact hA.wm (by decide) (by decide)
        have hMu : LnM t u := by rw [hu]; exact hM2.tr (LnM.w1 (by decide) (by decide) (by show 12 ≤ _; omega))
        have u78 : ∀ j, u 78 (12 + j) = if j = nw then nI a else t2 78 (12 + j) := fun j => by
          rw [hu, wr_slot (by decide)]
          by_cases e : j = nw
          · rw [if_pos e, e, wr_hit]
          · rw [if_neg e, wr_place (by omega)]
        have u79 : ∀ j, u 79 (12 + j) = if j = nw then nI c else t2 79 (12 + j) := fun j => by
          rw [hu]
          by_cases e : j = nw
          · rw [if_pos e, e, wr_hit]
          · rw [if_neg e, wr_place (by omega), wr_slot (by decide)]
        have ux : ∀ x, x ≠ 78 → x ≠ 79 → u x = t2 x := fun x q1 q2 => by rw [hu, wr_slot q2, wr_slot q1]
        rw [g1, g2, bd_some, bd_some, ← hu, if_pos hA.2.2.2.1, c_left3 (by omega) (by omega), bd_some]
        obtain ⟨f1, f2, f3⟩ := p_fault hAu (c := 4) (by decide)
        obtain ⟨b1, b2⟩ := flt_rd (m := m) (K := K) (pl := pl) (i := i + 1 + 1) (σ := σ2) (t := u) 4
        have hdup := m_dups hn (fun s_7 => fX12_readWill_J122 (nI (12 + nw)) s_7) hAu.2.2.2.2.1 f2 f3.ne.2 nw 0 FU (by omega) (by show _ < 20000; omega)
        rw [show nI (12 + 0) = (12 : Int32) from rfl] at hdup
        rcases hdup with ⟨k1, k2⟩ | ⟨k1, j, k2, k3, k4⟩
        · have hno : ∀ j, j < nw → ¬ (t2 78 (12 + j) = nI a ∧ t2 79 (12 + j) = nI c) := fun j hj q => k2 j (by omega) hj ⟨by rw [u78, u78, if_neg (by omega), if_pos rfl]; exact q.1, by rw [u79, u79, if_neg (by omega), if_pos rfl]; exact q.2⟩
          have hz : σ2 7 (12 * a + c) = 0 := by
            by_cases e : σ2 7 (12 * a + c) = 0
            · exact e
            · obtain ⟨j, j1, j2, j3⟩ := hD2.2.2.2.2.2.2.2.2.2.2.1.2.2 a c (by omega) (by omega) e
              exact absurd ⟨j2, j3⟩ (hno j j1)
          rw [k1, hz, if_pos (Int32.le_refl _), fX6_readWill_J58, fX12_readWill_J122, if_pos hAu.2.2.2.2.1]
          obtain ⟨σ3, t3, x1, x2, x3, x4, x5⟩ := p_next hm hK hT hB hAu hi3
          rw [x1, x2, bd_some, bd_some, fX12_readWill_J133]
          rcases p_takeNumber hm hK hT hB x3 (lo := 1) (hi := 99) (by decide) (by decide) with ⟨v, σ4, t4, v1, v2, y1, y2, hi5, h5, s1, s2⟩ | ⟨y, σ4, t4, y1, y2, cc, f3, s1, s2⟩
          · have y1 : fX6_takeNumber (1 : Int32) (99 : Int32) σ3 = some (nI v, σ4) := y1
            have y2 : fX12_readNumber (1 : Int32) (99 : Int32) t3 = some (nI v, t4) := y2
            have c34 : σ4 3 4 = nI nw := by rw [s1.1 3 (by decide), x4.1 3 (by decide)]; exact hD2.2.1.1
            have t46 : t4 71 6 = nI nw := by rw [s2.1 71 (by decide), x5.1 71 (by decide), ux 71 (by decide) (by decide)]; exact hD2.2.1.2.1
            have tx : ∀ x, x ≠ 69 → t4 x = u x := fun x q => by rw [s2.1 x q, x5.1 x q]
            have sx : ∀ x, x ≠ 2 → σ4 x = σ2 x := fun x q => by rw [s1.1 x q, x4.1 x q]
            rw [y1, y2, bd_some, bd_some, if_pos h5.2.2.2.1, c_addWill (by omega) (by omega) c34, bd_some, if_pos hi, nI_clamp (by omega)]
            dsimp only
            rw [if_pos i6, if_pos i6, zcl_6, wr_slot (show (71 : Nat) ≠ 80 by decide), t46, zra_1]
            left
            refine ⟨i + 1 + 1 + 1 + 1, n, nw + 1, nf, _, _, rfl, rfl, h5.cong (fun x q1 q2 => by rw [wr_slot (by omega), wr_slot (by omega)]) (fun y _ _ => by rw [wr_slot (by decide), wr_slot (by decide)]) (fun y _ _ => by rw [wr_slot (by decide), wr_slot (by decide)]) (by rw [wr_slot (by decide), wr_slot (by decide)]), by omega, ?_, ((hL2.tr (x4.rd.ln.tr s1.ln)).tr (LnC.w1 (by decide) (by decide))).tr (LnC.w1 (by decide) (by decide)), ((hMu.tr (x5.rd.ln.tr s2.ln)).tr (LnM.w1 (by decide) (by decide) (by show 12 ≤ _; omega))).tr (LnM.w1 (by decide) (by decide) (by decide))⟩
            refine dat_will hD2 hn a1 c1' hac v1 v2 hno wr_hit (fun j hj => ?_) (fun x y hx hy => ?_) (fun x q1 q2 q3 => ?_) ?_ wr_hit (fun j hj => ?_) (fun j => ?_) (fun j => ?_) (fun j => ?_) (fun x q1 q2 q3 q4 q5 => ?_)
            · rw [wr_place hj, wr_slot (by decide), sx 3 (by decide)]
            · rw [wr_slot (by decide)]
              by_cases e : x = a ∧ y = c
              · rw [if_pos e, e.1, e.2, wr_hit]
              · rw [if_neg e, wr_place (by omega), sx 7 (by decide)]
            · rw [wr_slot q1, wr_slot q2, sx x q3]
            · rw [wr_slot (by decide), wr_slot (by decide), s1.2 8 (by decide) (by decide) (by decide) (by decide), x4.2 8 (by decide) (by decide) (by decide)]
            · rw [wr_place hj, wr_slot (by decide), tx 71 (by decide), ux 71 (by decide) (by decide)]
            · rw [wr_slot (by decide), wr_slot (by decide), tx 78 (by decide), u78]
            · rw [wr_slot (by decide), wr_slot (by decide), tx 79 (by decide), u79]
            · rw [wr_slot (by decide)]
              by_cases e : j = nw
              · rw [if_pos e, e, wr_hit]
              · rw [if_neg e, wr_place (by omega), tx 80 (by decide), ux 80 (by decide) (by decide)]
            · rw [wr_slot q2, wr_slot q5, tx x q1, ux x q3 q4]
          · have y1 : fX6_takeNumber (1 : Int32) (99 : Int32) σ3 = some (y, σ4) := y1
            have y2 : fX12_readNumber (1 : Int32) (99 : Int32) t3 = some (0, t4) := y2
            rw [y1, y2, bd_some, bd_some, if_neg f3.ne.1, if_pos hi, nI_clamp (by omega)]
            dsimp only
            rw [if_pos i6, if_pos i6, zcl_6]
            right
            exact ⟨σ4, _, _, cc, rfl, rfl, f3.cong rfl (by rw [wr_slot (by decide), wr_slot (by decide)]), hL2.tr (x4.rd.ln.tr s1.ln), ((hMu.tr (x5.rd.ln.tr s2.ln)).tr (LnM.w1 (by decide) (by decide) (by show 12 ≤ _; omega))).tr (LnM.w1 (by decide) (by decide) (by decide))⟩
        · have hpos : ¬ σ2 7 (12 * a + c) ≤ 0 := by
            obtain ⟨x, y, w, b1, b2, b3, b4, b5, b6, b7, b8, b9⟩ := hD2.2.2.2.2.2.2.2.2.2.2.1.1 j k2
            rw [u78, u78, if_neg (by omega), if_pos rfl, b6] at k3
            rw [u79, u79, if_neg (by omega), if_pos rfl, b7] at k4
            have hxa : x = a := (nI_eq (by omega) (by omega)).mp k3
            have hyc : y = c := (nI_eq (by omega) (by omega)).mp k4
            rw [← hxa, ← hyc, b9, zrl_0 _ (by omega)]
            omega
          obtain ⟨t6, w1, w2, w3⟩ := fzm_wJ122 hn f3.ne.2
          rw [if_neg hpos, f1, bd_some, fz_wJ58 f3.ne.1, k1]
          right
          exact ⟨_, t6, _, 4, rfl, w1, f3.cong rfl w2, hL2.tr b1.ln, hMu.tr (b2.ln.tr w3)⟩
      · have hne : ¬ (wr t3 79 (12 + nw) z') 69 26 = 0 := by rw [wr_slot (by decide)]; exact f3.ne.2
        obtain ⟨t6, w1, w2, w3⟩ := fzm_wJ122 hn hne
        rw [g1, g2, bd_some, bd_some, if_neg f3.ne.1, fz_wJ58 f3.ne.1]
        right
        refine ⟨_, t6, _, cc, rfl, ?_, f3.cong rfl (w2.trans (wr_slot (by decide))), hL2.tr q1.ln, (hM2.tr q2.ln).tr ((LnM.w1 (by decide) (by decide) (by show 12 ≤ _; omega)).tr w3)⟩
        show fX12_readWill_L69 _ _ (19999 + 1) _ _ = _
        rw [fzm_wL69 hne]
        exact w1
    · have hne1 : ¬ (wr t2 78 (12 + nw) y') 69 26 = 0 := by rw [wr_slot (by decide)]; exact f3.ne.2
      have hne : ¬ (wr (wr t2 78 (12 + nw) y') 79 (12 + nw) 0) 69 26 = 0 := by rw [wr_slot (by decide)]; exact hne1
      obtain ⟨t6, w1, w2, w3⟩ := fzm_wJ122 hn hne
      rw [e1, e2, bd_some, bd_some, fz_person f3.ne.1, bd_some, if_neg f3.ne.1, fz_wJ58 f3.ne.1, fz_otherNow hne1, bd_some]
      right
      refine ⟨_, t6, _, cc, rfl, ?_, f3.cong rfl (w2.trans (by rw [wr_slot (by decide), wr_slot (by decide)])), n4.rd.ln.tr r1.ln, (n5.rd.ln.tr r2.ln).tr ((LnM.w1 (by decide) (by decide) (by show 12 ≤ _; omega)).tr ((LnM.w1 (by decide) (by decide) (by show 12 ≤ _; omega)).tr w3))⟩
      show fX12_readWill_L69 _ _ (19999 + 1) _ _ = _
      rw [fzm_wL69 hne]
      exact w1
  · obtain rfl : nw = 12 := by omega
    obtain ⟨σ1, t1, f1, f2, ⟨cc, f3, r1, r2⟩, -⟩ := p_flt h (c := 2) (by decide)
    have hr : fX12_readWill t = some (0, t1) := by
      rw [fX12_readWill, if_pos i6, zcl_6, h6, if_pos (show nI 12 = (12 : Int32) from rfl), f2, bd_some, fX12_readWill_J17, if_neg f3.ne.2]
    have hc : fX6_readWill σ = some (0, σ1) := by
      rw [fX6_readWill, h4, if_neg (by decide), fX6_readWill_J18, fX6_takeFirst, if_neg (by decide), f1, bd_some, fz_advance f3.ne.1, bd_some, bd_some, fz_takePerson f3.ne.1, bd_some, fz_person f3.ne.1, bd_some, if_neg f3.ne.1, fz_wJ58 f3.ne.1]
    exact Or.inr ⟨σ1, t1, _, cc, hc, hr, f3, r1.ln, r2.ln⟩
end WILLS
