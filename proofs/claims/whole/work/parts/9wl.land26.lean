/-! ===== land: both sides ===== -/
def refS (x : St) (m : Nat) : St := wr (wr (wr (wr (wr (wr x 69 1 0) 69 19 0) 69 21 (nI m)) 69 20 0) 69 26 0) 69 28 (-1)
theorem refS_slot {x : St} {m k : Nat} (h : k ≠ 69) : refS x m k = x k := by
  rw [refS, wr_slot h, wr_slot h, wr_slot h, wr_slot h, wr_slot h, wr_slot h]
theorem refS_place {x : St} {m j : Nat} (h1 : j ≠ 1) (h2 : j ≠ 19) (h3 : j ≠ 21) (h4 : j ≠ 20) (h5 : j ≠ 26) (h6 : j ≠ 28) : refS x m 69 j = x 69 j := by
  rw [refS, wr_place h6, wr_place h5, wr_place h4, wr_place h3, wr_place h2, wr_place h1]
theorem refS_1 {x : St} {m : Nat} : refS x m 69 1 = 0 := by
  rw [refS, wr_place (by decide), wr_place (by decide), wr_place (by decide), wr_place (by decide), wr_place (by decide), wr_hit]
theorem refS_19 {x : St} {m : Nat} : refS x m 69 19 = 0 := by
  rw [refS, wr_place (by decide), wr_place (by decide), wr_place (by decide), wr_place (by decide), wr_hit]
theorem refS_21 {x : St} {m : Nat} : refS x m 69 21 = nI m := by
  rw [refS, wr_place (by decide), wr_place (by decide), wr_place (by decide), wr_hit]
theorem refS_20 {x : St} {m : Nat} : refS x m 69 20 = 0 := by
  rw [refS, wr_place (by decide), wr_place (by decide), wr_hit]
theorem refS_26 {x : St} {m : Nat} : refS x m 69 26 = 0 := by
  rw [refS, wr_place (by decide), wr_hit]
theorem refS_28 {x : St} {m : Nat} : refS x m 69 28 = -1 := by
  rw [refS, wr_hit]
theorem m_land_in {x : St} {m tl : Nat} (h : x 69 19 = nI tl) (hm : m ≤ tl) (ht : tl ≤ 700) : fX12_land (nI m) x = mRead (refS x m) := by
  rw [fX12_land]
  (try dsimp only)
  rw [if_neg (nI_pos (by omega)), if_pos (by rw [wr_place (by decide), h, nI_leI (by omega) (by omega)]; exact hm)]
  rfl
theorem relM_mem {j : Nat} (h : relM j = true) : j ∈ [17, 19, 28, 32, 33, 44, 47, 48, 51, 58, 59, 60] := List.contains_iff_mem.mp h
theorem relM_off : ∀ j ∈ [17, 19, 28, 32, 33, 44, 47, 48, 51, 58, 59, 60], j ≠ 1 ∧ j ≠ 20 ∧ j ≠ 21 ∧ j ≠ 22 ∧ j ≠ 23 ∧ j ≠ 24 ∧ j ≠ 25 ∧ j ≠ 26 ∧ j ≠ 27 := by decide
theorem good_land (a : Int32) : Good (fX11_land a) (fX12_land a) (fun _ => 1) := by
  intro s hs
  obtain ⟨n0, nw0, nf0, r1, r2, r3, ⟨⟨tl, tl1, tl2, tl3⟩, tp, t28⟩, -⟩ := id hs
  rcases i_cases a (n := tl + 1) (by omega) with ⟨m, hm, rfl⟩ | ho
  · have hB : Bytes ((wr s 0 1 0) 1) := fun j hj => by
      rw [wr_slot (by decide)]
      exact (tp j hj).2
    have PR : ∀ x : St, x 86 = s 86 → _ := fun x hx => p_read (m := m) (by omega) (σ := wr s 0 1 0) (t := refS x m) hB refS_21 refS_20 refS_26 (fun j hj => by rw [refS_slot (by decide), hx, wr_slot (by decide)]; exact (tp j hj).1)
    have hin : fX11_land (nI m) s = bd (fX6_read 1 (nI m) (wr s 0 1 0)) (fun y_2 s_2 => let s_3 := wr s_2 0 2 (s_2 2 2); if y_2 = 0 then (bd (fX4_copyFrom 21 3 s_3) (fun y_4 s_4 => bd (fX8_begin 32 14 s_4) (fun y_5 s_5 => let s_6 := wr s_5 0 7 (0 : Int32); bd (fX1_forgetRow s_6) (fun y_7 s_7 => bd (fX0_forgetRow s_7) (fun y_8 s_8 => bd (fX7_forgetRow s_8) (fun y_9 s_9 => some (.inl (0 : Int32), s_9))))))) else (bd (fX8_refuse 32 (0 : Int32) s_3) (fun y_10 s_10 => some (.inl y_2, s_10)))) := by
      rw [fX11_land, if_neg (nI_pos (by omega)), tl2, if_pos (by rw [nI_leI (by omega) (by omega)]; omega)]
    rcases PR s rfl with ⟨σ', t0, n, nw, nf, ft, lt, e1, -, -, hD0, hk, -⟩ | ⟨σ', t0, c, p, e1, -, hc0, -, -, hk, -⟩
    · obtain ⟨τ, hτ⟩ : ∃ τ, τ = wr σ' 2 2 (-1) := ⟨_, rfl⟩
      rw [← hτ] at e1
      have τ22 : τ 2 2 = -1 := by rw [hτ, wr_hit]
      have τx : ∀ k, k ≠ 2 → τ k = σ' k := fun k q => by rw [hτ, wr_slot q]
      have τs : ∀ k, 20 < k → τ k = s k := fun k q => by rw [τx k (by omega), hk k (Or.inr q), wr_slot (by omega)]
      have τ1 : τ 1 = s 1 := by rw [τx 1 (by decide), hk 1 (by decide), wr_slot (by decide)]
      obtain ⟨len, -, -, l3, -⟩ := hD0.2.2.2.2.2.2.2.2.2.2.2
      obtain ⟨u, c1, u1, u2, u3, u4, u5, u6, u7, u8, u9, u10, u11⟩ := c_landCopy (s := wr τ 0 2 (-1)) (by
        rw [wr_slot (by decide), τx 11 (by decide), l3]
        cases lt with
        | false => exact Or.inl rfl
        | true => exact Or.inr rfl)
      obtain ⟨v, c2, v1, v2, v3, v4, v5⟩ := c_beginS (s := u)
      have hcl : fX11_land (nI m) s = some (.inl 0, wr (wr (wr (wr v 0 7 0) 51 4 0) 57 2 0) 62 2 0) := by
        rw [hin, e1, bd_some]
        (try dsimp only)
        rw [if_pos rfl, τ22, c1, bd_some, c2, bd_some]
        (try dsimp only)
        rw [fX1_forgetRow, bd_some, fX0_forgetRow, bd_some, fX7_forgetRow, bd_some]
      refine ⟨.inl 0, _, hcl, fun s3 e3 => ?_⟩
      have vk : ∀ k, k ≠ 0 → k ≠ 51 → k ≠ 57 → k ≠ 62 → k ≠ 111 → s3 k = v k := fun k q1 q2 q3 q4 q5 => by rw [e3 k q5, wr_slot q4, wr_slot q3, wr_slot q2, wr_slot q1]
      have uk : ∀ k, k ≠ 0 → k ≠ 51 → k ≠ 57 → k ≠ 62 → k ≠ 32 → k ≠ 34 → k ≠ 111 → s3 k = u k := fun k q1 q2 q3 q4 q5 q6 q7 => by rw [vk k q1 q2 q3 q4 q7, v5 k q5 q6]
      have fr : ∀ k, 31 ≤ k → k ≠ 32 → k ≠ 34 → k ≠ 51 → k ≠ 57 → k ≠ 62 → k ≠ 111 → s3 k = s k := fun k q0 q1 q2 q3 q4 q5 q6 => by rw [uk k (by omega) q3 q4 q5 q1 q2 q6, u11 k (Or.inr q0), wr_slot (by omega), τs k (by omega)]
      rcases PR s3 (fr 86 (by decide) (by decide) (by decide) (by decide) (by decide) (by decide) (by decide)) with ⟨σ2, t', n, nw, nf, ft, lt, q1, q2, q3, hD, hk2, hL⟩ | ⟨σ2, t', c, p, q1, q2, q3, -⟩
      · have hτ2 : wr σ2 2 2 (-1) = τ := (congrArg Prod.snd (Option.some.inj (e1.symm.trans q1))).symm
        have hDτ : DatI n nw nf ft lt τ t' := by rw [← hτ2]; exact hD.w22
        obtain ⟨t4, k1, k2, k3, k4, k5, k6, k7, k8, k9, k10, k11⟩ := m_takeOver (t := t') hD.1.2.2 hD.1.2.1
        have g : fX12_land (nI m) s3 = some (0, t4) := by
          rw [m_land_in (tl := tl) (by rw [fr 69 (by decide) (by decide) (by decide) (by decide) (by decide) (by decide) (by decide)]; exact tl3) (by omega) tl1, q2, fX12_land_J110, if_pos q3, k1, bd_some]
        have tc : ∀ k, k < 69 → t4 k = s3 k := fun k q => by rw [k11 k (Or.inl q), hL.1 k (Or.inl q), refS_slot (by omega)]
        have t85 : ∀ k, 84 < k → k ≠ 87 → k ≠ 88 → t4 k = s3 k := fun k q q' q'' => by rw [k11 k (by omega), hL.1 k (by omega), refS_slot (by omega)]
        have cu : ∀ k, k ≠ 0 → k ≠ 51 → k ≠ 57 → k ≠ 62 → k ≠ 32 → k ≠ 34 → k < 69 → t4 k = u k := fun k q1 q2 q3 q4 q5 q6 q7 => by rw [tc k q7, uk k q1 q2 q3 q4 q5 q6 (by omega)]
        have wτ : ∀ k, k ≠ 0 → (wr τ 0 2 (-1)) k = τ k := fun k q => wr_slot q
        have s0 : ∀ j, j ≠ 7 → s3 0 j = (wr τ 0 2 (-1)) 0 j := fun j q => by rw [e3 0 (by decide), wr_slot (by decide), wr_slot (by decide), wr_slot (by decide), wr_place q, v5 0 (by decide) (by decide), u11 0 (by decide)]
        refine ⟨0, t4, g, ?_, by rw [t85 111 (by decide) (by decide) (by decide)], by rw [k10 1 (by decide) (by decide) (by decide) (by decide) (by decide) (by decide) (by decide), hL.2.1 1 (by decide) (by decide) (by decide) (by decide) (by decide) (by decide) (by decide), refS_1], rfl⟩
        refine rs_landed hDτ ⟨?_, ?_, ?_, ?_⟩ (fun j hj => ?_) (fun j hj => ?_) (fun j hj => ?_) ?_ ?_ (fun j hj => ?_) (fun j hj => ?_) ⟨?_, ?_, ?_⟩ ⟨?_, ?_, ?_⟩ ⟨?_, ?_, ?_⟩ k2 k3 k4 k5 k6 k7 k8 k9 ?_ ?_ (fun i hi => ?_) (fun i hi => ?_)
        · rw [cu 21 (by decide) (by decide) (by decide) (by decide) (by decide) (by decide) (by decide), u1, wτ 3 (by decide)]
        · rw [cu 21 (by decide) (by decide) (by decide) (by decide) (by decide) (by decide) (by decide), u2, wτ 3 (by decide)]
        · rw [cu 21 (by decide) (by decide) (by decide) (by decide) (by decide) (by decide) (by decide), u3, wτ 3 (by decide)]
        · rw [cu 21 (by decide) (by decide) (by decide) (by decide) (by decide) (by decide) (by decide), u4, wτ 3 (by decide)]
        · rw [cu 22 (by decide) (by decide) (by decide) (by decide) (by decide) (by decide) (by decide), cu 23 (by decide) (by decide) (by decide) (by decide) (by decide) (by decide) (by decide), cu 24 (by decide) (by decide) (by decide) (by decide) (by decide) (by decide) (by decide), ← wτ 4 (by decide), ← wτ 5 (by decide), ← wτ 6 (by decide)]
          exact u5 j hj
        · rw [cu 25 (by decide) (by decide) (by decide) (by decide) (by decide) (by decide) (by decide), u6 j hj, wτ 7 (by decide)]
        · rw [cu 26 (by decide) (by decide) (by decide) (by decide) (by decide) (by decide) (by decide), cu 27 (by decide) (by decide) (by decide) (by decide) (by decide) (by decide) (by decide), cu 28 (by decide) (by decide) (by decide) (by decide) (by decide) (by decide) (by decide), ← wτ 8 (by decide), ← wτ 9 (by decide), ← wτ 10 (by decide)]
          exact u7 j hj
        · rw [cu 29 (by decide) (by decide) (by decide) (by decide) (by decide) (by decide) (by decide), u8, wτ 11 (by decide)]
        · rw [cu 29 (by decide) (by decide) (by decide) (by decide) (by decide) (by decide) (by decide), u9, wτ 11 (by decide)]
        · rw [cu 30 (by decide) (by decide) (by decide) (by decide) (by decide) (by decide) (by decide), u10 j hj, wτ 12 (by decide)]
        · rw [tc 34 (by decide), vk 34 (by decide) (by decide) (by decide) (by decide) (by decide), v1 j hj, u11 15 (by decide), wτ 15 (by decide)]
        · rw [tc 32 (by decide), vk 32 (by decide) (by decide) (by decide) (by decide) (by decide), v2]
        · rw [tc 32 (by decide), vk 32 (by decide) (by decide) (by decide) (by decide) (by decide), v3]
        · rw [tc 32 (by decide), vk 32 (by decide) (by decide) (by decide) (by decide) (by decide), v4]
        · rw [tc 0 (by decide), e3 0 (by decide), wr_slot (by decide), wr_slot (by decide), wr_slot (by decide), wr_hit]
        · rw [tc 0 (by decide), s0 1 (by decide), wr_place (by decide), τx 0 (by decide), hk 0 (by decide), wr_hit]
        · rw [tc 0 (by decide), s0 2 (by decide), wr_hit]
        · rw [tc 51 (by decide), e3 51 (by decide), wr_slot (by decide), wr_slot (by decide), wr_hit]
        · rw [tc 57 (by decide), e3 57 (by decide), wr_slot (by decide), wr_hit]
        · rw [tc 62 (by decide), e3 62 (by decide), wr_hit]
        · rw [k10 19 (by decide) (by decide) (by decide) (by decide) (by decide) (by decide) (by decide), hL.2.1 19 (by decide) (by decide) (by decide) (by decide) (by decide) (by decide) (by decide), refS_19]
        · rw [k10 28 (by decide) (by decide) (by decide) (by decide) (by decide) (by decide) (by decide), hL.2.1 28 (by decide) (by decide) (by decide) (by decide) (by decide) (by decide) (by decide), refS_28]
        · rw [t85 86 (by decide) (by decide) (by decide), fr 86 (by decide) (by decide) (by decide) (by decide) (by decide) (by decide) (by decide), cu 1 (by decide) (by decide) (by decide) (by decide) (by decide) (by decide) (by decide), u11 1 (by decide), wτ 1 (by decide), τ1]
          exact tp i hi
        · rw [t85 85 (by decide) (by decide) (by decide), fr 85 (by decide) (by decide) (by decide) (by decide) (by decide) (by decide) (by decide), tc 38 (by decide), fr 38 (by decide) (by decide) (by decide) (by decide) (by decide) (by decide) (by decide)]
          exact r2.2.2.2.2 i hi
      · exact absurd (congrArg Prod.fst (Option.some.inj (e1.symm.trans q1))).symm q3
    · obtain ⟨τ, hτ⟩ : ∃ τ, τ = wr σ' 2 2 (nI p) := ⟨_, rfl⟩
      rw [← hτ] at e1
      have τ22 : τ 2 2 = nI p := by rw [hτ, wr_hit]
      have τx : ∀ k, k ≠ 2 → τ k = σ' k := fun k q => by rw [hτ, wr_slot q]
      have τs : ∀ k, 20 < k → τ k = s k := fun k q => by rw [τx k (by omega), hk k (Or.inr q), wr_slot (by omega)]
      have τ1 : τ 1 = s 1 := by rw [τx 1 (by decide), hk 1 (by decide), wr_slot (by decide)]
      have hcl : fX11_land (nI m) s = some (.inl c, wr (wr τ 0 2 (nI p)) 38 0 (s 38 0 + 1)) := by
        have h := c_refuse (s := wr τ 0 2 (nI p)) (i := 0) (by decide)
        have h : fX8_refuse 32 (0 : Int32) (wr τ 0 2 (nI p)) = some (0, wr (wr τ 0 2 (nI p)) 38 0 ((wr τ 0 2 (nI p)) 38 0 + 1)) := h
        rw [hin, e1, bd_some]
        (try dsimp only)
        rw [if_neg hc0, τ22, h, bd_some, wr_slot (show (38 : Nat) ≠ 0 by decide), τs 38 (by decide)]
      refine ⟨.inl c, _, hcl, fun s3 e3 => ?_⟩
      have fr : ∀ k, 20 < k → k ≠ 38 → k ≠ 111 → s3 k = s k := fun k q0 q1 q2 => by rw [e3 k q2, wr_slot q1, wr_slot (by omega), τs k q0]
      rcases PR s3 (fr 86 (by decide) (by decide) (by decide)) with ⟨σ2, t', n, nw, nf, ft, lt, q1, -⟩ | ⟨σ2, t', c', p', q1, q2, q3, q4, q5, -, hL⟩
      · exact absurd (congrArg Prod.fst (Option.some.inj (e1.symm.trans q1))) hc0
      · have hcc : c = c' := congrArg Prod.fst (Option.some.inj (e1.symm.trans q1))
        have hpp : nI p = nI p' := by
          have hτ2 : τ = wr σ2 2 2 (nI p') := congrArg Prod.snd (Option.some.inj (e1.symm.trans q1))
          rw [← τ22, hτ2, wr_hit]
        have tk : ∀ k, k < 69 ∨ 84 < k → t' k = s3 k := fun k q => by rw [hL.1 k (by omega), refS_slot (by omega)]
        have g : fX12_land (nI m) s3 = some (c, wr (wr t' 69 28 (nI p)) 85 0 (t' 85 0 + 1)) := by
          rw [m_land_in (tl := tl) (by rw [fr 69 (by decide) (by decide) (by decide)]; exact tl3) (by omega) tl1, q2, fX12_land_J110, if_neg (by rw [q4]; exact q3), q5]
          (try dsimp only)
          have i3 : inA (0 : Int32) 3 := by decide
          rw [if_pos i3, if_pos i3, i00, wr_slot (show (85 : Nat) ≠ 69 by decide), wr_slot (show (69 : Nat) ≠ 85 by decide), wr_place (show (26 : Nat) ≠ 28 by decide), q4, hcc, hpp]
        have sk : ∀ k, k ≠ 69 → k ≠ 85 → (wr (wr t' 69 28 (nI p)) 85 0 (t' 85 0 + 1)) k = t' k := fun k a1 a2 => by rw [wr_slot a2, wr_slot a1]
        have s69 : ∀ j, j ≠ 28 → (wr (wr t' 69 28 (nI p)) 85 0 (t' 85 0 + 1)) 69 j = t' 69 j := fun j a1 => by rw [wr_slot (by decide), wr_place a1]
        have s3k : ∀ k, k ≠ 38 → k ≠ 111 → s3 k = (wr τ 0 2 (nI p)) k := fun k a1 a2 => by rw [e3 k a2, wr_slot a1]
        refine ⟨c, _, g, ?_, by rw [sk 111 (by decide) (by decide), tk 111 (by decide)], by rw [s69 1 (by decide), hL.2.1 1 (by decide) (by decide) (by decide) (by decide) (by decide) (by decide) (by decide), refS_1], rfl⟩
        refine rs_fault hs (fun k a1 a2 a3 => ?_) ?_ ?_ ?_ (fun k j a1 a2 a3 => ?_) (fun k a1 a2 => ?_) (fun j a1 a2 a3 => ?_) ?_ ?_ (fun i hi => ?_)
        · rw [sk k (by omega) (by omega), tk k (by omega), fr k a1 a3 (by omega)]
        · rw [sk 1 (by decide) (by decide), tk 1 (by decide), s3k 1 (by decide) (by decide), wr_slot (by decide), τ1]
        · rw [sk 0 (by decide) (by decide), tk 0 (by decide), s3k 0 (by decide) (by decide), wr_place (by decide), τx 0 (by decide), hk 0 (by decide), wr_place (by decide)]
        · rw [sk 0 (by decide) (by decide), tk 0 (by decide), s3k 0 (by decide) (by decide), wr_place (by decide), τx 0 (by decide), hk 0 (by decide), wr_hit]
        · rw [sk k (by omega) (by omega), hL.2.2 k j a1 a2 a3, refS_slot (by omega), fr k (by omega) (by omega) (by omega)]
        · rw [sk k (by omega) (by omega), tk k (by omega), fr k (by omega) (by omega) (by omega)]
        · obtain ⟨z1, z2, z3, z4, z5, z6, z7, z8, z9⟩ := relM_off j (relM_mem a1)
          rw [s69 j a3, hL.2.1 j z2 z4 z5 z6 z7 z8 z9, refS_place z1 a2 z3 z2 z8 a3, fr 69 (by decide) (by decide) (by decide)]
        · rw [s69 19 (by decide), hL.2.1 19 (by decide) (by decide) (by decide) (by decide) (by decide) (by decide) (by decide), refS_19]
        · rw [sk 0 (by decide) (by decide), tk 0 (by decide), s3k 0 (by decide) (by decide), wr_hit, wr_slot (by decide), wr_hit]
        · rw [sk 38 (by decide) (by decide), tk 38 (by decide), e3 38 (by decide), tk 85 (by decide), fr 85 (by decide) (by decide) (by decide)]
          by_cases e : i = 0
          · rw [e, wr_hit, wr_hit, r2.2.2.2.2 0 (by decide)]
          · rw [wr_place e, wr_place e, wr_slot (by decide), wr_slot (by decide), tk 85 (by decide), fr 85 (by decide) (by decide) (by decide), τs 38 (by decide)]
            exact r2.2.2.2.2 i hi
  · have hcm : fX11_land a s = some (.inr 1, s) ∧ ∀ s3 : St, s3 69 19 = nI tl → fX12_land a s3 = some (0, wr (wr s3 69 1 0) 69 1 1) := by
      by_cases h0 : a < 0
      · refine ⟨by rw [fX11_land, if_pos h0], fun s3 _ => ?_⟩
        rw [fX12_land]
        (try dsimp only)
        rw [if_pos h0, fX12_fail]
        rfl
      · have hle : ¬ a ≤ nI tl := fun q => by
          rcases ho with h | h
          · exact h0 h
          · rw [i_le, nI_toInt (by omega)] at h q
            omega
        refine ⟨by rw [fX11_land, if_neg h0, tl2, if_neg hle], fun s3 h3 => ?_⟩
        rw [fX12_land]
        (try dsimp only)
        rw [if_neg h0, if_neg (by rw [wr_place (by decide), h3]; exact hle), fX12_fail]
        rfl
    refine ⟨.inr 1, s, hcm.1, fun s3 e3 => ⟨0, wr (wr s3 69 1 0) 69 1 1, hcm.2 s3 (by rw [e3 69 (by decide)]; exact tl3), ((hs.keep (keep_out e3)).keep keep_code).keep keep_code, by rw [wr_slot (by decide), wr_slot (by decide)], wr_hit, Or.inr rfl, by decide⟩⟩
