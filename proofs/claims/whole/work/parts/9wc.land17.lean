/-! ===== land: the line of somebody ===== -/
theorem DatI.w74 {n nw nf : Nat} {ft lt : Bool} {σ t : St} {v : Int32} (h : DatI n nw nf ft lt σ t) : DatI n nw nf ft lt σ (wr t 74 (12 + n) v) := by
  unfold DatI at h ⊢
  rw [wr_slot (show (71 : Nat) ≠ 74 by decide), wr_slot (show (72 : Nat) ≠ 74 by decide), wr_slot (show (73 : Nat) ≠ 74 by decide), wr_slot (show (75 : Nat) ≠ 74 by decide), wr_slot (show (76 : Nat) ≠ 74 by decide), wr_slot (show (77 : Nat) ≠ 74 by decide), wr_slot (show (78 : Nat) ≠ 74 by decide), wr_slot (show (79 : Nat) ≠ 74 by decide), wr_slot (show (80 : Nat) ≠ 74 by decide), wr_slot (show (81 : Nat) ≠ 74 by decide), wr_slot (show (82 : Nat) ≠ 74 by decide), wr_slot (show (83 : Nat) ≠ 74 by decide), wr_slot (show (84 : Nat) ≠ 74 by decide)]
  obtain ⟨d1, d2, d3, d4, d5, d6, d7⟩ := h
  exact ⟨d1, d2, d3, d4, d5, fun p hp => by rw [wr_place (by omega)]; exact d6 p hp, d7⟩
theorem DatI.w75 {n nw nf : Nat} {ft lt : Bool} {σ t : St} {v : Int32} (h : DatI n nw nf ft lt σ t) : DatI n nw nf ft lt σ (wr t 75 (12 + n) v) := by
  unfold DatI at h ⊢
  rw [wr_slot (show (71 : Nat) ≠ 75 by decide), wr_slot (show (72 : Nat) ≠ 75 by decide), wr_slot (show (73 : Nat) ≠ 75 by decide), wr_slot (show (74 : Nat) ≠ 75 by decide), wr_slot (show (76 : Nat) ≠ 75 by decide), wr_slot (show (77 : Nat) ≠ 75 by decide), wr_slot (show (78 : Nat) ≠ 75 by decide), wr_slot (show (79 : Nat) ≠ 75 by decide), wr_slot (show (80 : Nat) ≠ 75 by decide), wr_slot (show (81 : Nat) ≠ 75 by decide), wr_slot (show (82 : Nat) ≠ 75 by decide), wr_slot (show (83 : Nat) ≠ 75 by decide), wr_slot (show (84 : Nat) ≠ 75 by decide)]
  obtain ⟨d1, d2, d3, d4, d5, d6, d7⟩ := h
  exact ⟨d1, d2, d3, d4, d5, fun p hp => by rw [wr_place (by omega)]; exact d6 p hp, d7⟩
section PERS2
variable {b : Nat → Int32} {m K : Nat} {pl ln : Nat → Nat}
theorem At.wm {i k j : Nat} {v : Int32} {σ t : St} (h : At b m K pl ln i σ t) (hk : k ≠ 69) (hk2 : k ≠ 86) : At b m K pl ln i σ (wr t k j v) :=
  h.cong (fun _ _ _ => rfl) (fun _ _ _ => rfl) (fun y _ _ => by rw [wr_slot (fun q => hk q.symm)]) (wr_slot (fun q => hk2 q.symm))
theorem p_person (hm : m ≤ 700) (hK : K ≤ m) (hT : TokB b m K pl ln) (hB : Bytes b) {n nw nf i : Nat} {ft lt : Bool} {σ t : St} {par sort : Int32} (hps : (par = 0 ∧ sort = 0) ∨ (par = 2 ∧ sort = 1) ∨ (par = 1 ∧ sort = 2)) (h : At b m K pl ln i σ t) (hiK : i < K) (hD : DatI n nw nf ft lt σ t) :
    BOut b m K pl ln (fX6_readPerson par σ) (fX12_readSomebody sort t) ft lt i σ t := by
  obtain ⟨h3, h5, h12⟩ := hD.1
  by_cases hn : n < 12
  · obtain ⟨σ1, t1, n1, n2, n3, n4, n5⟩ := p_next hm hK hT hB h hiK
    have hD1 := hD.rd n4.rd n5.rd
    have hi : inA (nI (12 + n)) 24 := inA_lt (by decide) (by omega)
    have c1 : fX6_readPerson par σ = if par ≤ 0 then fX6_readPerson_J35 par (-1) σ1 else bd (fX6_takePerson (-1) σ1) (fun y s => fX6_readPerson_J35 par y s) := by
      rw [fX6_readPerson, h3, if_pos (by rw [zrt_12 _ (by omega)]; exact hn), fX6_readPerson_J18, fX6_takeFirst, if_pos rfl, n1, bd_some, bd_some]
    have m1 : fX12_readSomebody sort t = if sort ≤ 0 then fX12_readSomebody_J55 sort (nI (12 + n)) (-1) (nI (12 + n)) t1 else bd (fX12_readPerson t1) (fun y s => fX12_readSomebody_J55 sort (nI (12 + n)) y (nI (12 + n)) s) := by
      rw [fX12_readSomebody, if_pos i5, zcl_5, h5, if_neg (by rw [zle_12 _ (by omega)]; omega), fX12_readSomebody_J16, if_pos h.2.2.2.2.1, n2, bd_some, if_pos i5, zcl_5, hD1.1.2.1, zla_12]
    have j55 : ∀ (f : Int32) (s : St), ¬ sort = 1 → fX12_readSomebody_J55 sort (nI (12 + n)) f (nI (12 + n)) s = fX12_readSomebody_J95 sort (nI (12 + n)) (wr (wr s 74 (12 + n) f) 75 (12 + n) (-1)) := fun f s q => by
      rw [fX12_readSomebody_J55, if_pos hi, nI_clamp (by omega)]
      dsimp only
      rw [if_pos hi, if_neg q]
    have lW : ∀ (s : St) (f : Int32), LnM s (wr (wr s 74 (12 + n) f) 75 (12 + n) (-1)) := fun s f => (LnM.w1 (by decide) (by decide) (by show 12 ≤ _; omega)).tr (LnM.w1 (by decide) (by decide) (by show 12 ≤ _; omega))
    rw [c1, m1]
    by_cases hp0 : par = 0
    · have hs0 : sort = 0 := by
        rcases hps with ⟨-, q⟩ | ⟨q, -⟩ | ⟨q, -⟩
        · exact q
        · rw [hp0] at q; exact absurd q (by decide)
        · rw [hp0] at q; exact absurd q (by decide)
      rw [if_pos (by rw [hp0]; decide), if_pos (by rw [hs0]; decide), j55 _ _ (by rw [hs0]; decide), fX6_readPerson_J35, if_pos (by rw [hp0]; decide)]
      refine (p_personB hm hK hT hB hn (v1 := par) (sort := sort) (f1 := -1) (f2 := -1) (ad := 0) (Or.inr ⟨by rw [hp0]; decide, by rw [hs0]; decide, rfl⟩) ((n3.wm (by decide) (by decide)).wm (by decide) (by decide)) hD1.w74.w75 (Or.inl rfl) (Or.inl rfl) ?_ wr_hit).after (by omega) n4.rd.ln (n5.rd.ln.tr (lW _ _))
      rw [wr_slot (by decide), wr_hit]
    · have hpn : ¬ par ≤ 0 ∧ ¬ sort ≤ 0 := by
        rcases hps with ⟨q, -⟩ | ⟨q, q2⟩ | ⟨q, q2⟩
        · exact absurd q hp0
        · rw [q, q2]; decide
        · rw [q, q2]; decide
      rw [if_neg hpn.1, if_neg hpn.2]
      rcases p_takePerson hm hK hT hB n3 (by omega) hD1.1.1 hD1.1.2.1 with ⟨v, σ2, t2, v1, e1, e2, hi2, h2, r1, r2⟩ | ⟨y, y', σ2, t2, e1, e2, c, f3, r1, r2⟩
      · have hD2 := hD1.rd r1 r2
        rw [e1, e2, bd_some, bd_some]
        by_cases hp1 : par = 1
        · have hs2 : sort = 2 := by
            rcases hps with ⟨q, -⟩ | ⟨q, -⟩ | ⟨-, q⟩
            · exact absurd q hp0
            · rw [hp1] at q; exact absurd q (by decide)
            · exact q
          rw [j55 _ _ (by rw [hs2]; decide), fX6_readPerson_J35, if_pos (by rw [hp1]; decide)]
          refine (p_personB hm hK hT hB hn (v1 := par) (sort := sort) (f1 := nI v) (f2 := -1) (ad := 1) (Or.inl ⟨hp1, hs2, rfl⟩) ((h2.wm (by decide) (by decide)).wm (by decide) (by decide)) hD2.w74.w75 (Or.inr ⟨v, v1, rfl⟩) (Or.inl rfl) ?_ wr_hit).after (by omega) (n4.rd.ln.tr r1.ln) ((n5.rd.ln.tr r2.ln).tr (lW _ _))
          rw [wr_slot (by decide), wr_hit]
        · obtain ⟨hp2, hs1⟩ : par = 2 ∧ sort = 1 := by
            rcases hps with ⟨q, -⟩ | q | ⟨q, -⟩
            · exact absurd q hp0
            · exact q
            · exact absurd q hp1
          have hA : At b m K pl ln (i + 1 + 1) σ2 (wr (wr t2 74 (12 + n) (nI v)) 75 (12 + n) (-1)) := (h2.wm (by decide) (by decide)).wm (by decide) (by decide)
          have hD3 : DatI n nw nf ft lt σ2 (wr (wr t2 74 (12 + n) (nI v)) 75 (12 + n) (-1)) := hD2.w74.w75
          have w74 : (wr (wr t2 74 (12 + n) (nI v)) 75 (12 + n) (-1)) 74 (12 + n) = nI v := by rw [wr_slot (by decide), wr_hit]
          have hm2 : fX12_readSomebody_J55 sort (nI (12 + n)) (nI v) (nI (12 + n)) t2 = bd (fX12_otherNow (nI v) (wr (wr t2 74 (12 + n) (nI v)) 75 (12 + n) (-1))) (fun y s => if (wr s 75 (12 + n) y) 69 26 = 0 then bd (fX12_stepOn (wr s 75 (12 + n) y)) (fun _ s_13 => fX12_readSomebody_J95 sort (nI (12 + n)) s_13) else fX12_readSomebody_J95 sort (nI (12 + n)) (wr s 75 (12 + n) y)) := by
            rw [fX12_readSomebody_J55, if_pos hi, nI_clamp (by omega)]
            dsimp only
            rw [if_pos hi, if_pos hs1, if_pos hi, w74]
            simp only [if_pos hi]
          rw [hm2, fX6_readPerson_J35, if_neg (by rw [hp2]; decide), fX6_takePerson]
          rcases p_other hm hT hA (by omega) hD3.1.1 hD3.1.2.1 (nI v) with ⟨hi3, v2, w1, w2, g1, g2, -⟩ | ⟨⟨y, y', σ3, t3, g1, g2, c, f3, q1, q2⟩, -⟩
          · have hA4 : At b m K pl ln (i + 1 + 1) σ2 (wr (wr (wr t2 74 (12 + n) (nI v)) 75 (12 + n) (-1)) 75 (12 + n) (nI v2)) := hA.wm (by decide) (by decide)
            have hD4 : DatI n nw nf ft lt σ2 (wr (wr (wr t2 74 (12 + n) (nI v)) 75 (12 + n) (-1)) 75 (12 + n) (nI v2)) := hD3.w75
            obtain ⟨σ5, t5, k1, k2, k3, k4, k5⟩ := p_next hm hK hT hB hA4 hi3
            rw [g1, g2, bd_some, bd_some, k1, bd_some, bd_some, if_pos hA4.2.2.2.2.1, k2, bd_some]
            refine (p_personB hm hK hT hB hn (v1 := par) (sort := sort) (f1 := nI v) (f2 := nI v2) (ad := 0) (Or.inr ⟨hp1, by rw [hs1]; decide, rfl⟩) k3 (hD4.rd k4.rd k5.rd) (Or.inr ⟨v, v1, rfl⟩) (Or.inr ⟨v2, w1, rfl⟩) ?_ ?_).after (by omega) ((n4.rd.ln.tr r1.ln).tr k4.rd.ln) (((n5.rd.ln.tr r2.ln).tr (lW _ (nI v))).tr ((LnM.w1 (by decide) (by decide) (by show 12 ≤ _; omega)).tr k5.rd.ln))
            · rw [k5.1 74 (by decide), wr_slot (by decide)]; exact w74
            · rw [k5.1 75 (by decide), wr_hit]
          · obtain ⟨σ6, a1, a2⟩ := fz_J50 f3.ne.1 par (nI v) y
            have hne : ¬ (wr t3 75 (12 + n) y') 69 26 = 0 := by rw [wr_slot (by decide)]; exact f3.ne.2
            obtain ⟨t6, b1, b2, b3⟩ := fzm_J95 hn hne sort
            rw [g1, g2, bd_some, bd_some, fz_advance f3.ne.1, bd_some, bd_some, if_neg hne]
            right
            exact ⟨σ6, t6, _, c, a1, b1, f3.cong (a2 2 (by decide)) (b2.trans (wr_slot (by decide))), ((n4.rd.ln.tr r1.ln).tr q1.ln).tr (fun x q => a2 x (by omega)), ((n5.rd.ln.tr r2.ln).tr (lW _ (nI v))).tr (q2.ln.tr ((LnM.w1 (by decide) (by decide) (by show 12 ≤ _; omega)).tr b3))⟩
      · rw [e1, e2, bd_some, bd_some]
        obtain ⟨σ6, a1, a2⟩ := fz_J35 f3.ne.1 par y
        obtain ⟨t6, b1, b2, b3⟩ := fzm_J55 hn f3.ne.2 sort y'
        right
        exact ⟨σ6, t6, _, c, a1, b1, f3.cong (a2 2 (by decide)) b2, (n4.rd.ln.tr r1.ln).tr (fun x q => a2 x (by omega)), (n5.rd.ln.tr r2.ln).tr b3⟩
  · obtain rfl : n = 12 := by omega
    obtain ⟨σ1, t1, f1, f2, ⟨c, f3, r1, r2⟩, -⟩ := p_flt h (c := 2) (by decide)
    have hr : fX12_readSomebody sort t = some (0, t1) := by
      rw [fX12_readSomebody, if_pos i5, zcl_5, h5, if_pos (show nI 12 = (12 : Int32) from rfl), f2, bd_some, fX12_readSomebody_J16, if_neg f3.ne.2]
    have hc : ∃ y, fX6_readPerson par σ = fX6_readPerson_J35 par y σ1 := by
      have h1 : fX6_readPerson par σ = if par ≤ 0 then fX6_readPerson_J35 par (-1) σ1 else bd (fX6_takePerson (-1) σ1) (fun y s => fX6_readPerson_J35 par y s) := by
        rw [fX6_readPerson, h3, if_neg (by decide), fX6_readPerson_J18, fX6_takeFirst, if_neg (by decide), f1, bd_some, fz_advance f3.ne.1, bd_some, bd_some]
      by_cases e : par ≤ 0
      · exact ⟨-1, by rw [h1, if_pos e]⟩
      · exact ⟨σ1 2 7, by rw [h1, if_neg e, fz_takePerson f3.ne.1, bd_some]⟩
    obtain ⟨y, hc⟩ := hc
    obtain ⟨σ6, a1, a2⟩ := fz_J35 f3.ne.1 par y
    right
    exact ⟨σ6, t1, i, c, hc.trans a1, hr, f3.cong (a2 2 (by decide)) rfl, r1.ln.tr (fun x q => a2 x (by omega)), r2.ln⟩
end PERS2
