/-! ===== land: the line of a wedding ===== -/
theorem fz_takeSpouse {σ : St} (h : ¬ σ 2 4 = 0) (a : Int32) : fX6_takeSpouse a σ = some (σ 2 7, σ) := by
  rw [fX6_takeSpouse, fz_person h, bd_some, if_neg h, fz_advance h, bd_some]
theorem fzm_wJ46 {t : St} (h : ¬ t 69 26 = 0) (v : Int32) : fX12_readWed_J46 v t = some (0, t) := by
  rw [fX12_readWed_J46, fz_otherNow h, bd_some, if_neg h, fX12_readWed_J78, if_neg h]
theorem fzm_wJ35 {t : St} (h : ¬ t 69 26 = 0) (v : Int32) : fX12_readWed_J35 v t = some (0, t) := by
  rw [fX12_readWed_J35, if_neg h, fzm_wJ46 h]
theorem dat_wed {n nw nf : Nat} {ft lt : Bool} {σ t : St} {a c : Nat} (h : DatI n nw nf ft lt σ t) (ha : a < n) (hc : c < n) (hac : a ≠ c) (fa : σ 15 (60 + a) = -1) (fc : σ 15 (60 + c) = -1) :
    DatI n nw nf ft lt (wr (wr σ 15 (60 + a) (nI c)) 15 (60 + c) (nI a)) (wr (wr t 77 (12 + a) (nI c)) 77 (12 + c) (nI a)) := by
  have h12 := h.1.2.2
  have cw : ∀ x, x ≠ 15 → (wr (wr σ 15 (60 + a) (nI c)) 15 (60 + c) (nI a)) x = σ x := fun x hx => by rw [wr_slot hx, wr_slot hx]
  have mw : ∀ x, x ≠ 77 → (wr (wr t 77 (12 + a) (nI c)) 77 (12 + c) (nI a)) x = t x := fun x hx => by rw [wr_slot hx, wr_slot hx]
  have co : ∀ y, y ≠ 60 + a → y ≠ 60 + c → (wr (wr σ 15 (60 + a) (nI c)) 15 (60 + c) (nI a)) 15 y = σ 15 y := fun y q1 q2 => by rw [wr_place q2, wr_place q1]
  have ch : ∀ p, (wr (wr σ 15 (60 + a) (nI c)) 15 (60 + c) (nI a)) 15 (60 + p) = if p = c then nI a else if p = a then nI c else σ 15 (60 + p) := fun p => by
    by_cases e : p = c
    · rw [if_pos e, e, wr_hit]
    · rw [if_neg e, wr_place (by omega)]
      by_cases e2 : p = a
      · rw [if_pos e2, e2, wr_hit]
      · rw [if_neg e2, wr_place (by omega)]
  have mh : ∀ p, (wr (wr t 77 (12 + a) (nI c)) 77 (12 + c) (nI a)) 77 (12 + p) = if p = c then nI a else if p = a then nI c else t 77 (12 + p) := fun p => by
    by_cases e : p = c
    · rw [if_pos e, e, wr_hit]
    · rw [if_neg e, wr_place (by omega)]
      by_cases e2 : p = a
      · rw [if_pos e2, e2, wr_hit]
      · rw [if_neg e2, wr_place (by omega)]
  unfold DatI at h ⊢
  rw [cw 2 (by decide), cw 3 (by decide), cw 4 (by decide), cw 5 (by decide), cw 6 (by decide), cw 7 (by decide), cw 8 (by decide), cw 9 (by decide), cw 10 (by decide), cw 11 (by decide), cw 12 (by decide), mw 71 (by decide), mw 72 (by decide), mw 73 (by decide), mw 74 (by decide), mw 75 (by decide), mw 76 (by decide), mw 78 (by decide), mw 79 (by decide), mw 80 (by decide), mw 81 (by decide), mw 82 (by decide), mw 83 (by decide), mw 84 (by decide)]
  obtain ⟨d1, d2, d3, d4, d5, d6, d7, d8, ⟨d9, d9'⟩, d10⟩ := h
  refine ⟨d1, d2, d3, d4, d5, d6, fun p hp => ?_, fun p hp => ?_, ⟨fun p hp1 hp2 => ?_, fun j hj1 hj2 => ?_⟩, d10⟩
  · obtain ⟨a1, a2⟩ := d7 p hp
    refine ⟨fun k hk => ?_, ?_⟩
    · rw [co _ (by omega) (by omega)]
      exact a1 k hk
    · rw [co _ (by omega) (by omega)]
      exact a2
  · rw [ch, mh]
    by_cases e : p = c
    · rw [if_pos e, if_pos e]
      refine ⟨rfl, Or.inr ⟨a, ha, by omega, rfl, ?_⟩⟩
      rw [ch, if_neg hac, if_pos rfl, e]
    · rw [if_neg e, if_neg e]
      by_cases e2 : p = a
      · rw [if_pos e2, if_pos e2]
        refine ⟨rfl, Or.inr ⟨c, hc, by omega, rfl, ?_⟩⟩
        rw [ch, if_pos rfl, e2]
      · rw [if_neg e2, if_neg e2]
        obtain ⟨a1, a2⟩ := d8 p hp
        refine ⟨a1, ?_⟩
        rcases a2 with a2 | ⟨r, r1, r2, r3, r4⟩
        · exact Or.inl a2
        · refine Or.inr ⟨r, r1, r2, r3, ?_⟩
          rw [ch]
          by_cases e3 : r = c
          · rw [e3, fc] at r4
            exact absurd r4.symm (m1_not p (by omega))
          · rw [if_neg e3]
            by_cases e4 : r = a
            · rw [e4, fa] at r4
              exact absurd r4.symm (m1_not p (by omega))
            · rw [if_neg e4]
              exact r4
  · rw [co _ (by omega) (by omega), co _ (by omega) (by omega)]
    exact d9 p hp1 hp2
  · rw [co _ (by omega) (by omega)]
    exact d9' j hj1 hj2
section WEDS
variable {b : Nat → Int32} {m K : Nat} {pl ln : Nat → Nat}
theorem p_wed (hm : m ≤ 700) (hK : K ≤ m) (hT : TokB b m K pl ln) (hB : Bytes b) {n nw nf i : Nat} {ft lt : Bool} {σ t : St} (h : At b m K pl ln i σ t) (hiK : i < K) (hD : DatI n nw nf ft lt σ t) :
    BOut b m K pl ln (fX6_readWed σ) (fX12_readWed t) ft lt i σ t := by
  have h12 := hD.1.2.2
  obtain ⟨σ1, t1, n1, n2, n3, n4, n5⟩ := p_next hm hK hT hB h hiK
  have hD1 := hD.rd n4.rd n5.rd
  rw [fX6_readWed, fX12_readWed, n1, n2, bd_some, bd_some]
  rcases p_other hm hT n3 h12 hD1.1.1 hD1.1.2.1 (-1) with ⟨hi2, a, a1, -, e1, -, e2⟩ | ⟨-, e⟩
  · have hs : fX10_spouse 14 (nI a) σ1 = some (σ1 15 (60 + a), σ1) := w_spouse (w := 14) rfl (by omega)
    have hw := (hD1.2.2.2.2.2.2.2.1 a a1).1
    have hcl : fX6_takeSpouse (-1) σ1 = if σ1 15 (60 + a) = -1 then bd (fX6_advance σ1) (fun _ s => some (nI a, s)) else bd (fX6_refuse 6 σ1) (fun _ s => bd (fX6_advance s) (fun _ s2 => some (nI a, s2))) := by
      rw [fX6_takeSpouse, e1, bd_some, if_pos n3.2.2.2.1, hs, bd_some]
    rw [hcl, e2, bd_some, if_pos n3.2.2.2.2.1, zla_12, if_pos (inA_lt (by decide) (by omega)), nI_clamp (by omega), hw]
    by_cases fa : σ1 15 (60 + a) = -1
    · obtain ⟨σ2, t2, k1, k2, k3, k4, k5⟩ := p_next hm hK hT hB n3 hi2
      have hD2 := hD1.rd k4.rd k5.rd
      rw [if_pos fa, if_pos fa, k1, bd_some, bd_some, fX12_readWed_J35, if_pos n3.2.2.2.2.1, k2, bd_some, fX12_readWed_J46]
      rcases p_other hm hT k3 h12 hD2.1.1 hD2.1.2.1 (nI a) with ⟨hi3, c, c1, c2, g1, g2, -⟩ | ⟨⟨y, y', σ3, t3, g1, g2, cc, f3, q1, q2⟩, -⟩
      · have hs2 : fX10_spouse 14 (nI c) σ2 = some (σ2 15 (60 + c), σ2) := w_spouse (w := 14) rfl (by omega)
        have hw2 := (hD2.2.2.2.2.2.2.2.1 c c1).1
        have hcl2 : fX6_takeSpouse (nI a) σ2 = if σ2 15 (60 + c) = -1 then bd (fX6_advance σ2) (fun _ s => some (nI c, s)) else bd (fX6_refuse 6 σ2) (fun _ s => bd (fX6_advance s) (fun _ s2 => some (nI c, s2))) := by
          rw [fX6_takeSpouse, g1, bd_some, if_pos k3.2.2.2.1, hs2, bd_some]
        rw [hcl2, g2, bd_some, if_pos k3.2.2.2.2.1, zla_12, if_pos (inA_lt (by decide) (by omega)), nI_clamp (by omega), hw2]
        by_cases fc : σ2 15 (60 + c) = -1
        · obtain ⟨σ4, t4, x1, x2, x3, x4, x5⟩ := p_next hm hK hT hB k3 hi3
          have hD4 := hD2.rd x4.rd x5.rd
          have hac : a ≠ c := fun q => c2 (by rw [q])
          rw [if_pos fc, if_pos fc, x1, bd_some, bd_some, if_pos x3.2.2.2.1, fX12_readWed_J78, if_pos k3.2.2.2.2.1, x2, bd_some, zla_12, zla_12, if_pos (inA_lt (by decide) (by omega)), nI_clamp (by omega)]
          dsimp only
          rw [if_pos (inA_lt (by decide) (by omega)), nI_clamp (by omega), fX10_join, fX10_setSpouse, zla_60, put_nI (r := 15) (by decide) (by show _ < 94; omega), bd_some, bd_some, fX10_setSpouse, zla_60, put_nI (r := 15) (by decide) (by show _ < 94; omega), bd_some, bd_some, bd_some]
          left
          refine ⟨i + 1 + 1 + 1, n, nw, nf, _, _, rfl, rfl, x3.cong (fun x q1 q2 => by rw [wr_slot (by omega), wr_slot (by omega)]) (fun y _ _ => by rw [wr_slot (by decide), wr_slot (by decide)]) (fun y _ _ => by rw [wr_slot (by decide), wr_slot (by decide)]) (by rw [wr_slot (by decide), wr_slot (by decide)]), by omega, dat_wed hD4 a1 c1 hac ?_ ?_, (((n4.rd.ln.tr k4.rd.ln).tr x4.rd.ln).tr (LnC.w1 (by decide) (by decide))).tr (LnC.w1 (by decide) (by decide)), (((n5.rd.ln.tr k5.rd.ln).tr x5.rd.ln).tr (LnM.w1 (by decide) (by decide) (by show 12 ≤ _; omega))).tr (LnM.w1 (by decide) (by decide) (by show 12 ≤ _; omega))⟩
          · rw [x4.1 15 (by decide), k4.1 15 (by decide)]; exact fa
          · rw [x4.1 15 (by decide)]; exact fc
        · obtain ⟨σ4, t4, x1, x2, ⟨cc, f3, q1, q2⟩, -⟩ := p_flt k3 (c := 6) (by decide)
          rw [if_neg fc, if_neg fc, x1, bd_some, fz_advance f3.ne.1, bd_some, bd_some, if_neg f3.ne.1, x2, bd_some, fX12_readWed_J78, if_neg f3.ne.2]
          exact Or.inr ⟨σ4, t4, _, cc, rfl, rfl, f3, (n4.rd.ln.tr k4.rd.ln).tr q1.ln, (n5.rd.ln.tr k5.rd.ln).tr q2.ln⟩
      · rw [fX6_takeSpouse, g1, bd_some, if_neg f3.ne.1, fz_advance f3.ne.1, bd_some, bd_some, if_neg f3.ne.1, g2, bd_some, if_neg f3.ne.2, fX12_readWed_J78, if_neg f3.ne.2]
        exact Or.inr ⟨σ3, t3, _, cc, rfl, rfl, f3, (n4.rd.ln.tr k4.rd.ln).tr q1.ln, (n5.rd.ln.tr k5.rd.ln).tr q2.ln⟩
    · obtain ⟨σ4, t4, x1, x2, ⟨cc, f3, q1, q2⟩, -⟩ := p_flt n3 (c := 6) (by decide)
      rw [if_neg fa, if_neg fa, x1, bd_some, fz_advance f3.ne.1, bd_some, bd_some, fz_takeSpouse f3.ne.1, bd_some, if_neg f3.ne.1, x2, bd_some, fzm_wJ35 f3.ne.2]
      exact Or.inr ⟨σ4, t4, _, cc, rfl, rfl, f3, n4.rd.ln.tr q1.ln, n5.rd.ln.tr q2.ln⟩
  · obtain ⟨y, y', σ3, t3, g1, g2, cc, f3, q1, q2⟩ := e (fun v hv => m1_not v (by omega))
    rw [fX6_takeSpouse, g1, bd_some, if_neg f3.ne.1, fz_advance f3.ne.1, bd_some, bd_some, fz_takeSpouse f3.ne.1, bd_some, if_neg f3.ne.1, g2, bd_some, if_neg f3.ne.2, fzm_wJ35 f3.ne.2]
    exact Or.inr ⟨σ3, t3, _, cc, rfl, rfl, f3, n4.rd.ln.tr q1.ln, n5.rd.ln.tr q2.ln⟩
end WEDS
