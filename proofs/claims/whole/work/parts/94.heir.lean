/-! ===== die, heir, contested ===== -/
def relK : List Nat := [0, 21, 29, 32, 39, 51, 57, 62, 71]
theorem KeepC.off {s t : St} (L : List Nat) (h : ∀ z ∈ L, actC z = false ∧ z < 69 ∧ relK.contains z = false) (e : ∀ k, ¬ k ∈ L → t k = s k) : KeepC s t := by
  refine ⟨fun k hk => e k (fun q => ?_), fun k hk => e k (fun q => ?_), fun k j hk => by rw [e k (fun q => by rw [relO_off (h k q).2.2] at hk; cases hk)]⟩
  · rw [(h k q).1] at hk; cases hk
  · have := (h k q).2.1; omega
theorem KeepM.off {s t : St} (L J : List Nat) (h : ∀ z ∈ L, actM z = false ∧ z ≠ 69 ∧ z ≠ 111 ∧ relK.contains z = false) (hJ : ∀ j ∈ J, (relM j = false ∨ j = 17) ∧ j ≠ 1) (e : ∀ k, k ≠ 69 → ¬ k ∈ L → t k = s k) (e69 : ∀ j, ¬ j ∈ J → t 69 j = s 69 j) : KeepM s t := by
  refine ⟨fun k hk => e k (fun q => ?_) (fun q => ?_), fun j hj hj17 => e69 j (fun q => ?_), fun k j hk => by rw [e k (fun q => by subst q; rw [relO_off rfl] at hk; cases hk) (fun q => by rw [relO_off (h k q).2.2.2] at hk; cases hk)], e 111 (by decide) (fun q => (h 111 q).2.2.1 rfl), e69 1 (fun q => (hJ 1 q).2 rfl)⟩
  · subst q; cases hk
  · rw [(h k q).1] at hk; cases hk
  · rcases (hJ j q).1 with z | z
    · rw [z] at hj; cases hj
    · exact hj17 z
theorem Keep.off {s t : St} (L J : List Nat) (h : ∀ z ∈ L, relS z = false ∧ z ≠ 69 ∧ relK.contains z = false) (hJ : ∀ j ∈ J, relM j = false) (e : ∀ k, k ≠ 69 → ¬ k ∈ L → t k = s k) (e69 : ∀ j, ¬ j ∈ J → t 69 j = s 69 j) : Keep s t := by
  refine ⟨fun k hk => e k (fun q => ?_) (fun q => ?_), fun j hj => e69 j (fun q => ?_), fun k j hk => by rw [e k (fun q => by subst q; rw [relO_off rfl] at hk; cases hk) (fun q => by rw [relO_off (h k q).2.2] at hk; cases hk)]⟩
  · subst q; cases hk
  · rw [(h k q).1] at hk; cases hk
  · rw [hJ j q] at hj; cases hj
/-- a call that changes scratch alone -/
theorem gat_scr {s s1 : St} {f : St → Option (RT × St)} {g : St → Option (Int32 × St)} {code : Nat → Int32} {a : Int32} (hs : RS s) (hf : f s = some (.inl a, s1)) (k1 : Keep s s1) (h69 : ∀ k, 69 ≤ k → s1 k = s k) (hg : ∀ u s3, Pre s u s3 → ∃ s4, g s3 = some (a, s4) ∧ Keep u s4 ∧ s4 111 = u 111 ∧ s4 69 1 = u 69 1) : GoodAt f g code s := by
  refine ⟨.inl a, s1, hf, fun s3 e3 => ?_⟩
  obtain ⟨s4, g1, g2, g3, g4⟩ := hg _ s3 (pre_st (fun k h1 h2 => (e3 k h2).trans (h69 k h1)))
  exact ⟨a, s4, g1, hs.keep (((k1.trans (keep_out e3)).trans keep_code).trans g2), by rw [g3, wr_slot (by decide)], by rw [g4, wr_hit], rfl⟩
def lawL (s : St) (dep : Nat → Nat) (len : Nat) (c : Nat → Int32) (d p : Nat) : Nat := (lawV s dep len c d p).toNatClampNeg
theorem lawL_spec (s : St) (dep : Nat → Nat) (len : Nat) (c : Nat → Int32) (d p : Nat) : lawV s dep len c d p = nI (lawL s dep len c d p) ∧ lawL s dep len c d p ≤ 999 := by
  obtain ⟨v, h1, h2⟩ := lawV_nat s dep len c d p
  rw [lawL, h2, nI_clamp (by omega)]
  exact ⟨rfl, h1⟩
theorem shD_ok {s : St} {n nw d : Nat} {c : Nat → Int32} {L : Nat → Nat} (h12 : n ≤ 12) (hw : RWill s n nw) (hL : ∀ p, L p ≤ 999) (hd : d < n) (hdead : ∀ p, n ≤ p → p < 12 → c (48 + p) = -1) : ShOk (shD s L c d) ∧ (∀ p, n ≤ p → p < 12 → shD s L c d p = 0) ∧ shD s L c d d = 0 := by
  have hSL : ShOk (shL L c d) ∧ (∀ p, n ≤ p → p < 12 → shL L c d p = 0) ∧ shL L c d d = 0 := by
    refine ⟨fun p _ => ?_, fun p q1 q2 => by rw [shL, if_pos (Or.inr (hdead p q1 q2))], by rw [shL, if_pos (Or.inl rfl)]⟩
    rw [shL]
    split
    · omega
    · exact hL p
  rw [shD]
  by_cases e : sumN (shW s c d) 12 = 0
  · rw [if_pos e]; exact hSL
  · rw [if_neg e]
    refine ⟨fun p hp => by have := (shW_le (c := c) h12 hw (d := d) (by omega) p hp).1; omega, fun p q1 q2 => ?_, ?_⟩
    · by_cases z : shW s c d p = 0
      · exact z
      · have := ((shW_le (c := c) h12 hw (d := d) (by omega) p q2).2.1 z).1; omega
    · by_cases z : shW s c d d = 0
      · exact z
      · exact absurd rfl ((shW_le (c := c) h12 hw (d := d) (by omega) d (by omega)).2.1 z).2
theorem shL_ok {n d : Nat} {c : Nat → Int32} {L : Nat → Nat} (hL : ∀ p, L p ≤ 999) (hdead : ∀ p, n ≤ p → p < 12 → c (48 + p) = -1) : ShOk (shL L c d) ∧ (∀ p, n ≤ p → p < 12 → shL L c d p = 0) ∧ shL L c d d = 0 := by
  refine ⟨fun p _ => ?_, fun p q1 q2 => by rw [shL, if_pos (Or.inr (hdead p q1 q2))], by rw [shL, if_pos (Or.inl rfl)]⟩
  rw [shL]
  split
  · omega
  · exact hL p
theorem wi_sym {n p d : Nat} {c : Nat → Int32} (h12 : n ≤ 12) (hi : WI n c) (hp : p < n) (hd : d < n) : c (60 + p) = nI d ↔ c (60 + d) = nI p := by
  have one : ∀ p d, p < n → d < n → c (60 + p) = nI d → c (60 + d) = nI p := fun p d hp hd e => by
    rcases hi.2.1 p hp with g | ⟨x, g1, g2, g3, g4⟩
    · rw [g] at e; exact absurd e.symm (neg1 (by omega))
    · have : x = d := (nI_eq (by omega) (by omega)).mp (g3.symm.trans e)
      rw [← this]; exact g4
  exact ⟨one p d hp hd, one d p hd hp⟩
theorem law_hL {s0 t : St} {n nw nf len d : Nat} {dep : Nat → Nat} {c c0 : Nat → Int32} (r : RLand s0 n nw nf) (hl : LawD s0 dep len) (hlm : LM s0 t) (hw : SW n c (vr t)) (hi0 : WI n c0) (h60 : ∀ p, p < n → c (60 + p) = c0 (60 + p)) (h48 : ∀ p, p < n → ¬ c (48 + p) = -1 → c (48 + p) = c0 (48 + p)) (hd : d < n) (had : ¬ c (48 + d) = -1) :
    ∀ p, p < n → p ≠ d → ¬ c (48 + p) = -1 → ∀ u, KT t u → ∃ u', fX12_byLaw (nI d) (nI p) u = some (nI (lawL s0 dep len c0 d p), u') ∧ ∀ k, k ≠ 90 → k ≠ 91 → u' k = u k := by
  intro p hp hpd hap u hu
  have h12 : n ≤ 12 := r.1.2.2
  rw [← (lawL_spec s0 dep len c0 d p).1]
  refine law_m r hl (fun k hk => ?_) hd hp ?_ ?_ ?_ (wi_sym h12 hi0 hp hd)
  · rw [hu.1 k (by omega) (by omega) (by omega) (by omega), hlm k hk]
  · rw [hu.1 77 (by decide) (by decide) (by decide) (by decide), ← vr_sp (s := t) (by omega), hw.2.2.1 p hp, h60 p hp]
  · rw [hu.1 73 (by decide) (by decide) (by decide) (by decide), ← vr_pl (s := t) (by omega), hw.2.1 p hp, h48 p hp hap]
  · rw [hu.1 73 (by decide) (by decide) (by decide) (by decide), ← vr_pl (s := t) (by omega), hw.2.1 d hd, h48 d hd had]
theorem c_bury {w d q n nw nf len : Nat} {s0 s : St} {dep S : Nat → Nat} (hw : LN (w + 1) = 94) (r : RLand s0 n nw nf) (hl : LawD s0 dep len) (hs : LC s0 s) (hd : d < n) (hdead : ∀ p, n ≤ p → p < 12 → s (w + 1) (48 + p) = -1) (hS : ∀ k, k < 4 → s (w + 1) (4 * d + k) = nI (S (4 * d + k)) ∧ S (4 * d + k) ≤ 11988) (hq : q < 10) (hpl : s (w + 1) (48 + d) = nI q) :
    ∃ s', fX11_bury w (nI d) s = some (nI (cntN (shD s0 (lawL s0 dep len (s (w + 1)) d) (s (w + 1)) d) 12), s') ∧ s' (w + 1) = dieR (shD s0 (lawL s0 dep len (s (w + 1)) d) (s (w + 1)) d) d q S (s (w + 1)) ∧ ∀ x, x ≠ 31 → x ≠ 48 → x ≠ 49 → x ≠ 50 → x ≠ w + 1 → s' x = s x := by
  have h12 : n ≤ 12 := r.1.2.2
  have hwl := r.2.2.2.2.2.2.1
  have w31 : w + 1 ≠ 31 := fun e => by rw [e] at hw; exact absurd hw (by decide)
  have w48 : w + 1 ≠ 48 := fun e => by rw [e] at hw; exact absurd hw (by decide)
  have w49 : w + 1 ≠ 49 := fun e => by rw [e] at hw; exact absurd hw (by decide)
  have w50 : w + 1 ≠ 50 := fun e => by rw [e] at hw; exact absurd hw (by decide)
  obtain ⟨s1, a1, a2, a3, a4⟩ := c_learn (w := w) (d := d) (s0 := s0) (s := s) hl hs hw (by omega)
  have e1 : s1 (w + 1) = s (w + 1) := a4 (w + 1) w31 w49
  obtain ⟨s2, b1, b2, b3⟩ := c_settle (w := w) (d := d) (s0 := s0) (s := s1) (L := lawL s0 dep len (s (w + 1)) d) hw (by omega) h12 hwl (by rw [a4 25 (by decide) (by decide), hs 25 (by decide) (by decide)]) (fun p => (lawL_spec _ _ _ _ _ _).2) (fun p hp q1 q2 => by
    rw [e1] at q2
    rw [a2 p hp q1 q2]
    exact (lawL_spec _ _ _ _ _ _).1)
  rw [e1] at b2
  have e2 : s2 (w + 1) = s (w + 1) := by rw [b3 (w + 1) w48 w50, e1]
  have c1 := c_handOver (w := w) (d := d) (q := q) (s := s2) (S := S) hw b2 (shD_ok h12 hwl (fun p => (lawL_spec _ _ _ _ _ _).2) hd hdead).1 (by omega) (fun k hk => by rw [e2]; exact hS k hk) hq (by rw [e2]; exact hpl)
  rw [e2] at c1
  refine ⟨_, by rw [fX11_bury, a1, bd_some, b1, bd_some, c1, bd_some, rset_off (fun e => w48 e.symm), b2.2.1], rset_hit, fun x q1 q2 q3 q4 q5 => by rw [rset_off q5, b3 x q2 q4, a4 x q1 q3]⟩
theorem lc_of {s s1 : St} (h : ∀ k, k ≠ 32 → k ≠ 35 → s1 k = s k) : LC s s1 := fun k h1 h2 => h k (by omega) (by omega)
theorem lm_of {s t : St} (h : ∀ k, 69 < k → k ≠ 89 → k ≠ 111 → t k = s k) : LM s t := fun k hk => h k (by omega) (by omega) (by omega)
theorem sky_of {n d : Nat} {c : Nat → Int32} {S : Nat → Nat} (hS : ∀ p k, p < n → k < 4 → c (4 * p + k) = nI (S (4 * p + k))) (hSb : ∀ k, k < 4 → sumN (fun p => S (4 * p + k)) n ≤ 11988) (hd : d < n) : ∀ k, k < 4 → c (4 * d + k) = nI (S (4 * d + k)) ∧ S (4 * d + k) ≤ 11988 := fun k hk => ⟨hS d k hd hk, Nat.le_trans (sumN_ge (f := fun p => S (4 * p + k)) n hd) (hSb k hk)⟩
theorem good_die (a : Int32) : Good (fX11_die a) (fX12_die a) c12 := by
  intro s hs
  show GoodAt _ _ _ _
  obtain ⟨n, nw, nf, r1, ⟨hw, hwi, -⟩, -⟩ := id hs
  obtain ⟨⟨hn, hm, h12⟩, -⟩ := id r1
  obtain ⟨A, hA, hAn, hA2, hA3, -⟩ := sw_bits h12 hw
  obtain ⟨dep, len, hl⟩ := r1.2.2.2.2.2.2.2.dep
  have hb : ∀ u s3, Pre s u s3 → u 71 0 = nI n ∧ u 69 17 = nI A := fun u s3 h => ⟨by rw [h.2.1 71 (by decide) (by decide)]; exact hm, by rw [h.2.2.1 17 (by decide)]; exact hA2⟩
  rcases i_cases a (n := n) (by omega) with ⟨p, hp, rfl⟩ | ho
  · have hp12 : p < 12 := by omega
    by_cases hal : s 34 (48 + p) = -1
    · refine gat_ref hs (-1) ?_ (fun u s3 h => ?_)
      · rw [fX11_die, c_person_in hn h12 hp, bx_val, w_alive rfl hp12, bd_some, if_pos hal, if_pos rfl, c_refusedAct, bd_some]
      · obtain ⟨g1, g2⟩ := hb u s3 h
        have hr : fX12_refuse (1 : Int32) u = some (-1, wr u 85 1 (u 85 1 + 1)) := m_refuse (u := u) (i := 1) (by decide)
        rw [fX12_die, h.1, m_person_in g1 h12 hp, bd_some, if_neg (by decide), m_alive_c h12 hA g2 hA3 hp, bd_some, if_pos hal, if_pos rfl, hr, bd_some]
    · obtain ⟨q, hq, hpl⟩ : ∃ q, q < 10 ∧ s 34 (48 + p) = nI q := by
        rcases hwi.1 p hp with e | e
        · exact absurd e hal
        · exact e
      obtain ⟨S, s1', s2'⟩ := hwi.2.2.1
      have hok := shD_ok (s := s) (c := s 34) (L := lawL s dep len (s 34) p) h12 r1.2.2.2.2.2.2.1 (fun p => (lawL_spec _ _ _ _ _ _).2) hp hw.2.2.2.2.2.2
      refine gat_act hs hn h12 (F := fun s_3 => bd (fX11_bury 33 (nI p) s_3) (fun y_4 s_4 => some (y_4, s_4))) (G := fun s_4 => bd (fX12_dieNow (nI p) s_4) (fun y_5 s_5 => some (y_5, s_5))) (fun s1 y s2 h1 h2 => ?_) (fun u s3 t y s4 h h1 h2 => ?_) (fun s1 e1 => ?_)
      · rw [fX11_die, c_person_in hn h12 hp, bx_val, w_alive rfl hp12, bd_some, if_neg hal, if_neg (by decide), h1, bd_some]
        cases hbu : fX11_bury 33 (nI p) s1 with
        | none => rw [hbu] at h2; cases h2
        | some v =>
          obtain ⟨v1, v2⟩ := v
          simp only [hbu, bd_some] at h2 ⊢
          cases h2
          rfl
      · obtain ⟨g1, g2⟩ := hb u s3 h
        rw [fX12_die, h.1, m_person_in g1 h12 hp, bd_some, if_neg (by decide), m_alive_c h12 hA g2 hA3 hp, bd_some, if_neg hal, if_neg (by decide), h1, bd_some]
        exact h2
      · have e34 : s1 34 = s 34 := e1 34 (by decide) (by decide)
        obtain ⟨s2, b1, b2, b3⟩ := c_bury (w := 33) (d := p) (q := q) (s0 := s) (s := s1) (S := S) rfl r1 hl (lc_of e1) hp (fun x q1 q2 => by show s1 34 (48 + x) = -1; rw [e34]; exact hw.2.2.2.2.2.2 x q1 q2) (fun k hk => by show s1 34 (4 * p + k) = _ ∧ _; rw [e34]; exact sky_of s1' s2' hp k hk) hq (by show s1 34 (48 + p) = _; rw [e34]; exact hpl)
        have b2' : s2 34 = dieR (shD s (lawL s dep len (s 34) p) (s 34) p) p q S (s 34) := by rw [← e34]; exact b2
        have b1' : fX11_bury 33 (nI p) s1 = some (nI (cntN (shD s (lawL s dep len (s 34) p) (s 34) p) 12), s2) := by rw [← e34]; exact b1
        refine ⟨nI (cntN (shD s (lawL s dep len (s 34) p) (s 34) p) 12), s2, by simp only [b1', bd_some], KeepC.off [31, 48, 49, 50, 34] (by decide) (fun k hk => b3 k (fun e => hk (by rw [e]; decide)) (fun e => hk (by rw [e]; decide)) (fun e => hk (by rw [e]; decide)) (fun e => hk (by rw [e]; decide)) (fun e => hk (by rw [e]; decide))), ?_, fun t tk t69 tv => ?_⟩
        · rw [b2']
          exact wi_die h12 hp hq hpl s1' s2' hok.2.1 hok.2.2 hwi
        · obtain ⟨t2, d1, d2, d3, d4⟩ := m_dieNow (s0 := s) (t := t) (c := s 34) (L := lawL s dep len (s 34) p) (S := S) (q := q) r1 (lm_of tk) hp (by rw [tv]; exact hw) hA (by rw [t69 17 (by decide) (by decide)]; exact hA2) hA3 (fun p => (lawL_spec _ _ _ _ _ _).2)
            (law_hL r1 hl (lm_of tk) (by rw [tv]; exact hw) hwi (fun _ _ => rfl) (fun _ _ _ => rfl) hp hal) (sky_of s1' s2' hp) hq hpl hok.1 hok.2.1
          refine ⟨t2, by simp only [d1, bd_some], KeepM.off [72, 73, 88, 90, 91, 92] [17, 37, 38] (by decide) (by decide) (fun k h69 hk => d3 k h69 (fun e => hk (by rw [e]; decide)) (fun e => hk (by rw [e]; decide)) (fun e => hk (by rw [e]; decide)) (fun e => hk (by rw [e]; decide)) (fun e => hk (by rw [e]; decide)) (fun e => hk (by rw [e]; decide))) (fun j hj => d4 j (fun e => hj (by rw [e]; decide)) (fun e => hj (by rw [e]; decide)) (fun e => hj (by rw [e]; decide))), ?_⟩
          rw [b2']
          exact d2
  · refine gat_thr (x := 0) hs (Or.inl rfl) (by decide) ?_ (fun u s3 h => ?_)
    · rw [fX11_die, c_person_out hn ho, bx_thr]
    · obtain ⟨g1, g2⟩ := hb u s3 h
      rw [fX12_die, h.1, m_person_out g1 h12 ho, bd_some, if_pos rfl, m_fail]
      rfl
theorem good_heir (a b x : Int32) : Good (fX11_heir a b x) (fX12_heir a b x) c12 := by
  intro s hs
  show GoodAt _ _ _ _
  obtain ⟨n, nw, nf, r1, ⟨hw, hwi, -⟩, -⟩ := id hs
  obtain ⟨⟨hn, hm, h12⟩, -⟩ := id r1
  obtain ⟨A, hA, hAn, hA2, hA3, -⟩ := sw_bits h12 hw
  obtain ⟨dep, len, hl⟩ := r1.2.2.2.2.2.2.2.dep
  have hb : ∀ u s3, Pre s u s3 → u 71 0 = nI n ∧ u 69 17 = nI A := fun u s3 h => ⟨by rw [h.2.1 71 (by decide) (by decide)]; exact hm, by rw [h.2.2.1 17 (by decide)]; exact hA2⟩
  rcases i_cases a (n := n) (by omega) with ⟨p, hp, rfl⟩ | ho
  · rcases i_cases b (n := n) (by omega) with ⟨z, hz, rfl⟩ | ho
    · rcases i_cases x (n := 4) (by omega) with ⟨k, hk, rfl⟩ | ho
      · by_cases hpz : p = z
        · refine gat_thr (x := 1) hs (Or.inr rfl) (by decide) ?_ (fun u s3 h => ?_)
          · rw [fX11_heir, c_person_in hn h12 hp, bx_val, c_person_in hn h12 hz, bx_val, c_part_in hk, bx_val, if_pos (by rw [hpz])]
          · obtain ⟨g1, g2⟩ := hb u s3 h
            rw [fX12_heir, h.1, m_person_in g1 h12 hp, bd_some, if_neg (by decide), m_person_in g1 h12 hz, bd_some, if_neg (by decide), m_part_in hk, bd_some, if_neg (by decide), if_pos (by rw [hpz]), m_fail]
            rfl
        have hne : ¬ nI p = nI z := fun e => hpz ((nI_eq (by omega) (by omega)).mp e)
        by_cases hal : s 34 (48 + p) = -1
        · refine gat_thr (x := 1) hs (Or.inr rfl) (by decide) ?_ (fun u s3 h => ?_)
          · rw [fX11_heir, c_person_in hn h12 hp, bx_val, c_person_in hn h12 hz, bx_val, c_part_in hk, bx_val, if_neg hne, w_alive rfl (by omega), bd_some, if_pos hal, if_pos rfl]
          · obtain ⟨g1, g2⟩ := hb u s3 h
            rw [fX12_heir, h.1, m_person_in g1 h12 hp, bd_some, if_neg (by decide), m_person_in g1 h12 hz, bd_some, if_neg (by decide), m_part_in hk, bd_some, if_neg (by decide), if_neg hne, m_alive_c h12 hA g2 hA3 hp, bd_some, if_pos hal, if_pos rfl, m_fail]
            rfl
        obtain ⟨S, s1', s2'⟩ := hwi.2.2.1
        obtain ⟨hk1, hk2⟩ := sky_of s1' s2' hp k hk
        have hok := shD_ok (s := s) (c := s 34) (L := lawL s dep len (s 34) p) h12 r1.2.2.2.2.2.2.1 (fun p => (lawL_spec _ _ _ _ _ _).2) hp hw.2.2.2.2.2.2
        obtain ⟨s1, a1, a2, a3, a4⟩ := c_learn (w := 33) (d := p) (s0 := s) (s := s) hl (fun _ _ _ => rfl) rfl (by omega)
        have e1 : s1 34 = s 34 := a4 34 (by decide) (by decide)
        obtain ⟨s2, b1, b2, b3⟩ := c_settle (w := 33) (d := p) (s0 := s) (s := s1) (L := lawL s dep len (s 34) p) rfl (by omega) h12 r1.2.2.2.2.2.2.1 (a4 25 (by decide) (by decide)) (fun p => (lawL_spec _ _ _ _ _ _).2) (fun x hx q1 q2 => by
          have q2' : ¬ s 34 (48 + x) = -1 := by rw [← e1]; exact q2
          rw [a2 x hx q1 q2']
          exact (lawL_spec _ _ _ _ _ _).1)
        have b2' : SetP 12 s2 (shD s (lawL s dep len (s 34) p) (s 34) p) := by rw [← e1]; rw [← e1] at b2; exact b2
        have hpt : fX10_part 33 (nI p) (nI k) s2 = some (nI (S (4 * p + k)), s2) := by
          rw [w_part rfl (by omega) hk]
          show some (s2 34 (4 * p + k), s2) = _
          rw [b3 34 (by decide) (by decide), e1, hk1]
        refine gat_scr (s1 := s2) (a := nI (porN (shD s (lawL s dep len (s 34) p) (s 34) p) (S (4 * p + k)) z)) hs ?_ (Keep.off [31, 48, 49, 50] [] (by decide) (by decide) (fun j _ hj => by rw [b3 j (fun e => hj (by rw [e]; decide)) (fun e => hj (by rw [e]; decide)), a4 j (fun e => hj (by rw [e]; decide)) (fun e => hj (by rw [e]; decide))]) (fun j _ => by rw [b3 69 (by decide) (by decide), a4 69 (by decide) (by decide)])) (fun j hj => by rw [b3 j (by omega) (by omega), a4 j (by omega) (by omega)]) (fun u s3 h => ?_)
        · rw [fX11_heir, c_person_in hn h12 hp, bx_val, c_person_in hn h12 hz, bx_val, c_part_in hk, bx_val, if_neg hne, w_alive rfl (by omega), bd_some, if_neg hal, if_neg (by decide), a1, bd_some, b1, bd_some, hpt, bd_some, c_portion b2' hok.1 hk2 (by omega), bd_some]
        · obtain ⟨g1, g2⟩ := hb u s3 h
          have hlm : LM s u := fun k hk => h.2.1 k (by omega) (by omega)
          obtain ⟨t1, d1, d2, d3⟩ := m_tell (t := u) (c := s 34) (L := lawL s dep len (s 34) p) true r1 hlm hp hA g2 hA3 (fun p => (lawL_spec _ _ _ _ _ _).2) (law_hL r1 hl hlm (by rw [h.2.2.2]; exact hw) hwi (fun _ _ => rfl) (fun _ _ _ => rfl) hp hal)
          have d1' : fX12_tellShares (nI p) (1 : Int32) u = some (0, t1) := d1
          rw [if_pos rfl] at d2
          have hn1 : t1 71 0 = nI n := by rw [d3.1 71 (by decide) (by decide) (by decide) (by decide), g1]
          have hmu : t1 72 (4 * p + k) = nI (S (4 * p + k)) := by rw [d3.1 72 (by decide) (by decide) (by decide) (by decide), ← vr_sky (s := u) (by omega) hk, h.2.2.2, hw.1 p k hp hk, hk1]
          refine ⟨t1, ?_, Keep.off [90, 91, 92] [37, 38] (by decide) (by decide) (fun j h69 hj => d3.1 j h69 (fun e => hj (by rw [e]; decide)) (fun e => hj (by rw [e]; decide)) (fun e => hj (by rw [e]; decide))) (fun j hj => d3.2 j (fun e => hj (by rw [e]; decide)) (fun e => hj (by rw [e]; decide))), d3.1 111 (by decide) (by decide) (by decide) (by decide), d3.2 1 (by decide) (by decide)⟩
          rw [fX12_heir, h.1, m_person_in g1 h12 hp, bd_some, if_neg (by decide), m_person_in g1 h12 hz, bd_some, if_neg (by decide), m_part_in hk, bd_some, if_neg (by decide), if_neg hne, m_alive_c h12 hA g2 hA3 hp, bd_some, if_neg hal, if_neg (by decide), d1', bd_some, m_partOf (much := S (4 * p + k)) hn1 h12 d2 hok.1 hok.2.1 hk2 hp hz hk hmu, bd_some]
      · refine gat_thr (x := 0) hs (Or.inl rfl) (by decide) ?_ (fun u s3 h => ?_)
        · rw [fX11_heir, c_person_in hn h12 hp, bx_val, c_person_in hn h12 hz, bx_val, c_part_out ho, bx_thr]
        · obtain ⟨g1, g2⟩ := hb u s3 h
          rw [fX12_heir, h.1, m_person_in g1 h12 hp, bd_some, if_neg (by decide), m_person_in g1 h12 hz, bd_some, if_neg (by decide), m_part_out ho, bd_some, if_pos rfl, m_fail]
          rfl
    · refine gat_thr (x := 0) hs (Or.inl rfl) (by decide) ?_ (fun u s3 h => ?_)
      · rw [fX11_heir, c_person_in hn h12 hp, bx_val, c_person_out hn ho, bx_thr]
      · obtain ⟨g1, g2⟩ := hb u s3 h
        rw [fX12_heir, h.1, m_person_in g1 h12 hp, bd_some, if_neg (by decide), m_person_out g1 h12 ho, bd_some, if_pos rfl, m_fail]
        rfl
  · refine gat_thr (x := 0) hs (Or.inl rfl) (by decide) ?_ (fun u s3 h => ?_)
    · rw [fX11_heir, c_person_out hn ho, bx_thr]
    · obtain ⟨g1, g2⟩ := hb u s3 h
      rw [fX12_heir, h.1, m_person_out g1 h12 ho, bd_some, if_pos rfl, m_fail]
      rfl
