/-! ===== land: the law, one part ===== -/
section LAWQ
variable {b : Nat → Int32} {m K : Nat} {pl ln : Nat → Nat}
theorem p_type {i : Nat} {σ t : St} (h : At b m K pl ln i σ t) : (t 69 22 = 2 ↔ σ 2 6 = 200) ∧ (t 69 22 = 1 ↔ 300 ≤ σ 2 6) ∧ (σ 2 6 = 200 ∨ 300 ≤ σ 2 6 → i < K) := by
  obtain ⟨a1, a2, ⟨a3, a4⟩, a5, a6, ⟨a7, a8, a9⟩, a10⟩ := id h
  have h300 : ∀ w : Nat, 300 ≤ w → w ≤ 316 → (300 : Int32) ≤ nI w := fun w h1 h2 => by
    have : ((300 : Int32) ≤ nI w) ↔ 300 ≤ w := nI_leI (a := 300) (by decide) (by omega)
    rw [this]; exact h1
  rcases a10 with ⟨q1, q2, -⟩ | ⟨q1, q2, -⟩
  · rw [a8, q2, kAt, if_pos q1, ty_word]
    by_cases e : chK (b (pl i)) = 300
    · obtain ⟨w, w1, w2, w3⟩ := word_ge b (pl i) (ln i)
      rw [kindT, if_pos e, tyS, if_pos e, w3]
      refine ⟨⟨fun q => absurd q (by decide), fun q => ?_⟩, ⟨fun _ => h300 w w1 w2, fun _ => e⟩, fun _ => q1⟩
      have := h300 w w1 w2
      rw [q] at this
      exact absurd this (by decide)
    · rw [kindT, if_neg e, tyS, if_neg e]
      have nk : ¬ (300 : Int32) ≤ chK (b (pl i)) := by
        rcases chK_spec (b (pl i)) with ⟨-, -, h3⟩ | ⟨-, -, -, h3⟩ | ⟨-, -, h3⟩
        · exact absurd h3 e
        · rw [h3]; decide
        · rw [h3]
          rcases chB_spec (b (pl i)) with ⟨-, h⟩ | ⟨h, h'⟩ | ⟨-, -, h⟩
          · rw [h]; decide
          · rw [h']
            exact fun q => absurd (i_nlt.mpr q) (fun z => z (mk_facts _ h).2.2.2.1)
          · rw [h]; decide
      refine ⟨?_, ⟨fun q => absurd q e, fun q => absurd q nk⟩, fun _ => q1⟩
      by_cases e2 : chK (b (pl i)) = 200
      · rw [if_pos e2]; exact ⟨fun _ => e2, fun _ => rfl⟩
      · rw [if_neg e2]
        refine ⟨fun q => ?_, fun q => absurd q e2⟩
        by_cases e3 : mkD (b (pl i)) = true
        · rw [if_pos e3] at q; exact absurd q (by decide)
        · rw [if_neg e3] at q; exact absurd q (by decide)
  · rw [a8, q2, kAt, if_neg (by omega)]
    refine ⟨⟨fun q => absurd q (by decide), fun q => absurd q (by decide)⟩, ⟨fun q => absurd q (by decide), fun q => absurd q (by decide)⟩, fun q => ?_⟩
    rcases q with q | q <;> exact absurd q (by decide)
theorem p_badNum {i : Nat} {σ t : St} (h : At b m K pl ln i σ t) (hk : ¬ σ 2 6 = 200) (lo hi : Int32) : fX6_takeNumber lo hi σ = some ((wr σ 2 4 1) 2 7, wr σ 2 4 1) := by
  obtain ⟨f1, f2, f3⟩ := p_fault h (c := 1) (by decide)
  rw [fX6_takeNumber, fX6_lookNumber, if_pos h.2.2.2.1, if_neg hk, f1, bd_some, fz_J22 f3.ne.1, bd_some, fz_advance f3.ne.1, bd_some]
theorem p_badMark (hm : m ≤ 700) (hT : TokB b m K pl ln) {i : Nat} {σ t : St} (h : At b m K pl ln i σ t) {c : Int32} (hc : mkB c) (hk : ¬ σ 2 6 = c) : fX12_mark c t = some (0, wr (wr t 69 26 1) 69 27 (nI (pAt m K pl i))) := by
  obtain ⟨f1, f2, f3⟩ := p_fault h (c := 1) (by decide)
  have a6 := h.2.2.2.2.1
  rw [fX12_mark, if_pos a6, p_isMarked hm hT h hc, bd_some, decide_eq_false hk, if_pos kf_f, f2, bd_some, if_neg f3.ne.2]
theorem flt_rd {i : Nat} {σ t : St} (c : Int32) : RdC σ (wr σ 2 4 c) ∧ RdM t (wr (wr t 69 26 c) 69 27 (nI (pAt m K pl i))) :=
  ⟨⟨fun x hx => wr_slot hx, fun j q1 _ _ _ => wr_place q1⟩, ⟨fun x hx => by rw [wr_slot hx, wr_slot hx], fun j _ _ _ _ _ q6 q7 => by rw [wr_place q7, wr_place q6]⟩⟩
theorem val_code : ∀ v, v < 7 → ∀ σ : St, fX6_valueStep (if v = 0 then 302 else if v = 1 then 303 else nI (310 + v)) σ = some (-1 - nI v, σ) := fun v hv σ => by
  have : v = 0 ∨ v = 1 ∨ v = 2 ∨ v = 3 ∨ v = 4 ∨ v = 5 ∨ v = 6 := by omega
  rcases this with h | h | h | h | h | h | h <;> (subst h; rfl)
theorem val_none {σ : St} {k : Int32} (h : ∀ v, v < 7 → ¬ k = (if v = 0 then 302 else if v = 1 then 303 else nI (310 + v))) : fX6_valueStep k σ = some (0, σ) := by
  have h0 : ¬ k = 302 := h 0 (by decide)
  have h1 : ¬ k = 303 := h 1 (by decide)
  have h2 : ¬ k = 312 := h 2 (by decide)
  have h3 : ¬ k = 313 := h 3 (by decide)
  have h4 : ¬ k = 314 := h 4 (by decide)
  have h5 : ¬ k = 315 := h 5 (by decide)
  have h6 : ¬ k = 316 := h 6 (by decide)
  rw [fX6_valueStep, if_neg h0, if_neg h1, if_neg h2, if_neg h3, if_neg h4, if_neg h5, if_neg h6]
theorem val_ne : ∀ v, v < 7 → ¬ (-1 - nI v : Int32) = 0 ∧ ¬ nI v = (-1 : Int32) := by decide +kernel
theorem p_part (hm : m ≤ 700) (hK : K ≤ m) (hT : TokB b m K pl ln) (hB : Bytes b) (hK8 : K ≤ 698) {rc rc' : Int32 → St → Option (Int32 × St)} {lv : Nat} (hlv : lv ≤ 5)
    (HR : ∀ i len dep (σ t : St), At b m K pl ln i σ t → LawI len dep σ t → len + 1 ≤ i → dep len + (5 * (5 - lv) + 1) ≤ 64 → POut b m K pl ln 2 (rc (nI (lv + 1)) σ) (rc' (nI (lv + 1)) t) i len (dep len) σ t) (HF : ∀ x t, ¬ t 69 26 = 0 → rc' x t = some (0, t)) :
    ∀ i len dep (σ t : St), At b m K pl ln i σ t → LawI len dep σ t → len + 1 ≤ i → dep len + (5 * (5 - lv) + 1) ≤ 64 → POut b m K pl ln 1 (fX6_readPart rc (nI lv) σ) (fX12_readPart rc' (nI lv) t) i len (dep len) σ t := by
  intro i len dep σ t h hL hi hd
  have a5 := h.2.2.2.1
  have a6 := h.2.2.2.2.1
  have hiK := h.1
  obtain ⟨ty2, ty1, tyK⟩ := p_type h
  have mk40 : mkB 40 := Or.inl rfl
  have mk41 : mkB 41 := Or.inr (Or.inl rfl)
  by_cases k40 : σ 2 6 = 40
  · have t2 : ¬ t 69 22 = 2 := fun q => absurd ((ty2.mp q).symm.trans k40) (by decide)
    have t1 : ¬ t 69 22 = 1 := fun q => by
      have := ty1.mp q
      rw [k40] at this
      exact absurd this (by decide)
    have hr : fX12_readPart rc' (nI lv) t = bd (fX12_mark (40 : Int32) t) (fun y_1 s_1 => bd (rc' (nI lv + (1 : Int32)) s_1) (fun y_2 s_2 => bd (fX12_mark (41 : Int32) s_2) (fun y_3 s_3 => some (0, s_3)))) := by
      rw [fX12_readPart, if_pos a6, if_neg t2, if_neg t1]
    have hc : fX6_readPart rc (nI lv) σ = bd (fX6_take (40 : Int32) σ) (fun y_4 s_4 => bd (rc (nI lv + (1 : Int32)) s_4) (fun y_5 s_5 => bd (fX6_take (41 : Int32) s_5) (fun y_6 s_6 => some (0, s_6)))) := by
      rw [fX6_readPart, if_pos a5, if_pos k40, fX6_take, if_pos k40]
      cases fX6_advance σ <;> rfl
    rw [hr, hc]
    rcases p_take hm hK hT hB h mk40 with ⟨σ1, t1', e1, e2, hiK2, -, h1, r1, r2⟩ | ⟨σ1, t1', e1, e2, f3⟩
    · rw [e1, e2, bd_some, bd_some, zra_1]
      rcases HR (i + 1) len dep σ1 t1' h1 (hL.rd r1 r2) (by omega) hd with ⟨i', len', dep', σ2, t2', g1, g2, g3, g4, g5, g6, g7, g8, g9⟩ | ⟨σ2, t2', i', c, len', g1, g2, g3, g4, g5, g6, g7, g8⟩
      · rw [g1, g2, bd_some, bd_some]
        rcases p_take hm hK hT hB g3 mk41 with ⟨σ3, t3', e3, e4, -, -, h2, r3, r4⟩ | ⟨σ3, t3', e3, e4, c, f3, r3, r4⟩
        · left
          exact ⟨i' + 1, len', dep', σ3, t3', by rw [e3, bd_some], by rw [e4, bd_some], h2, by omega, g5.rd r3 r4, by omega, g7, r1.lw.tr (g8.tr r3.lw), r2.lw.tr (g9.tr r4.lw)⟩
        · right
          exact ⟨σ3, t3', i', c, len', by rw [e3, bd_some], by rw [e4, bd_some], f3, by omega, by rw [r3.1 11 (by decide)]; exact g5.1, by omega, r1.lw.tr (g8.tr r3.lw), r2.lw.tr (g9.tr r4.lw)⟩
      · rw [g1, g2, bd_some, bd_some]
        right
        exact ⟨σ2, t2', i', c, len', by rw [fz_take g3.ne.1, bd_some], by rw [fz_mark g3.ne.2, bd_some], g3, by omega, g5, by omega, r1.lw.tr g7, r2.lw.tr g8⟩
    · exfalso
      rw [fX6_take, if_pos k40] at e1
      have hlt : i < K := by
        rcases Nat.lt_or_ge i K with q | q
        · exact q
        · have := h.2.2.2.2.2.1.2.1
          rw [k40, kAt, if_neg (by omega)] at this
          exact absurd this (by decide)
      obtain ⟨σ', t', n1, n2, n3, n4, n5⟩ := p_next hm hK hT hB h hlt
      rw [n1, bd_some] at e1
      cases e1
      exact f3.ne.1 n3.2.2.2.1
  · by_cases k300 : σ 2 6 < 300
    · have t1 : ¬ t 69 22 = 1 := fun q => absurd (ty1.mp q) (fun z => (i_nlt.mpr z) k300)
      have hc : fX6_readPart rc (nI lv) σ = bd (fX6_takeNumber (0 : Int32) (9999 : Int32) σ) (fun y_1 s_1 => bd (fX5_add 11 y_1 s_1) (fun y_2 s_2 => some (0, s_2))) := by
        rw [fX6_readPart, if_pos a5, if_neg k40, if_pos k300]
      rw [hc]
      by_cases k200 : σ 2 6 = 200
      · have hr : fX12_readPart rc' (nI lv) t = bd (fX12_readNumber (0 : Int32) (9999 : Int32) t) (fun y_8 s_8 => bd (fX12_lay y_8 s_8) (fun y_9 s_9 => some (0, s_9))) := by
          rw [fX12_readPart, if_pos a6, if_pos (ty2.mpr k200)]
        rw [hr]
        rcases p_takeNumber hm hK hT hB h (lo := 0) (hi := 9999) (by decide) (by decide) with ⟨v, σ1, t1', v1, v2, e1, e2, hiK2, h1, r1, r2⟩ | ⟨y, σ1, t1', e1, e2, c, f3, r1, r2⟩
        · have e1 : fX6_takeNumber (0 : Int32) (9999 : Int32) σ = some (nI v, σ1) := e1
          have e2 : fX12_readNumber (0 : Int32) (9999 : Int32) t = some (nI v, t1') := e2
          rw [e1, e2, bd_some, bd_some]
          have hL1 := hL.rd r1 r2
          obtain ⟨σ2, s1, s2, s3⟩ := c_addStep (nI v) hL1.1 (by omega)
          obtain ⟨t2, u1, u2, u3⟩ := m_addStep (nI v) h1.2.2.2.2.1 hL1.2.1 (by omega)
          obtain ⟨dep', p1, p2⟩ := law_push hL1 (c := nI v) (mm := nI v) (d' := dep len + 1) (Or.inl ⟨rfl, Or.inl ⟨v, v2, rfl, rfl⟩⟩) (by omega) s2 u2
          left
          refine ⟨i + 1, len + 1, dep', σ2, t2, by rw [s1, bd_some], by rw [u1, bd_some], ?_, by omega, p1, by omega, p2, r1.lw.tr s3, r2.lw.tr u3⟩
          rw [s2, u2]
          exact h1.push
        · have e1 : fX6_takeNumber (0 : Int32) (9999 : Int32) σ = some (y, σ1) := e1
          have e2 : fX12_readNumber (0 : Int32) (9999 : Int32) t = some (0, t1') := e2
          rw [e1, e2, bd_some, bd_some]
          obtain ⟨σ2, s1, s2, s3⟩ := c_addStep y (show σ1 11 2 = nI len by rw [r1.1 11 (by decide)]; exact hL.1) (by omega)
          right
          refine ⟨σ2, t1', i, c, len + 1, by rw [s1, bd_some], by rw [fz_lay f3.ne.2, bd_some], ?_, Nat.le_refl _, by rw [s2, wr_hit], by omega, r1.lw.tr s3, r2.lw⟩
          rw [s2]
          exact f3.push
      · have hr : fX12_readPart rc' (nI lv) t = bd (fX12_mark (40 : Int32) t) (fun y_1 s_1 => bd (rc' (nI lv + (1 : Int32)) s_1) (fun y_2 s_2 => bd (fX12_mark (41 : Int32) s_2) (fun y_3 s_3 => some (0, s_3)))) := by
          rw [fX12_readPart, if_pos a6, if_neg (fun q => k200 (ty2.mp q)), if_neg t1]
        obtain ⟨f1, f2, f3⟩ := p_fault h (c := 1) (by decide)
        obtain ⟨r1, r2⟩ := flt_rd (m := m) (K := K) (pl := pl) (i := i) (σ := σ) (t := t) 1
        rw [hr, p_badMark hm hT h mk40 k40, bd_some, HF _ _ f3.ne.2, bd_some, fz_mark f3.ne.2, bd_some, p_badNum h k200, bd_some]
        obtain ⟨σ2, s1, s2, s3⟩ := c_addStep ((wr σ 2 4 1) 2 7) (show (wr σ 2 4 1) 11 2 = nI len by rw [wr_slot (by decide)]; exact hL.1) (by omega)
        right
        refine ⟨σ2, _, i, 1, len + 1, by rw [s1, bd_some], rfl, ?_, Nat.le_refl _, by rw [s2, wr_hit], by omega, r1.lw.tr s3, r2.lw⟩
        rw [s2]
        exact f3.push
    · have g300 : 300 ≤ σ 2 6 := i_nlt.mp k300
      have hr : fX12_readPart rc' (nI lv) t = bd (fX12_which t) (fun y_4 s_4 => if y_4 = (-1 : Int32) then (bd (fX12_wrong (3 : Int32) s_4) (fun y_7 s_7 => fX12_readPart_J56 rc' y_4 s_7)) else (fX12_readPart_J56 rc' y_4 s_4)) := by
        rw [fX12_readPart, if_pos a6, if_neg (fun q => by
          have := ty2.mp q
          rw [this] at g300
          exact absurd g300 (by decide)), if_pos (ty1.mpr g300)]
      have hc : fX6_readPart rc (nI lv) σ = bd (fX6_readValue σ) (fun y_3 s_3 => some (0, s_3)) := by
        rw [fX6_readPart, if_pos a5, if_neg k40, if_neg k300]
      have hlt := tyK (Or.inr g300)
      obtain ⟨y, w1, w2⟩ := m_which hm hT h
      rw [hr, hc, w1, bd_some, fX6_readValue]
      rcases w2 with ⟨v, v1, v2, v3⟩ | ⟨v2, v3⟩
      · subst v2
        have vs := val_code v v1 σ
        rw [← v3] at vs
        rw [vs, bd_some, if_neg (val_ne v v1).1, if_neg (val_ne v v1).2, fX6_readValue_J17, fX12_readPart_J56]
        obtain ⟨σ2, s1, s2, s3⟩ := c_addStep (-1 - nI v) hL.1 (by omega)
        obtain ⟨t2, u1, u2, u3⟩ := m_addStep (-1 - nI v) a6 hL.2.1 (by omega)
        obtain ⟨dep', p1, p2⟩ := law_push hL (c := -1 - nI v) (mm := -1 - nI v) (d' := dep len + 1) (Or.inl ⟨rfl, Or.inr ⟨v, v1, rfl, rfl⟩⟩) (by omega) s2 u2
        have hA : At b m K pl ln i σ2 t2 := by rw [s2, u2]; exact h.push
        obtain ⟨σ3, t3, n1, n2, n3, n4, n5⟩ := p_next hm hK hT hB hA hlt
        left
        exact ⟨i + 1, len + 1, dep', σ3, t3, by rw [s1, bd_some, n1, bd_some, bd_some], by rw [u1, bd_some, if_pos hA.2.2.2.2.1, n2, bd_some], n3, by omega, p1.rd n4.rd n5.rd, by omega, p2, s3.tr n4.rd.lw, u3.tr n5.rd.lw⟩
      · subst v2
        obtain ⟨σ1, t1', f1, f2, ⟨c, f3, r1, r2⟩, -⟩ := p_flt h (c := 3) (by decide)
        rw [val_none v3, bd_some, if_pos rfl, if_pos rfl, f1, f2, bd_some, bd_some, fX6_readValue_J17, fX12_readPart_J56, fz_lay f3.ne.2, bd_some, if_neg f3.ne.2]
        obtain ⟨σ2, s1, s2, s3⟩ := c_addStep 0 (show σ1 11 2 = nI len by rw [r1.1 11 (by decide)]; exact hL.1) (by omega)
        have hF2 : Flt m K pl i c σ2 t1' := by rw [s2]; exact f3.push
        right
        exact ⟨σ2, t1', i, c, len + 1, by rw [s1, bd_some, fz_advance hF2.ne.1, bd_some, bd_some], rfl, hF2, Nat.le_refl _, by rw [s2, wr_hit], by omega, r1.lw.tr s3, r2.lw⟩
end LAWQ
