/-! ===== land: persons, marks, words, side by side ===== -/
section PAIR3
variable {b : Nat → Int32} {m K : Nat} {pl ln : Nat → Nat} {i : Nat} {σ t : St}
theorem p_other (hm : m ≤ 700) (hT : TokB b m K pl ln) (h : At b m K pl ln i σ t) {n : Nat} (hn : n ≤ 12) (h3 : σ 3 0 = nI n) (h5 : t 71 5 = nI n) (a : Int32) :
    (i < K ∧ ∃ v, v < n ∧ ¬ nI v = a ∧ fX6_lookPerson a σ = some (nI v, σ) ∧ fX12_otherNow a t = some (nI v, t) ∧ fX12_personNow t = some (nI v, t)) ∨ (∃ y y' σ' t', fX6_lookPerson a σ = some (y, σ') ∧ fX12_otherNow a t = some (y', t') ∧ OutF m K pl i σ t σ' t') ∧ ((∀ v, v < n → ¬ nI v = a) → ∃ y y' σ' t', fX6_lookPerson a σ = some (y, σ') ∧ fX12_personNow t = some (y', t') ∧ OutF m K pl i σ t σ' t') := by
  have a6 := h.2.2.2.2.1
  have z0 : (0 : Int32) = nI 0 := rfl
  have z9 : (9999 : Int32) = nI 9999 := rfl
  have hJf : ∀ v (σ' : St), ¬ σ' 2 4 = 0 → fX6_lookPerson_J25 a v σ' = some (v, σ') := fun v σ' q => by
    rw [fX6_lookPerson_J25, fz_refuse q, bd_some]
    by_cases e : v = a
    · rw [if_pos e]
    · rw [if_neg e]
  rcases p_number hm hT h (lo := 0) (hi := 9999) (by decide) (by decide) with ⟨hi, v, -, v2, e1, e2⟩ | ⟨y, σ', t', e1, e2, e3⟩
  · rw [← z0, ← z9] at e1 e2
    by_cases c1 : v < n
    · have hP : fX12_personNow t = some (nI v, t) := by
        rw [fX12_personNow, e2, bd_some, if_pos a6, if_pos (by decide)]
        show (if nI v < t 71 5 then _ else _) = _
        rw [h5, if_pos (by rw [nI_ltI (by omega) (by omega)]; exact c1), if_pos a6]
      have hC : fX6_lookPerson a σ = fX6_lookPerson_J25 a (nI v) σ := by
        rw [fX6_lookPerson, e1, bd_some, h3, if_pos (by rw [nI_ltI (by omega) (by omega)]; exact c1)]
      by_cases c2 : nI v = a
      · right
        obtain ⟨σ', t', f1, f2, f3, f4⟩ := p_flt h (c := 4) (by decide)
        refine ⟨⟨nI v, nI v, σ', t', ?_, ?_, f3⟩, fun q => absurd c2 (q v c1)⟩
        · rw [hC, fX6_lookPerson_J25, if_pos c2, f1, bd_some]
        · rw [fX12_otherNow, hP, bd_some, if_pos a6, if_pos c2, f2, bd_some]
      · left
        refine ⟨hi, v, c1, c2, ?_, ?_, hP⟩
        · rw [hC, fX6_lookPerson_J25, if_neg c2]
        · rw [fX12_otherNow, hP, bd_some, if_pos a6, if_neg c2]
    · right
      obtain ⟨σ', t', f1, f2, f3, f4⟩ := p_flt h (c := 3) (by decide)
      have hP : fX12_personNow t = some (0, t') := by
        rw [fX12_personNow, e2, bd_some, if_pos a6, if_pos (by decide)]
        show (if nI v < t 71 5 then _ else _) = _
        rw [h5, if_neg (by rw [nI_ltI (by omega) (by omega)]; exact c1), f2, bd_some, if_neg f3.ne.2]
      have hC : fX6_lookPerson a σ = some (nI v, σ') := by
        rw [fX6_lookPerson, e1, bd_some, h3, if_neg (by rw [nI_ltI (by omega) (by omega)]; exact c1), f1, bd_some, hJf _ _ f3.ne.1]
      exact ⟨⟨nI v, 0, σ', t', hC, by rw [fX12_otherNow, hP, bd_some, if_neg f3.ne.2], f3⟩, fun _ => ⟨nI v, 0, σ', t', hC, hP, f3⟩⟩
  · rw [← z0, ← z9] at e1 e2
    right
    have hP : fX12_personNow t = some (0, t') := by rw [fX12_personNow, e2, bd_some, if_neg e3.ne.2, if_neg e3.ne.2]
    have hC : fX6_lookPerson a σ = some (y, σ') := by
      rw [fX6_lookPerson, e1, bd_some, fz_refuse e3.ne.1, bd_some, hJf _ _ e3.ne.1]
      by_cases e : y < σ' 3 0
      · rw [if_pos e]
      · rw [if_neg e]
    exact ⟨⟨y, 0, σ', t', hC, by rw [fX12_otherNow, hP, bd_some, if_neg e3.ne.2], e3⟩, fun _ => ⟨y, 0, σ', t', hC, hP, e3⟩⟩
theorem m1_not (v : Nat) (hv : v < 2147483648) : ¬ nI v = -1 := fun q => by
  have := congrArg Int32.toInt q
  rw [nI_toInt hv] at this
  have z : (-1 : Int32).toInt = -1 := rfl
  omega
theorem p_takePerson (hm : m ≤ 700) (hK : K ≤ m) (hT : TokB b m K pl ln) (hB : Bytes b) (h : At b m K pl ln i σ t) {n : Nat} (hn : n ≤ 12) (h3 : σ 3 0 = nI n) (h5 : t 71 5 = nI n) :
    (∃ v σ' t', v < n ∧ fX6_takePerson (-1) σ = some (nI v, σ') ∧ fX12_readPerson t = some (nI v, t') ∧ i < K ∧ At b m K pl ln (i + 1) σ' t' ∧ RdC σ σ' ∧ RdM t t') ∨ ∃ y y' σ' t', fX6_takePerson (-1) σ = some (y, σ') ∧ fX12_readPerson t = some (y', t') ∧ OutF m K pl i σ t σ' t' := by
  rcases p_other hm hT h hn h3 h5 (-1) with ⟨hi, v, v1, v2, e1, -, e2⟩ | ⟨-, e⟩
  · left
    obtain ⟨σ', t', n1, n2, n3, n4, n5⟩ := p_next hm hK hT hB h hi
    exact ⟨v, σ', t', v1, by rw [fX6_takePerson, e1, bd_some, n1, bd_some], by rw [fX12_readPerson, e2, bd_some, if_pos h.2.2.2.2.1, n2, bd_some], hi, n3, n4.rd, n5.rd⟩
  · right
    obtain ⟨y, y', σ', t', e1, e2, e3⟩ := e (fun v hv => m1_not v (by omega))
    exact ⟨y, y', σ', t', by rw [fX6_takePerson, e1, bd_some, fz_advance e3.ne.1, bd_some], by rw [fX12_readPerson, e2, bd_some, if_neg e3.ne.2], e3⟩
theorem mk_facts : ∀ c : Int32, mkB c → chK c = c ∧ ¬ c = 300 ∧ ¬ c = 200 ∧ c < 300 ∧ ¬ c = -3 ∧ ¬ c = -2 ∧ ¬ c = -1 ∧ mkD c = true := fun c h => by
  unfold mkB at h
  rcases h with h | h | h | h | h | h | h | h | h <;> (subst h; decide)
theorem kind_mark {p l : Nat} {c : Int32} (hc : mkB c) : kindT b p l = c ↔ b p = c := by
  obtain ⟨f1, f2, f3, f4, f5, f6, f7, f8⟩ := mk_facts c hc
  constructor
  · intro q
    by_cases e : chK (b p) = 300
    · exact absurd q (kind_word c e f4)
    · rw [kindT, if_neg e] at q
      rcases chK_spec (b p) with ⟨-, -, h3⟩ | ⟨-, -, -, h3⟩ | ⟨-, -, h3⟩
      · exact absurd h3 e
      · exact absurd (q.symm.trans h3) f3
      · rw [h3] at q
        rcases chB_spec (b p) with ⟨-, h⟩ | ⟨-, h⟩ | ⟨-, -, h⟩
        · exact absurd (q.symm.trans h) f5
        · exact h.symm.trans q
        · exact absurd (q.symm.trans h) f6
  · intro q
    rw [kindT, q, f1, if_neg f2]
theorem p_isMarked (hm : m ≤ 700) (hT : TokB b m K pl ln) (h : At b m K pl ln i σ t) {c : Int32} (hc : mkB c) : fX12_isMarked c t = some (kflag (decide (σ 2 6 = c)), t) := by
  obtain ⟨a1, a2, ⟨a3, a4⟩, a5, a6, ⟨a7, a8, a9⟩, a10⟩ := id h
  obtain ⟨f1, f2, f3, f4, f5, f6, f7, f8⟩ := mk_facts c hc
  rw [fX12_isMarked, if_pos a6, a8]
  rcases a10 with ⟨q1, q2, q3, -⟩ | ⟨q1, q2, -⟩
  · have o := hT.1 i q1
    have hp : pl i < 700 := by have := o.2.2.1; have := o.2.2.2.1; omega
    rw [kAt, if_pos q1]
    by_cases e : b (pl i) = c
    · rw [decide_eq_true ((kind_mark hc).mpr e), q2, tyS, e, f1, if_neg f2, if_neg f3, if_pos f8, if_pos rfl, q3, if_pos (inA_lt (by decide) hp), nI_clamp (by omega), a4 _ hp, if_pos e]
      rfl
    · rw [decide_eq_false (fun q => e ((kind_mark hc).mp q))]
      by_cases e2 : t 69 22 = 3
      · rw [if_pos e2, q3, if_pos (inA_lt (by decide) hp), nI_clamp (by omega), a4 _ hp, if_neg e]
        rfl
      · rw [if_neg e2]
        rfl
  · rw [q2, if_neg (by decide), kAt, if_neg (by omega), decide_eq_false (fun q => f7 q.symm)]
    rfl
theorem p_take (hm : m ≤ 700) (hK : K ≤ m) (hT : TokB b m K pl ln) (hB : Bytes b) (h : At b m K pl ln i σ t) {c : Int32} (hc : mkB c) :
    (∃ σ' t', fX6_take c σ = some (0, σ') ∧ fX12_mark c t = some (0, t') ∧ i < K ∧ σ 2 6 = c ∧ At b m K pl ln (i + 1) σ' t' ∧ RdC σ σ' ∧ RdM t t') ∨ ∃ σ' t', fX6_take c σ = some (0, σ') ∧ fX12_mark c t = some (0, t') ∧ OutF m K pl i σ t σ' t' := by
  have a6 := h.2.2.2.2.1
  have hM := p_isMarked hm hT h hc
  by_cases e : σ 2 6 = c
  · left
    have hi : i < K := by
      rcases Nat.lt_or_ge i K with q | q
      · exact q
      · have := h.2.2.2.2.2.1.2.1
        rw [e, kAt, if_neg (by omega)] at this
        exact absurd this (mk_facts c hc).2.2.2.2.2.2.1
    obtain ⟨σ', t', n1, n2, n3, n4, n5⟩ := p_next hm hK hT hB h hi
    refine ⟨σ', t', by rw [fX6_take, if_pos e, n1, bd_some], ?_, hi, e, n3, n4.rd, n5.rd⟩
    rw [fX12_mark, if_pos a6, hM, bd_some, decide_eq_true e, if_neg (by decide), if_pos a6, n2, bd_some]
  · right
    obtain ⟨σ', t', f1, f2, f3, f4⟩ := p_flt h (c := 1) (by decide)
    refine ⟨σ', t', by rw [fX6_take, if_neg e, f1, bd_some, fz_advance f3.ne.1, bd_some], ?_, f3⟩
    rw [fX12_mark, if_pos a6, hM, bd_some, decide_eq_false e, if_pos kf_f, f2, bd_some, if_neg f3.ne.2]
theorem ty_word (x : Int32) : tyS x = 1 ↔ chK x = 300 := by
  unfold tyS
  by_cases e : chK x = 300
  · rw [if_pos e]; exact ⟨fun _ => e, fun _ => rfl⟩
  · rw [if_neg e]
    refine ⟨fun q => ?_, fun q => absurd q e⟩
    by_cases e2 : chK x = 200
    · rw [if_pos e2] at q; exact absurd q (by decide)
    · rw [if_neg e2] at q
      by_cases e3 : mkD x = true
      · rw [if_pos e3] at q; exact absurd q (by decide)
      · rw [if_neg e3] at q; exact absurd q (by decide)
theorem wl_ge : ∀ x ∈ WL, ¬ x.2 = 200 ∧ ¬ x.2 = -1 ∧ ¬ x.2 = -2 ∧ ¬ x.2 = -3 ∧ (300 : Int32) < x.2 := by decide +kernel
theorem p_is (hm : m ≤ 700) (hT : TokB b m K pl ln) (h : At b m K pl ln i σ t) {x : Nat × Int32} (hx : x ∈ WL) : fX12_is x.1 t = some (kflag (decide (σ 2 6 = x.2)), t) := by
  obtain ⟨a1, a2, ⟨a3, a4⟩, a5, a6, ⟨a7, a8, a9⟩, a10⟩ := id h
  obtain ⟨f1, f2, f3, f4, f5⟩ := wl_ge x hx
  have hsl := wl_len x hx
  have hL : strLen x.1 = nI (SL x.1) := sl_strLen _
  have no : fX12_is_J35 x.1 t = some (kflag false, t) := by
    rw [fX12_is_J35, fX12_is_J36]
    show fX12_is_L39 x.1 (19999 + 1) 0 0 t = _
    rw [fX12_is_L39, if_pos rfl, if_pos (Or.inl rfl)]
    rfl
  rw [fX12_is, if_pos a6, a8]
  rcases a10 with ⟨q1, q2, q3, q4, q5, -⟩ | ⟨q1, q2, -⟩
  · obtain ⟨o1, o2, o3, o4, o5, o6, o7, o8⟩ := hT.1 i q1
    rw [kAt, if_pos q1]
    by_cases e : chK (b (pl i)) = 300
    · rw [q2, if_pos ((ty_word _).mpr e), q5, q3, nI_less _ _ (by omega), Nat.add_sub_cancel_left, hL, kindT, if_pos e]
      have hd : decide (wordS b (pl i) (ln i) = x.2) = spellsS b (pl i) (ln i) x.1 := by
        rw [Bool.eq_iff_iff, decide_eq_true_eq]
        exact word_iff hx
      rw [hd]
      unfold spellsS
      by_cases e2 : ln i = SL x.1
      · rw [if_pos (by rw [e2]), decide_eq_true e2, Bool.true_and, fX12_is_J36]
        have L : ∀ k j fu, j + k = SL x.1 → k < fu → fX12_is_L39 x.1 fu 1 (nI j) t = some (kflag (allFrom (fun j => decide (b (pl i + j) = strAt x.1 j)) j k), t) := by
          generalize SL x.1 = N at hsl hL e2 ⊢
          intro k
          induction k with
          | zero =>
            intro j fu hj hfu
            obtain ⟨fu, rfl⟩ : ∃ z, fu = z + 1 := ⟨fu - 1, by omega⟩
            have hj : j = N := by omega
            rw [fX12_is_L39, if_neg (by decide), hL, hj, if_pos (Int32.le_refl _), if_pos (Or.inr rfl)]
            rfl
          | succ k ih =>
            intro j fu hj hfu
            obtain ⟨fu, rfl⟩ : ∃ z, fu = z + 1 := ⟨fu - 1, by omega⟩
            rw [fX12_is_L39, if_neg (by decide), hL, if_neg (by rw [nI_leI (by omega) (by omega)]; omega), if_pos (by rw [nI_toInt (by omega), nI_toInt (by omega)]; omega), q3, nI_add, if_pos (inA_lt (by decide) (by omega)), nI_clamp (by omega), nI_clamp (by omega), a4 _ (by omega), allFrom, zra_1]
            by_cases e3 : b (pl i + j) = strAt x.1 j
            · rw [if_pos e3.symm, decide_eq_true e3, Bool.true_and]
              exact ih (j + 1) fu (by omega) (by omega)
            · rw [if_neg (fun q => e3 q.symm), decide_eq_false e3, Bool.false_and]
              obtain ⟨fu, rfl⟩ : ∃ z, fu = z + 1 := ⟨fu - 1, by omega⟩
              rw [fX12_is_L39, if_pos rfl, if_pos (Or.inl rfl)]
              rfl
        exact L (SL x.1) 0 FU (by omega) (by show _ < 20000; omega)
      · rw [if_neg (fun q => e2 ((nI_eq (by omega) (by omega)).mp q).symm), no, decide_eq_false e2, Bool.false_and]
    · rw [q2, if_neg (fun q => e ((ty_word _).mp q)), no, kindT, if_neg e]
      have : ¬ chK (b (pl i)) = x.2 := fun q => by
        rcases chK_spec (b (pl i)) with ⟨-, -, h3⟩ | ⟨-, -, -, h3⟩ | ⟨-, -, h3⟩
        · exact e h3
        · exact f1 (q.symm.trans h3)
        · rw [h3] at q
          rcases chB_spec (b (pl i)) with ⟨-, h⟩ | ⟨h, h'⟩ | ⟨-, -, h⟩
          · exact f4 (q.symm.trans h)
          · rw [h'] at q
            have := (mk_facts _ h).2.2.2.1
            rw [q] at this
            exact absurd (Int32.lt_trans this f5) Int32.lt_irrefl
          · exact f3 (q.symm.trans h)
      rw [decide_eq_false this]
  · rw [q2, if_neg (by decide), no, kAt, if_neg (by omega), decide_eq_false (fun q => f2 q.symm)]
end PAIR3
