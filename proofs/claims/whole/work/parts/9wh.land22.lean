/-! ===== land: one line ===== -/
def dn (ft lt : Bool) : Int32 := (if ft = true then 1 else 0) ||| (if lt = true then 2 else 0)
theorem dn_0 (ft lt : Bool) : dn ft lt ||| 0 = dn ft lt := by cases ft <;> cases lt <;> decide
theorem dn_1 (ft lt : Bool) : dn ft lt ||| 1 = dn true lt := by cases ft <;> cases lt <;> decide
theorem dn_2 (ft lt : Bool) : dn ft lt ||| 2 = dn ft true := by cases ft <;> cases lt <;> decide
theorem dn_z (ft lt : Bool) : ((0 : Int32) &&& dn ft lt) = 0 := by cases ft <;> cases lt <;> decide
theorem dn_ff (lt : Bool) : ((1 : Int32) &&& dn false lt) = 0 := by cases lt <;> decide
theorem dn_ft (lt : Bool) : ¬ ((1 : Int32) &&& dn true lt) = 0 := by cases lt <;> decide
theorem dn_lf (ft : Bool) : ((2 : Int32) &&& dn ft false) = 0 := by cases ft <;> decide
theorem dn_lt (ft : Bool) : ¬ ((2 : Int32) &&& dn ft true) = 0 := by cases ft <;> decide
theorem j98_1 (v : Int32) (s : St) : fX12_readLine_J98 v 1 s = bd (mF98 s) (fun _ s_1 => bd (fX12_mark (59 : Int32) s_1) (fun _ s_2 => some (v ||| 1, s_2))) := by
  rw [fX12_readLine_J98, if_pos rfl, mF98, bd_assoc]
  refine congrArg _ ?_
  funext y s2
  rw [if_pos i8]
  rfl
theorem j98_2 (v : Int32) (s : St) : fX12_readLine_J98 v 2 s = bd (fX12_readExpression 9 (0 : Int32) s) (fun _ s_1 => bd (fX12_mark (59 : Int32) s_1) (fun _ s_2 => some (v ||| 2, s_2))) := by
  rw [fX12_readLine_J98, if_neg (by decide)]
theorem wrong_ex {t : St} (h : t 69 26 = 0) {c : Int32} (hc : ¬ c = 0) : ∃ t1, fX12_wrong c t = some (0, t1) ∧ ¬ t1 69 26 = 0 := by
  refine ⟨wr (wr t 69 26 c) 69 27 ((wr t 69 26 c) 69 24), by rw [fX12_wrong, if_pos h], ?_⟩
  rw [wr_place (by decide), wr_hit]
  exact hc
theorem l_front {t : St} (h : t 69 26 = 0) (ft lt : Bool) (q0 : Int32) : fX12_readLine_J71 (dn ft lt) 1 q0 t = bd (mFront ft t) (fun _ s_1 => bd (fX12_mark (59 : Int32) s_1) (fun _ s_2 => some (dn ft lt ||| 1, s_2))) := by
  cases ft with
  | false =>
    rw [fX12_readLine_J71, if_pos (dn_ff lt), fX12_readLine_J83, if_neg (by decide), if_pos h, mFront, if_neg (by decide), bd_assoc]
    refine congrArg _ ?_
    funext y s
    rw [j98_1]
  | true =>
    obtain ⟨t1, f1, f2⟩ := wrong_ex h (c := 5) (by decide)
    rw [fX12_readLine_J71, if_neg (dn_ft lt), mFront, if_pos rfl, f1, bd_some, bd_some, fX12_readLine_J83, if_neg (by decide), if_neg f2, j98_1]
theorem l_law {t : St} (h : t 69 26 = 0) (ft lt : Bool) (q0 : Int32) : fX12_readLine_J71 (dn ft lt) 2 q0 t = bd (mLaw lt t) (fun _ s_1 => bd (fX12_mark (59 : Int32) s_1) (fun _ s_2 => some (dn ft lt ||| 2, s_2))) := by
  cases lt with
  | false =>
    rw [fX12_readLine_J71, if_pos (dn_lf ft), fX12_readLine_J83, if_neg (by decide), if_pos h, mLaw, if_neg (by decide), bd_assoc]
    refine congrArg _ ?_
    funext y s
    rw [j98_2]
  | true =>
    obtain ⟨t1, f1, f2⟩ := wrong_ex h (c := 5) (by decide)
    rw [fX12_readLine_J71, if_neg (dn_lt ft), mLaw, if_pos rfl, f1, bd_some, bd_some, fX12_readLine_J83, if_neg (by decide), if_neg f2, j98_2]
section LINE
variable {b : Nat → Int32} {m K : Nat} {pl ln : Nat → Nat}
/-- the outcome of a line -/
def LineO (b : Nat → Int32) (m K : Nat) (pl ln : Nat → Nat) (f g : Option (Int32 × St)) (i : Nat) (σ t : St) : Prop :=
  (∃ i' n nw nf ft lt σ' t', f = some (0, σ') ∧ g = some (dn ft lt, t') ∧ At b m K pl ln i' σ' t' ∧ i < i' ∧ DatI n nw nf ft lt σ' t' ∧ LnC σ σ' ∧ LnM t t') ∨
  ∃ σ' t' i' c y, f = some (0, σ') ∧ g = some (y, t') ∧ Flt m K pl i' c σ' t' ∧ LnC σ σ' ∧ LnM t t'
theorem p_semi (hm : m ≤ 700) (hK : K ≤ m) (hT : TokB b m K pl ln) (hB : Bytes b) {f g : Option (Int32 × St)} {ft lt : Bool} {i : Nat} {σ t : St} {v : Int32} (hv : v = dn ft lt) (h : BOut b m K pl ln f g ft lt i σ t) :
    LineO b m K pl ln (bd f (fun _ s_1 => bd (fX6_take (59 : Int32) s_1) (fun _ s_2 => some (0, s_2)))) (bd g (fun _ s_1 => bd (fX12_mark (59 : Int32) s_1) (fun _ s_2 => some (v, s_2)))) i σ t := by
  rcases h with ⟨i', n, nw, nf, σ1, t1, e1, e2, e3, e4, e5, e6, e7⟩ | ⟨σ1, t1, i', c, e1, e2, e3, e4, e5⟩
  · rw [e1, e2, bd_some, bd_some]
    rcases p_take hm hK hT hB e3 (c := 59) (by unfold mkB; decide) with ⟨σ2, t2, g1, g2, -, -, g3, g4, g5⟩ | ⟨σ2, t2, g1, g2, c, g3, g4, g5⟩
    · rw [g1, g2, bd_some, bd_some, hv]
      exact Or.inl ⟨i' + 1, n, nw, nf, ft, lt, σ2, t2, rfl, rfl, g3, by omega, e5.rd g4 g5, e6.tr g4.ln, e7.tr g5.ln⟩
    · rw [g1, g2, bd_some, bd_some]
      exact Or.inr ⟨σ2, t2, i', c, v, rfl, rfl, g3, e6.tr g4.ln, e7.tr g5.ln⟩
  · rw [e1, e2, bd_some, bd_some, fz_take e3.ne.1, bd_some, fz_mark e3.ne.2, bd_some]
    exact Or.inr ⟨σ1, t1, i', c, v, rfl, rfl, e3, e4, e5⟩
theorem is_no (hm : m ≤ 700) (hT : TokB b m K pl ln) {i : Nat} {σ t : St} (h : At b m K pl ln i σ t) (x : Nat × Int32) (hx : x ∈ WL) (hne : ¬ σ 2 6 = x.2) : fX12_is x.1 t = some (0, t) := by
  rw [p_is hm hT h hx, decide_eq_false hne]
  rfl
theorem is_yes (hm : m ≤ 700) (hT : TokB b m K pl ln) {i : Nat} {σ t : St} (h : At b m K pl ln i σ t) (x : Nat × Int32) (hx : x ∈ WL) (hne : σ 2 6 = x.2) : fX12_is x.1 t = some (1, t) := by
  rw [p_is hm hT h hx, decide_eq_true hne]
  rfl
theorem p_line (hm : m ≤ 700) (hK : K ≤ m) (hT : TokB b m K pl ln) (hB : Bytes b) {n nw nf i : Nat} {ft lt : Bool} {σ t : St} (h : At b m K pl ln i σ t) (hiK : i < K) (hD : DatI n nw nf ft lt σ t) :
    LineO b m K pl ln (fX6_readLine σ) (fX12_readLine (dn ft lt) t) i σ t := by
  have a6 := h.2.2.2.2.1
  have one : ¬ (1 : Int32) = 0 := by decide
  by_cases k307 : σ 2 6 = 307
  · have hc : fX6_readLine σ = bd (fX6_readFront σ) (fun _ s_1 => bd (fX6_take (59 : Int32) s_1) (fun _ s_2 => some (0, s_2))) := by
      rw [fX6_readLine, if_neg (by rw [k307]; decide), if_neg (by rw [k307]; decide), if_neg (by rw [k307]; decide), if_neg (by rw [k307]; decide), if_neg (by rw [k307]; decide), if_neg (by rw [k307]; decide), if_pos k307]
    have hr : fX12_readLine (dn ft lt) t = bd (mFront ft t) (fun _ s_1 => bd (fX12_mark (59 : Int32) s_1) (fun _ s_2 => some (dn ft lt ||| 1, s_2))) := by
      rw [fX12_readLine, is_yes hm hT h (1011, 307) (by decide) k307, bd_some, if_neg one, fX12_readLine_J29, is_no hm hT h (1007, 301) (by decide) (by rw [k307]; decide), bd_some, if_pos rfl, is_no hm hT h (1000, 302) (by decide) (by rw [k307]; decide), bd_some, if_pos rfl, is_no hm hT h (1001, 303) (by decide) (by rw [k307]; decide), bd_some, if_pos rfl, l_front a6]
    rw [hc, hr]
    exact p_semi hm hK hT hB (dn_1 ft lt) (p_front hm hK hT hB h hiK hD)
  have q307 := is_no hm hT h (1011, 307) (by decide) k307
  dsimp only at q307
  by_cases k308 : σ 2 6 = 308
  · have hc : fX6_readLine σ = bd (fX6_readLaw σ) (fun _ s_1 => bd (fX6_take (59 : Int32) s_1) (fun _ s_2 => some (0, s_2))) := by
      rw [fX6_readLine, if_neg (by rw [k308]; decide), if_neg (by rw [k308]; decide), if_neg (by rw [k308]; decide), if_neg (by rw [k308]; decide), if_neg (by rw [k308]; decide), if_neg (by rw [k308]; decide), if_neg k307, if_pos k308]
    have hr : fX12_readLine (dn ft lt) t = bd (mLaw lt t) (fun _ s_1 => bd (fX12_mark (59 : Int32) s_1) (fun _ s_2 => some (dn ft lt ||| 2, s_2))) := by
      rw [fX12_readLine, q307, bd_some, if_pos rfl, is_yes hm hT h (1012, 308) (by decide) k308, bd_some, if_neg one, fX12_readLine_J29, is_no hm hT h (1007, 301) (by decide) (by rw [k308]; decide), bd_some, if_pos rfl, is_no hm hT h (1000, 302) (by decide) (by rw [k308]; decide), bd_some, if_pos rfl, is_no hm hT h (1001, 303) (by decide) (by rw [k308]; decide), bd_some, if_pos rfl, l_law a6]
    rw [hc, hr]
    exact p_semi hm hK hT hB (dn_2 ft lt) (p_law hm hK hT hB h k308 hD)
  have q308 := is_no hm hT h (1012, 308) (by decide) k308
  dsimp only at q308
  have h29 : fX12_readLine (dn ft lt) t = fX12_readLine_J29 (dn ft lt) 0 t := by
    rw [fX12_readLine, q307, bd_some, if_pos rfl, q308, bd_some, if_pos rfl]
  have hsom : ∀ q0 : Int32, ¬ q0 = -1 → fX12_readLine_J71 (dn ft lt) 0 q0 t = bd (fX12_readSomebody q0 t) (fun _ s_1 => bd (fX12_mark (59 : Int32) s_1) (fun _ s_2 => some (dn ft lt ||| 0, s_2))) := fun q0 hq => by
    rw [fX12_readLine_J71, if_pos (dn_z ft lt), fX12_readLine_J83, if_pos (by decide), if_neg hq]
  by_cases k301 : σ 2 6 = 301
  · have hc : fX6_readLine σ = bd (fX6_readPerson 0 σ) (fun _ s_1 => bd (fX6_take (59 : Int32) s_1) (fun _ s_2 => some (0, s_2))) := by
      rw [fX6_readLine, if_pos k301]
    have hr : fX12_readLine (dn ft lt) t = bd (fX12_readSomebody 0 t) (fun _ s_1 => bd (fX12_mark (59 : Int32) s_1) (fun _ s_2 => some (dn ft lt ||| 0, s_2))) := by
      rw [h29, fX12_readLine_J29, is_yes hm hT h (1007, 301) (by decide) k301, bd_some, if_neg one, hsom _ (by decide)]
    rw [hc, hr]
    exact p_semi hm hK hT hB (dn_0 ft lt) (p_person hm hK hT hB (Or.inl ⟨rfl, rfl⟩) h hiK hD)
  have q301 := is_no hm hT h (1007, 301) (by decide) k301
  dsimp only at q301
  by_cases k302 : σ 2 6 = 302
  · have hc : fX6_readLine σ = bd (fX6_readPerson 2 σ) (fun _ s_1 => bd (fX6_take (59 : Int32) s_1) (fun _ s_2 => some (0, s_2))) := by
      rw [fX6_readLine, if_neg k301, if_pos k302]
    have hr : fX12_readLine (dn ft lt) t = bd (fX12_readSomebody 1 t) (fun _ s_1 => bd (fX12_mark (59 : Int32) s_1) (fun _ s_2 => some (dn ft lt ||| 0, s_2))) := by
      rw [h29, fX12_readLine_J29, q301, bd_some, if_pos rfl, is_yes hm hT h (1000, 302) (by decide) k302, bd_some, if_neg one, hsom _ (by decide)]
    rw [hc, hr]
    exact p_semi hm hK hT hB (dn_0 ft lt) (p_person hm hK hT hB (Or.inr (Or.inl ⟨rfl, rfl⟩)) h hiK hD)
  have q302 := is_no hm hT h (1000, 302) (by decide) k302
  dsimp only at q302
  by_cases k303 : σ 2 6 = 303
  · have hc : fX6_readLine σ = bd (fX6_readPerson 1 σ) (fun _ s_1 => bd (fX6_take (59 : Int32) s_1) (fun _ s_2 => some (0, s_2))) := by
      rw [fX6_readLine, if_neg k301, if_neg k302, if_pos k303]
    have hr : fX12_readLine (dn ft lt) t = bd (fX12_readSomebody 2 t) (fun _ s_1 => bd (fX12_mark (59 : Int32) s_1) (fun _ s_2 => some (dn ft lt ||| 0, s_2))) := by
      rw [h29, fX12_readLine_J29, q301, bd_some, if_pos rfl, q302, bd_some, if_pos rfl, is_yes hm hT h (1001, 303) (by decide) k303, bd_some, if_neg one, hsom _ (by decide)]
    rw [hc, hr]
    exact p_semi hm hK hT hB (dn_0 ft lt) (p_person hm hK hT hB (Or.inr (Or.inr ⟨rfl, rfl⟩)) h hiK hD)
  have q303 := is_no hm hT h (1001, 303) (by decide) k303
  dsimp only at q303
  have h83 : fX12_readLine (dn ft lt) t = bd (fX12_is 1008 t) (fun y_6 s_6 => if y_6 = 0 then (bd (fX12_is 1009 s_6) (fun y_7 s_7 => if y_7 = 0 then (bd (fX12_is 1010 s_7) (fun y_8 s_8 => if y_8 = 0 then (bd (fX12_wrong (1 : Int32) s_8) (fun y_12 s_12 => fX12_readLine_J191 (dn ft lt) 0 s_12)) else (fX12_readLine_J191 (dn ft lt) 0 s_8))) else (bd (fX12_readWill s_7) (fun y_13 s_13 => bd (fX12_mark (59 : Int32) s_13) (fun y_14 s_14 => some (((dn ft lt) ||| 0), s_14)))))) else (bd (fX12_readWed s_6) (fun y_15 s_15 => bd (fX12_mark (59 : Int32) s_15) (fun y_16 s_16 => some (((dn ft lt) ||| 0), s_16))))) := by
    rw [h29, fX12_readLine_J29, q301, bd_some, if_pos rfl, q302, bd_some, if_pos rfl, q303, bd_some, if_pos rfl, fX12_readLine_J71, if_pos (dn_z ft lt), fX12_readLine_J83, if_pos (by decide), if_pos rfl]
  by_cases k304 : σ 2 6 = 304
  · have hc : fX6_readLine σ = bd (fX6_readWed σ) (fun _ s_1 => bd (fX6_take (59 : Int32) s_1) (fun _ s_2 => some (0, s_2))) := by
      rw [fX6_readLine, if_neg k301, if_neg k302, if_neg k303, if_pos k304]
    have hr : fX12_readLine (dn ft lt) t = bd (fX12_readWed t) (fun _ s_1 => bd (fX12_mark (59 : Int32) s_1) (fun _ s_2 => some (dn ft lt ||| 0, s_2))) := by
      rw [h83, is_yes hm hT h (1008, 304) (by decide) k304, bd_some, if_neg one]
    rw [hc, hr]
    exact p_semi hm hK hT hB (dn_0 ft lt) (p_wed hm hK hT hB h hiK hD)
  have q304 := is_no hm hT h (1008, 304) (by decide) k304
  dsimp only at q304
  by_cases k305 : σ 2 6 = 305
  · have hc : fX6_readLine σ = bd (fX6_readWill σ) (fun _ s_1 => bd (fX6_take (59 : Int32) s_1) (fun _ s_2 => some (0, s_2))) := by
      rw [fX6_readLine, if_neg k301, if_neg k302, if_neg k303, if_neg k304, if_pos k305]
    have hr : fX12_readLine (dn ft lt) t = bd (fX12_readWill t) (fun _ s_1 => bd (fX12_mark (59 : Int32) s_1) (fun _ s_2 => some (dn ft lt ||| 0, s_2))) := by
      rw [h83, q304, bd_some, if_pos rfl, is_yes hm hT h (1009, 305) (by decide) k305, bd_some, if_neg one]
    rw [hc, hr]
    exact p_semi hm hK hT hB (dn_0 ft lt) (p_will hm hK hT hB h hiK hD)
  have q305 := is_no hm hT h (1009, 305) (by decide) k305
  dsimp only at q305
  by_cases k306 : σ 2 6 = 306
  · have hc : fX6_readLine σ = bd (fX6_readField σ) (fun _ s_1 => bd (fX6_take (59 : Int32) s_1) (fun _ s_2 => some (0, s_2))) := by
      rw [fX6_readLine, if_neg k301, if_neg k302, if_neg k303, if_neg k304, if_neg k305, if_pos k306]
    have hr : fX12_readLine (dn ft lt) t = bd (fX12_readField t) (fun _ s_1 => bd (fX12_mark (59 : Int32) s_1) (fun _ s_2 => some (dn ft lt ||| 0, s_2))) := by
      rw [h83, q304, bd_some, if_pos rfl, q305, bd_some, if_pos rfl, is_yes hm hT h (1010, 306) (by decide) k306, bd_some, if_neg one, fX12_readLine_J191, if_pos a6]
    rw [hc, hr]
    exact p_semi hm hK hT hB (dn_0 ft lt) (p_field hm hK hT hB h hiK hD)
  have q306 := is_no hm hT h (1010, 306) (by decide) k306
  dsimp only at q306
  obtain ⟨σ1, t1, f1, f2, ⟨c, f3, r1, r2⟩, -⟩ := p_flt h (c := 1) (by decide)
  have hc : fX6_readLine σ = some (0, σ1) := by
    rw [fX6_readLine, if_neg k301, if_neg k302, if_neg k303, if_neg k304, if_neg k305, if_neg k306, if_neg k307, if_neg k308, f1, bd_some, fz_take f3.ne.1, bd_some]
  have hr : fX12_readLine (dn ft lt) t = some (dn ft lt ||| 0, t1) := by
    rw [h83, q304, bd_some, if_pos rfl, q305, bd_some, if_pos rfl, q306, bd_some, if_pos rfl, f2, bd_some, fX12_readLine_J191, if_neg f3.ne.2, fz_mark f3.ne.2, bd_some]
  exact Or.inr ⟨σ1, t1, i, c, _, hc, hr, f3, r1.ln, r2.ln⟩
end LINE
