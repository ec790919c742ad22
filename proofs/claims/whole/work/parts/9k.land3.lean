/-! ===== land: tokens told ===== -/
def decS (b : Nat → Int32) (p l : Nat) : Int32 := accN (fun j v => v * 10 + b (p + j) - 48) l 0 0
def kindT (b : Nat → Int32) (p l : Nat) : Int32 := if chK (b p) = 300 then wordS b p l else chK (b p)
def numT (b : Nat → Int32) (p l : Nat) : Int32 := if chK (b p) = 200 then (if l ≤ 4 then decS b p l else -1) else 0
def TellI (s : St) (b : Nat → Int32) (K i : Nat) (pl ln : Nat → Nat) (σ : St) : Prop := (∀ x, x ≠ 16 → x ≠ 17 → x ≠ 18 → x ≠ 19 → x ≠ 20 → σ x = s x) ∧ σ 16 4 = nI K ∧ ∀ j, j < K → σ 17 j = (if j < i then kindT b (pl j) (ln j) else chK (b (pl j))) ∧ σ 18 j = nI (pl j) ∧ σ 19 j = (if j < i then numT b (pl j) (ln j) else 0) ∧ σ 20 j = nI (ln j)
theorem c_numAt {σ : St} {p l : Nat} (hp : p + l ≤ 700) : fX9_valueAt 1 (nI p) (nI l) σ = some ((if l ≤ 4 then decS (σ 1) p l else -1), σ) := by
  rw [fX9_valueAt]
  by_cases e : l ≤ 4
  · rw [if_pos (by rw [zrl_4 _ (by omega)]; exact e), if_pos e]
    have L : ∀ k i m v, i + k = l → k < m → fX9_valueAt_L12 1 (nI p) (nI l) m v (nI i) σ = some (accN (fun j v => v * 10 + σ 1 (p + j) - 48) k i v, σ) := by
      intro k
      induction k with
      | zero =>
        intro i m v hi hm
        obtain ⟨m, rfl⟩ : ∃ q, m = q + 1 := ⟨m - 1, by omega⟩
        obtain rfl : i = l := by omega
        rw [fX9_valueAt_L12, if_pos (Int32.le_refl _)]
        rfl
      | succ k ih =>
        intro i m v hi hm
        obtain ⟨m, rfl⟩ : ∃ q, m = q + 1 := ⟨m - 1, by omega⟩
        rw [fX9_valueAt_L12, if_neg (by rw [nI_leI (by omega) (by omega)]; omega), nI_add, at_nI (by decide) (by show p + i < 700; omega), bd_some, zra_1]
        exact ih (i + 1) m _ (by omega) (by omega)
    exact L l 0 FU 0 (by omega) (by show _ < 20000; omega)
  · rw [if_neg (by rw [zrl_4 _ (by omega)]; exact e), if_neg e]
theorem c_tellOne {s σ : St} {K i : Nat} {pl ln : Nat → Nat} {m : Nat} (hm : m ≤ 700) (hK : K ≤ 700) (hT : TokB (s 1) m K pl ln) (hi : i < K) (h : TellI s (s 1) K i pl ln σ) : ∃ σ', fX9_tell 1 (nI i) σ = some (0, σ') ∧ TellI s (s 1) K (i + 1) pl ln σ' := by
  obtain ⟨c1, c2, c3⟩ := id h
  obtain ⟨d1, d2, d3, d4⟩ := c3 i hi
  have hb : σ 1 = s 1 := c1 1 (by decide) (by decide) (by decide) (by decide) (by decide)
  have o := hT.1 i hi
  have ho : pl i + ln i ≤ 700 := Nat.le_trans o.2.2.2.1 hm
  rw [if_neg (by omega)] at d1 d3
  have step : ∀ σ' : St, (∀ x, x ≠ 17 → x ≠ 19 → σ' x = σ x) → (∀ j, j ≠ i → σ' 17 j = σ 17 j ∧ σ' 19 j = σ 19 j) → σ' 17 i = kindT (s 1) (pl i) (ln i) → σ' 19 i = numT (s 1) (pl i) (ln i) → TellI s (s 1) K (i + 1) pl ln σ' := fun σ' e1 e2 e3 e4 => by
    refine ⟨fun x q1 q2 q3 q4 q5 => by rw [e1 x q2 q4, c1 x q1 q2 q3 q4 q5], by rw [e1 16 (by decide) (by decide)]; exact c2, fun j hj => ?_⟩
    rw [e1 18 (by decide) (by decide), e1 20 (by decide) (by decide)]
    obtain ⟨g1, g2, g3, g4⟩ := c3 j hj
    by_cases e : j = i
    · subst e
      rw [if_pos (by omega), if_pos (by omega)]
      exact ⟨e3, g2, e4, g4⟩
    · rw [(e2 j e).1, (e2 j e).2]
      by_cases l : j < i
      · rw [if_pos l] at g1 g3
        rw [if_pos (by omega), if_pos (by omega)]
        exact ⟨g1, g2, g3, g4⟩
      · rw [if_neg l] at g1 g3
        rw [if_neg (by omega), if_neg (by omega)]
        exact ⟨g1, g2, g3, g4⟩
  by_cases e2 : chK (s 1 (pl i)) = 200
  · refine ⟨wr σ 19 i (numT (s 1) (pl i) (ln i)), ?_, step _ (fun x _ q => wr_slot q) (fun j hj => by rw [wr_slot (show (17 : Nat) ≠ 19 by decide), wr_place hj]; exact ⟨rfl, rfl⟩) (by rw [wr_slot (by decide), d1, kindT, if_neg (by rw [e2]; decide)]) wr_hit⟩
    rw [fX9_tell, at_nI (by decide) (by show i < 701; omega), bd_some, d1, if_pos e2, at_nI (by decide) (by show i < 701; omega), bd_some, d2, at_nI (by decide) (by show i < 701; omega), bd_some, d4, c_numAt ho, bd_some, hb, put_nI (by decide) (by show i < 701; omega), bd_some, numT, if_pos e2]
  · by_cases e3 : chK (s 1 (pl i)) = 300
    · refine ⟨wr σ 17 i (kindT (s 1) (pl i) (ln i)), ?_, step _ (fun x q _ => wr_slot q) (fun j hj => by rw [wr_slot (show (19 : Nat) ≠ 17 by decide), wr_place hj]; exact ⟨rfl, rfl⟩) wr_hit (by rw [wr_slot (by decide), d3, numT, if_neg e2])⟩
      rw [fX9_tell, at_nI (by decide) (by show i < 701; omega), bd_some, d1, if_neg e2, at_nI (by decide) (by show i < 701; omega), bd_some, d1, if_pos e3, at_nI (by decide) (by show i < 701; omega), bd_some, d2, at_nI (by decide) (by show i < 701; omega), bd_some, d4, c_word ho, bd_some, hb, put_nI (by decide) (by show i < 701; omega), bd_some, kindT, if_pos e3]
    · refine ⟨σ, ?_, step _ (fun _ _ _ => rfl) (fun _ _ => ⟨rfl, rfl⟩) (by rw [d1, kindT, if_neg e3]) (by rw [d3, numT, if_neg e2])⟩
      rw [fX9_tell, at_nI (by decide) (by show i < 701; omega), bd_some, d1, if_neg e2, at_nI (by decide) (by show i < 701; omega), bd_some, d1, if_neg e3]
/-- the tokens of the first m bytes, as the class has them -/
def Toks (b : Nat → Int32) (m K : Nat) (pl ln : Nat → Nat) (σ : St) : Prop := (∀ i, i < K → σ 17 i = kindT b (pl i) (ln i) ∧ σ 18 i = nI (pl i) ∧ σ 19 i = numT b (pl i) (ln i)) ∧ σ 17 K = -1 ∧ σ 18 K = nI m ∧ σ 19 K = 0
theorem c_tokens {s : St} {m : Nat} (hm : m ≤ 700) : ∃ K pl ln σ, fX9_cut 1 (nI m) s = some (0, σ) ∧ K ≤ m ∧ TokB (s 1) m K pl ln ∧ Toks (s 1) m K pl ln σ ∧ ∀ x, x ≠ 16 → x ≠ 17 → x ≠ 18 → x ≠ 19 → x ≠ 20 → σ x = s x := by
  obtain ⟨K, pl, ln, σ1, e1, hT, hC⟩ := c_cutL (s := s) (m := m) (fun s_7 => fX9_cut_L120 (fun s_9 => bd (fX9_add (-1 : Int32) (nI m) s_9) (fun y_10 s_10 => some (0, s_10))) 1 (nI m) FU (0 : Int32) s_7) hm m 0 FU (-3) 0 (fun _ => 0) (fun _ => 0) (wr s 16 4 0) (by omega) (by show _ < 20000; omega) ⟨fun i hi => absurd hi (by omega), Nat.le_refl _, fun j h1 h2 => absurd h2 (by omega)⟩ (fun _ => rfl) (fun z => absurd z (by decide)) (fun z => absurd z (by decide)) ⟨fun x q1 q2 q3 q4 q5 => wr_slot q1, wr_hit, fun i hi => absurd hi (by omega)⟩
  have hK : K ≤ m := Nat.le_trans (tok_le hT.1 K (Nat.le_refl _)) hT.2.1
  have L : ∀ k i fu σ, i + k = K → k < fu → TellI s (s 1) K i pl ln σ → ∃ σ', fX9_cut_L120 (fun s_9 => bd (fX9_add (-1 : Int32) (nI m) s_9) (fun y_10 s_10 => some (0, s_10))) 1 (nI m) fu (nI i) σ = bd (fX9_add (-1 : Int32) (nI m) σ') (fun y_10 s_10 => some (0, s_10)) ∧ TellI s (s 1) K K pl ln σ' := by
    intro k
    induction k with
    | zero =>
      intro i fu σ hi hfu h
      obtain ⟨fu, rfl⟩ : ∃ z, fu = z + 1 := ⟨fu - 1, by omega⟩
      obtain rfl : i = K := by omega
      exact ⟨σ, by rw [fX9_cut_L120, h.2.1, if_pos (Int32.le_refl _)], h⟩
    | succ k ih =>
      intro i fu σ hi hfu h
      obtain ⟨fu, rfl⟩ : ∃ z, fu = z + 1 := ⟨fu - 1, by omega⟩
      obtain ⟨σ2, g1, g2⟩ := c_tellOne hm (by omega) hT (by omega) h
      obtain ⟨σ', g3, g4⟩ := ih (i + 1) fu σ2 (by omega) (by omega) g2
      exact ⟨σ', by rw [fX9_cut_L120, h.2.1, if_neg (by rw [nI_leI (by omega) (by omega)]; omega), g1, bd_some, zra_1, g3], g4⟩
  obtain ⟨σ2, e2, f1, f2, f3⟩ := L K 0 FU σ1 (by omega) (by show _ < 20000; omega) ⟨hC.1, hC.2.1, fun j hj => by
    obtain ⟨d1, d2, d3, d4⟩ := hC.2.2 j hj
    rw [if_neg (by omega), if_neg (by omega)]
    exact ⟨d1, d2, d3, d4⟩⟩
  refine ⟨K, pl, ln, wr (wr (wr (wr (wr σ2 17 K (-1)) 18 K (nI m)) 20 K 1) 19 K 0) 16 4 (nI (K + 1)), ?_, hK, hT, ?_, ?_⟩
  · rw [fX9_cut]
    refine Eq.trans e1 ?_
    refine Eq.trans e2 ?_
    rw [c_addTok (by omega) f2, bd_some]
  · have w17 : ∀ j, (wr (wr (wr (wr (wr σ2 17 K (-1)) 18 K (nI m)) 20 K 1) 19 K 0) 16 4 (nI (K + 1))) 17 j = wr σ2 17 K (-1) 17 j := fun j => by rw [wr_slot (by decide), wr_slot (by decide), wr_slot (by decide), wr_slot (by decide)]
    have w18 : ∀ j, (wr (wr (wr (wr (wr σ2 17 K (-1)) 18 K (nI m)) 20 K 1) 19 K 0) 16 4 (nI (K + 1))) 18 j = wr σ2 18 K (nI m) 18 j := fun j => by
      rw [wr_slot (by decide), wr_slot (by decide), wr_slot (by decide)]
      by_cases e : j = K
      · rw [e, wr_hit, wr_hit]
      · rw [wr_place e, wr_place e, wr_slot (by decide)]
    have w19 : ∀ j, (wr (wr (wr (wr (wr σ2 17 K (-1)) 18 K (nI m)) 20 K 1) 19 K 0) 16 4 (nI (K + 1))) 19 j = wr σ2 19 K 0 19 j := fun j => by
      rw [wr_slot (by decide)]
      by_cases e : j = K
      · rw [e, wr_hit, wr_hit]
      · rw [wr_place e, wr_place e, wr_slot (by decide), wr_slot (by decide), wr_slot (by decide)]
    refine ⟨fun i hi => ?_, by rw [w17, wr_hit], by rw [w18, wr_hit], by rw [w19, wr_hit]⟩
    obtain ⟨d1, d2, d3, -⟩ := f3 i hi
    rw [if_pos hi] at d1 d3
    rw [w17, w18, w19, wr_place (by omega), wr_place (by omega), wr_place (by omega)]
    exact ⟨d1, d2, d3⟩
  · intro x q1 q2 q3 q4 q5
    rw [wr_slot q1, wr_slot q4, wr_slot q5, wr_slot q3, wr_slot q2, f1 x q1 q2 q3 q4 q5]
