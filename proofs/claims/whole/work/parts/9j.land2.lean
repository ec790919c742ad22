/-! ===== land: cutting into tokens ===== -/
def enS (pl ln : Nat → Nat) : Nat → Nat
  | 0 => 0
  | i + 1 => pl i + ln i
/-- one token of the first q bytes -/
def TokO (b : Nat → Int32) (q : Nat) (pl ln : Nat → Nat) (i : Nat) : Prop := enS pl ln i ≤ pl i ∧ (∀ j, enS pl ln i ≤ j → j < pl i → chK (b j) = -3) ∧ 1 ≤ ln i ∧ pl i + ln i ≤ q ∧ ¬ chK (b (pl i)) = -3 ∧ (∀ j, j < ln i → chK (b (pl i + j)) = chK (b (pl i))) ∧ (1 < ln i → chK (b (pl i)) = 300 ∨ chK (b (pl i)) = 200) ∧ ((chK (b (pl i)) = 300 ∨ chK (b (pl i)) = 200) → pl i + ln i < q → ¬ chK (b (pl i + ln i)) = chK (b (pl i)))
def TokB (b : Nat → Int32) (q K : Nat) (pl ln : Nat → Nat) : Prop := (∀ i, i < K → TokO b q pl ln i) ∧ enS pl ln K ≤ q ∧ ∀ j, enS pl ln K ≤ j → j < q → chK (b j) = -3
def un (f : Nat → Nat) (k v : Nat) : Nat → Nat := fun i => if i = k then v else f i
theorem un_hit {f : Nat → Nat} {k v : Nat} : un f k v k = v := if_pos rfl
theorem un_off {f : Nat → Nat} {k v i : Nat} (h : ¬ i = k) : un f k v i = f i := if_neg h
theorem en_un {pl ln : Nat → Nat} {K v w : Nat} : ∀ i, i ≤ K → enS (un pl K v) (un ln K w) i = enS pl ln i
  | 0, _ => rfl
  | i + 1, h => by rw [enS, enS, un_off (by omega), un_off (by omega)]
theorem tok_le {b : Nat → Int32} {q K : Nat} {pl ln : Nat → Nat} (h : ∀ i, i < K → TokO b q pl ln i) : ∀ i, i ≤ K → i ≤ enS pl ln i
  | 0, _ => Nat.le_refl _
  | i + 1, hi => by
    have h1 := tok_le h i (by omega)
    obtain ⟨h2, -, h3, -⟩ := h i (by omega)
    rw [enS]
    omega
section CUT
variable {b : Nat → Int32} {q K : Nat} {pl ln : Nat → Nat}
theorem tok_blank (h : TokB b q K pl ln) (hy : chK (b q) = -3) : TokB b (q + 1) K pl ln := by
  obtain ⟨h1, h2, h3⟩ := h
  refine ⟨fun i hi => ?_, by omega, fun j a1 a2 => ?_⟩
  · obtain ⟨a1, a2, a3, a4, a5, a6, a7, a8⟩ := h1 i hi
    refine ⟨a1, a2, a3, by omega, a5, a6, a7, fun c1 c2 => ?_⟩
    by_cases e : pl i + ln i = q
    · rw [e, hy]
      exact fun q => a5 q.symm
    · exact a8 c1 (by omega)
  · by_cases e : j = q
    · rw [e]; exact hy
    · exact h3 j a1 (by omega)
theorem tok_new {v3 : Int32} (h : TokB b q K pl ln) (hy : ¬ chK (b q) = -3) (hv : 0 < q → v3 = chK (b (q - 1))) (hn : ¬ (chK (b q) = v3 ∧ (chK (b q) = 300 ∨ chK (b q) = 200))) : TokB b (q + 1) (K + 1) (un pl K q) (un ln K 1) := by
  obtain ⟨h1, h2, h3⟩ := h
  refine ⟨fun i hi => ?_, ?_, fun j a1 a2 => ?_⟩
  · by_cases e : i = K
    · subst e
      unfold TokO
      rw [en_un i (Nat.le_refl _), un_hit, un_hit]
      refine ⟨h2, h3, Nat.le_refl _, Nat.le_refl _, hy, fun j hj => ?_, fun a => absurd a (by omega), fun _ a => absurd a (by omega)⟩
      obtain rfl : j = 0 := by omega
      rfl
    · obtain ⟨a1, a2, a3, a4, a5, a6, a7, a8⟩ := h1 i (by omega)
      unfold TokO
      rw [en_un i (by omega), un_off e, un_off e]
      refine ⟨a1, a2, a3, by omega, a5, a6, a7, fun c1 c2 c3 => ?_⟩
      by_cases e2 : pl i + ln i = q
      · rw [e2] at c3
        have c4 : v3 = chK (b (pl i)) := by
          rw [hv (by omega), ← a6 (ln i - 1) (by omega), show pl i + (ln i - 1) = q - 1 by omega]
        refine hn ⟨c3.trans c4.symm, ?_⟩
        rw [c3]; exact c1
      · exact a8 c1 (by omega) c3
  · rw [enS, un_hit, un_hit]
    exact Nat.le_refl _
  · rw [enS, un_hit, un_hit] at a1
    omega
theorem tok_more (h : TokB b q (K + 1) pl ln) (he : pl K + ln K = q) (hy : chK (b q) = chK (b (pl K))) (hn : chK (b q) = 300 ∨ chK (b q) = 200) : TokB b (q + 1) (K + 1) pl (un ln K (ln K + 1)) := by
  obtain ⟨h1, h2, h3⟩ := h
  have hen : ∀ i, i ≤ K → enS pl (un ln K (ln K + 1)) i = enS pl ln i := fun i hi => by
    cases i with
    | zero => rfl
    | succ i => rw [enS, enS, un_off (by omega)]
  refine ⟨fun i hi => ?_, ?_, fun j a1 a2 => ?_⟩
  · obtain ⟨a1, a2, a3, a4, a5, a6, a7, a8⟩ := h1 i hi
    unfold TokO
    rw [hen i (by omega)]
    by_cases e : i = K
    · subst e
      rw [un_hit]
      refine ⟨a1, a2, by omega, by omega, a5, fun j hj => ?_, fun _ => by rw [← hy]; exact hn, fun _ a => absurd a (by omega)⟩
      by_cases e2 : j = ln i
      · rw [e2, he]; exact hy
      · exact a6 j (by omega)
    · rw [un_off e]
      have o := (h1 K (by omega)).1
      have o2 : pl i + ln i < q := by
        have o3 : ∀ d, i + d < K → pl i + ln i ≤ enS pl ln (i + d + 1) := fun d => by
          induction d with
          | zero => intro _; rw [Nat.add_zero, enS]; exact Nat.le_refl _
          | succ d ih =>
            intro hd
            have := ih (by omega)
            have o4 := (h1 (i + d + 1) (by omega)).1
            rw [show i + (d + 1) + 1 = i + d + 1 + 1 by omega, enS]
            omega
        have := o3 (K - 1 - i) (by omega)
        rw [show i + (K - 1 - i) + 1 = K by omega] at this
        have := (h1 K (by omega)).2.2.1
        omega
      exact ⟨a1, a2, a3, by omega, a5, a6, a7, fun c1 c2 => a8 c1 o2⟩
  · rw [enS, un_hit]
    omega
  · rw [enS, un_hit] at a1
    omega
end CUT
/-- the class's rows of tokens while it cuts -/
def CutI (s : St) (b : Nat → Int32) (K : Nat) (pl ln : Nat → Nat) (σ : St) : Prop := (∀ x, x ≠ 16 → x ≠ 17 → x ≠ 18 → x ≠ 19 → x ≠ 20 → σ x = s x) ∧ σ 16 4 = nI K ∧ ∀ i, i < K → σ 17 i = chK (b (pl i)) ∧ σ 18 i = nI (pl i) ∧ σ 19 i = 0 ∧ σ 20 i = nI (ln i)
theorem c_addTok {σ : St} {K : Nat} {k p : Int32} (hK : K < 701) (h : σ 16 4 = nI K) : fX9_add k p σ = some (0, wr (wr (wr (wr (wr σ 17 K k) 18 K p) 20 K 1) 19 K 0) 16 4 (nI (K + 1))) := by
  rw [fX9_add, h, put_nI (by decide) (by show K < 701; exact hK), bd_some, wr_slot (show (16 : Nat) ≠ 17 by decide), h, put_nI (by decide) (by show K < 701; exact hK), bd_some, wr_slot (show (16 : Nat) ≠ 18 by decide), wr_slot (show (16 : Nat) ≠ 17 by decide), h, put_nI (by decide) (by show K < 701; exact hK), bd_some, wr_slot (show (16 : Nat) ≠ 20 by decide), wr_slot (show (16 : Nat) ≠ 18 by decide), wr_slot (show (16 : Nat) ≠ 17 by decide), h, put_nI (by decide) (by show K < 701; exact hK), bd_some, wr_slot (show (16 : Nat) ≠ 19 by decide), wr_slot (show (16 : Nat) ≠ 20 by decide), wr_slot (show (16 : Nat) ≠ 18 by decide), wr_slot (show (16 : Nat) ≠ 17 by decide), h, zra_1]
theorem c_cutL {s : St} {m : Nat} (kk : St → Option (Int32 × St)) (hm : m ≤ 700) : ∀ k q fu v3 K pl ln σ, q + k = m → k < fu → TokB (s 1) q K pl ln → (q = 0 → v3 = -3) → (0 < q → v3 = chK (s 1 (q - 1))) → (0 < q → ¬ v3 = -3 → 1 ≤ K ∧ pl (K - 1) + ln (K - 1) = q) → CutI s (s 1) K pl ln σ →
    ∃ K' pl' ln' σ', fX9_cut_L11 kk 1 (nI m) fu v3 (nI q) σ = kk σ' ∧ TokB (s 1) m K' pl' ln' ∧ CutI s (s 1) K' pl' ln' σ' := by
  intro k
  induction k with
  | zero =>
    intro q fu v3 K pl ln σ hq hfu hT h0 h1 h2 hC
    obtain ⟨fu, rfl⟩ : ∃ z, fu = z + 1 := ⟨fu - 1, by omega⟩
    obtain rfl : q = m := by omega
    exact ⟨K, pl, ln, σ, by rw [fX9_cut_L11, if_pos (Int32.le_refl _)], hT, hC⟩
  | succ k ih =>
    intro q fu v3 K pl ln σ hq hfu hT h0 h1 h2 hC
    obtain ⟨fu, rfl⟩ : ∃ z, fu = z + 1 := ⟨fu - 1, by omega⟩
    obtain ⟨c1, c2, c3⟩ := id hC
    have hK : K ≤ q := Nat.le_trans (tok_le hT.1 K (Nat.le_refl _)) hT.2.1
    have hb : σ 1 = s 1 := c1 1 (by decide) (by decide) (by decide) (by decide) (by decide)
    have hhead : fX9_cut_L11 kk 1 (nI m) (fu + 1) v3 (nI q) σ = if chK (s 1 q) = v3 ∧ (chK (s 1 q) = 300 ∨ chK (s 1 q) = 200) then fX9_cut_J50 kk (fX9_cut_L11 kk 1 (nI m) fu) 1 (nI m) (nI q) (chK (s 1 q)) σ else fX9_cut_J54 kk (fX9_cut_L11 kk 1 (nI m) fu) 1 (nI m) (nI q) (chK (s 1 q)) σ := by
      rw [fX9_cut_L11, if_neg (by rw [nI_leI (by omega) (by omega)]; omega), at_nI (by decide) (by show q < 700; omega), bd_some, hb, c_kindOf, bd_some]
      by_cases e1 : chK (s 1 q) = v3
      · rw [if_pos e1]
        by_cases e2 : chK (s 1 q) = 300
        · rw [if_pos e2, if_pos ⟨e1, Or.inl e2⟩]
        · rw [if_neg e2]
          by_cases e3 : chK (s 1 q) = 200
          · rw [if_pos e3, if_pos ⟨e1, Or.inr e3⟩]
          · rw [if_neg e3, if_neg (fun h => h.2.elim e2 e3)]
      · rw [if_neg e1, if_neg (fun h => e1 h.1)]
    have hv' : 0 < q + 1 → chK (s 1 q) = chK (s 1 (q + 1 - 1)) := fun _ => by rw [Nat.add_sub_cancel]
    rw [hhead]
    by_cases e : chK (s 1 q) = v3 ∧ (chK (s 1 q) = 300 ∨ chK (s 1 q) = 200)
    · have hv3 : ¬ v3 = -3 := by
        rw [← e.1]
        rcases e.2 with e2 | e2 <;> (rw [e2]; decide)
      have hq0 : 0 < q := by
        rcases Nat.eq_zero_or_pos q with z | z
        · exact absurd (h0 z) hv3
        · exact z
      obtain ⟨hK1, hend⟩ := h2 hq0 hv3
      obtain ⟨K, rfl⟩ : ∃ z, K = z + 1 := ⟨K - 1, by omega⟩
      rw [Nat.add_sub_cancel] at hend
      have o := hT.1 K (by omega)
      have hsame : chK (s 1 q) = chK (s 1 (pl K)) := by
        rw [e.1, h1 hq0, ← o.2.2.2.2.2.1 (ln K - 1) (by have := o.2.2.1; omega)]
        rw [show pl K + (ln K - 1) = q - 1 by have := o.2.2.1; omega]
      rw [if_pos e, fX9_cut_J50, fX9_cut_J55, if_neg (by decide), c2, nI_pred, at_nI (by decide) (by show K < 701; omega), bd_some, (c3 K (by omega)).2.2.2, put_nI (by decide) (by show K < 701; omega), bd_some, zra_1, zra_1]
      refine ih (q + 1) fu _ (K + 1) pl (un ln K (ln K + 1)) _ (by omega) (by omega) (tok_more hT hend hsame e.2) (fun z => absurd z (by omega)) hv' (fun _ _ => ⟨by omega, by rw [Nat.add_sub_cancel, un_hit]; omega⟩) ⟨fun x q1 q2 q3 q4 q5 => by rw [wr_slot q5, c1 x q1 q2 q3 q4 q5], by rw [wr_slot (by decide), c2], fun i hi => ?_⟩
      obtain ⟨d1, d2, d3, d4⟩ := c3 i hi
      rw [wr_slot (show (17 : Nat) ≠ 20 by decide), wr_slot (show (18 : Nat) ≠ 20 by decide), wr_slot (show (19 : Nat) ≠ 20 by decide)]
      refine ⟨d1, d2, d3, ?_⟩
      by_cases ei : i = K
      · subst ei
        rw [wr_hit, un_hit]
      · rw [wr_place ei, un_off ei]
        exact d4
    · rw [if_neg e, fX9_cut_J54, fX9_cut_J55, if_pos rfl]
      by_cases e3 : chK (s 1 q) = -3
      · rw [if_pos e3, zra_1]
        exact ih (q + 1) fu _ K pl ln σ (by omega) (by omega) (tok_blank hT e3) (fun z => absurd z (by omega)) hv' (fun _ z => absurd e3 z) hC
      · rw [if_neg e3, c_addTok (by omega) c2, bd_some, zra_1]
        refine ih (q + 1) fu _ (K + 1) (un pl K q) (un ln K 1) _ (by omega) (by omega) (tok_new hT e3 h1 e) (fun z => absurd z (by omega)) hv' (fun _ _ => ⟨by omega, by rw [Nat.add_sub_cancel, un_hit, un_hit]⟩) ⟨fun x q1 q2 q3 q4 q5 => by rw [wr_slot q1, wr_slot q4, wr_slot q5, wr_slot q3, wr_slot q2, c1 x q1 q2 q3 q4 q5], wr_hit, fun i hi => ?_⟩
        rw [wr_slot (show (17 : Nat) ≠ 16 by decide), wr_slot (show (17 : Nat) ≠ 19 by decide), wr_slot (show (17 : Nat) ≠ 20 by decide), wr_slot (show (17 : Nat) ≠ 18 by decide), wr_slot (show (18 : Nat) ≠ 16 by decide), wr_slot (show (18 : Nat) ≠ 19 by decide), wr_slot (show (18 : Nat) ≠ 20 by decide), wr_slot (show (19 : Nat) ≠ 16 by decide), wr_slot (show (20 : Nat) ≠ 16 by decide), wr_slot (show (20 : Nat) ≠ 19 by decide)]
        by_cases ei : i = K
        · subst ei
          rw [wr_hit, wr_hit, wr_hit, wr_hit, un_hit, un_hit]
          exact ⟨rfl, rfl, rfl, rfl⟩
        · obtain ⟨d1, d2, d3, d4⟩ := c3 i (by omega)
          rw [wr_place ei, wr_place ei, wr_place ei, wr_place ei, un_off ei, un_off ei, wr_slot (show (18 : Nat) ≠ 17 by decide), wr_slot (show (19 : Nat) ≠ 20 by decide), wr_slot (show (19 : Nat) ≠ 18 by decide), wr_slot (show (19 : Nat) ≠ 17 by decide), wr_slot (show (20 : Nat) ≠ 18 by decide), wr_slot (show (20 : Nat) ≠ 17 by decide)]
          exact ⟨d1, d2, d3, d4⟩
