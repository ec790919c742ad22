/-! ===== shares, at the reference's side ===== -/
def SetM (n : Nat) (t : St) (sh : Nat → Nat) : Prop := (∀ p, p < n → t 92 p = nI (sh p)) ∧ t 69 37 = nI (sumN sh n) ∧ EP sh n (t 69 38)
def KT (t t' : St) : Prop := (∀ x, x ≠ 69 → x ≠ 90 → x ≠ 91 → x ≠ 92 → t' x = t x) ∧ ∀ j, j ≠ 37 → j ≠ 38 → t' 69 j = t 69 j
theorem KT.rfl' (t : St) : KT t t := ⟨fun _ _ _ _ _ => rfl, fun _ _ _ => rfl⟩
theorem KT.trans {t u v : St} (h : KT t u) (h2 : KT u v) : KT t v := ⟨fun x a b c d => (h2.1 x a b c d).trans (h.1 x a b c d), fun j a b => (h2.2 j a b).trans (h.2 j a b)⟩
theorem KT.w92 {t : St} {j : Nat} {v : Int32} : KT t (wr t 92 j v) := ⟨fun x a b c d => wr_slot d, fun j _ _ => by rw [wr_slot (by decide)]⟩
theorem KT.w69 {t : St} {j : Nat} {v : Int32} (h : j = 37 ∨ j = 38) : KT t (wr t 69 j v) := ⟨fun x a b c d => wr_slot a, fun j' a b => wr_place (by rcases h with rfl | rfl <;> assumption)⟩
theorem KT.w9 {t t' : St} (h : ∀ k, k ≠ 90 → k ≠ 91 → t' k = t k) : KT t t' := ⟨fun x a b c d => h x b c, fun j a b => by rw [h 69 (by decide) (by decide)]⟩
theorem sumN_mono {f : Nat → Nat} : ∀ {i n : Nat}, i ≤ n → sumN f i ≤ sumN f n := by
  intro i n h
  induction n with
  | zero => rw [show i = 0 by omega]; exact Nat.le_refl _
  | succ n ih =>
    by_cases e : i = n + 1
    · rw [e]; exact Nat.le_refl _
    · have := ih (by omega)
      rw [sumN]; omega
section TELL
variable {n : Nat} {t : St}
theorem m_tell0 (kk : St → Option (Int32 × St)) (a b : Int32) (hn : t 71 0 = nI n) (h12 : n ≤ 12) : ∃ t', fX12_tellShares_L2 kk a b FU 0 t = kk t' ∧ (∀ p, p < n → t' 92 p = 0) ∧ KT t t' := by
  have key : ∀ k i m t', i + k = n → k < m → (∀ p, p < i → t' 92 p = 0) → KT t t' → ∃ t'', fX12_tellShares_L2 kk a b m (nI i) t' = kk t'' ∧ (∀ p, p < n → t'' 92 p = 0) ∧ KT t t'' := by
    intro k
    induction k with
    | zero =>
      intro i m t' hi hm h1 h2
      obtain ⟨m, rfl⟩ : ∃ q, m = q + 1 := ⟨m - 1, by omega⟩
      obtain rfl : i = n := by omega
      refine ⟨t', ?_, h1, h2⟩
      rw [fX12_tellShares_L2, if_pos inA_0, i00, h2.1 71 (by decide) (by decide) (by decide) (by decide), hn, if_pos (Int32.le_refl _)]
    | succ k ih =>
      intro i m t' hi hm h1 h2
      obtain ⟨m, rfl⟩ : ∃ q, m = q + 1 := ⟨m - 1, by omega⟩
      rw [fX12_tellShares_L2, if_pos inA_0, i00, h2.1 71 (by decide) (by decide) (by decide) (by decide), hn, if_neg (by rw [nI_leI (by omega) (by omega)]; omega), if_pos (inA_lt (by decide) (by omega)), nI_clamp (by omega), zra_1]
      refine ih (i + 1) m _ (by omega) (by omega) (fun p hp => ?_) (h2.trans KT.w92)
      by_cases e : p = i
      · subst e; rw [wr_hit]
      · rw [wr_place e, h1 p (by omega)]
  exact key n 0 FU t (by omega) (by show n < 20000; omega) (fun p hp => absurd hp (by omega)) (KT.rfl' t)
theorem m_tellW {s0 : St} {nw nf d A : Nat} {c : Nat → Int32} (kk : St → Option (Int32 × St)) (r : RLand s0 n nw nf) (hl : LM s0 t) (hd : d < n) (hA : A < 4096) (hA2 : t 69 17 = nI A) (hA3 : ∀ p, p < n → (A.testBit p = true ↔ ¬ c (48 + p) = -1)) (h0 : ∀ p, p < n → t 92 p = 0) (h37 : t 69 37 = 0) :
    ∃ t' T, fX12_tellShares_L32 kk (nI d) 1 FU 0 t = kk t' ∧ (∀ p, p < n → t' 92 p = nI (shW s0 c d p)) ∧ t' 69 37 = nI T ∧ T < 2147483648 ∧ (T = 0 ↔ sumN (shW s0 c d) 12 = 0) ∧ KT t t' := by
  have h12 : n ≤ 12 := r.1.2.2
  obtain ⟨nw1, nw2, nw12⟩ := r.2.1
  have hw := r.2.2.2.2.2.2.1
  have i1 : inA (1 : Int32) 10 := by decide
  have c1 : (1 : Int32).toNatClampNeg = 1 := rfl
  have key : ∀ k i m t' (W : Nat → Nat) T, i + k = nw → k < m → (∀ p, p < n → t' 92 p = nI (W p)) → t' 69 37 = nI T → T ≤ 99 * i → (∀ p, p < n → W p = 0 ∨ (W p = shW s0 c d p ∧ shW s0 c d p ≠ 0)) → (∀ j, j < i → ∀ p, p < n → s0 78 j = nI d → s0 79 j = nI p → ¬ c (48 + p) = -1 → W p ≠ 0) → (T = 0 ↔ ∀ p, p < n → W p = 0) → KT t t' →
      ∃ t'' T, fX12_tellShares_L32 kk (nI d) 1 m (nI i) t' = kk t'' ∧ (∀ p, p < n → t'' 92 p = nI (shW s0 c d p)) ∧ t'' 69 37 = nI T ∧ T < 2147483648 ∧ (T = 0 ↔ sumN (shW s0 c d) 12 = 0) ∧ KT t t'' := by
    intro k
    induction k with
    | zero =>
      intro i m t' W T hi hm h1 h2 h3 h4 h5 h6 h7
      obtain ⟨m, rfl⟩ : ∃ q, m = q + 1 := ⟨m - 1, by omega⟩
      obtain rfl : i = nw := by omega
      have hW : ∀ p, p < n → W p = shW s0 c d p := by
        intro p hp
        rcases h4 p hp with e | e
        · by_cases z : shW s0 c d p = 0
          · rw [e, z]
          · obtain ⟨v, hv, g1, g2⟩ := will_nat h12 hw (d := d) (p := p) (by omega) (by omega)
            have hz : ¬ c (48 + p) = -1 := fun q => z (by rw [shW, if_pos q])
            have hv0 : v ≠ 0 := by
              rintro rfl
              exact z (by rw [shW, if_neg hz, g1]; rfl)
            obtain ⟨-, -, -, j, hj, f1, f2, f3⟩ := g2 hv0
            exact absurd e (h5 j hj p hp f1 f2 hz)
        · exact e.1
      refine ⟨t', T, ?_, fun p hp => by rw [h1 p hp, hW p hp], h2, by omega, ?_, h7⟩
      · rw [fX12_tellShares_L32, if_pos i1, c1, h7.1 71 (by decide) (by decide) (by decide) (by decide), hl 71 (Or.inl rfl), nw2, if_pos (Int32.le_refl _)]
      · rw [h6, sumN_eq0]
        constructor
        · intro h p hp
          by_cases hpn : p < n
          · rw [← hW p hpn]; exact h p hpn
          · by_cases z : shW s0 c d p = 0
            · exact z
            · exact absurd ((shW_le h12 hw (by omega) p hp).2.1 z).1 hpn
        · intro h p hp
          rw [hW p hp]; exact h p (by omega)
    | succ k ih =>
      intro i m t' W T hi hm h1 h2 h3 h4 h5 h6 h7
      obtain ⟨m, rfl⟩ : ∃ q, m = q + 1 := ⟨m - 1, by omega⟩
      obtain ⟨a, b, v, ha, hb, hab, hv1, hv2, f1, f2, f3, f4⟩ := hw.1 i (by omega)
      have k78 : t' 78 = s0 78 := by rw [h7.1 78 (by decide) (by decide) (by decide) (by decide), hl 78 (Or.inr (by decide))]
      have k79 : t' 79 = s0 79 := by rw [h7.1 79 (by decide) (by decide) (by decide) (by decide), hl 79 (Or.inr (by decide))]
      have k80 : t' 80 = s0 80 := by rw [h7.1 80 (by decide) (by decide) (by decide) (by decide), hl 80 (Or.inr (by decide))]
      rw [fX12_tellShares_L32, if_pos i1, c1, h7.1 71 (by decide) (by decide) (by decide) (by decide), hl 71 (Or.inl rfl), nw2, if_neg (by rw [nI_leI (by omega) (by omega)]; omega), if_neg (by decide), if_pos (inA_lt (by decide) (by omega)), nI_clamp (n := i) (by omega), k78, k79, f1, ite_iff (nI_eq (by omega) (by omega)), zra_1]
      by_cases e : a = d
      · subst e
        rw [if_pos rfl, if_pos (inA_lt (by decide) (by omega)), f2, m_alive_c (c := c) h12 hA (by rw [h7.2 17 (by decide) (by decide)]; exact hA2) hA3 hb, bd_some]
        by_cases q : c (48 + b) = -1
        · rw [if_pos q, if_pos rfl]
          refine ih (i + 1) m t' W T (by omega) (by omega) h1 h2 (by omega) h4 (fun j hj p hp g1 g2 g3 => ?_) h6 h7
          by_cases ej : j = i
          · subst ej
            rw [f2] at g2
            have : b = p := (nI_eq (by omega) (by omega)).mp g2
            subst this
            exact absurd q g3
          · exact h5 j (by omega) p hp g1 g2 g3
        · have hsb : shW s0 c a b = v := by rw [shW, if_neg q, f4, nI_clamp (by omega)]
          rw [if_neg q, if_neg (by decide), if_pos (inA_lt (by decide) (by omega)), if_pos (inA_lt (by decide) (by omega)), k79, f2, if_pos (inA_lt (by decide) (by omega)), nI_clamp (n := b) (by omega), k80, f3, if_pos (inA_lt (by decide) (by omega))]
          have z1 : (wr t' 92 b (nI v)) 69 37 = nI T := by rw [wr_slot (by decide), h2]
          have z2 : (wr t' 92 b (nI v)) 80 i = nI v := by rw [wr_slot (by decide), k80, f3]
          simp only [z1, z2, nI_add]
          refine ih (i + 1) m _ (fun p => if p = b then v else W p) (T + v) (by omega) (by omega) (fun p hp => ?_) wr_hit (by omega) (fun p hp => ?_) (fun j hj p hp g1 g2 g3 => ?_) ?_ ((h7.trans KT.w92).trans (KT.w69 (Or.inl rfl)))
          · rw [wr_slot (by decide)]
            by_cases ep : p = b
            · subst ep; rw [wr_hit, if_pos rfl]
            · rw [wr_place ep, if_neg ep, h1 p hp]
          · by_cases ep : p = b
            · subst ep
              rw [if_pos rfl, hsb]
              exact Or.inr ⟨rfl, by omega⟩
            · rw [if_neg ep]; exact h4 p hp
          · show (if p = b then v else W p) ≠ 0
            by_cases ep : p = b
            · rw [if_pos ep]; omega
            · rw [if_neg ep]
              by_cases ej : j = i
              · subst ej
                rw [f2] at g2
                exact absurd ((nI_eq (by omega) (by omega)).mp g2).symm ep
              · exact h5 j (by omega) p hp g1 g2 g3
          · constructor
            · intro h; omega
            · intro h
              have := h b hb
              rw [if_pos rfl] at this
              omega
      · rw [if_neg e]
        refine ih (i + 1) m t' W T (by omega) (by omega) h1 h2 (by omega) h4 (fun j hj p hp g1 g2 g3 => ?_) h6 h7
        by_cases ej : j = i
        · subst ej
          rw [f1] at g1
          exact absurd ((nI_eq (by omega) (by omega)).mp g1) e
        · exact h5 j (by omega) p hp g1 g2 g3
  exact key nw 0 FU t (fun _ => 0) 0 (by omega) (by show nw < 20000; omega) h0 h37 (by omega) (fun p _ => Or.inl rfl) (fun j hj => absurd hj (by omega)) ⟨fun _ _ _ => rfl, fun _ => rfl⟩ (KT.rfl' t)
theorem m_tellL {s0 : St} {nw nf d A : Nat} {c : Nat → Int32} {L : Nat → Nat} {b : Int32} (kk : St → Option (Int32 × St)) (r : RLand s0 n nw nf) (hl : LM s0 t) (hd : d < n) (hA : A < 4096) (hA2 : t 69 17 = nI A) (hA3 : ∀ p, p < n → (A.testBit p = true ↔ ¬ c (48 + p) = -1)) (hb : b = 0 ∨ t 69 37 = 0)
    (hL : ∀ p, p < n → p ≠ d → ¬ c (48 + p) = -1 → ∀ u, KT t u → ∃ u', fX12_byLaw (nI d) (nI p) u = some (nI (L p), u') ∧ ∀ k, k ≠ 90 → k ≠ 91 → u' k = u k) :
    ∃ t', fX12_tellShares_L112 kk (nI d) b FU 0 t = kk t' ∧ (∀ p, p < n → t' 92 p = nI (shL L c d p)) ∧ KT t t' := by
  have h12 : n ≤ 12 := r.1.2.2
  have key : ∀ k i m t', i + k = n → k < m → (∀ p, p < i → t' 92 p = nI (shL L c d p)) → KT t t' → t' 69 37 = t 69 37 → ∃ t'', fX12_tellShares_L112 kk (nI d) b m (nI i) t' = kk t'' ∧ (∀ p, p < n → t'' 92 p = nI (shL L c d p)) ∧ KT t t'' := by
    intro k
    induction k with
    | zero =>
      intro i m t' hi hm h1 h2 h3
      obtain ⟨m, rfl⟩ : ∃ q, m = q + 1 := ⟨m - 1, by omega⟩
      obtain rfl : i = n := by omega
      refine ⟨t', ?_, h1, h2⟩
      rw [fX12_tellShares_L112, if_pos inA_0, i00, h2.1 71 (by decide) (by decide) (by decide) (by decide), hl 71 (Or.inl rfl), r.1.2.1, if_pos (Int32.le_refl _)]
    | succ k ih =>
      intro i m t' hi hm h1 h2 h3
      obtain ⟨m, rfl⟩ : ∃ q, m = q + 1 := ⟨m - 1, by omega⟩
      have hcont : fX12_tellShares_L112 kk (nI d) b (m + 1) (nI i) t' = fX12_tellShares_J133 kk (fX12_tellShares_L112 kk (nI d) b m) (nI d) b (nI i) t' := by
        rw [fX12_tellShares_L112, if_pos inA_0, i00, h2.1 71 (by decide) (by decide) (by decide) (by decide), hl 71 (Or.inl rfl), r.1.2.1, if_neg (by rw [nI_leI (by omega) (by omega)]; omega)]
        by_cases hb0 : b = 0
        · rw [if_pos hb0]
        · rw [if_neg hb0, h3, if_pos (by rcases hb with h | h; exact absurd h hb0; exact h)]
      have put : ∀ (v : Int32) (u : St), (∀ k, k ≠ 90 → k ≠ 91 → u k = t' k) → v = nI (shL L c d i) → ∃ t'', fX12_tellShares_L112 kk (nI d) b m (nI (i + 1)) (wr u 92 i v) = kk t'' ∧ (∀ p, p < n → t'' 92 p = nI (shL L c d p)) ∧ KT t t'' := fun v u hu hv => by
        refine ih (i + 1) m _ (by omega) (by omega) (fun p hp => ?_) ((h2.trans (KT.w9 hu)).trans KT.w92) (by rw [wr_slot (by decide), hu 69 (by decide) (by decide), h3])
        by_cases e : p = i
        · subst e; rw [wr_hit, hv]
        · rw [wr_place e, hu 92 (by decide) (by decide), h1 p (by omega)]
      rw [hcont, fX12_tellShares_J133, ite_iff (nI_eq (by omega) (by omega)), if_pos (inA_lt (by decide) (by omega)), nI_clamp (by omega), zra_1]
      by_cases e : i = d
      · rw [if_pos e]
        exact put 0 t' (fun _ _ _ => rfl) (by rw [shL, if_pos (Or.inl e)]; rfl)
      · rw [if_neg e, m_alive_c (c := c) h12 hA (by rw [h2.2 17 (by decide) (by decide)]; exact hA2) hA3 (by omega), bd_some]
        by_cases q : c (48 + i) = -1
        · rw [if_pos q, if_pos rfl, if_pos (inA_lt (by decide) (by omega))]
          exact put 0 t' (fun _ _ _ => rfl) (by rw [shL, if_pos (Or.inr q)]; rfl)
        · obtain ⟨u', e1, e2⟩ := hL i (by omega) e q t' h2
          rw [if_neg q, if_neg (by decide), e1, bd_some, if_pos (inA_lt (by decide) (by omega))]
          exact put _ u' e2 (by rw [shL, if_neg (by rintro (h | h); exact e h; exact q h)])
  exact key n 0 FU t (by omega) (by show n < 20000; omega) (fun p hp => absurd hp (by omega)) (KT.rfl' t) rfl
theorem m_tellE {sh : Nat → Nat} (hn : t 71 0 = nI n) (h12 : n ≤ 12) (hb : ∀ p, p < n → sh p ≤ 999) (h : ∀ p, p < n → t 92 p = nI (sh p)) : ∃ t', fX12_tellShares_J168 t = some (0, t') ∧ SetM n t' sh ∧ KT t t' := by
  have hN : sumN sh n ≤ n * 999 := sumN_const n hb
  have key : ∀ i m t', i < m → i ≤ n → t' 69 37 = nI (sumN sh n - sumN sh i) → ((t' 69 38 = -1 ∧ ∀ p, i ≤ p → p < n → sh p = 0) ∨ ∃ p, i ≤ p ∧ p < n ∧ t' 69 38 = nI p ∧ sh p ≠ 0 ∧ ∀ q, i ≤ q → q < p → sh q = 0) → KT t t' → t' 92 = t 92 → ∃ t'', fX12_tellShares_L187 m (nI i - 1) t' = some (0, t'') ∧ SetM n t'' sh ∧ KT t t'' := by
    intro i
    induction i with
    | zero =>
      intro m t' hm hi h1 h2 h3 h4
      obtain ⟨m, rfl⟩ : ∃ q, m = q + 1 := ⟨m - 1, by omega⟩
      refine ⟨t', by rw [fX12_tellShares_L187, if_pos (by decide)], ⟨fun p hp => by rw [h4]; exact h p hp, by rw [h1]; rfl, ?_⟩, h3⟩
      rcases h2 with ⟨g1, g2⟩ | ⟨p, g1, g2, g3, g4, g5⟩
      · exact Or.inl ⟨g1, fun p hp => g2 p (by omega) hp⟩
      · exact Or.inr ⟨p, g2, g3, g4, fun q hq => g5 q (by omega) hq⟩
    | succ i ih =>
      intro m t' hm hi h1 h2 h3 h4
      obtain ⟨m, rfl⟩ : ∃ q, m = q + 1 := ⟨m - 1, by omega⟩
      have hm1 : sumN sh (i + 1) ≤ sumN sh n := sumN_mono hi
      have hs1 : sumN sh (i + 1) = sumN sh i + sh i := rfl
      have hp1 : nI i + -1 = nI i - 1 := by rw [Int32.sub_eq_add_neg]
      rw [nI_pred, fX12_tellShares_L187, if_neg (nI_pos (by omega)), if_pos (inA_lt (by decide) (by omega)), nI_clamp (by omega), h1, h4, h i (by omega), nI_add, show sumN sh n - sumN sh (i + 1) + sh i = sumN sh n - sumN sh i by omega]
      have z92 : (wr t' 69 37 (nI (sumN sh n - sumN sh i))) 92 i = nI (sh i) := by rw [wr_slot (by decide), h4, h i (by omega)]
      have hbi := hb i (by omega)
      simp only [z92]
      rw [if_pos (inA_lt (by decide) (by omega)), ite_iff (zrl_0 _ (by omega)), hp1]
      by_cases e : sh i = 0
      · rw [if_pos (by omega)]
        refine ih m _ (by omega) (by omega) wr_hit ?_ (h3.trans (KT.w69 (Or.inl rfl))) (by rw [wr_slot (by decide), h4])
        rw [wr_place (by decide)]
        rcases h2 with ⟨g1, g2⟩ | ⟨p, g1, g2, g3, g4, g5⟩
        · refine Or.inl ⟨g1, fun p q1 q2 => ?_⟩
          by_cases ep : p = i
          · rw [ep, e]
          · exact g2 p (by omega) q2
        · refine Or.inr ⟨p, by omega, g2, g3, g4, fun q q1 q2 => ?_⟩
          by_cases ep : q = i
          · rw [ep, e]
          · exact g5 q (by omega) q2
      · rw [if_neg (by omega)]
        refine ih m _ (by omega) (by omega) (by rw [wr_place (by decide), wr_hit]) ?_ ((h3.trans (KT.w69 (Or.inl rfl))).trans (KT.w69 (Or.inr rfl))) (by rw [wr_slot (by decide), wr_slot (by decide), h4])
        rw [wr_hit]
        exact Or.inr ⟨i, by omega, by omega, rfl, e, fun q q1 q2 => absurd q2 (by omega)⟩
  obtain ⟨t'', e1, e2, e3⟩ := key n FU (wr (wr t 69 37 0) 69 38 (-1)) (by show n < 20000; omega) (by omega) (by rw [wr_place (by decide), wr_hit, Nat.sub_self]; rfl) (by rw [wr_hit]; exact Or.inl ⟨rfl, fun p q1 q2 => absurd q2 (by omega)⟩) ((KT.w69 (Or.inl rfl)).trans (KT.w69 (Or.inr rfl))) (by rw [wr_slot (by decide), wr_slot (by decide)])
  refine ⟨t'', ?_, e2, e3⟩
  have z : (wr (wr t 69 37 0) 69 38 (-1)) 71 0 = nI n := by rw [wr_slot (by decide), wr_slot (by decide), hn]
  rw [fX12_tellShares_J168]
  simp only [if_pos inA_0, i00, z]
  exact e1
/-- shares told, by wills or by the law alone -/
theorem m_tell {s0 : St} {nw nf d A : Nat} {c : Nat → Int32} {L : Nat → Nat} (b : Bool) (r : RLand s0 n nw nf) (hl : LM s0 t) (hd : d < n) (hA : A < 4096) (hA2 : t 69 17 = nI A) (hA3 : ∀ p, p < n → (A.testBit p = true ↔ ¬ c (48 + p) = -1)) (hL9 : ∀ p, L p ≤ 999)
    (hL : ∀ p, p < n → p ≠ d → ¬ c (48 + p) = -1 → ∀ u, KT t u → ∃ u', fX12_byLaw (nI d) (nI p) u = some (nI (L p), u') ∧ ∀ k, k ≠ 90 → k ≠ 91 → u' k = u k) :
    ∃ t', fX12_tellShares (nI d) (kflag b) t = some (0, t') ∧ SetM n t' (if b then shD s0 L c d else shL L c d) ∧ KT t t' := by
  have h12 : n ≤ 12 := r.1.2.2
  have hw := r.2.2.2.2.2.2.1
  have hn : ∀ u, KT t u → u 71 0 = nI n := fun u hu => by rw [hu.1 71 (by decide) (by decide) (by decide) (by decide), hl 71 (Or.inl rfl), r.1.2.1]
  have hlu : ∀ u, KT t u → LM s0 u := fun u hu k hk => by rw [hu.1 k (by omega) (by omega) (by omega) (by omega), hl k hk]
  have hAu : ∀ u, KT t u → u 69 17 = nI A := fun u hu => by rw [hu.2 17 (by decide) (by decide), hA2]
  have hLb : ∀ p, p < n → shL L c d p ≤ 999 := fun p _ => by
    rw [shL]
    split
    · omega
    · exact hL9 p
  obtain ⟨t1, a1, a2, a3⟩ := m_tell0 (t := t) (fun s_2 => let s_3 := wr s_2 69 37 (0 : Int32);
    fX12_tellShares_L32 (fun s_7 => fX12_tellShares_J110 (nI d) (kflag b) s_7) (nI d) (kflag b) FU (0 : Int32) s_3) (nI d) (kflag b) (hn t (KT.rfl' t)) h12
  have kt1 : KT t (wr t1 69 37 0) := a3.trans (KT.w69 (Or.inl rfl))
  rw [fX12_tellShares, a1]
  show ∃ t', fX12_tellShares_L32 _ (nI d) (kflag b) FU 0 (wr t1 69 37 0) = _ ∧ _
  have lawEnd : ∀ u (b : Int32), KT t u → (b = 0 ∨ u 69 37 = 0) → ∃ t', fX12_tellShares_J110 (nI d) b u = some (0, t') ∧ SetM n t' (shL L c d) ∧ KT t t' := fun u b hu hb => by
    obtain ⟨t2, b1, b2, b3⟩ := m_tellL (t := u) (c := c) (L := L) (b := b) (fun s_13 => fX12_tellShares_J168 s_13) r (hlu u hu) hd hA (hAu u hu) hA3 hb (fun p hp q1 q2 u' hu' => hL p hp q1 q2 u' (hu.trans hu'))
    obtain ⟨t3, c1, c2, c3⟩ := m_tellE (t := t2) (sh := shL L c d) (hn t2 (hu.trans b3)) h12 hLb b2
    exact ⟨t3, by rw [fX12_tellShares_J110, b1, c1], c2, (hu.trans b3).trans c3⟩
  cases b
  · rw [kf_f]
    have : fX12_tellShares_L32 (fun s_7 => fX12_tellShares_J110 (nI d) 0 s_7) (nI d) 0 FU 0 (wr t1 69 37 0) = fX12_tellShares_J110 (nI d) 0 (wr t1 69 37 0) := by
      show fX12_tellShares_L32 _ (nI d) 0 (19999 + 1) 0 _ = _
      rw [fX12_tellShares_L32, if_pos (by decide), if_pos rfl]
      split <;> rfl
    rw [this]
    exact lawEnd _ 0 kt1 (Or.inl rfl)
  · rw [kf_t]
    obtain ⟨t2, T, b1, b2, b3, b4, b5, b6⟩ := m_tellW (t := wr t1 69 37 0) (c := c) (fun s_7 => fX12_tellShares_J110 (nI d) 1 s_7) r (hlu _ kt1) hd hA (hAu _ kt1) hA3 (fun p hp => by rw [wr_slot (by decide)]; exact a2 p hp) wr_hit
    rw [b1]
    have kt2 := kt1.trans b6
    show ∃ t', fX12_tellShares_J110 (nI d) 1 t2 = some (0, t') ∧ SetM n t' (shD s0 L c d) ∧ KT t t'
    by_cases e : T = 0
    · rw [shD, if_pos (b5.mp e)]
      exact lawEnd t2 1 kt2 (Or.inr (by rw [b3, e]; rfl))
    · rw [shD, if_neg (fun q => e (b5.mpr q))]
      obtain ⟨t3, c1, c2, c3⟩ := m_tellE (t := t2) (sh := shW s0 c d) (hn t2 kt2) h12 (fun p hp => by have := (shW_le (c := c) h12 hw (d := d) (by omega) p (by omega)).1; omega) b2
      refine ⟨t3, ?_, c2, kt2.trans c3⟩
      rw [fX12_tellShares_J110]
      show fX12_tellShares_L112 _ (nI d) 1 (19999 + 1) 0 t2 = _
      rw [fX12_tellShares_L112, if_pos inA_0, i00, hn t2 kt2, if_neg (by rw [zrl_0 _ (by omega)]; omega), if_neg (by decide), b3, ite_iff (zle_0 _ b4), if_neg e, c1]
end TELL
