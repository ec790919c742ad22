/-! ===== the fewest deaths ===== -/
def DCl (s σ : St) (dep : Nat → Nat) (len n p k : Nat) (v : Int32) : Prop := (∀ x, x ≠ 31 → x ≠ 48 → x ≠ 49 → x ≠ 50 → x ≠ 51 → x ≠ 53 → x ≠ 54 → x ≠ 55 → σ x = s x) ∧ (∀ d q, d < n → q < 12 → q ≠ d → ¬ s 34 (48 + q) = -1 → σ 49 (12 * d + q) = nI (lawL s dep len (s 34) d q)) ∧ σ 51 5 = nI p ∧ σ 51 6 = nI k ∧ σ 51 7 = v ∧ σ 51 4 = s 51 4
theorem DCl.w {s σ σ' : St} {dep : Nat → Nat} {len n p k : Nat} {v : Int32} (h : DCl s σ dep len n p k v) (e : ∀ x, x ≠ 48 → x ≠ 50 → x ≠ 53 → x ≠ 54 → x ≠ 55 → σ' x = σ x) : DCl s σ' dep len n p k v := by
  obtain ⟨h1, h2, h3, h4, h5, h6⟩ := h
  have e49 : σ' 49 = σ 49 := e 49 (by decide) (by decide) (by decide) (by decide) (by decide)
  have e51 : σ' 51 = σ 51 := e 51 (by decide) (by decide) (by decide) (by decide) (by decide)
  refine ⟨fun x a b c d f g i j => by rw [e x b d g i j, h1 x a b c d f g i j], fun d q a b c f => by rw [e49]; exact h2 d q a b c f, by rw [e51]; exact h3, by rw [e51]; exact h4, by rw [e51]; exact h5, by rw [e51]; exact h6⟩
def DMl (u t : St) : Prop := (∀ x, x ≠ 69 → x ≠ 72 → x ≠ 73 → x ≠ 77 → x ≠ 87 → x ≠ 88 → x ≠ 90 → x ≠ 91 → x ≠ 92 → x ≠ 95 → x ≠ 96 → t x = u x) ∧ ∀ j, j ≠ 17 → j ≠ 37 → j ≠ 38 → t 69 j = u 69 j
theorem DMl.w {u t t' : St} (h : DMl u t) (e : ∀ x, x ≠ 69 → x ≠ 72 → x ≠ 73 → x ≠ 77 → x ≠ 87 → x ≠ 88 → x ≠ 90 → x ≠ 91 → x ≠ 92 → x ≠ 95 → x ≠ 96 → t' x = t x) (e2 : ∀ j, j ≠ 17 → j ≠ 37 → j ≠ 38 → t' 69 j = t 69 j) : DMl u t' := ⟨fun x a b c d f g i j k l m => (e x a b c d f g i j k l m).trans (h.1 x a b c d f g i j k l m), fun j a b c => (e2 j a b c).trans (h.2 j a b c)⟩
def DW (s σ t : St) (n : Nat) : Prop := SW n (σ 53) (vr t) ∧ WI n (σ 53) ∧ (∀ x, x < n → σ 53 (60 + x) = s 34 (60 + x)) ∧ ∀ x, x < n → ¬ σ 53 (48 + x) = -1 → σ 53 (48 + x) = s 34 (48 + x)
theorem DW.cong {s σ t σ' t' : St} {n : Nat} (h12 : n ≤ 12) (h : DW s σ t n) (e1 : ∀ j, j < 94 → σ' 53 j = σ 53 j) (e2 : ∀ j, j < 95 → vr t' j = vr t j) : DW s σ' t' n := by
  obtain ⟨h1, h2, h3, h4⟩ := h
  exact ⟨h1.cong h12 e1 e2, h2.cong h12 e1, fun x hx => by rw [e1 _ (by omega)]; exact h3 x hx, fun x hx hne => by rw [e1 _ (by omega)] at hne ⊢; exact h4 x hx hne⟩
def DRes (s u : St) (dep : Nat → Nat) (len n p k : Nat) (v : Int32) (depth most : Nat) (σ0 t0 : St) (X Y : Option (Int32 × St)) : Prop :=
  ∃ (b : Bool) (σ' t' : St), X = some (kflag b, σ') ∧ Y = some (kflag b, t') ∧ DCl s σ' dep len n p k v ∧ DMl u t' ∧ (∀ j, j < 95 → vr t' j = vr t0 j) ∧ (∀ j, j < 94 * depth → σ' 54 j = σ0 54 j) ∧ (∀ j, j < 95 * depth → t' 95 j = t0 95 j) ∧ (∀ j, j < depth → σ' 55 j = σ0 55 j ∧ t' 96 j = t0 96 j) ∧ (b = true → ∀ j, depth ≤ j → j < most → σ' 55 j = t' 96 j)
theorem reach {s u : St} {dep : Nat → Nat} {len n nw nf p k most : Nat} {v : Int32} (r1 : RLand s n nw nf) (hl : LawD s dep len) (hu : LM s u) (hi0 : WI n (s 34)) (hp : p < n) (hk : k < 4) (hmost : most ≤ 3) : ∀ r depth fu (σ0 t0 : St), depth + r = most → r < fu → DCl s σ0 dep len n p k v → DMl u t0 → DW s σ0 t0 n →
    DRes s u dep len n p k v depth most σ0 t0 (fX1_reaches 21 fu (nI depth) (nI most) σ0) (fX12_canBe fu (nI depth) (nI most) (nI p) (nI k) v t0) := by
  obtain ⟨⟨hn, hm, h12⟩, -⟩ := id r1
  have hwl := r1.2.2.2.2.2.2.1
  intro r
  induction r with
  | zero =>
    intro depth fu σ0 t0 hd hf hC hM hW
    obtain ⟨fu, rfl⟩ : ∃ q, fu = q + 1 := ⟨fu - 1, by omega⟩
    obtain rfl : depth = most := by omega
    have hsk : t0 72 (4 * p + k) = σ0 53 (4 * p + k) := by rw [← vr_sky (s := t0) (by omega) hk, hW.1.1 p k hp hk]
    have hcls : fX1_reaches 21 (fu + 1) (nI depth) (nI depth) σ0 = if σ0 53 (4 * p + k) < v then some (0, σ0) else some (1, σ0) := by
      rw [fX1_reaches, gX1_reaches, if_neg (by rw [nI_ltI (by omega) (by omega)]; omega), hC.2.2.1, hC.2.2.2.1, w_part (w := 52) rfl (by omega) hk, bd_some, hC.2.2.2.2.1]
    have hmdl : fX12_canBe (fu + 1) (nI depth) (nI depth) (nI p) (nI k) v t0 = if σ0 53 (4 * p + k) < v then some (0, t0) else some (1, t0) := by
      rw [fX12_canBe, gX12_canBe, if_pos rfl, zlm_4, nI_add, if_pos (inA_lt (by decide) (by omega)), nI_clamp (by omega), hsk]
    rw [hcls, hmdl]
    by_cases e : σ0 53 (4 * p + k) < v
    · rw [if_pos e, if_pos e]
      exact ⟨false, σ0, t0, rfl, rfl, hC, hM, fun _ _ => rfl, fun _ _ => rfl, fun _ _ => rfl, fun _ _ => ⟨rfl, rfl⟩, fun h => by cases h⟩
    · rw [if_neg e, if_neg e]
      exact ⟨true, σ0, t0, rfl, rfl, hC, hM, fun _ _ => rfl, fun _ _ => rfl, fun _ _ => rfl, fun _ _ => ⟨rfl, rfl⟩, fun _ j q1 q2 => absurd q2 (by omega)⟩
  | succ r ih =>
    intro depth fu σ0 t0 hd hf hC hM hW
    obtain ⟨fu, rfl⟩ : ∃ q, fu = q + 1 := ⟨fu - 1, by omega⟩
    have hdl : depth < most := by omega
    have loop : ∀ k' i m (σ t : St), i + k' = n → k' < m → DCl s σ dep len n p k v → DMl u t → (∀ j, j < 94 → σ 53 j = σ0 53 j) → (∀ j, j < 95 → vr t j = vr t0 j) → (∀ j, j < 94 → σ 54 (94 * depth + j) = σ0 53 j) → (∀ j, j < 94 * depth → σ 54 j = σ0 54 j) → (∀ j, j < 95 → t 95 (95 * depth + j) = vr t0 j) → (∀ j, j < 95 * depth → t 95 j = t0 95 j) → (∀ j, j < depth → σ 55 j = σ0 55 j ∧ t 96 j = t0 96 j) →
        DRes s u dep len n p k v depth most σ0 t0 (fX1_reaches_L49 (fX1_reaches 21 fu) 21 (nI depth) (nI most) m (nI i) σ) (fX12_canBe_L42 (fX12_canBe fu) (nI depth) (nI most) (nI p) (nI k) v m (nI i) t) := by
      intro k'
      induction k' with
      | zero =>
        intro i m σ t hi hm' hC' hM' e53 ev es es' et et' er
        obtain ⟨m, rfl⟩ : ∃ q, m = q + 1 := ⟨m - 1, by omega⟩
        obtain rfl : i = n := by omega
        refine ⟨false, σ, t, ?_, ?_, hC', hM', ev, es', et', er, fun h => by cases h⟩
        · rw [fX1_reaches_L49, hC'.1 21 (by decide) (by decide) (by decide) (by decide) (by decide) (by decide) (by decide) (by decide), hn, if_pos (Int32.le_refl _)]; rfl
        · rw [fX12_canBe_L42, if_pos inA_0, i00, hM'.1 71 (by decide) (by decide) (by decide) (by decide) (by decide) (by decide) (by decide) (by decide) (by decide) (by decide) (by decide), hu 71 (Or.inl rfl), hm, if_pos (Int32.le_refl _)]; rfl
      | succ k' ihk =>
        intro i m σ t hi hm' hC' hM' e53 ev es es' et et' er
        obtain ⟨m, rfl⟩ : ∃ q, m = q + 1 := ⟨m - 1, by omega⟩
        have hin : i < n := by omega
        have hW' : DW s σ t n := hW.cong h12 e53 ev
        obtain ⟨A, hA, hAn, hA2, hA3, -⟩ := sw_bits h12 hW'.1
        have hA2' : t 69 17 = nI A := hA2
        have hlm : LM s t := fun x hx => by rw [hM'.1 x (by omega) (by omega) (by omega) (by omega) (by omega) (by omega) (by omega) (by omega) (by omega) (by omega) (by omega)]; exact hu x hx
        have hc : fX1_reaches_L49 (fX1_reaches 21 fu) 21 (nI depth) (nI most) (m + 1) (nI i) σ = if i = p then fX1_reaches_L49 (fX1_reaches 21 fu) 21 (nI depth) (nI most) m (nI (i + 1)) σ else if σ 53 (48 + i) = -1 then fX1_reaches_L49 (fX1_reaches 21 fu) 21 (nI depth) (nI most) m (nI (i + 1)) σ else bd (fX2_settle 21 52 (nI i) σ) (fun y_3 s_3 =>
            bd (fX2_handOver 52 (nI i) s_3) (fun y_4 s_4 =>
            bd (fX11_put 55 (nI depth) (nI i) s_4) (fun y_5 s_5 =>
            bd (fX1_reaches 21 fu (nI (depth + 1)) (nI most) s_5) (fun y_6 s_6 =>
            if y_6 = 0 then
            (bd (fX10_loadFrom 52 54 (nI depth) s_6) (fun y_7 s_7 =>
            fX1_reaches_L49 (fX1_reaches 21 fu) 21 (nI depth) (nI most) m (nI (i + 1)) s_7))
          else
            (some ((1 : Int32), s_6)))))) := by
          rw [fX1_reaches_L49, hC'.1 21 (by decide) (by decide) (by decide) (by decide) (by decide) (by decide) (by decide) (by decide), hn, if_neg (by rw [nI_leI (by omega) (by omega)]; omega), hC'.2.2.1, ite_iff (nI_eq (a := i) (b := p) (by omega) (by omega)), zra_1, zra_1, w_alive (w := 52) rfl (by omega), bd_some]
          show (if i = p then _ else if (if σ 53 (48 + i) = -1 then (0 : Int32) else 1) = 0 then _ else _) = _
          by_cases eip : i = p
          · rw [if_pos eip, if_pos eip]
          · rw [if_neg eip, if_neg eip]
            by_cases hal : σ 53 (48 + i) = -1
            · rw [if_pos hal, if_pos rfl, if_pos hal]
            · rw [if_neg hal, if_neg (by decide), if_neg hal]
        have hmm : fX12_canBe_L42 (fX12_canBe fu) (nI depth) (nI most) (nI p) (nI k) v (m + 1) (nI i) t = if i = p then fX12_canBe_L42 (fX12_canBe fu) (nI depth) (nI most) (nI p) (nI k) v m (nI (i + 1)) t else if σ 53 (48 + i) = -1 then fX12_canBe_L42 (fX12_canBe fu) (nI depth) (nI most) (nI p) (nI k) v m (nI (i + 1)) t else bd (fX12_dieNow (nI i) t) (fun y_3 s_3 =>
            bd (fX12_canBe fu (nI (depth + 1)) (nI most) (nI p) (nI k) v (wr s_3 96 depth (nI i))) (fun y_5 s_5 =>
            bd (fX12_unpack 95 (nI (95 * depth)) s_5) (fun y_6 s_6 =>
            if y_5 = 0 then
            (fX12_canBe_L42 (fX12_canBe fu) (nI depth) (nI most) (nI p) (nI k) v m (nI (i + 1)) s_6)
          else
            (some ((1 : Int32), s_6))))) := by
          rw [fX12_canBe_L42, if_pos inA_0, i00, hM'.1 71 (by decide) (by decide) (by decide) (by decide) (by decide) (by decide) (by decide) (by decide) (by decide) (by decide) (by decide), hu 71 (Or.inl rfl), hm, if_neg (by rw [nI_leI (by omega) (by omega)]; omega), ite_iff (nI_eq (a := i) (b := p) (by omega) (by omega)), zra_1, zra_1, m_alive_c (c := σ 53) h12 hA hA2' hA3 hin, bd_some]
          by_cases eip : i = p
          · rw [if_pos eip, if_pos eip]
          · rw [if_neg eip, if_neg eip]
            by_cases hal : σ 53 (48 + i) = -1
            · rw [if_pos hal, if_pos rfl, if_pos hal]
            · rw [if_neg hal, if_neg (by decide), if_neg hal]
              simp only [if_pos (inA_lt (p := depth) (n := 3) (by decide) (by omega)), nI_clamp (n := depth) (by omega), zlm_95]
        rw [hc, hmm]
        by_cases eip : i = p
        · rw [if_pos eip, if_pos eip]
          exact ihk (i + 1) m σ t (by omega) (by omega) hC' hM' e53 ev es es' et et' er
        rw [if_neg eip, if_neg eip]
        by_cases hal : σ 53 (48 + i) = -1
        · rw [if_pos hal, if_pos hal]
          exact ihk (i + 1) m σ t (by omega) (by omega) hC' hM' e53 ev es es' et et' er
        rw [if_neg hal, if_neg hal]
        obtain ⟨q, hq, hpl⟩ : ∃ q, q < 10 ∧ σ 53 (48 + i) = nI q := by
          rcases hW'.2.1.1 i hin with e | e
          · exact absurd e hal
          · exact e
        obtain ⟨S, s1', s2'⟩ := hW'.2.1.2.2.1
        obtain ⟨L, hLd⟩ : ∃ L, L = lawL s dep len (s 34) i := ⟨_, rfl⟩
        have hL9 : ∀ x, L x ≤ 999 := fun x => by rw [hLd]; exact (lawL_spec _ _ _ _ _ _).2
        have hok := shD_ok (s := s) (c := σ 53) (L := L) h12 hwl hL9 hin hW'.1.2.2.2.2.2.2
        obtain ⟨sh, hsh⟩ : ∃ sh, sh = shD s L (σ 53) i := ⟨_, rfl⟩
        rw [← hsh] at hok
        have alive0 : ∀ x, x < n → ¬ σ 53 (48 + x) = -1 → ¬ s 34 (48 + x) = -1 := fun x hx hne e => hne (by rw [hW'.2.2.2 x hx hne]; exact e)
        obtain ⟨σ2, b1, b2, b3⟩ := c_settle (w := 52) (d := i) (s0 := s) (s := σ) (L := L) rfl (by omega) h12 hwl (hC'.1 25 (by decide) (by decide) (by decide) (by decide) (by decide) (by decide) (by decide) (by decide)) hL9 (fun x hx q1 q2 => by
          have hxn : x < n := by
            rcases Nat.lt_or_ge x n with z | z
            · exact z
            · exact absurd (hW'.1.2.2.2.2.2.2 x z hx) q2
          rw [hLd]
          exact hC'.2.1 i x hin hx q1 (alive0 x hxn q2))
        have b2' : SetP 12 σ2 sh := by rw [hsh]; exact b2
        have e253 : σ2 53 = σ 53 := b3 53 (by decide) (by decide)
        have c1 := c_handOver (w := 52) (d := i) (q := q) (s := σ2) (S := S) rfl b2' hok.1 (by omega) (fun x hx => by show σ2 53 (4 * i + x) = _ ∧ _; rw [e253]; exact sky_of s1' s2' hin x hx) hq (by show σ2 53 (48 + i) = _; rw [e253]; exact hpl)
        obtain ⟨σ3, hσ3⟩ : ∃ σ3, σ3 = rset σ2 53 (dieR sh i q S (σ 53)) := ⟨_, rfl⟩
        have c1' : fX2_handOver 52 (nI i) σ2 = some (0, σ3) := by
          rw [c1, hσ3]
          show some ((0 : Int32), rset σ2 53 (dieR sh i q S (σ2 53))) = _
          rw [e253]
        obtain ⟨σ4, hσ4⟩ : ∃ σ4, σ4 = wr σ3 55 depth (nI i) := ⟨_, rfl⟩
        have e4 : fX11_put 55 (nI depth) (nI i) σ3 = some (0, σ4) := by rw [hσ4]; exact put_nI (by decide) (by show depth < 3; omega)
        have k4 : ∀ x, x ≠ 48 → x ≠ 50 → x ≠ 53 → x ≠ 55 → σ4 x = σ x := fun x a b c d => by rw [hσ4, wr_slot d, hσ3, rset_off c, b3 x a b]
        have k453 : σ4 53 = dieR sh i q S (σ 53) := by rw [hσ4, wr_slot (by decide), hσ3, rset_hit]
        obtain ⟨t2, d1, d2, d3, d4⟩ := m_dieNow (s0 := s) (t := t) (c := σ 53) (L := L) (S := S) (q := q) r1 hlm hin hW'.1 hA hA2' hA3 hL9 (by rw [hLd]; exact law_hL r1 hl hlm hW'.1 hi0 hW'.2.2.1 hW'.2.2.2 hin hal) (sky_of s1' s2' hin) hq hpl (by rw [← hsh]; exact hok.1) (by rw [← hsh]; exact hok.2.1)
        rw [← hsh] at d1 d2
        obtain ⟨t3, ht3⟩ : ∃ t3, t3 = wr t2 96 depth (nI i) := ⟨_, rfl⟩
        have k3 : ∀ x, x ≠ 69 → x ≠ 72 → x ≠ 73 → x ≠ 88 → x ≠ 90 → x ≠ 91 → x ≠ 92 → x ≠ 96 → t3 x = t x := fun x a b c d f g i' j => by rw [ht3, wr_slot j, d3 x a b c d f g i']
        have k369 : ∀ j, j ≠ 17 → j ≠ 37 → j ≠ 38 → t3 69 j = t 69 j := fun j a b c => by rw [ht3, wr_slot (by decide), d4 j a b c]
        have hv3 : vr t3 = vr t2 := by rw [ht3]; exact vr_same (wr_slot (by decide)) (wr_slot (by decide)) (wr_slot (by decide)) (wr_slot (by decide)) (wr_slot (by decide)) (by rw [wr_slot (by decide)])
        have hW4 : DW s σ4 t3 n := by
          refine ⟨by rw [k453, hv3]; exact d2, by rw [k453]; exact wi_die h12 hin hq hpl s1' s2' hok.2.1 hok.2.2 hW'.2.1, fun x hx => ?_, fun x hx hne => ?_⟩
          · rw [k453, dieR_off (by omega) (by omega) (by omega)]; exact hW'.2.2.1 x hx
          · rw [k453] at hne ⊢
            by_cases e : x = i
            · subst e
              exact absurd dieR_pl hne
            · rw [dieR_off (by omega) (by omega) (by omega)] at hne ⊢
              exact hW'.2.2.2 x hx hne
        obtain ⟨b, σ5, t5, f1, f2, f3, f4, f5, f6, f7, f8, f9⟩ := ih (depth + 1) fu σ4 t3 (by omega) (by omega) (hC'.w (fun x a b c d e => k4 x a b c e)) (hM'.w (fun x x1 x2 x3 x4 x5 x6 x7 x8 x9 x10 x11 => k3 x x1 x2 x3 x6 x7 x8 x9 x11) k369) hW4
        obtain ⟨t6, m1, m2, m3, m4, m5⟩ := m_unpack (s := t5) (r := 95) (b := 95 * depth) (by decide) (by decide) (by decide) (by decide) (by decide) (by decide) (by show _ ≤ 380; omega) (by decide)
        have t595 : ∀ j, j < 95 → t5 95 (95 * depth + j) = vr t0 j := fun j hj => by rw [f7 _ (by omega), k3 95 (by decide) (by decide) (by decide) (by decide) (by decide) (by decide) (by decide) (by decide), et j hj]
        have v6 : ∀ j, j < 95 → vr t6 j = vr t0 j := fun j hj => by rw [m3 j hj, t595 j hj]
        have M6 : DMl u t6 := f4.w (fun x x1 x2 x3 x4 x5 x6 _ _ _ _ _ => m4 x x2 x3 x4 x5 x6 x1) (fun j x1 _ _ => m5 j x1)
        have t695 : ∀ j, t6 95 j = t5 95 j := fun j => by rw [m4 95 (by decide) (by decide) (by decide) (by decide) (by decide) (by decide)]
        have t696 : ∀ j, t6 96 j = t5 96 j := fun j => by rw [m4 96 (by decide) (by decide) (by decide) (by decide) (by decide) (by decide)]
        have er6 : ∀ j, j < depth → σ5 55 j = σ0 55 j ∧ t6 96 j = t0 96 j := fun j hj => by
          obtain ⟨g1, g2⟩ := f8 j (by omega)
          obtain ⟨g3, g4⟩ := er j hj
          have hjd : j ≠ depth := by omega
          rw [t696, g1, g2, hσ4, wr_place hjd, hσ3, rset_off (by decide), b3 55 (by decide) (by decide), ht3, wr_place hjd, d3 96 (by decide) (by decide) (by decide) (by decide) (by decide) (by decide) (by decide)]
          exact ⟨g3, g4⟩
        have es5 : ∀ j, j < 94 * depth → σ5 54 j = σ0 54 j := fun j hj => by rw [f6 j (by omega), k4 54 (by decide) (by decide) (by decide) (by decide), es' j hj]
        have et5 : ∀ j, j < 95 * depth → t6 95 j = t0 95 j := fun j hj => by rw [t695, f7 j (by omega), k3 95 (by decide) (by decide) (by decide) (by decide) (by decide) (by decide) (by decide) (by decide), et' j hj]
        rw [b1, bd_some, c1', bd_some, e4, bd_some, d1, bd_some, ← ht3, f1, bd_some, f2, bd_some, m1, bd_some, kf_if, kf_if]
        cases b
        · rw [if_neg (by decide), if_neg (by decide), c_loadFrom (w := 52) (r := 54) rfl (by decide) (by show _ ≤ 282; omega), bd_some]
          refine ihk (i + 1) m _ t6 (by omega) (by omega) (f3.w (fun x _ _ c _ _ => ovl_slot c)) M6 (fun j hj => ?_) v6 (fun j hj => ?_) (fun j hj => ?_) (fun j hj => by rw [t695, t595 j hj]) et5 (fun j hj => ?_)
          · show (ovl σ5 53 0 94 (fun i => σ5 54 (94 * depth + i))) 53 j = _
            rw [ovl_in (by omega) (by omega), Nat.sub_zero, f6 _ (by omega), k4 54 (by decide) (by decide) (by decide) (by decide), es j hj]
          · show (ovl σ5 53 0 94 (fun i => σ5 54 (94 * depth + i))) 54 _ = _
            rw [ovl_slot (by decide), f6 _ (by omega), k4 54 (by decide) (by decide) (by decide) (by decide), es j hj]
          · show (ovl σ5 53 0 94 (fun i => σ5 54 (94 * depth + i))) 54 _ = _
            rw [ovl_slot (by decide), es5 j hj]
          · show (ovl σ5 53 0 94 (fun i => σ5 54 (94 * depth + i))) 55 _ = _ ∧ _
            rw [ovl_slot (by decide)]
            exact er6 j hj
        · rw [if_pos rfl, if_pos rfl]
          refine ⟨true, σ5, t6, rfl, rfl, f3, M6, v6, es5, et5, er6, fun _ j q1 q2 => ?_⟩
          rw [t696]
          by_cases e : j = depth
          · subst e
            obtain ⟨g1, g2⟩ := f8 j (by omega)
            rw [g1, g2, hσ4, wr_hit, ht3, wr_hit]
          · exact f9 rfl j (by omega) q2
    have hcls : fX1_reaches 21 (fu + 1) (nI depth) (nI most) σ0 = fX1_reaches_L49 (fX1_reaches 21 fu) 21 (nI depth) (nI most) FU 0 (ovl σ0 54 (94 * depth) 94 (σ0 53)) := by
      rw [fX1_reaches, gX1_reaches, if_pos (by rw [nI_ltI (by omega) (by omega)]; exact hdl), c_saveTo (w := 52) (r := 54) rfl (by decide) (by show _ ≤ 282; omega), bd_some]
    have hmdl : fX12_canBe (fu + 1) (nI depth) (nI most) (nI p) (nI k) v t0 = fX12_canBe_L42 (fX12_canBe fu) (nI depth) (nI most) (nI p) (nI k) v FU 0 (ovl t0 95 (95 * depth) 95 (vr t0)) := by
      rw [fX12_canBe, gX12_canBe, if_neg (fun e => by have := (nI_eq (by omega) (by omega)).mp e; omega), zlm_95, m_pack (by decide) (by decide) (by decide) (by decide) (by decide) (by decide) (by show _ ≤ 380; omega) (by decide), bd_some]
    rw [hcls, hmdl]
    have hvr : vr (ovl t0 95 (95 * depth) 95 (vr t0)) = vr t0 := vr_same (ovl_slot (by decide)) (ovl_slot (by decide)) (ovl_slot (by decide)) (ovl_slot (by decide)) (ovl_slot (by decide)) (by rw [ovl_slot (by decide)])
    refine loop n 0 FU _ _ (by omega) (by show n < 20000; omega) (hC.w (fun x _ _ _ d _ => ovl_slot d)) (hM.w (fun x _ _ _ _ _ _ _ _ _ x10 _ => ovl_slot x10) (fun j _ _ _ => by rw [ovl_slot (by decide)])) (fun j _ => by rw [ovl_slot (by decide)]) (fun j _ => by rw [hvr]) (fun j hj => ?_) (fun j hj => ?_) (fun j hj => ?_) (fun j hj => ?_) (fun j _ => ?_)
    · rw [ovl_in (by omega) (by omega), Nat.add_sub_cancel_left]
    · rw [ovl_off (by omega)]
    · rw [ovl_in (by omega) (by omega), Nat.add_sub_cancel_left]
    · rw [ovl_off (by omega)]
    · rw [ovl_slot (by decide), ovl_slot (by decide)]
      exact ⟨rfl, rfl⟩
