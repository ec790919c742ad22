/-! ===== seatings ===== -/
theorem least {P : Nat → Prop} : ∀ n, (∃ p, p < n ∧ P p) → ∃ e, e < n ∧ P e ∧ ∀ x, x < e → ¬ P x
  | 0, h => by obtain ⟨p, hp, -⟩ := h; exact absurd hp (by omega)
  | n + 1, h => by
    by_cases h2 : ∃ p, p < n ∧ P p
    · obtain ⟨e, h3, h4⟩ := least n h2
      exact ⟨e, by omega, h4⟩
    · obtain ⟨p, hp, h3⟩ := h
      have : p = n := by
        by_cases e : p = n
        · exact e
        · exact absurd ⟨p, by omega, h3⟩ h2
      subst this
      exact ⟨p, by omega, h3, fun x hx hP => h2 ⟨x, hx, hP⟩⟩
theorem wr_wr {s : St} {k j : Nat} {v w : Int32} : wr (wr s k j v) k j w = wr s k j w := by
  funext x y
  show (if x = k ∧ y = j then w else wr s k j v x y) = if x = k ∧ y = j then w else s x y
  by_cases q : x = k ∧ y = j
  · rw [if_pos q, if_pos q]
  · rw [if_neg q, if_neg q, wr, if_neg q]
def frB (c : Nat → Int32) (F : Int32) (p q : Nat) : Bool := !decide (apartS c p q < F)
/-- what holds while seats are filled -/
def SI (s u : St) (N : Nat) (σ t : St) : Prop := (∀ x, x ≠ 62 → x ≠ 63 → x ≠ 64 → σ x = s x) ∧ (∀ x, x ≠ 69 → x ≠ 100 → x ≠ 101 → t x = u x) ∧ (∀ j, j ≠ 51 → j ≠ 52 → t 69 j = u 69 j) ∧ σ 62 3 = nI N ∧ σ 62 4 = t 69 52 ∧ RRow (σ 62 2) (t 69 51) (σ 64) (t 101) 7
theorem seat_rec {s u : St} {n nw nf N A : Nat} (r1 : RLand s n nw nf) (hw : SW n (s 34) (vr u)) (hm' : u 71 0 = nI n) (hF' : u 71 3 = s 21 10) (hA : A < 4096) (hN : N ≤ 7) : ∀ r next fu (σ t : St) (X L : Nat), next + r = N → r < fu → 1 ≤ next → SI s u N σ t → (∀ j, j < next → ∃ p, p < n ∧ σ 63 j = nI p ∧ t 100 j = nI p) → X < 4096 → L < 4096 → (∀ p, p < n → (L.testBit p = true ↔ ¬ s 34 (48 + p) = -1 ∧ X.testBit p = false)) →
    ∃ σ' t', fX7_fillFrom 21 33 fu (nI next) (nI X) σ = some (0, σ') ∧ fX12_seatOn fu (nI next) (nI N) (nI L) t = some (0, t') ∧ SI s u N σ' t' ∧ ∀ j, j < next → σ' 63 j = σ 63 j ∧ t' 100 j = t 100 j := by
  obtain ⟨⟨hn, hm, h12⟩, -⟩ := id r1
  have frc : ∀ p q (σ : St), p < n → q < n → (∀ x, x ≠ 62 → x ≠ 63 → x ≠ 64 → σ x = s x) → fX7_isFront 21 33 (nI p) (nI q) σ = some (kflag (frB (s 34) (s 21 10) p q), σ) := fun p q σ hp hq hσ => by
    rw [fX7_isFront, w_apart (w := 33) rfl (by omega) (by omega), bd_some]
    show (if apartS (σ 34) p q < σ 21 10 then _ else _) = _
    rw [hσ 34 (by decide) (by decide) (by decide), hσ 21 (by decide) (by decide) (by decide), frB]
    by_cases e : apartS (s 34) p q < s 21 10
    · rw [if_pos e, decide_eq_true e]; rfl
    · rw [if_neg e, decide_eq_false e]; rfl
  have frm : ∀ p q (t : St), p < n → q < n → (∀ x, x ≠ 69 → x ≠ 100 → x ≠ 101 → t x = u x) → (∀ j, j ≠ 51 → j ≠ 52 → t 69 j = u 69 j) → fX12_isFront (nI p) (nI q) t = some (kflag (frB (s 34) (s 21 10) p q), t) := fun p q t hp hq ht ht2 => by
    have hv : vr t = vr u := vr_same (ht _ (by decide) (by decide) (by decide)) (ht _ (by decide) (by decide) (by decide)) (ht _ (by decide) (by decide) (by decide)) (ht _ (by decide) (by decide) (by decide)) (ht _ (by decide) (by decide) (by decide)) (ht2 17 (by decide) (by decide))
    rw [fX12_isFront, m_apart (by omega) (by omega), bd_some, if_pos inA_3, i03, ht 71 (by decide) (by decide) (by decide), hF', hv, apart_rel hw hp hq, frB]
    by_cases e : apartS (s 34) p q < s 21 10
    · rw [if_pos e, decide_eq_true e]; rfl
    · rw [if_neg e, decide_eq_false e]; rfl
  intro r
  induction r with
  | zero =>
    intro next fu σ t X L hd hf h1 hSI hrow hX hL hb
    obtain ⟨fu, rfl⟩ : ∃ q, fu = q + 1 := ⟨fu - 1, by omega⟩
    obtain rfl : next = N := by omega
    obtain ⟨a1, a2, a3, a4, a5, a6⟩ := id hSI
    obtain ⟨p, hp, e1, e2⟩ := hrow (next - 1) (by omega)
    obtain ⟨q, hq, e3, e4⟩ := hrow 0 (by omega)
    have hpred : nI next - 1 = nI (next - 1) := by rw [show next = next - 1 + 1 by omega, nI_pred, Nat.add_sub_cancel]
    have hat0 : fX11_at 63 (0 : Int32) σ = some (nI q, σ) := by rw [← e3]; exact at_nI (r := 63) (j := 0) (by decide) (by decide)
    have hc : fX7_fillFrom 21 33 (fu + 1) (nI next) (nI X) σ = if frB (s 34) (s 21 10) p q then some (0, σ) else bd (fX7_countRow σ) (fun y_8 s_8 => some (0, s_8)) := by
      rw [fX7_fillFrom, gX7_fillFrom, hpred, at_nI (by decide) (by show next - 1 < 7; omega), bd_some, e1, a4, if_neg (by rw [nI_ltI (by omega) (by omega)]; omega), hat0, bd_some, frc p q σ hp hq a1, bd_some, kf_if]
    have hmd : fX12_seatOn (fu + 1) (nI next) (nI next) (nI L) t = if frB (s 34) (s 21 10) p q then some (0, t) else fX12_seatOn_L30 (fun s_6 => fX12_seatOn_J63 (fX12_seatOn fu) (nI next) s_6) (fX12_seatOn fu) (nI next) FU (0 : Int32) t := by
      rw [fX12_seatOn, gX12_seatOn, if_pos rfl, hpred, if_pos (inA_lt (by decide) (by omega)), if_pos (by decide), nI_clamp (by omega), i00, e2, e4, frm p q t hp hq a2 a3, bd_some, kf_if]
    rw [hc, hmd]
    by_cases ef : frB (s 34) (s 21 10) p q = true
    · rw [if_pos ef, if_pos ef]
      exact ⟨σ, t, rfl, rfl, hSI, fun _ _ => ⟨rfl, rfl⟩⟩
    rw [if_neg ef, if_neg ef]
    by_cases e0 : t 69 52 = 0
    · have hcr : fX7_countRow σ = some (0, wr (wr (ovl σ 64 0 7 (σ 63)) 62 2 (nI next)) 62 4 (σ 62 4 + 1)) := by
        rw [fX7_countRow, if_pos (by rw [a5]; exact e0), c_copyRow (by decide) (by decide) (by decide), bd_some]
        dsimp only
        rw [ovl_slot (k := 62) (by decide), wr_place (j := 2) (j' := 4) (by decide), ovl_slot (k := 62) (by decide), a4]
        rfl
      have hL30 : fX12_seatOn_L30 (fun s_6 => fX12_seatOn_J63 (fX12_seatOn fu) (nI next) s_6) (fX12_seatOn fu) (nI next) FU (0 : Int32) t = fX12_seatOn_J63 (fX12_seatOn fu) (nI next) (ovl t 101 0 next (t 100)) := by
        have := copyL (fun m i x => fX12_seatOn_L30 (fun s_6 => fX12_seatOn_J63 (fX12_seatOn fu) (nI next) s_6) (fX12_seatOn fu) (nI next) m (nI i) x) (fun x => fX12_seatOn_J63 (fX12_seatOn fu) (nI next) x) t 101 0 next (t 100) (fun m i hi => by
          simp only [fX12_seatOn_L30]
          rw [if_neg (by rw [nI_leI (by omega) (by omega)]; omega), if_pos (by rw [ovl_slot (by decide)]; exact e0), if_pos (inA_lt (by decide) (by omega)), if_pos (inA_lt (by decide) (by omega)), nI_clamp (by omega), ovl_slot (by decide), zra_1, Nat.zero_add]) (fun m x => by
          simp only [fX12_seatOn_L30]
          rw [if_pos (Int32.le_refl _)]) next 0 FU (by omega) (by show next < 20000; omega)
        rw [ovl_zero] at this
        exact this
      have hJ : fX12_seatOn_J63 (fX12_seatOn fu) (nI next) (ovl t 101 0 next (t 100)) = some (0, wr (wr (ovl t 101 0 next (t 100)) 69 51 (nI next)) 69 52 (t 69 52 + 1)) := by
        rw [fX12_seatOn_J63, if_pos (by rw [ovl_slot (by decide)]; exact e0)]
        dsimp only
        rw [wr_place (j := 51) (j' := 52) (by decide), ovl_slot (k := 69) (by decide)]
      refine ⟨_, _, by rw [hcr, bd_some], by rw [hL30, hJ], ⟨fun x q1 q2 q3 => by rw [wr_slot q1, wr_slot q1, ovl_slot q3, a1 x q1 q2 q3], fun x q1 q2 q3 => by rw [wr_slot q1, wr_slot q1, ovl_slot q3, a2 x q1 q2 q3], fun j q1 q2 => by rw [wr_place q2, wr_place q1, ovl_slot (by decide), a3 j q1 q2], by rw [wr_place (by decide), wr_place (by decide), ovl_slot (by decide), a4], by rw [wr_hit, wr_hit, a5], ⟨next, by omega, by rw [wr_place (by decide), wr_hit], Or.inr (by rw [wr_place (by decide), wr_hit]), fun j hj => ?_⟩⟩, fun j hj => ?_⟩
      · obtain ⟨z, -, z1, z2⟩ := hrow j hj
        rw [wr_slot (by decide), wr_slot (by decide), wr_slot (by decide), wr_slot (by decide), ovl_in (by omega) (by omega), ovl_in (by omega) (by omega), Nat.sub_zero, z1, z2]
      · rw [wr_slot (by decide), wr_slot (by decide), wr_slot (by decide), wr_slot (by decide), ovl_slot (by decide), ovl_slot (by decide)]
        exact ⟨rfl, rfl⟩
    · have hcr : fX7_countRow σ = some (0, wr σ 62 4 (σ 62 4 + 1)) := by
        rw [fX7_countRow, if_neg (by rw [a5]; exact e0)]
      have hL30 : fX12_seatOn_L30 (fun s_6 => fX12_seatOn_J63 (fX12_seatOn fu) (nI next) s_6) (fX12_seatOn fu) (nI next) FU (0 : Int32) t = some (0, wr t 69 52 (t 69 52 + 1)) := by
        show fX12_seatOn_L30 _ _ (nI next) (19999 + 1) (nI 0) t = _
        rw [fX12_seatOn_L30, if_neg (by rw [nI_leI (by omega) (by omega)]; omega), if_neg e0, fX12_seatOn_J63, if_neg e0]
      refine ⟨_, _, by rw [hcr, bd_some], hL30, ⟨fun x q1 q2 q3 => by rw [wr_slot q1, a1 x q1 q2 q3], fun x q1 q2 q3 => by rw [wr_slot q1, a2 x q1 q2 q3], fun j q1 q2 => by rw [wr_place q2, a3 j q1 q2], by rw [wr_place (by decide), a4], by rw [wr_hit, wr_hit, a5], ?_⟩, fun j hj => ?_⟩
      · rw [wr_place (by decide), wr_place (by decide), wr_slot (by decide), wr_slot (by decide)]
        exact a6
      · rw [wr_slot (by decide), wr_slot (by decide)]
        exact ⟨rfl, rfl⟩
  | succ r ih =>
    intro next fu σ0 t0 X L hd hf h1 hSI hrow hX hL hb
    obtain ⟨fu, rfl⟩ : ∃ q, fu = q + 1 := ⟨fu - 1, by omega⟩
    obtain ⟨p, hp, e1, e2⟩ := hrow (next - 1) (by omega)
    have hpred : nI next - 1 = nI (next - 1) := by rw [show next = next - 1 + 1 by omega, nI_pred, Nat.add_sub_cancel]
    have loop : ∀ k i m (σ t : St), i + k = n → k < m → SI s u N σ t → (∀ j, j < next → σ 63 j = σ0 63 j ∧ t 100 j = t0 100 j) → ∃ σ' t', fX7_fillFrom_L46 (fX7_fillFrom 21 33 fu) 21 33 (nI next) (nI X) (nI p) m (nI i) σ = some (0, σ') ∧ fX12_seatOn_L89 (fX12_seatOn fu) (nI next) (nI N) (nI L) m (nI i) t = some (0, t') ∧ SI s u N σ' t' ∧ ∀ j, j < next → σ' 63 j = σ0 63 j ∧ t' 100 j = t0 100 j := by
      intro k
      induction k with
      | zero =>
        intro i m σ t hi hm2 hS hr
        obtain ⟨m, rfl⟩ : ∃ q, m = q + 1 := ⟨m - 1, by omega⟩
        obtain rfl : i = n := by omega
        refine ⟨σ, t, ?_, ?_, hS, hr⟩
        · rw [fX7_fillFrom_L46, hS.1 21 (by decide) (by decide) (by decide), hn, if_pos (Int32.le_refl _)]
        · rw [fX12_seatOn_L89, if_pos inA_0, i00, hS.2.1 71 (by decide) (by decide) (by decide), hm', if_pos (Int32.le_refl _)]
      | succ k ihk =>
        intro i m σ t hi hm2 hS hr
        obtain ⟨m, rfl⟩ : ∃ q, m = q + 1 := ⟨m - 1, by omega⟩
        have hin : i < n := by omega
        obtain ⟨a1, a2, a3, a4, a5, a6⟩ := id hS
        have hc : fX7_fillFrom_L46 (fX7_fillFrom 21 33 fu) 21 33 (nI next) (nI X) (nI p) (m + 1) (nI i) σ = if L.testBit i then (if frB (s 34) (s 21 10) p i then fX7_fillFrom_L46 (fX7_fillFrom 21 33 fu) 21 33 (nI next) (nI X) (nI p) m (nI (i + 1)) σ else bd (fX7_fillFrom 21 33 fu (nI (next + 1)) (nI (X ||| 2 ^ i)) (wr σ 63 next (nI i))) (fun y_5 s_5 => fX7_fillFrom_L46 (fX7_fillFrom 21 33 fu) 21 33 (nI next) (nI X) (nI p) m (nI (i + 1)) s_5)) else fX7_fillFrom_L46 (fX7_fillFrom 21 33 fu) 21 33 (nI next) (nI X) (nI p) m (nI (i + 1)) σ := by
          have h78 : fX7_fillFrom_J78 (fX7_fillFrom_L46 (fX7_fillFrom 21 33 fu) 21 33 (nI next) (nI X) (nI p) m) (fX7_fillFrom 21 33 fu) 21 33 (nI next) (nI X) (nI p) (nI i) σ = fX7_fillFrom_L46 (fX7_fillFrom 21 33 fu) 21 33 (nI next) (nI X) (nI p) m (nI (i + 1)) σ := by
            rw [fX7_fillFrom_J78, fX7_fillFrom_J79, if_pos rfl, zra_1]
          rw [fX7_fillFrom_L46, a1 21 (by decide) (by decide) (by decide), hn, if_neg (by rw [nI_leI (by omega) (by omega)]; omega), w_alive (w := 33) rfl (by omega), bd_some, h78, b_test X hX i (by omega)]
          show (if (if σ 34 (48 + i) = -1 then (0 : Int32) else 1) = 0 then _ else _) = _
          rw [a1 34 (by decide) (by decide) (by decide)]
          by_cases ea : s 34 (48 + i) = -1
          · rw [if_pos ea, if_pos rfl, if_neg (fun e => ((hb i hin).mp e).1 ea)]
          · rw [if_neg ea, if_neg (by decide)]
            by_cases ex : X.testBit i = true
            · rw [if_pos ex, if_neg (by decide), if_neg (fun e => by have := ((hb i hin).mp e).2; rw [ex] at this; cases this)]
            · have ex' : X.testBit i = false := Bool.eq_false_iff.mpr ex
              rw [if_neg ex, if_pos rfl, if_pos ((hb i hin).mpr ⟨ea, ex'⟩), fX7_fillFrom_J79, if_neg (by decide), frc p i σ hp hin a1, bd_some, kf_if, put_nI (by decide) (by show next < 7; omega), bd_some, zra_1, zra_1, b_shl i (by omega), b_or X _ hX (pow12 i (by omega))]
        have hmd : fX12_seatOn_L89 (fX12_seatOn fu) (nI next) (nI N) (nI L) (m + 1) (nI i) t = if L.testBit i then (if frB (s 34) (s 21 10) p i then fX12_seatOn_L89 (fX12_seatOn fu) (nI next) (nI N) (nI L) m (nI (i + 1)) t else bd (fX12_seatOn fu (nI (next + 1)) (nI N) (nI (L &&& (4294967295 - 2 ^ i))) (wr t 100 next (nI i))) (fun y_3 s_3 => fX12_seatOn_L89 (fX12_seatOn fu) (nI next) (nI N) (nI L) m (nI (i + 1)) s_3)) else fX12_seatOn_L89 (fX12_seatOn fu) (nI next) (nI N) (nI L) m (nI (i + 1)) t := by
          rw [fX12_seatOn_L89, if_pos inA_0, i00, a2 71 (by decide) (by decide) (by decide), hm', if_neg (by rw [nI_leI (by omega) (by omega)]; omega), b_test L hL i (by omega), zra_1, hpred, if_pos (inA_lt (by decide) (by omega)), nI_clamp (n := next - 1) (by omega), (hr (next - 1) (by omega)).2, e2, frm p i t hp hin a2 a3, bd_some, kf_if, if_pos (inA_lt (by decide) (by omega)), nI_clamp (n := next) (by omega), zra_1, b_off i (by omega), b_and]
          by_cases el : L.testBit i = true
          · rw [if_pos el, if_neg (by decide), if_pos el]
          · rw [if_neg el, if_pos rfl, if_neg el]
        rw [hc, hmd]
        by_cases el : L.testBit i = true
        · rw [if_pos el, if_pos el]
          by_cases ef : frB (s 34) (s 21 10) p i = true
          · rw [if_pos ef, if_pos ef]
            exact ihk (i + 1) m σ t (by omega) (by omega) hS hr
          · rw [if_neg ef, if_neg ef]
            obtain ⟨σ2, t2, b1, b2, b3, b4⟩ := ih (next + 1) fu (wr σ 63 next (nI i)) (wr t 100 next (nI i)) (X ||| 2 ^ i) (L &&& (4294967295 - 2 ^ i)) (by omega) (by omega) (by omega) ⟨fun x q1 q2 q3 => by rw [wr_slot q2, a1 x q1 q2 q3], fun x q1 q2 q3 => by rw [wr_slot q2, a2 x q1 q2 q3], fun j q1 q2 => by rw [wr_slot (by decide), a3 j q1 q2], by rw [wr_slot (by decide), a4], by rw [wr_slot (by decide), wr_slot (by decide), a5], by rw [wr_slot (by decide), wr_slot (by decide), wr_slot (by decide), wr_slot (by decide)]; exact a6⟩ (fun j hj => by
              by_cases e : j = next
              · subst e
                exact ⟨i, hin, wr_hit, wr_hit⟩
              · obtain ⟨z, z1, z2, z3⟩ := hrow j (by omega)
                rw [wr_place e, wr_place e, (hr j (by omega)).1, (hr j (by omega)).2]
                exact ⟨z, z1, z2, z3⟩) (Nat.or_lt_two_pow (n := 12) hX (pow12 i (by omega))) (Nat.lt_of_le_of_lt Nat.and_le_left hL) (fun z hz => by
              rw [Nat.testBit_and, b_offT i (by omega) z (by omega), Bool.and_eq_true, hb z hz, Nat.testBit_or, Nat.testBit_two_pow]
              by_cases e : z = i
              · subst e
                rw [decide_eq_true rfl]
                simp
              · rw [decide_eq_false e, decide_eq_false (fun h => e h.symm)]
                simp)
            rw [b1, bd_some, b2, bd_some]
            refine ihk (i + 1) m σ2 t2 (by omega) (by omega) b3 (fun j hj => ?_)
            obtain ⟨z1, z2⟩ := b4 j (by omega)
            rw [z1, z2, wr_place (by omega), wr_place (by omega)]
            exact hr j hj
        · rw [if_neg el, if_neg el]
          exact ihk (i + 1) m σ t (by omega) (by omega) hS hr
    obtain ⟨σ', t', b1, b2, b3, b4⟩ := loop n 0 FU σ0 t0 (by omega) (by show n < 20000; omega) hSI (fun _ _ => ⟨rfl, rfl⟩)
    refine ⟨σ', t', ?_, ?_, b3, b4⟩
    · rw [fX7_fillFrom, gX7_fillFrom, hpred, at_nI (by decide) (by show next - 1 < 7; omega), bd_some, e1, hSI.2.2.2.1, if_pos (by rw [nI_ltI (by omega) (by omega)]; omega)]
      exact b1
    · rw [fX12_seatOn, gX12_seatOn, if_neg (fun e => by have := (nI_eq (by omega) (by omega)).mp e; omega)]
      exact b2
theorem good_seatings : Good0 fX11_seatings fX12_seatings := by
  intro s hs
  obtain ⟨n, nw, nf, r1, ⟨hw, hwi, -⟩, r3, r4, r5, r6, r7⟩ := id hs
  obtain ⟨⟨hn, hm, h12⟩, -, -, hF, -⟩ := id r1
  obtain ⟨A, hA, hAn, hA2, hA3, hA4⟩ := sw_bits h12 hw
  have hpop : pop A ≤ 12 := by
    have := sumN_const (f := fun p => if A.testBit p then 1 else 0) (b := 1) 12 (fun p _ => by split <;> omega)
    exact this
  have hma : fX10_manyAlive 33 s = some (nI (pop A), s) := by rw [w_manyAlive (w := 33) rfl]; show some (aliveS (s 34) 12, s) = _; rw [hA4]
  have hmm : ∀ u s3, Pre s u s3 → fX12_seatings s3 = if 3 ≤ pop A ∧ pop A ≤ 7 then fX12_seatings_L42 (fun s_8 => if inA (0 : Int32) 7 then
    (bd (fX12_seatOn 9 (1 : Int32) (nI (pop A)) ((s_8 69 17) &&& ((jshl (1 : Int32) (s_8 100 (0 : Int32).toNatClampNeg)) ^^^ (-1 : Int32))) s_8) (fun y_9 s_9 =>
    some ((s_9 69 52), s_9))) else none) (nI (pop A)) FU (wr (wr u 69 52 0) 100 0 0) else some (-2, u) := fun u s3 h => by
    have u17 : u 69 17 = nI A := by rw [h.2.2.1 17 (by decide)]; exact hA2
    have z3 : (3 : Int32).toInt = 3 := rfl
    have z7 : (7 : Int32).toInt = 7 := rfl
    rw [fX12_seatings, h.1, u17, m_bitsOf hA, bd_some, l64_3, l64_7, m_isIn, bd_some, nI_toInt (by omega), z3, z7]
    by_cases e : 3 ≤ pop A ∧ pop A ≤ 7
    · rw [if_pos (show (3 : Int) ≤ (pop A : Int) ∧ (pop A : Int) ≤ 7 by omega), if_neg (by decide), if_pos e, if_pos (by decide)]
      rfl
    · rw [if_neg (show ¬ ((3 : Int) ≤ (pop A : Int) ∧ (pop A : Int) ≤ 7) by omega), if_pos rfl, if_neg e]
  by_cases hin : 3 ≤ pop A ∧ pop A ≤ 7
  · obtain ⟨e, he, hel, hem⟩ : ∃ e, e < n ∧ A.testBit e = true ∧ ∀ x, x < e → ¬ A.testBit x = true := by
      refine least n ?_
      refine Classical.byContradiction (fun hno => ?_)
      have : pop A = 0 := (sumN_eq0 12).mpr (fun p _ => by
        by_cases q : A.testBit p = true
        · exfalso
          refine hno ⟨p, ?_, q⟩
          rcases Nat.lt_or_ge p n with z | z
          · exact z
          · rw [Nat.testBit_lt_two_pow (Nat.lt_of_lt_of_le hAn (Nat.pow_le_pow_right (by decide) z))] at q
            cases q
        · rw [if_neg q])
      omega
    have alv : ∀ x, x < n → (s 34 (48 + x) = -1 ↔ ¬ A.testBit x = true) := fun x hx => by rw [hA3 x hx]; simp
    obtain ⟨σ0, hσ0⟩ : ∃ σ0, σ0 = wr (wr s 62 3 (nI (pop A))) 62 4 0 := ⟨_, rfl⟩
    obtain ⟨σ1, hσ1⟩ : ∃ σ1, σ1 = wr σ0 63 0 (nI e) := ⟨_, rfl⟩
    have σ0k : ∀ x, x ≠ 62 → σ0 x = s x := fun x hx => by rw [hσ0, wr_slot hx, wr_slot hx]
    have celd : ∀ k i m, i + k = e → k < m → fX7_search_L15 (fun v3_5 s_5 => fX7_search_J35 21 33 v3_5 s_5) 21 33 m (nI i) σ0 = fX7_search_J35 21 33 (nI e) σ0 := by
      intro k
      induction k with
      | zero =>
        intro i m hi hm2
        obtain ⟨m, rfl⟩ : ∃ q, m = q + 1 := ⟨m - 1, by omega⟩
        obtain rfl : i = e := by omega
        rw [fX7_search_L15]
        by_cases e11 : 11 ≤ i
        · rw [if_pos (by have : ((11 : Int32) ≤ nI i) ↔ 11 ≤ i := nI_leI (a := 11) (by decide) (by omega)
                         rw [this]; exact e11)]
        · rw [if_neg (by have : ((11 : Int32) ≤ nI i) ↔ 11 ≤ i := nI_leI (a := 11) (by decide) (by omega)
                         rw [this]; exact e11), w_alive (w := 33) rfl (by omega), bd_some]
          show (if (if σ0 34 (48 + i) = -1 then (0 : Int32) else 1) = 0 then _ else _) = _
          rw [σ0k 34 (by decide), if_neg (fun h => (alv i he).mp h hel), if_neg (by decide)]
      | succ k ih =>
        intro i m hi hm2
        obtain ⟨m, rfl⟩ : ∃ q, m = q + 1 := ⟨m - 1, by omega⟩
        rw [fX7_search_L15, if_neg (by have : ((11 : Int32) ≤ nI i) ↔ 11 ≤ i := nI_leI (a := 11) (by decide) (by omega)
                                       rw [this]; omega), w_alive (w := 33) rfl (by omega), bd_some]
        show (if (if σ0 34 (48 + i) = -1 then (0 : Int32) else 1) = 0 then _ else _) = _
        rw [σ0k 34 (by decide), if_pos ((alv i (by omega)).mpr (hem i (by omega))), if_pos rfl, zra_1]
        exact ih (i + 1) m (by omega) (by omega)
    have fc : fX11_seatings s = bd (fX7_fillFrom 21 33 9 (nI 1) (nI (2 ^ e)) σ1) (fun y_7 s_7 => some ((s_7 62 4), s_7)) := by
      have h63 : fX11_put 63 (0 : Int32) (nI e) σ0 = some (0, σ1) := by rw [hσ1]; exact put_nI (r := 63) (j := 0) (by decide) (by decide)
      have hsr : fX7_search 21 33 s = bd (fX7_fillFrom 21 33 9 (nI 1) (nI (2 ^ e)) σ1) (fun y_7 s_7 => some ((s_7 62 4), s_7)) := by
        rw [fX7_search, hma, bd_some]
        dsimp only
        rw [← hσ0]
        refine Eq.trans (celd e 0 FU (by omega) (by show e < 20000; omega)) ?_
        rw [fX7_search_J35, h63, bd_some, b_shl e (by omega)]
        rfl
      rw [fX11_seatings, hma, bd_some, if_neg (by rw [zrt_3 _ (by omega)]; omega), if_pos (by rw [zrl_7 _ (by omega)]; exact hin.2), hsr]
      cases fX7_fillFrom 21 33 9 (nI 1) (nI (2 ^ e)) σ1 <;> rfl
    have main : ∀ u s3, Pre s u s3 → ∃ y σF t', fX11_seatings s = some (y, σF) ∧ (∀ x, x ≠ 62 → x ≠ 63 → x ≠ 64 → σF x = s x) ∧ fX12_seatings s3 = some (y, t') ∧ SI s u (pop A) σF t' := fun u s3 h => by
      have u17 : u 69 17 = nI A := by rw [h.2.2.1 17 (by decide)]; exact hA2
      have hA3' : ∀ x (t : St), t 69 17 = nI A → x < n → fX12_isAlive (nI x) t = some ((if A.testBit x then 1 else 0), t) := fun x t ht hx => m_alive ht hA (by omega)
      obtain ⟨t1, ht1⟩ : ∃ t1, t1 = wr (wr u 69 52 0) 100 0 (nI e) := ⟨_, rfl⟩
      have t117 : t1 69 17 = nI A := by rw [ht1, wr_slot (by decide), wr_place (by decide), u17]
      have meld : ∀ kk k i m, i + k = e → k < m → fX12_seatings_L42 kk (nI (pop A)) m (wr (wr u 69 52 0) 100 0 (nI i)) = kk t1 := by
        intro kk k
        induction k with
        | zero =>
          intro i m hi hm2
          obtain ⟨m, rfl⟩ : ∃ q, m = q + 1 := ⟨m - 1, by omega⟩
          obtain rfl : i = e := by omega
          rw [← ht1, fX12_seatings_L42, if_pos (by decide), i00]
          have : t1 100 0 = nI i := by rw [ht1, wr_hit]
          rw [this, hA3' i t1 t117 he, bd_some, if_pos hel, if_neg (by decide)]
        | succ k ih =>
          intro i m hi hm2
          obtain ⟨m, rfl⟩ : ∃ q, m = q + 1 := ⟨m - 1, by omega⟩
          rw [fX12_seatings_L42, if_pos (by decide), i00, wr_hit, hA3' i _ (by rw [wr_slot (by decide), wr_place (by decide), u17]) (by omega), bd_some, if_neg (hem i (by omega)), if_pos rfl, if_pos (by decide)]
          dsimp only
          rw [wr_hit, zra_1]
          rw [wr_wr]
          exact ih (i + 1) m (by omega) (by omega)
      have q1 : RRow (σ1 62 2) (t1 69 51) (σ1 64) (t1 101) 7 := by
        rw [hσ1, wr_slot (by decide), wr_slot (by decide), hσ0, wr_place (by decide), wr_place (by decide), wr_slot (by decide), wr_slot (by decide), ht1, wr_slot (by decide), wr_place (by decide), wr_slot (by decide), wr_slot (by decide), h.2.2.1 51 (by decide), h.2.1 101 (by decide) (by decide)]
        exact r7
      have q2 : ∀ j, j < 1 → ∃ p, p < n ∧ σ1 63 j = nI p ∧ t1 100 j = nI p := fun j hj => by
        obtain rfl : j = 0 := by omega
        exact ⟨e, he, by rw [hσ1, wr_hit], by rw [ht1, wr_hit]⟩
      have q3 : ∀ x, x < n → ((A &&& (4294967295 - 2 ^ e)).testBit x = true ↔ ¬ s 34 (48 + x) = -1 ∧ (2 ^ e).testBit x = false) := fun x hx => by
        rw [Nat.testBit_and, b_offT e (by omega) x (by omega), Bool.and_eq_true, Nat.testBit_two_pow, hA3 x hx]
        by_cases q : x = e
        · subst q
          rw [decide_eq_true rfl]
          simp
        · rw [decide_eq_false q, decide_eq_false (fun h => q h.symm)]
          simp
      obtain ⟨σF, t', b1, b2, b3, -⟩ := seat_rec (s := s) (u := u) (N := pop A) r1 (by rw [h.2.2.2]; exact hw) (by rw [h.2.1 71 (by decide) (by decide)]; exact hm) (by rw [h.2.1 71 (by decide) (by decide)]; exact hF) hA hin.2 (pop A - 1) 1 9 σ1 t1 (2 ^ e) (A &&& (4294967295 - 2 ^ e)) (by omega) (by omega) (by omega) ⟨fun x q1 q2 q3 => by rw [hσ1, wr_slot q2, σ0k x q1], fun x q1 q2 q3 => by rw [ht1, wr_slot q2, wr_slot q1], fun j q1 q2 => by rw [ht1, wr_slot (by decide), wr_place q2], by rw [hσ1, wr_slot (by decide), hσ0, wr_place (by decide), wr_hit], by rw [hσ1, wr_slot (by decide), hσ0, wr_hit, ht1, wr_slot (by decide), wr_hit], q1⟩ q2 (pow12 e (by omega)) (Nat.lt_of_le_of_lt Nat.and_le_left hA) q3
      have f2 : fX12_seatings s3 = some (t' 69 52, t') := by
        rw [hmm u s3 h, if_pos hin]
        refine Eq.trans (meld _ e 0 FU (by omega) (by show e < 20000; omega)) ?_
        rw [if_pos (by decide), i00]
        have : t1 100 0 = nI e := by rw [ht1, wr_hit]
        rw [this, t117, b_off e (by omega), b_and]
        show bd (fX12_seatOn 9 (nI 1) (nI (pop A)) (nI (A &&& (4294967295 - 2 ^ e))) t1) _ = _
        rw [b2, bd_some]
      refine ⟨t' 69 52, σF, t', ?_, b3.1, f2, b3⟩
      rw [fc, b1, bd_some, b3.2.2.2.2.1]
    obtain ⟨y, σF, -, f1, f2, -⟩ := main (wr s 69 1 0) s (pre_st (fun _ _ _ => rfl))
    have hpre : Pre s (wr σF 69 1 0) σF := pre_st (fun z h1 _ => f2 z (by omega) (by omega) (by omega))
    obtain ⟨y2, σ2, t', g1, -, g3, g4, g5, g6, g7, g8, g9⟩ := main (wr σF 69 1 0) σF hpre
    rw [f1] at g1
    cases g1
    refine ⟨y, σF, t', f1, g3, ?_⟩
    have low : ∀ z, z ≠ 69 → z ≠ 100 → z ≠ 101 → t' z = σF z := fun z h1 h2 h3 => by rw [g5 z h1 h2 h3, wr_slot h1]
    have t69 : ∀ j, j ≠ 51 → j ≠ 52 → j ≠ 1 → t' 69 j = s 69 j := fun j h1 h2 h3 => by rw [g6 j h1 h2, wr_place h3, f2 69 (by decide) (by decide) (by decide)]
    have ts : ∀ z, z ≠ 69 → z ≠ 100 → z ≠ 101 → z ≠ 62 → z ≠ 63 → z ≠ 64 → t' z = s z := fun z h1 h2 h3 h4 h5 h6 => by rw [low z h1 h2 h3, f2 z h4 h5 h6]
    refine rs_rows hs ⟨fun z e => ?_, fun j e => ?_, fun z e => ?_⟩ (fun j hj => ?_) ?_ (fun n' _ _ hq => ?_) ?_
    · have hz : z ≠ 69 ∧ z ≠ 100 ∧ z ≠ 101 ∧ z ≠ 62 ∧ z ≠ 63 ∧ z ≠ 64 := by revert z; decide
      exact ts z hz.1 hz.2.1 hz.2.2.1 hz.2.2.2.1 hz.2.2.2.2.1 hz.2.2.2.2.2
    · have hj : j ≠ 51 ∧ j ≠ 52 ∧ j ≠ 1 := by revert j; decide
      exact t69 j hj.1 hj.2.1 hj.2.2
    · have hz : z.1 ≠ 69 ∧ z.1 ≠ 100 ∧ z.1 ≠ 101 ∧ z.1 ≠ 62 ∧ z.1 ≠ 63 ∧ z.1 ≠ 64 := by revert z; decide
      rw [ts z.1 hz.1 hz.2.1 hz.2.2.1 hz.2.2.2.1 hz.2.2.2.2.1 hz.2.2.2.2.2]
    · have : vr t' = vr s := vr_same (ts _ (by decide) (by decide) (by decide) (by decide) (by decide) (by decide)) (ts _ (by decide) (by decide) (by decide) (by decide) (by decide) (by decide)) (ts _ (by decide) (by decide) (by decide) (by decide) (by decide) (by decide)) (ts _ (by decide) (by decide) (by decide) (by decide) (by decide) (by decide)) (ts _ (by decide) (by decide) (by decide) (by decide) (by decide) (by decide)) (t69 17 (by decide) (by decide) (by decide))
      rw [this]
    · rw [ts 51 (by decide) (by decide) (by decide) (by decide) (by decide) (by decide), t69 44 (by decide) (by decide) (by decide), ts 56 (by decide) (by decide) (by decide) (by decide) (by decide) (by decide), ts 97 (by decide) (by decide) (by decide) (by decide) (by decide) (by decide)]
      exact r5
    · unfold RPost at hq ⊢
      rw [ts 57 (by decide) (by decide) (by decide) (by decide) (by decide) (by decide), t69 48 (by decide) (by decide) (by decide), t69 47 (by decide) (by decide) (by decide), ts 98 (by decide) (by decide) (by decide) (by decide) (by decide) (by decide), ts 59 (by decide) (by decide) (by decide) (by decide) (by decide) (by decide)]
      exact hq
    · rw [low 62 (by decide) (by decide) (by decide), low 64 (by decide) (by decide) (by decide)]
      exact g9
  · refine ⟨-2, s, wr s 69 1 0, ?_, ?_, hs.keep keep_code⟩
    · rw [fX11_seatings, hma, bd_some]
      by_cases h3 : pop A < 3
      · rw [if_pos (by rw [zrt_3 _ (by omega)]; exact h3)]
      · rw [if_neg (by rw [zrt_3 _ (by omega)]; exact h3), if_neg (by rw [zrl_7 _ (by omega)]; omega)]
    · rw [hmm (wr s 69 1 0) s (pre_st (fun _ _ _ => rfl)), if_neg hin]
