/-! ===== suitors ===== -/
def gnF (gr : Nat → Int32) (rp : Nat → Bool) (f g : Nat) : Int32 := (if f = g then gr f / 2 else gr f) + (if rp f then 0 else 5)
def grS (c pl : Nat → Int32) (n p q f : Nat) : Int32 := fallsS c n (pl f).toNatClampNeg 0 - (if c (48 + p) = pl f then c (4 * p + 0) else 0) - (if c (48 + q) = pl f then c (4 * q + 0) else 0)
def allFrom (f : Nat → Bool) : Nat → Nat → Bool
  | _, 0 => true
  | i, k + 1 => f i && allFrom f (i + 1) k
theorem allFrom_and (f g : Nat → Bool) : ∀ k i, allFrom (fun x => f x && g x) i k = (allFrom f i k && allFrom g i k)
  | 0, _ => rfl
  | k + 1, i => by
    rw [allFrom, allFrom, allFrom, allFrom_and f g k (i + 1)]
    cases f i <;> cases g i <;> cases allFrom f (i + 1) k <;> rfl
theorem sub_zero32 (x : Int32) : x - 0 = x := by rw [Int32.sub_eq_add_neg]; exact Int32.add_zero x
section SUITORS
variable {gr : Nat → Int32} {rp : Nat → Bool} {nf : Nat}
theorem c_gainAt {σ : St} {f g : Nat} (h6 : nf ≤ 6) (hgr : ∀ f, f < nf → σ 68 f = gr f) (hrp : ∀ f, f < nf → fX10_ripe 33 21 (nI f) σ = some (kflag (rp f), σ)) (hf : f < nf) (hg : g < nf) : fX11_gainAt (nI f) (nI g) σ = some (gnF gr rp f g, σ) := by
  have hJ : ∀ v, fX11_gainAt_J18 (nI f) v σ = some (v + (if rp f then 0 else 5), σ) := fun v => by
    rw [fX11_gainAt_J18, hrp f hf, bd_some, kf_if]
    cases rp f
    · rw [if_neg (by decide), if_neg (by decide)]
    · rw [if_pos rfl, if_pos rfl, Int32.add_zero]
  rw [fX11_gainAt, at_nI (by decide) (by show f < 6; omega), bd_some, hgr f hf, ite_iff (nI_eq (a := f) (b := g) (by omega) (by omega)), hJ, hJ, gnF]
  by_cases e : f = g
  · rw [if_pos e, if_pos e]
  · rw [if_neg e, if_neg e]
theorem c_contentAt {σ : St} {f g : Nat} (h6 : nf ≤ 6) (hnf : σ 21 6 = nI nf) (hgr : ∀ f, f < nf → σ 68 f = gr f) (hrp : ∀ f, f < nf → fX10_ripe 33 21 (nI f) σ = some (kflag (rp f), σ)) (hf : f < nf) (hg : g < nf) : fX11_contentAt (nI f) (nI g) σ = some (kflag (allFrom (fun k => decide (gnF gr rp k g ≤ gnF gr rp f g)) 0 nf), σ) := by
  have key : ∀ k i m, i + k = nf → k < m → fX11_contentAt_L10 (nI g) (gnF gr rp f g) m (nI i) σ = some (kflag (allFrom (fun k => decide (gnF gr rp k g ≤ gnF gr rp f g)) i k), σ) := by
    intro k
    induction k with
    | zero =>
      intro i m hi hm
      obtain ⟨m, rfl⟩ : ∃ q, m = q + 1 := ⟨m - 1, by omega⟩
      obtain rfl : i = nf := by omega
      rw [fX11_contentAt_L10, hnf, if_pos (Int32.le_refl _)]
      rfl
    | succ k ih =>
      intro i m hi hm
      obtain ⟨m, rfl⟩ : ∃ q, m = q + 1 := ⟨m - 1, by omega⟩
      rw [fX11_contentAt_L10, hnf, if_neg (by rw [nI_leI (by omega) (by omega)]; omega), c_gainAt h6 hgr hrp (by omega) hg, bd_some, zra_1, allFrom]
      by_cases e : gnF gr rp i g ≤ gnF gr rp f g
      · rw [if_pos e, ih (i + 1) m (by omega) (by omega), decide_eq_true e, Bool.true_and]
      · rw [if_neg e, decide_eq_false e, Bool.false_and, kf_f]
  rw [fX11_contentAt, c_gainAt h6 hgr hrp hf hg, bd_some]
  exact key nf 0 FU (by omega) (by show nf < 20000; omega)
def restB (gr : Nat → Int32) (rp : Nat → Bool) (nf f g : Nat) : Bool := allFrom (fun k => decide (gnF gr rp k g ≤ gnF gr rp f g)) 0 nf && allFrom (fun k => decide (gnF gr rp k f ≤ gnF gr rp g f)) 0 nf
def coupS (gr : Nat → Int32) (rp : Nat → Bool) (nf f g : Nat) (a : Int32 × Int32) : Int32 × Int32 := if restB gr rp nf f g then (a.1 + 1, if a.2 = -1 then nI (10 * f + g) else a.2) else a
theorem c_suit {σ : St} {a3 : Int32} (kk : Int32 → Int32 → St → Option (RT × St)) (h6 : nf ≤ 6) (hnf : σ 21 6 = nI nf) (hgr : ∀ f, f < nf → σ 68 f = gr f) (hrp : ∀ f, f < nf → fX10_ripe 33 21 (nI f) σ = some (kflag (rp f), σ)) : fX11_suitors_L48 kk a3 FU 0 (-1) 0 σ = kk (accN (fun f a => accN (fun g a => coupS gr rp nf f g a) nf 0 a) nf 0 (0, -1)).1 (accN (fun f a => accN (fun g a => coupS gr rp nf f g a) nf 0 a) nf 0 (0, -1)).2 σ := by
  have inner : ∀ kk2 f, f < nf → ∀ a : Int32 × Int32, fX11_suitors_L63 kk2 a3 (nI f) FU a.1 a.2 0 σ = kk2 (accN (fun g a => coupS gr rp nf f g a) nf 0 a).1 (accN (fun g a => coupS gr rp nf f g a) nf 0 a).2 σ := fun kk2 f hf a => by
    refine loopN (fun m (a : Int32 × Int32) i => fX11_suitors_L63 kk2 a3 (nI f) m a.1 a.2 (nI i) σ) nf (fun g a => coupS gr rp nf f g a) (fun a => kk2 a.1 a.2 σ) (fun m a i hi => ?_) (fun m a => ?_) nf FU a 0 (by omega) (by show nf < 20000; omega)
    · simp only [fX11_suitors_L63]
      rw [hnf, if_neg (by rw [nI_leI (by omega) (by omega)]; omega), c_contentAt h6 hnf hgr hrp hf hi, bd_some, c_contentAt h6 hnf hgr hrp hi hf, bd_some, kf_if, kf_if, zra_1, zrm_10, nI_add, Nat.mul_comm f 10, coupS, restB]
      cases allFrom (fun k => decide (gnF gr rp k i ≤ gnF gr rp f i)) 0 nf
      · rw [if_neg (by decide), Bool.false_and, if_neg (by decide)]
      · rw [if_pos rfl, Bool.true_and]
        cases allFrom (fun k => decide (gnF gr rp k f ≤ gnF gr rp i f)) 0 nf
        · rw [if_neg (by decide), if_neg (by decide)]
        · rw [if_pos rfl, if_pos rfl]
          by_cases e : a.2 = -1
          · rw [if_pos e, if_pos e]
          · rw [if_neg e, if_neg e]
    · simp only [fX11_suitors_L63]
      rw [hnf, if_pos (Int32.le_refl _)]
  refine loopN (fun m (a : Int32 × Int32) i => fX11_suitors_L48 kk a3 m a.1 a.2 (nI i) σ) nf (fun f a => accN (fun g a => coupS gr rp nf f g a) nf 0 a) (fun a => kk a.1 a.2 σ) (fun m a i hi => ?_) (fun m a => ?_) nf FU (0, -1) 0 (by omega) (by show nf < 20000; omega)
  · simp only [fX11_suitors_L48]
    rw [hnf, if_neg (by rw [nI_leI (by omega) (by omega)]; omega), inner _ i hi, zra_1]
  · simp only [fX11_suitors_L48]
    rw [hnf, if_pos (Int32.le_refl _)]
theorem m_suit {u : St} {a1 a2 a3 : Int32} (kk : Int32 → Int32 → St → Option (Int32 × St)) (h6 : nf ≤ 6) (hnf : u 71 2 = nI nf) (hg : ∀ f g, f < nf → g < nf → fX12_gain a1 a2 (nI f) (nI g) u = some (gnF gr rp f g, u)) : fX12_suitors_L72 kk a1 a2 a3 FU 0 (-1) 0 u = kk (accN (fun f a => accN (fun g a => coupS gr rp nf f g a) nf 0 a) nf 0 (0, -1)).1 (accN (fun f a => accN (fun g a => coupS gr rp nf f g a) nf 0 a) nf 0 (0, -1)).2 u := by
  have rests : ∀ (kk3 : Int32 → St → Option (Int32 × St)) (x4 x5 : Int32) f g, f < nf → g < nf → fX12_suitors_L103 kk3 a1 a2 a3 x4 x5 (nI f) (nI g) FU 1 0 u = kk3 (kflag (restB gr rp nf f g)) u := fun kk3 x4 x5 f g hf hg' => by
    have key : ∀ k i m b, i + k = nf → k < m → fX12_suitors_L103 kk3 a1 a2 a3 x4 x5 (nI f) (nI g) m (kflag b) (nI i) u = kk3 (kflag (b && allFrom (fun k => decide (gnF gr rp k g ≤ gnF gr rp f g) && decide (gnF gr rp k f ≤ gnF gr rp g f)) i k)) u := by
      intro k
      induction k with
      | zero =>
        intro i m b hi hm
        obtain ⟨m, rfl⟩ : ∃ q, m = q + 1 := ⟨m - 1, by omega⟩
        obtain rfl : i = nf := by omega
        rw [fX12_suitors_L103, if_pos inA_2, i02, hnf, if_pos (Int32.le_refl _), allFrom, Bool.and_true]
      | succ k ih =>
        intro i m b hi hm
        obtain ⟨m, rfl⟩ : ∃ q, m = q + 1 := ⟨m - 1, by omega⟩
        have ih' := ih (i + 1) m
        have hf0 := ih' false (by omega) (by omega)
        have ht0 := ih' true (by omega) (by omega)
        rw [kf_f, Bool.false_and] at hf0
        rw [kf_t, Bool.true_and] at ht0
        rw [fX12_suitors_L103, if_pos inA_2, i02, hnf, if_neg (by rw [nI_leI (by omega) (by omega)]; omega), kf_if, hg i g (by omega) hg', bd_some, hg f g hf hg', bd_some, hg i f (by omega) hf, bd_some, hg g f hg' hf, bd_some, zra_1, hf0, ht0, allFrom]
        cases b
        · rw [if_neg (by decide), Bool.false_and]
        · rw [if_pos rfl, Bool.true_and]
          by_cases e1 : gnF gr rp i g ≤ gnF gr rp f g
          · rw [if_neg (fun h => by rw [i_le] at e1; rw [i_lt] at h; omega), decide_eq_true e1, Bool.true_and]
            by_cases e2 : gnF gr rp i f ≤ gnF gr rp g f
            · rw [if_neg (fun h => by rw [i_le] at e2; rw [i_lt] at h; omega), decide_eq_true e2, Bool.true_and]
            · rw [if_pos (by rw [i_le] at e2; rw [i_lt]; omega), decide_eq_false e2, Bool.false_and]
          · rw [if_pos (by rw [i_le] at e1; rw [i_lt]; omega), decide_eq_false e1, Bool.false_and, Bool.false_and]
    have := key nf 0 FU true (by omega) (by show nf < 20000; omega)
    rw [Bool.true_and, allFrom_and] at this
    exact this
  have inner : ∀ kk2 f, f < nf → ∀ a : Int32 × Int32, fX12_suitors_L86 kk2 a1 a2 a3 (nI f) FU a.1 a.2 0 u = kk2 (accN (fun g a => coupS gr rp nf f g a) nf 0 a).1 (accN (fun g a => coupS gr rp nf f g a) nf 0 a).2 u := fun kk2 f hf a => by
    refine loopN (fun m (a : Int32 × Int32) i => fX12_suitors_L86 kk2 a1 a2 a3 (nI f) m a.1 a.2 (nI i) u) nf (fun g a => coupS gr rp nf f g a) (fun a => kk2 a.1 a.2 u) (fun m a i hi => ?_) (fun m a => ?_) nf FU a 0 (by omega) (by show nf < 20000; omega)
    · simp only [fX12_suitors_L86]
      rw [if_pos inA_2, i02, hnf, if_neg (by rw [nI_leI (by omega) (by omega)]; omega), rests _ _ _ f i hf hi, kf_if, zra_1, zlm_10, nI_add, coupS]
      cases restB gr rp nf f i
      · rw [if_neg (by decide), if_neg (by decide)]
      · rw [if_pos rfl, if_pos rfl]
        by_cases e : a.2 = -1
        · rw [if_pos e, if_pos e]
        · rw [if_neg e, if_neg e]
    · simp only [fX12_suitors_L86]
      rw [if_pos inA_2, i02, hnf, if_pos (Int32.le_refl _)]
  refine loopN (fun m (a : Int32 × Int32) i => fX12_suitors_L72 kk a1 a2 a3 m a.1 a.2 (nI i) u) nf (fun f a => accN (fun g a => coupS gr rp nf f g a) nf 0 a) (fun a => kk a.1 a.2 u) (fun m a i hi => ?_) (fun m a => ?_) nf FU (0, -1) 0 (by omega) (by show nf < 20000; omega)
  · simp only [fX12_suitors_L72]
    rw [if_pos inA_2, i02, hnf, if_neg (by rw [nI_leI (by omega) (by omega)]; omega), inner _ i hi, zra_1]
  · simp only [fX12_suitors_L72]
    rw [if_pos inA_2, i02, hnf, if_pos (Int32.le_refl _)]
end SUITORS
theorem good_suitors (a b x : Int32) : Good (fX11_suitors a b x) (fX12_suitors a b x) c12 := by
  intro s hs
  show GoodAt _ _ _ _
  obtain ⟨n, nw, nf, r1, ⟨hw, hwi, -⟩, -⟩ := id hs
  obtain ⟨⟨hn, hm, h12⟩, -, ⟨hf1, hf2, h6⟩, -, -, hfl, -⟩ := id r1
  obtain ⟨A, hA, hAn, hA2, hA3, -⟩ := sw_bits h12 hw
  have hb : ∀ u s3, Pre s u s3 → u 71 0 = nI n ∧ u 69 17 = nI A := fun u s3 h => ⟨by rw [h.2.1 71 (by decide) (by decide)]; exact hm, by rw [h.2.2.1 17 (by decide)]; exact hA2⟩
  have z0 : (0 : Int32).toInt = 0 := rfl
  have z1 : (1 : Int32).toInt = 1 := rfl
  rcases i_cases a (n := n) (by omega) with ⟨p, hp, rfl⟩ | ho
  · rcases i_cases b (n := n) (by omega) with ⟨q, hq, rfl⟩ | ho
    · by_cases hx : 0 ≤ x.toInt ∧ x.toInt ≤ 1
      · have hx1 : ¬ x < 0 := by rw [i_lt, z0]; omega
        have hx2 : x ≤ 1 := by rw [i_le, z1]; omega
        have hmm : ∀ u s3, Pre s u s3 → fX12_suitors (nI p) (nI q) x s3 = if p = q ∨ s 34 (48 + p) = -1 ∨ s 34 (48 + q) = -1 then some (0, wr u 69 1 2) else fX12_suitors_L72 (fun v4_17 v5_17 s_17 => if x = 0 then (some (v4_17, s_17)) else (some (v5_17, s_17))) (nI p) (nI q) x FU (0 : Int32) (-1 : Int32) (0 : Int32) u := fun u s3 h => by
          obtain ⟨g1, g2⟩ := hb u s3 h
          rw [fX12_suitors, h.1, m_person_in g1 h12 hp, bd_some, if_neg (by decide), m_person_in g1 h12 hq, bd_some, if_neg (by decide), if_neg hx1, if_pos hx2, ite_iff (nI_eq (a := p) (b := q) (by omega) (by omega)), m_fail, m_alive_c h12 hA g2 hA3 hp, bd_some, bd_some, m_alive_c h12 hA g2 hA3 hq, bd_some, m_fail, bd_some]
          by_cases e1 : p = q
          · rw [if_pos e1, if_pos (Or.inl e1)]
          · rw [if_neg e1]
            by_cases e2 : s 34 (48 + p) = -1
            · rw [if_pos e2, if_pos rfl, if_pos (Or.inr (Or.inl e2))]
            · rw [if_neg e2, if_neg (by decide)]
              by_cases e3 : s 34 (48 + q) = -1
              · rw [if_pos e3, if_pos rfl, if_pos (Or.inr (Or.inr e3))]
              · rw [if_neg e3, if_neg (by decide), if_neg (by rintro (h | h | h); exact e1 h; exact e2 h; exact e3 h)]
        by_cases hc : p = q ∨ s 34 (48 + p) = -1 ∨ s 34 (48 + q) = -1
        · refine gat_thr (x := 1) hs (Or.inr rfl) (by decide) ?_ (fun u s3 h => ?_)
          · rw [fX11_suitors, c_person_in hn h12 hp, bx_val, c_person_in hn h12 hq, bx_val, if_neg hx1, if_pos hx2, c_two (by omega) (by omega), if_pos hc, bx_thr]
          · rw [hmm u s3 h, if_pos hc]
            rfl
        obtain ⟨gr, hgr⟩ : ∃ gr, gr = grS (s 34) (s 26) n p q := ⟨_, rfl⟩
        obtain ⟨rp, hrp⟩ : ∃ rp, rp = ripeS (s 34) (s 27) (s 28) := ⟨_, rfl⟩
        have hg0 : ∀ k i m σ, i + k = nf → k < m → (∀ y, y ≠ 68 → σ y = s y) → (∀ f, f < i → σ 68 f = gr f) → ∃ σ', fX11_surveyGround_L2 (nI p) (nI q) m (nI i) σ = some (0, σ') ∧ (∀ y, y ≠ 68 → σ' y = s y) ∧ ∀ f, f < nf → σ' 68 f = gr f := by
          intro k
          induction k with
          | zero =>
            intro i m σ hi hm' h1 h2
            obtain ⟨m, rfl⟩ : ∃ q, m = q + 1 := ⟨m - 1, by omega⟩
            obtain rfl : i = nf := by omega
            exact ⟨σ, by rw [fX11_surveyGround_L2, h1 21 (by decide), hf1, if_pos (Int32.le_refl _)], h1, h2⟩
          | succ k ih =>
            intro i m σ hi hm' h1 h2
            obtain ⟨m, rfl⟩ : ∃ q, m = q + 1 := ⟨m - 1, by omega⟩
            obtain ⟨y, hy, ey⟩ := (hfl i (by omega)).2.2.2.1
            have e34 : σ 34 = s 34 := h1 34 (by decide)
            have hfal : fX10_falls 33 (nI y) (0 : Int32) σ = some (fallsS (s 34) n y 0, σ) := by
              have := w_falls (w := 33) (s := σ) (q := y) (k := 0) rfl hy (by decide)
              refine Eq.trans this ?_
              show some (fallsS (σ 34) 12 y 0, σ) = _
              rw [e34, falls_12 h12 hw y 0 hy]
            have hpl : ∀ z, z < n → fX10_place 33 (nI z) σ = some (s 34 (48 + z), σ) := fun z hz => by
              rw [w_place (w := 33) rfl (by omega)]
              show some (σ 34 (48 + z), σ) = _
              rw [e34]
            have hpa : ∀ z, z < n → fX10_part 33 (nI z) (0 : Int32) σ = some (s 34 (4 * z + 0), σ) := fun z hz => by
              refine Eq.trans (w_part (w := 33) (s := σ) (p := z) (k := 0) rfl (by omega) (by decide)) ?_
              show some (σ 34 (4 * z + 0), σ) = _
              rw [e34]
            have fin : ∀ v5 : Int32, v5 - (if s 34 (48 + q) = nI y then s 34 (4 * q + 0) else 0) = gr i → ∃ σ', fX11_surveyGround_J74 (fX11_surveyGround_L2 (nI p) (nI q) m) (nI p) (nI q) (nI i) (nI y) v5 σ = some (0, σ') ∧ (∀ y, y ≠ 68 → σ' y = s y) ∧ ∀ f, f < nf → σ' 68 f = gr f := fun v5 hv => by
              have nxt := ih (i + 1) m (wr σ 68 i (gr i)) (by omega) (by omega) (fun z hz => by rw [wr_slot hz, h1 z hz]) (fun f hf => by
                by_cases e : f = i
                · subst e; rw [wr_hit]
                · rw [wr_place e, h2 f (by omega)])
              rw [fX11_surveyGround_J74, hpl q hq, bd_some, hpa q hq, bd_some, zra_1]
              by_cases e : s 34 (48 + q) = nI y
              · rw [if_pos e] at hv
                rw [if_pos e, put_nI (by decide) (by show i < 6; omega), bd_some, hv]
                exact nxt
              · rw [if_neg e, sub_zero32] at hv
                rw [if_neg e, put_nI (by decide) (by show i < 6; omega), bd_some, hv]
                exact nxt
            have hgi : gr i = fallsS (s 34) n y 0 - (if s 34 (48 + p) = nI y then s 34 (4 * p + 0) else 0) - (if s 34 (48 + q) = nI y then s 34 (4 * q + 0) else 0) := by rw [hgr, grS, ey, nI_clamp (by omega)]
            rw [fX11_surveyGround_L2, h1 21 (by decide), hf1, if_neg (by rw [nI_leI (by omega) (by omega)]; omega), at_nI (by decide) (by show i < 6; omega), bd_some, h1 26 (by decide), ey, hfal, bd_some, hpl p hp, bd_some, hpa p hp, bd_some]
            by_cases e : s 34 (48 + p) = nI y
            · rw [if_pos e]
              exact fin _ (by rw [hgi, if_pos e])
            · rw [if_neg e]
              exact fin _ (by rw [hgi, if_neg e, sub_zero32])
        obtain ⟨σ, c1, c2, c3⟩ := hg0 nf 0 FU s (by omega) (by show nf < 20000; omega) (fun _ _ => rfl) (fun f hf => absurd hf (by omega))
        have hrpc : ∀ f, f < nf → fX10_ripe 33 21 (nI f) σ = some (kflag (rp f), σ) := fun f hf => by
          rw [w_ripe (w := 33) (g := 21) rfl rfl rfl (by omega)]
          show some ((if ripeS (σ 34) (σ 27) (σ 28) f then (1 : Int32) else 0), σ) = _
          rw [c2 34 (by decide), c2 27 (by decide), c2 28 (by decide), hrp]
          rfl
        have cs := c_suit (σ := σ) (a3 := x) (gr := gr) (rp := rp) (nf := nf) (fun v4_8 v5_8 s_8 => if x = 0 then (some ((.inl v4_8 : RT), s_8)) else (some ((.inl v5_8 : RT), s_8))) h6 (by rw [c2 21 (by decide)]; exact hf1) c3 hrpc
        refine gat_scr (s1 := σ) (a := if x = 0 then (accN (fun f a => accN (fun g a => coupS gr rp nf f g a) nf 0 a) nf 0 (0, -1)).1 else (accN (fun f a => accN (fun g a => coupS gr rp nf f g a) nf 0 a) nf 0 (0, -1)).2) hs ?_ (Keep.off [68] [] (by decide) (by decide) (fun j _ hj => c2 j (fun e => hj (by rw [e]; decide))) (fun j _ => by rw [c2 69 (by decide)])) (fun j hj => c2 j (by omega)) (fun u s3 h => ⟨u, ?_, Keep.rfl' u, rfl, rfl⟩)
        · rw [fX11_suitors, c_person_in hn h12 hp, bx_val, c_person_in hn h12 hq, bx_val, if_neg hx1, if_pos hx2, c_two (by omega) (by omega), if_neg hc, bx_val]
          have c1' : fX11_surveyGround (nI p) (nI q) s = some (0, σ) := c1
          rw [c1', bd_some]
          refine Eq.trans cs ?_
          split <;> rfl
        · obtain ⟨g1, g2⟩ := hb u s3 h
          have u81 : ∀ f, f < nf → u 81 f = s 26 f := fun f hf => by rw [h.2.1 81 (by decide) (by decide)]; exact (hfl f hf).1
          have u73 : ∀ z, z < n → u 73 z = s 34 (48 + z) := fun z hz => by rw [← vr_pl (s := u) (by omega), h.2.2.2, hw.2.1 z hz]
          have u72 : ∀ z, z < n → u 72 (4 * z + 0) = s 34 (4 * z + 0) := fun z hz => by rw [← vr_sky (s := u) (by omega) (by omega), h.2.2.2, hw.1 z 0 hz (by omega)]
          have hrpm : ∀ f, f < nf → fX12_isRipe (nI f) u = some (kflag (rp f), u) := fun f hf => by
            rw [m_isRipe (by omega), h.2.2.2, h.2.1 82 (by decide) (by decide), h.2.1 83 (by decide) (by decide), ripe_rel hw (by omega) (hfl f hf).2.1 (hfl f hf).2.2.1, hrp]
            rfl
          have hgm : ∀ f g, f < nf → g < nf → fX12_gain (nI p) (nI q) (nI f) (nI g) u = some (gnF gr rp f g, u) := fun f g hf hg => by
            obtain ⟨y, hy, ey⟩ := (hfl f hf).2.2.2.1
            have hpa := m_partAt (s := u) (n := n) (q := y) (k := 0) g1 h12 hy (by decide)
            rw [h.2.2.2, falls_rel hw hy (by decide)] at hpa
            have hpa' : fX12_partAt (nI y) (0 : Int32) u = some (fallsS (s 34) n y 0, u) := hpa
            have hgi : gr f = fallsS (s 34) n y 0 - (if s 34 (48 + p) = nI y then s 34 (4 * p + 0) else 0) - (if s 34 (48 + q) = nI y then s 34 (4 * q + 0) else 0) := by rw [hgr, grS, ey, nI_clamp (by omega)]
            have i4 : ∀ z, z < n → (4 : Int32) * nI z + 0 = nI (4 * z + 0) := fun z hz => by rw [zlm_4]; exact nI_add (4 * z) 0
            have J93 : ∀ v, fX12_gain_J93 (nI f) v u = some (v + (if rp f then 0 else 5), u) := fun v => by
              rw [fX12_gain_J93, hrpm f hf, bd_some, kf_if]
              cases rp f
              · rw [if_neg (by decide), if_neg (by decide)]
              · rw [if_pos rfl, if_pos rfl]
            have J78 : ∀ v w, w - v = gr f → fX12_gain_J78 (nI f) (nI g) v w u = some (gnF gr rp f g, u) := fun v w hvw => by
              rw [fX12_gain_J78, ite_iff (nI_eq (a := f) (b := g) (by omega) (by omega)), J93, J93, gnF, hvw]
              by_cases e : f = g
              · rw [if_pos e, if_pos e]
              · rw [if_neg e, if_neg e]
            have J44 : ∀ v w, w - v - (if s 34 (48 + q) = nI y then s 34 (4 * q + 0) else 0) = gr f → fX12_gain_J44 (nI q) (nI f) (nI g) v w u = some (gnF gr rp f g, u) := fun v w hvw => by
              rw [fX12_gain_J44, if_pos (inA_lt (by decide) (by omega)), if_pos (inA_lt (by decide) (by omega)), nI_clamp (n := q) (by omega), nI_clamp (n := f) (by omega), u73 q hq, u81 f hf, ey, i4 q hq, if_pos (inA_lt (by decide) (by omega)), nI_clamp (n := 4 * q + 0) (by omega), u72 q hq]
              by_cases e : s 34 (48 + q) = nI y
              · rw [if_pos e] at hvw
                rw [if_pos e]
                exact J78 _ _ hvw
              · rw [if_neg e] at hvw
                rw [if_neg e]
                exact J78 _ _ hvw
            rw [fX12_gain, if_pos (inA_lt (by decide) (by omega)), nI_clamp (n := f) (by omega), u81 f hf, ey, hpa', bd_some, if_pos (inA_lt (by decide) (by omega)), if_pos (inA_lt (by decide) (by omega)), nI_clamp (n := p) (by omega), u73 p hp, u81 f hf, ey, i4 p hp, if_pos (inA_lt (by decide) (by omega)), nI_clamp (n := 4 * p + 0) (by omega), u72 p hp]
            by_cases e : s 34 (48 + p) = nI y
            · rw [if_pos e]
              exact J44 _ _ (by rw [hgi, if_pos e])
            · rw [if_neg e]
              exact J44 _ _ (by rw [hgi, if_neg e])
          have ms := m_suit (u := u) (a1 := nI p) (a2 := nI q) (a3 := x) (gr := gr) (rp := rp) (nf := nf) (fun v4_17 v5_17 s_17 => if x = 0 then (some (v4_17, s_17)) else (some (v5_17, s_17))) h6 (by rw [h.2.1 71 (by decide) (by decide)]; exact hf2) hgm
          rw [hmm u s3 h, if_neg hc]
          refine Eq.trans ms ?_
          split <;> rfl
      · refine gat_thr (x := 0) hs (Or.inl rfl) (by decide) ?_ (fun u s3 h => ?_)
        · rw [fX11_suitors, c_person_in hn h12 hp, bx_val, c_person_in hn h12 hq, bx_val]
          by_cases hx1 : x < 0
          · rw [if_pos hx1]
          · rw [if_neg hx1, if_neg (by rw [i_le, z1]; rw [i_lt, z0] at hx1; omega)]
        · obtain ⟨g1, g2⟩ := hb u s3 h
          rw [fX12_suitors, h.1, m_person_in g1 h12 hp, bd_some, if_neg (by decide), m_person_in g1 h12 hq, bd_some, if_neg (by decide), m_fail, bd_some]
          by_cases hx1 : x < 0
          · rw [if_pos hx1]; rfl
          · rw [if_neg hx1, if_neg (by rw [i_le, z1]; rw [i_lt, z0] at hx1; omega)]; rfl
    · refine gat_thr (x := 0) hs (Or.inl rfl) (by decide) ?_ (fun u s3 h => ?_)
      · rw [fX11_suitors, c_person_in hn h12 hp, bx_val, c_person_out hn ho, bx_thr]
      · obtain ⟨g1, g2⟩ := hb u s3 h
        rw [fX12_suitors, h.1, m_person_in g1 h12 hp, bd_some, if_neg (by decide), m_person_out g1 h12 ho, bd_some, if_pos rfl, m_fail]
        rfl
  · refine gat_thr (x := 0) hs (Or.inl rfl) (by decide) ?_ (fun u s3 h => ?_)
    · rw [fX11_suitors, c_person_out hn ho, bx_thr]
    · obtain ⟨g1, g2⟩ := hb u s3 h
      rw [fX12_suitors, h.1, m_person_out g1 h12 ho, bd_some, if_pos rfl, m_fail]
      rfl
