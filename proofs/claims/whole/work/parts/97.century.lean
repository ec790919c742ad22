/-! ===== a century ===== -/
theorem rs_world {s s' : St} (hs : RS s) (h : KeepM s s') (hv : ∀ j, j < 95 → vr s' j = vr s j) : RS s' := by
  refine hs.now ⟨fun k e => h.1 k ?_, fun j e => h.2.1 j ?_ ?_, fun z e => h.2.2.1 z.1 z.2 ?_⟩ (fun n nw nf r1 r2 => ?_)
  · revert k; decide
  · revert j; decide
  · revert j; decide
  · revert z; decide
  · obtain ⟨w1, w2, w3, w4, w5⟩ := r2
    have h12 : n ≤ 12 := r1.1.2.2
    refine ⟨?_, ?_, ?_, ?_, ?_⟩
    · rw [h.1 34 rfl]; exact w1.cong h12 (fun _ _ => rfl) hv
    · rw [h.1 34 rfl]; exact w2
    · rw [h.1 35 rfl, h.1 89 rfl, h.2.2.1 32 2 rfl, h.2.2.1 32 3 rfl, h.2.1 32 rfl (by decide)]; exact w3
    · rw [h.1 36 rfl, h.1 37 rfl, h.1 102 rfl, h.1 103 rfl, h.2.2.1 32 6 rfl, h.2.1 33 rfl (by decide)]; exact w4
    · rw [h.1 38 rfl, h.1 85 rfl]; exact w5
theorem gat_scrW {s s1 : St} {f : St → Option (RT × St)} {g : St → Option (Int32 × St)} {code : Nat → Int32} {a : Int32} (hs : RS s) (hf : f s = some (.inl a, s1)) (k1 : Keep s s1) (h69 : ∀ k, 69 ≤ k → s1 k = s k) (hg : ∀ u s3, Pre s u s3 → ∃ s4, g s3 = some (a, s4) ∧ KeepM u s4 ∧ ∀ j, j < 95 → vr s4 j = vr u j) : GoodAt f g code s := by
  refine ⟨.inl a, s1, hf, fun s3 e3 => ?_⟩
  obtain ⟨s4, g1, g2, g3⟩ := hg _ s3 (pre_st (fun k h1 h2 => (e3 k h2).trans (h69 k h1)))
  refine ⟨a, s4, g1, rs_world (hs.keep ((k1.trans (keep_out e3)).trans keep_code)) g2 g3, by rw [g2.2.2.2.1, wr_slot (by decide)], by rw [g2.2.2.2.2, wr_hit], rfl⟩
theorem sh_ext15 {X Y : BitVec 32} (h : ∀ i, i < 15 → X.getLsbD i = Y.getLsbD i) : X &&& 32767#32 = Y &&& 32767#32 := by
  apply BitVec.eq_of_getLsbD_eq
  intro i hi
  rw [BitVec.getLsbD_and, BitVec.getLsbD_and]
  by_cases h8 : i < 15
  · rw [h i h8]
  · have : (32767#32).getLsbD i = false := by
      have : ∀ i : Nat, i < 32 → 15 ≤ i → (32767#32).getLsbD i = false := by decide +kernel
      exact this i hi (by omega)
    rw [this, Bool.and_false, Bool.and_false]
theorem sh_same16 (w : Int32) : (jushr w (16 : Int32) &&& (32767 : Int32)) = (jshr w (16 : Int32) &&& (32767 : Int32)) := by
  have hc : (((16 : Int32).toUInt32 &&& Int32.toUInt32 31).toBitVec % 32).toNat = 16 ∧ (((16 : Int32) &&& 31).toBitVec.smod 32).toNat = 16 := by decide +kernel
  obtain ⟨h1, h2⟩ := hc
  apply Int32.toBitVec_inj.mp
  have e1 : (jushr w (16 : Int32)).toBitVec = w.toBitVec >>> 16 := by
    rw [jushr]
    show (w.toUInt32.toBitVec >>> (((16 : Int32).toUInt32 &&& Int32.toUInt32 31).toBitVec % 32)) = _
    rw [BitVec.ushiftRight_eq', h1]
    rfl
  have e2 : (jshr w (16 : Int32)).toBitVec = w.toBitVec.sshiftRight 16 := by
    rw [jshr]
    show BitVec.sshiftRight' w.toBitVec (((16 : Int32) &&& 31).toBitVec.smod 32) = _
    rw [BitVec.sshiftRight', h2]
  show (jushr w (16 : Int32)).toBitVec &&& 32767#32 = (jshr w (16 : Int32)).toBitVec &&& 32767#32
  rw [e1, e2]
  refine sh_ext15 (fun j hj => ?_)
  rw [BitVec.getLsbD_ushiftRight, BitVec.getLsbD_sshiftRight]
  have hlt : 16 + j < 32 := by omega
  rw [if_pos hlt]
  have : ¬ 32 ≤ j := by omega
  simp [this]
def drawS (st : Int32) (n : Nat) : Nat := (jshr st 16 &&& 32767).toNatClampNeg % n
theorem draw_eq (st : Int32) {n : Nat} (h0 : 0 < n) (hn : n < 1000) : jrem (jshr st 16 &&& (32767 : Int32)) (nI n) = nI (drawS st n) ∧ drawS st n < n := by
  obtain ⟨v, hv, e⟩ := pk_andE (jshr st 16) (m := 32767) 15 (by decide)
  rw [drawS, e, nI_clamp (by omega), jrem]
  exact ⟨pk_rem (by omega) h0 (by omega), Nat.mod_lt _ h0⟩
def nextS (st : Int32) : Int32 := st * 1103515245 + 12345
theorem c_draw {s : St} {st : Int32} {n : Nat} (h0 : 0 < n) (hn : n < 1000) : fX11_draw st (nI n) s = some (nI (drawS st n), s) := by
  rw [fX11_draw, if_pos (by rw [zll_1 _ (by omega)]; omega), if_neg (by rw [zle_0 _ (by omega)]; omega), sh_same16, (draw_eq st h0 hn).1]
theorem m_draw {t : St} {st : Int32} {n : Nat} (h0 : 0 < n) (hn : n < 1000) (hst : t 69 57 = st) : fX12_drawOf (nI n) t = some (nI (drawS (nextS st) n), wr t 69 57 (nextS st)) := by
  rw [fX12_drawOf, hst, if_neg (by rw [zle_0 _ (by omega)]; omega), wr_hit]
  rw [show st * 1103515245 + 12345 = nextS st from rfl, (draw_eq (nextS st) h0 hn).1]
def CSc (s σ : St) : Prop := ∀ k, k ≠ 31 → k ≠ 47 → k ≠ 48 → k ≠ 49 → k ≠ 50 → σ k = s k
def MSc (u t : St) : Prop := (∀ k, k ≠ 69 → k ≠ 72 → k ≠ 73 → k ≠ 87 → k ≠ 88 → k ≠ 90 → k ≠ 91 → k ≠ 92 → t k = u k) ∧ ∀ j, j ≠ 17 → j ≠ 37 → j ≠ 38 → j ≠ 57 → t 69 j = u 69 j
theorem MSc.w {u t t' : St} (h : MSc u t) (e1 : ∀ k, k ≠ 69 → k ≠ 72 → k ≠ 73 → k ≠ 87 → k ≠ 88 → k ≠ 90 → k ≠ 91 → k ≠ 92 → t' k = t k) (e2 : ∀ j, j ≠ 17 → j ≠ 37 → j ≠ 38 → j ≠ 57 → t' 69 j = t 69 j) : MSc u t' := ⟨fun k a b c d e f g i => (e1 k a b c d e f g i).trans (h.1 k a b c d e f g i), fun j a b c d => (e2 j a b c d).trans (h.2 j a b c d)⟩
section CENTURY
variable {s u : St} {n nw nf len : Nat} {dep : Nat → Nat}
theorem fate (r1 : RLand s n nw nf) (hl : LawD s dep len) (hu : LM s u) {σ t : St} {st : Int32} (hC : CSc s σ) (hM : MSc u t) (hw : SW n (σ 47) (vr t)) (hi : WI n (σ 47)) (hst : t 69 57 = st) :
    ∃ st' σ2 t2, fX11_passFate st σ = some (st', σ2) ∧ fX12_yearNow t = bd (fX12_dayNow t2) (fun _ x => some (0, x)) ∧ CSc s σ2 ∧ MSc u t2 ∧ SW n (σ2 47) (vr t2) ∧ WI n (σ2 47) ∧ t2 69 57 = st' := by
  obtain ⟨⟨hn, hm, h12⟩, -⟩ := id r1
  have hn' : σ 21 0 = nI n := by rw [hC 21 (by decide) (by decide) (by decide) (by decide) (by decide)]; exact hn
  have hm' : t 71 0 = nI n := by rw [hM.1 71 (by decide) (by decide) (by decide) (by decide) (by decide) (by decide) (by decide) (by decide), hu 71 (Or.inl rfl)]; exact hm
  by_cases h0 : n = 0
  · refine ⟨st, σ, t, ?_, ?_, hC, hM, hw, hi, hst⟩
    · rw [fX11_passFate, hn', if_neg (by rw [zll_1 _ (by omega)]; omega)]
    · rw [fX12_yearNow, if_pos inA_0, i00, hm', if_pos (by rw [zrl_0 _ (by omega)]; omega)]
  obtain ⟨p, hpe⟩ : ∃ p, p = drawS (nextS st) n := ⟨_, rfl⟩
  obtain ⟨q, hqe⟩ : ∃ q, q = drawS (nextS (nextS st)) 10 := ⟨_, rfl⟩
  have hp : p < n := by rw [hpe]; exact (draw_eq _ (by omega) (by omega)).2
  have hq : q < 10 := by rw [hqe]; exact (draw_eq _ (by omega) (by omega)).2
  have dc1 : fX11_draw (nextS st) (nI n) σ = some (nI p, σ) := by rw [hpe]; exact c_draw (by omega) (by omega)
  have dc2 : fX11_draw (nextS (nextS st)) (10 : Int32) σ = some (nI q, σ) := by rw [hqe]; exact c_draw (n := 10) (by omega) (by omega)
  have dm1 : fX12_drawOf (nI n) t = some (nI p, wr t 69 57 (nextS st)) := by rw [hpe]; exact m_draw (by omega) (by omega) hst
  have dm2 : fX12_drawOf (10 : Int32) (wr t 69 57 (nextS st)) = some (nI q, wr (wr t 69 57 (nextS st)) 69 57 (nextS (nextS st))) := by rw [hqe]; exact m_draw (n := 10) (by omega) (by omega) wr_hit
  obtain ⟨t1, ht1⟩ : ∃ t1, t1 = wr (wr t 69 57 (nextS st)) 69 57 (nextS (nextS st)) := ⟨_, rfl⟩
  rw [← ht1] at dm2
  have t1k : ∀ k, k ≠ 69 → t1 k = t k := fun k hk => by rw [ht1, wr_slot hk, wr_slot hk]
  have t169 : ∀ j, j ≠ 57 → t1 69 j = t 69 j := fun j hj => by rw [ht1, wr_place hj, wr_place hj]
  have t157 : t1 69 57 = nextS (nextS st) := by rw [ht1, wr_hit]
  have hM1 : MSc u t1 := hM.w (fun k a _ _ _ _ _ _ _ => t1k k a) (fun j _ _ _ d => t169 j d)
  have hv1 : vr t1 = vr t := vr_same (t1k _ (by decide)) (t1k _ (by decide)) (t1k _ (by decide)) (t1k _ (by decide)) (t1k _ (by decide)) (t169 17 (by decide))
  rw [← hv1] at hw
  obtain ⟨A, hA, hAn, hA2, hA3, -⟩ := sw_bits h12 hw
  have hA2' : t1 69 17 = nI A := hA2
  have hcls : fX11_passFate st σ = if σ 47 (48 + p) = -1 then some (nextS (nextS st), σ) else bd (fX11_draw (nextS (nextS (nextS st))) (4 : Int32) (wr σ 47 (48 + p) (nI q))) (fun y_8 s_8 => if y_8 = 0 then (bd (fX11_bury 46 (nI p) s_8) (fun y_9 s_9 => some (nextS (nextS (nextS st)), s_9))) else (some (nextS (nextS (nextS st)), s_8))) := by
    rw [fX11_passFate, hn', if_pos (by rw [zll_1 _ (by omega)]; omega), fX11_nextSeed, bd_some]
    show bd (fX11_draw (nextS st) (σ 21 0) σ) _ = _
    rw [hn', dc1, bd_some, fX11_nextSeed, bd_some]
    show bd (fX11_draw (nextS (nextS st)) (10 : Int32) σ) _ = _
    rw [dc2, bd_some, w_alive (w := 46) rfl (by omega), bd_some]
    show (if (if σ 47 (48 + p) = -1 then (0 : Int32) else 1) = 0 then _ else _) = _
    by_cases e : σ 47 (48 + p) = -1
    · rw [if_pos e, if_pos rfl, if_pos e]
      rfl
    · rw [if_neg e, if_neg (by decide), if_neg e, w_setPlace (w := 46) rfl (by omega), bd_some, fX11_nextSeed, bd_some]; rfl
  have hmdl : fX12_yearNow t = if σ 47 (48 + p) = -1 then bd (fX12_dayNow t1) (fun _ x => some (0, x)) else bd (fX12_drawOf (4 : Int32) (wr t1 73 p (nI q))) (fun y_7 s_7 => if y_7 = 0 then (bd (fX12_dieNow (nI p) s_7) (fun y_9 s_9 => bd (fX12_dayNow s_9) (fun y_10 s_10 => some (0, s_10)))) else (bd (fX12_dayNow s_7) (fun y_8 s_8 => some (0, s_8)))) := by
    rw [fX12_yearNow, if_pos inA_0, i00, hm', if_neg (by rw [zrl_0 _ (by omega)]; omega), if_pos inA_0, dm1, bd_some, dm2, bd_some, m_alive_c (c := σ 47) h12 hA hA2' hA3 hp, bd_some]
    by_cases e : σ 47 (48 + p) = -1
    · rw [if_pos e, if_pos rfl, if_pos e]
    · rw [if_neg e, if_neg (by decide), if_neg e, if_pos (inA_lt (by decide) (by omega)), nI_clamp (by omega)]
  rw [hcls, hmdl]
  by_cases e : σ 47 (48 + p) = -1
  · rw [if_pos e, if_pos e]
    exact ⟨_, σ, t1, rfl, rfl, hC, hM1, hw, hi, t157⟩
  rw [if_neg e, if_neg e]
  obtain ⟨σ1, hσ1⟩ : ∃ σ1, σ1 = wr σ 47 (48 + p) (nI q) := ⟨_, rfl⟩
  obtain ⟨t2, ht2⟩ : ∃ t2, t2 = wr t1 73 p (nI q) := ⟨_, rfl⟩
  rw [← hσ1, ← ht2]
  have hC1 : CSc s σ1 := fun k a b c d e => by rw [hσ1, wr_slot b, hC k a b c d e]
  have hM2 : MSc u t2 := hM1.w (fun k _ _ c _ _ _ _ _ => by rw [ht2, wr_slot c]) (fun j _ _ _ _ => by rw [ht2, wr_slot (by decide)])
  have t257 : t2 69 57 = nextS (nextS st) := by rw [ht2, wr_slot (by decide), t157]
  obtain ⟨hw2, hi2⟩ : SW n (σ1 47) (vr t2) ∧ WI n (σ1 47) := by
    refine sw_place h12 hp hq e (fun j => ?_) (fun j => ?_) hw hi
    · rw [hσ1, wr_row]; rfl
    · rw [ht2, vr_w73 (by omega)]; rfl
  obtain ⟨z, hze⟩ : ∃ z, z = drawS (nextS (nextS (nextS st))) 4 := ⟨_, rfl⟩
  have hz : z < 4 := by rw [hze]; exact (draw_eq _ (by omega) (by omega)).2
  have dc3 : fX11_draw (nextS (nextS (nextS st))) (4 : Int32) σ1 = some (nI z, σ1) := by rw [hze]; exact c_draw (n := 4) (by omega) (by omega)
  have dm3 : fX12_drawOf (4 : Int32) t2 = some (nI z, wr t2 69 57 (nextS (nextS (nextS st)))) := by rw [hze]; exact m_draw (n := 4) (by omega) (by omega) t257
  obtain ⟨t3, ht3⟩ : ∃ t3, t3 = wr t2 69 57 (nextS (nextS (nextS st))) := ⟨_, rfl⟩
  rw [dc3, bd_some, dm3, bd_some, ← ht3]
  have hM3 : MSc u t3 := hM2.w (fun k a _ _ _ _ _ _ _ => by rw [ht3, wr_slot a]) (fun j _ _ _ d => by rw [ht3, wr_place d])
  have hv3 : vr t3 = vr t2 := by rw [ht3]; exact vr_same (wr_slot (by decide)) (wr_slot (by decide)) (wr_slot (by decide)) (wr_slot (by decide)) (wr_slot (by decide)) (wr_place (by decide))
  rw [← hv3] at hw2
  have t357 : t3 69 57 = nextS (nextS (nextS st)) := by rw [ht3, wr_hit]
  by_cases hz0 : z = 0
  · rw [if_pos (by rw [hz0]; rfl), if_pos (by rw [hz0]; rfl)]
    have hpl : σ1 47 (48 + p) = nI q := by rw [hσ1, wr_hit]
    have hal : ¬ σ1 47 (48 + p) = -1 := by rw [hpl]; exact neg1 (by omega)
    obtain ⟨S, s1', s2'⟩ := hi2.2.2.1
    obtain ⟨A', hA', hAn', hA2'', hA3', -⟩ := sw_bits h12 hw2
    have hok := shD_ok (s := s) (c := σ1 47) (L := lawL s dep len (σ1 47) p) h12 r1.2.2.2.2.2.2.1 (fun p => (lawL_spec _ _ _ _ _ _).2) hp hw2.2.2.2.2.2.2
    obtain ⟨σ2, b1, b2, b3⟩ := c_bury (w := 46) (d := p) (q := q) (s0 := s) (s := σ1) (S := S) rfl r1 hl (fun k h1 h2 => hC1 k (by omega) (by omega) (by omega) (by omega) (by omega)) hp hw2.2.2.2.2.2.2 (sky_of s1' s2' hp) hq hpl
    have hlm : LM s t3 := fun k hk => by rw [hM3.1 k (by omega) (by omega) (by omega) (by omega) (by omega) (by omega) (by omega) (by omega)]; exact hu k hk
    obtain ⟨t4, d1, d2, d3, d4⟩ := m_dieNow (s0 := s) (t := t3) (c := σ1 47) (L := lawL s dep len (σ1 47) p) (S := S) (q := q) r1 hlm hp hw2 hA' hA2'' hA3' (fun p => (lawL_spec _ _ _ _ _ _).2) (law_hL r1 hl hlm hw2 hi2 (fun _ _ => rfl) (fun _ _ _ => rfl) hp hal) (sky_of s1' s2' hp) hq hpl hok.1 hok.2.1
    have b2' : σ2 47 = dieR (shD s (lawL s dep len (σ1 47) p) (σ1 47) p) p q S (σ1 47) := b2
    refine ⟨_, σ2, t4, by rw [b1, bd_some], by rw [d1, bd_some], fun k x1 x2 x3 x4 x5 => by rw [b3 k x1 x3 x4 x5 x2, hC1 k x1 x2 x3 x4 x5], hM3.w (fun k x1 x2 x3 x4 x5 x6 x7 x8 => d3 k x1 x2 x3 x5 x6 x7 x8) (fun j x1 x2 x3 _ => d4 j x1 x2 x3), by rw [b2']; exact d2, by rw [b2']; exact wi_die h12 hp hq hpl s1' s2' hok.2.1 hok.2.2 hi2, by rw [d4 57 (by decide) (by decide) (by decide), t357]⟩
  · rw [if_neg (by rw [zle_0 _ (by omega)]; exact hz0), if_neg (by rw [zle_0 _ (by omega)]; exact hz0)]
    exact ⟨_, σ1, t3, rfl, rfl, hC1, hM3, hw2, hi2, t357⟩
theorem years (r1 : RLand s n nw nf) (hl : LawD s dep len) (hu : LM s u) {N : Nat} (hN : N ≤ 60) (a3 : Int32) (kk : St → Option (RT × St)) (kk' : St → Option (Int32 × St)) : ∀ k i m (σ t : St) (st : Int32), i + k = N → k < m → CSc s σ → MSc u t → SW n (σ 47) (vr t) → WI n (σ 47) → t 69 57 = st →
    ∃ σ' t', fX11_century_L55 kk (nI N) a3 m st (nI i) σ = kk σ' ∧ fX12_century_L58 kk' (nI N) a3 m (nI i) t = kk' t' ∧ CSc s σ' ∧ MSc u t' ∧ SW n (σ' 47) (vr t') ∧ WI n (σ' 47) := by
  obtain ⟨⟨hn, hm, h12⟩, -, ⟨hf1, hf2, h6⟩, -, -, hfl, -⟩ := id r1
  intro k
  induction k with
  | zero =>
    intro i m σ t st hi hm' hC hM hw hwi hst
    obtain ⟨m, rfl⟩ : ∃ q, m = q + 1 := ⟨m - 1, by omega⟩
    obtain rfl : i = N := by omega
    exact ⟨σ, t, by rw [fX11_century_L55, if_pos (Int32.le_refl _)], by rw [fX12_century_L58, if_pos (Int32.le_refl _)], hC, hM, hw, hwi⟩
  | succ k ih =>
    intro i m σ t st hi hm' hC hM hw hwi hst
    obtain ⟨m, rfl⟩ : ∃ q, m = q + 1 := ⟨m - 1, by omega⟩
    obtain ⟨st', σ2, t2, a1, a2, a3', a4, a5, a6, a7⟩ := fate r1 hl hu hC hM hw hwi hst
    have k26 : σ2 26 = s 26 := a3' 26 (by decide) (by decide) (by decide) (by decide) (by decide)
    have hpc : ∀ f, f < nf → ∃ q, q < 10 ∧ s 26 f = nI q := fun f hf => (hfl f hf).2.2.2.1
    have d1 := w_passDays (w := 46) (g := 21) (many := nI 1) (s := σ2) (n := n) (nf := nf) rfl rfl (by decide) (by decide) h12 (by rw [a3' 21 (by decide) (by decide) (by decide) (by decide) (by decide)]; exact hf1) h6 (fun f hf => by show ∃ q, q < 10 ∧ σ2 26 f = nI q; rw [k26]; exact hpc f hf) a5.2.2.2.2.2.2
    have d1' : fX10_passDays 46 21 (1 : Int32) σ2 = some (0, rset σ2 47 (dayR n nf (σ2 26) (σ2 47) (nI 1))) := by
      show fX10_passDays 46 21 (nI 1) σ2 = some (0, rset σ2 (46 + 1) (dayR n nf (σ2 (21 + 5)) (σ2 (46 + 1)) (nI 1)))
      exact d1
    rw [k26] at d1'
    have t71 : t2 71 = s 71 := by rw [a4.1 71 (by decide) (by decide) (by decide) (by decide) (by decide) (by decide) (by decide) (by decide), hu 71 (Or.inl rfl)]
    have t81 : t2 81 = s 81 := by rw [a4.1 81 (by decide) (by decide) (by decide) (by decide) (by decide) (by decide) (by decide) (by decide), hu 81 (Or.inr (by decide))]
    obtain ⟨r, e1, e2⟩ := m_dayNow (t := t2) (n := n) (nf := nf) (by rw [t71]; exact hm) h12 (by rw [t71]; exact hf2) h6 (fun f hf => by rw [t81, (hfl f hf).1]; exact hpc f hf)
    obtain ⟨v1, v2⟩ := sw_day (many := 1) (pl := s 26) (pl' := s 81) h12 h6 (by omega) hpc (fun f hf => (hfl f hf).1) a5 a6
    rw [t81] at e2
    rw [← e2] at v1
    rw [fX11_century_L55, if_neg (by rw [nI_leI (by omega) (by omega)]; omega), a1, bd_some, d1', bd_some, fX12_century_L58, if_neg (by rw [nI_leI (by omega) (by omega)]; omega), a2, e1, bd_some, bd_some, zra_1]
    refine ih (i + 1) m _ _ st' (by omega) (by omega) (fun k x1 x2 x3 x4 x5 => by rw [rset_off x2, a3' k x1 x2 x3 x4 x5]) (a4.w (fun k _ _ _ x4 _ _ _ _ => rset_off x4) (fun j _ _ _ _ => by rw [rset_off (by decide)])) ?_ ?_ (by rw [rset_off (by decide), a7])
    · rw [rset_hit]; exact v1
    · rw [rset_hit]; exact v2
end CENTURY
theorem good_century (a b x : Int32) : Good (fX11_century a b x) (fX12_century a b x) c12 := by
  intro s hs
  show GoodAt _ _ _ _
  obtain ⟨n, nw, nf, r1, ⟨hw, hwi, -⟩, -⟩ := id hs
  obtain ⟨⟨hn, hm, h12⟩, -, ⟨hf1, hf2, h6⟩, -, -, hfl, -⟩ := id r1
  obtain ⟨dep, len, hl⟩ := r1.2.2.2.2.2.2.2.dep
  have z0 : (0 : Int32).toInt = 0 := rfl
  have z2 : (2 : Int32).toInt = 2 := rfl
  have z60 : (60 : Int32).toInt = 60 := rfl
  by_cases hx : 0 ≤ x.toInt ∧ x.toInt ≤ 2
  · have hx1 : ¬ x < 0 := by rw [i_lt, z0]; omega
    have hx2 : x ≤ 2 := by rw [i_le, z2]; omega
    by_cases hbb : 0 ≤ b.toInt ∧ b.toInt ≤ 60
    · have hb1 : ¬ b < 0 := by rw [i_lt, z0]; omega
      have hb2 : b ≤ 60 := by rw [i_le, z60]; omega
      obtain ⟨N, hN', rfl⟩ := nI_of hb1
      rw [nI_toInt (by omega)] at hbb
      have hN : N ≤ 60 := by omega
      obtain ⟨σ, hσ⟩ : ∃ σ, σ = ovl s 47 0 94 (s 34) := ⟨_, rfl⟩
      have cc : fX10_copyFrom 46 33 s = some (0, σ) := by
        rw [fX10_copyFrom, c_copyRow (r0 := 33 + 1) (r1 := 46 + 1) (by decide) (by decide) (by decide), bd_some, hσ]
        rfl
      have hσk : ∀ k, k ≠ 47 → σ k = s k := fun k hk => by rw [hσ, ovl_slot hk]
      have hσ47 : ∀ j, j < 94 → σ 47 j = s 34 j := fun j hj => by rw [hσ, ovl_in (by omega) (by omega), Nat.sub_zero]
      have main : ∀ u s3, Pre s u s3 → ∃ σ' t' y, (fX11_century a (nI N) x s = some (.inl y, σ') ∧ Keep s σ' ∧ (∀ k, 69 ≤ k → σ' k = s k)) ∧ fX12_century a (nI N) x s3 = some (y, t') ∧ KeepM u t' ∧ ∀ j, j < 95 → vr t' j = vr u j := fun u s3 h => by
        have hlm : LM s u := fun k hk => h.2.1 k (by omega) (by omega)
        obtain ⟨u2, hu2⟩ : ∃ u2, u2 = wr (ovl u 105 0 95 (vr u)) 69 57 a := ⟨_, rfl⟩
        have u2k : ∀ k, k ≠ 69 → k ≠ 105 → u2 k = u k := fun k q1 q2 => by rw [hu2, wr_slot q1, ovl_slot q2]
        have u269 : ∀ j, j ≠ 57 → u2 69 j = u 69 j := fun j q => by rw [hu2, wr_place q, ovl_slot (by decide)]
        have hv2 : vr u2 = vr s := by
          rw [← h.2.2.2]
          exact vr_same (u2k _ (by decide) (by decide)) (u2k _ (by decide) (by decide)) (u2k _ (by decide) (by decide)) (u2k _ (by decide) (by decide)) (u2k _ (by decide) (by decide)) (u269 17 (by decide))
        have hlm2 : LM s u2 := fun k hk => by rw [u2k k (by omega) (by omega)]; exact hlm k hk
        obtain ⟨σ', t', e1, e2, e3, e4, e5, e6⟩ := years (s := s) (u := u2) r1 hl hlm2 hN x (fun s_4 => if x = (0 : Int32) then
    (bd (fX10_manyAlive 46 s_4) (fun y_5 s_5 =>
    some ((.inl y_5 : RT), s_5)))
  else
    (if x = (1 : Int32) then
    (bd (fX10_manyRipe 46 21 s_4) (fun y_6 s_6 =>
    some ((.inl y_6 : RT), s_6)))
  else
    (bd (fX10_allNoons 46 s_4) (fun y_7 s_7 =>
    some ((.inl y_7 : RT), s_7))))) (fun s_7 => if x = 0 then
    (bd (fX12_bitsOf (s_7 69 17) s_7) (fun y_12 s_12 =>
    bd (fX12_unpack 105 (0 : Int32) s_12) (fun y_13 s_13 =>
    some (y_12, s_13))))
  else
    (if x = (1 : Int32) then
    (bd (fX12_ripe s_7) (fun y_10 s_10 =>
    bd (fX12_unpack 105 (0 : Int32) s_10) (fun y_11 s_11 =>
    some (y_10, s_11))))
  else
    (bd (fX12_allNoons s_7) (fun y_8 s_8 =>
    bd (fX12_unpack 105 (0 : Int32) s_8) (fun y_9 s_9 =>
    some (y_8, s_9)))))) N 0 FU σ u2 a (by omega) (by show N < 20000; omega) (fun k _ q _ _ _ => hσk k q) ⟨fun _ _ _ _ _ _ _ _ _ => rfl, fun _ _ _ _ _ => rfl⟩ (by rw [hv2]; exact hw.cong h12 hσ47 (fun _ _ => rfl)) (hwi.cong h12 hσ47) (by rw [hu2, wr_hit])
        obtain ⟨t'', m1, m2, m3, m4, m5⟩ := m_unpack (s := t') (r := 105) (b := 0) (by decide) (by decide) (by decide) (by decide) (by decide) (by decide) (by decide) (by decide)
        have m1' : fX12_unpack 105 (0 : Int32) t' = some (0, t'') := m1
        obtain ⟨A, hA, hAn, hA2, hA3, hA4⟩ := sw_bits h12 e5
        have hA2' : t' 69 17 = nI A := hA2
        obtain ⟨y, hy⟩ : ∃ y, y = if x = 0 then aliveS (σ' 47) 12 else if x = 1 then ripesS (σ' 47) (s 27) (s 28) nf else noonsS (σ' 47) := ⟨_, rfl⟩
        refine ⟨σ', t'', y, ⟨?_, ?_, fun k hk => ?_⟩, ?_, ?_, fun j hj => ?_⟩
        · rw [fX11_century, if_neg hx1, if_pos hx2, if_neg hb1, if_pos hb2, cc, bd_some]
          refine Eq.trans e1 ?_
          rw [hy]
          show (if x = 0 then _ else _) = _
          by_cases q0 : x = 0
          · rw [if_pos q0, if_pos q0, w_manyAlive (w := 46) rfl, bd_some]
          · rw [if_neg q0, if_neg q0]
            by_cases q1 : x = 1
            · rw [if_pos q1, if_pos q1, w_manyRipe (w := 46) (g := 21) (nf := nf) rfl rfl rfl (by rw [e3 21 (by decide) (by decide) (by decide) (by decide) (by decide)]; exact hf1) h6, bd_some]
              show some ((.inl (ripesS (σ' 47) (σ' 27) (σ' 28) nf) : RT), σ') = _
              rw [e3 27 (by decide) (by decide) (by decide) (by decide) (by decide), e3 28 (by decide) (by decide) (by decide) (by decide) (by decide)]
            · rw [if_neg q1, if_neg q1, w_allNoons (w := 46) rfl, bd_some]
        · exact Keep.off [31, 47, 48, 49, 50] [] (by decide) (by decide) (fun j _ hj => e3 j (fun e => hj (by rw [e]; decide)) (fun e => hj (by rw [e]; decide)) (fun e => hj (by rw [e]; decide)) (fun e => hj (by rw [e]; decide)) (fun e => hj (by rw [e]; decide))) (fun j _ => by rw [e3 69 (by decide) (by decide) (by decide) (by decide) (by decide)])
        · exact e3 k (by omega) (by omega) (by omega) (by omega) (by omega)
        · have hp : fX12_pack 105 (0 : Int32) u = some (0, ovl u 105 0 95 (vr u)) := m_pack (s := u) (r := 105) (b := 0) (by decide) (by decide) (by decide) (by decide) (by decide) (by decide) (by decide) (by decide)
          rw [fX12_century, h.1, l64_0, l64_2, m_isIn, bd_some, z0, z2, if_pos hx, if_neg (by decide), l64_60, m_isIn, bd_some, z0, z60, nI_toInt (by omega), if_pos hbb, if_neg (by decide), hp, bd_some]
          dsimp only
          rw [← hu2]
          refine Eq.trans e2 ?_
          rw [hy]
          show (if x = 0 then _ else _) = _
          by_cases q0 : x = 0
          · rw [if_pos q0, if_pos q0, hA2', m_bitsOf hA, bd_some, m1', bd_some, hA4]
          · rw [if_neg q0, if_neg q0]
            by_cases q1 : x = 1
            · have t71 : t' 71 = s 71 := by rw [e4.1 71 (by decide) (by decide) (by decide) (by decide) (by decide) (by decide) (by decide) (by decide), hlm2 71 (Or.inl rfl)]
              have t82 : t' 82 = s 82 := by rw [e4.1 82 (by decide) (by decide) (by decide) (by decide) (by decide) (by decide) (by decide) (by decide), hlm2 82 (Or.inr (by decide))]
              have t83 : t' 83 = s 83 := by rw [e4.1 83 (by decide) (by decide) (by decide) (by decide) (by decide) (by decide) (by decide) (by decide), hlm2 83 (Or.inr (by decide))]
              rw [if_pos q1, if_pos q1, m_ripe (nf := nf) (by rw [t71]; exact hf2) h6, bd_some, m1', bd_some, t82, t83, ripes_rel e5 h6 (fun f hf => (hfl f hf).2.1) (fun f hf => (hfl f hf).2.2.1)]
            · rw [if_neg q1, if_neg q1, m_allNoons, bd_some, m1', bd_some, noons_rel e5]
        · have km1 : KeepM u u2 := KeepM.off [105] [57] (by decide) (by decide) (fun k q1 q2 => u2k k q1 (fun e => q2 (by rw [e]; decide))) (fun j q => u269 j (fun e => q (by rw [e]; decide)))
          have km2 : KeepM u2 t' := KeepM.off [72, 73, 87, 88, 90, 91, 92] [17, 37, 38, 57] (by decide) (by decide) (fun k q1 q2 => e4.1 k q1 (fun e => q2 (by rw [e]; decide)) (fun e => q2 (by rw [e]; decide)) (fun e => q2 (by rw [e]; decide)) (fun e => q2 (by rw [e]; decide)) (fun e => q2 (by rw [e]; decide)) (fun e => q2 (by rw [e]; decide)) (fun e => q2 (by rw [e]; decide))) (fun j q => e4.2 j (fun e => q (by rw [e]; decide)) (fun e => q (by rw [e]; decide)) (fun e => q (by rw [e]; decide)) (fun e => q (by rw [e]; decide)))
          exact (km1.trans km2).trans m2
        · rw [m3 j hj, e4.1 105 (by decide) (by decide) (by decide) (by decide) (by decide) (by decide) (by decide) (by decide), hu2, wr_slot (by decide), ovl_in (by omega) (by omega), Nat.sub_zero, Nat.zero_add]
      obtain ⟨σ', t', y, ⟨f1, f2, f3⟩, -⟩ := main (wr s 69 1 0) s (pre_st (fun _ _ _ => rfl))
      refine gat_scrW (s1 := σ') (a := y) hs f1 f2 f3 (fun u s3 h => ?_)
      obtain ⟨σ2, t2, y2, ⟨g1, -, -⟩, g2, g3, g4⟩ := main u s3 h
      rw [f1] at g1
      cases g1
      exact ⟨t2, g2, g3, g4⟩
    · refine gat_thr (x := 1) hs (Or.inr rfl) (by decide) ?_ (fun u s3 h => ?_)
      · rw [fX11_century, if_neg hx1, if_pos hx2]
        by_cases hb1 : b < 0
        · rw [if_pos hb1]
        · rw [if_neg hb1, if_neg (by rw [i_le, z60]; rw [i_lt, z0] at hb1; omega)]
      · rw [fX12_century, h.1, l64_0, l64_2, m_isIn, bd_some, z0, z2, if_pos hx, if_neg (by decide), l64_60, m_isIn, bd_some, z0, z60, if_neg hbb, if_pos rfl, m_fail]
        rfl
  · refine gat_thr (x := 0) hs (Or.inl rfl) (by decide) ?_ (fun u s3 h => ?_)
    · rw [fX11_century]
      by_cases hx1 : x < 0
      · rw [if_pos hx1]
      · rw [if_neg hx1, if_neg (by rw [i_le, z2]; rw [i_lt, z0] at hx1; omega)]
    · rw [fX12_century, h.1, l64_0, l64_2, m_isIn, bd_some, z0, z2, if_neg hx, if_pos rfl, m_fail]
      rfl
