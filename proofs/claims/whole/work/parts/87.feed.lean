/-! ===== feed ===== -/
theorem sh_ext {X Y : BitVec 32} (h : ∀ i, i < 8 → X.getLsbD i = Y.getLsbD i) : X &&& 255#32 = Y &&& 255#32 := by
  apply BitVec.eq_of_getLsbD_eq
  intro i hi
  rw [BitVec.getLsbD_and, BitVec.getLsbD_and]
  by_cases h8 : i < 8
  · rw [h i h8]
  · have : (255#32).getLsbD i = false := by
      have : ∀ i : Nat, i < 32 → 8 ≤ i → (255#32).getLsbD i = false := by decide +kernel
      exact this i hi (by omega)
    rw [this, Bool.and_false, Bool.and_false]
theorem sh_same (w : Int32) : ∀ i : Nat, i < 4 → (jushr w (nI (24 - 8 * i)) &&& (255 : Int32)) = (jshr w (nI (24 - 8 * i)) &&& (255 : Int32)) := by
  have hc : ∀ i : Nat, i < 4 → ((((nI (24 - 8 * i)).toUInt32 &&& Int32.toUInt32 31).toBitVec % 32).toNat = 24 - 8 * i) ∧ (((nI (24 - 8 * i)) &&& 31).toBitVec.smod 32).toNat = 24 - 8 * i := by decide +kernel
  intro i hi
  obtain ⟨h1, h2⟩ := hc i hi
  apply Int32.toBitVec_inj.mp
  have e1 : (jushr w (nI (24 - 8 * i))).toBitVec = w.toBitVec >>> (24 - 8 * i) := by
    rw [jushr]
    show (w.toUInt32.toBitVec >>> (((nI (24 - 8 * i)).toUInt32 &&& Int32.toUInt32 31).toBitVec % 32)) = _
    rw [BitVec.ushiftRight_eq', h1]
    rfl
  have e2 : (jshr w (nI (24 - 8 * i))).toBitVec = w.toBitVec.sshiftRight (24 - 8 * i) := by
    rw [jshr]
    show BitVec.sshiftRight' w.toBitVec ((nI (24 - 8 * i) &&& 31).toBitVec.smod 32) = _
    rw [BitVec.sshiftRight', h2]
  show (jushr w (nI (24 - 8 * i))).toBitVec &&& 255#32 = (jshr w (nI (24 - 8 * i))).toBitVec &&& 255#32
  rw [e1, e2]
  refine sh_ext (fun j hj => ?_)
  rw [BitVec.getLsbD_ushiftRight, BitVec.getLsbD_sshiftRight]
  have hlt : 24 - 8 * i + j < 32 := by omega
  rw [if_pos hlt]
  have : ¬ 32 ≤ j := by omega
  simp [this]
def wordF (a b c d e : Int32) (k : Nat) : Int32 := if k < 4 then a else if k < 8 then b else if k < 12 then c else if k < 16 then d else e
def byteF (a b c d e : Int32) (k : Nat) : Int32 := jshr (wordF a b c d e k) (nI (24 - 8 * (k % 4))) &&& 255
theorem c_append {s : St} {w : Int32} {tl : Nat} (h : s 0 1 = nI tl) (hl : tl + 4 ≤ 700) : fX11_append w s = some (0, wr (ovl s 1 tl 4 (fun i => jshr w (nI (24 - 8 * i)) &&& 255)) 0 1 (nI (tl + 4))) := by
  have hd : ∀ i : Nat, i < 4 → ¬ ((24 : Int32) - 8 * nI i < 0) ∧ (24 : Int32) - 8 * nI i + -8 = 24 - 8 * nI (i + 1) ∧ (24 : Int32) - 8 * nI i = nI (24 - 8 * i) := by decide +kernel
  have := loopT (fun m i t => fX11_append_L3 w m (24 - 8 * nI i) t) 4 (fun i => wr (ovl s 1 tl i (fun i => jshr w (nI (24 - 8 * i)) &&& 255)) 0 1 (nI (tl + i))) (some (0, wr (ovl s 1 tl 4 (fun i => jshr w (nI (24 - 8 * i)) &&& 255)) 0 1 (nI (tl + 4)))) (fun m i hi => by
    obtain ⟨d1, d2, d3⟩ := hd i hi
    simp only [fX11_append_L3]
    rw [if_neg d1, wr_hit, put_nI (by decide) (by show tl + i < 700; omega), bd_some, d2, d3, sh_same w i hi]
    have q1 : (wr (wr (ovl s 1 tl i (fun i => jshr w (nI (24 - 8 * i)) &&& 255)) 0 1 (nI (tl + i))) 1 (tl + i) (jshr w (nI (24 - 8 * i)) &&& 255)) 0 1 = nI (tl + i) := by rw [wr_slot (by decide), wr_hit]
    rw [q1, zra_1]
    congr 1
    rw [← ovl_succ]
    funext k j
    by_cases hk : k = 0
    · subst hk
      by_cases hj : j = 1
      · subst hj; rw [wr_hit, wr_hit, Nat.add_assoc]
      · rw [wr_place hj, wr_place hj, wr_slot (by decide), wr_place hj, wr_slot (by decide)]
    · rw [wr_slot hk, wr_slot hk]
      by_cases hk1 : k = 1
      · subst hk1
        by_cases hj : j = tl + i
        · subst hj; rw [wr_hit, wr_hit]
        · rw [wr_place hj, wr_place hj, wr_slot (by decide)]
      · rw [wr_slot hk1, wr_slot hk1, wr_slot hk]) (fun m => by
    simp only [fX11_append_L3]
    rw [if_pos (by decide)]) 4 0 FU rfl (by decide)
  have h0 : wr (ovl s 1 tl 0 (fun i => jshr w (nI (24 - 8 * i)) &&& 255)) 0 1 (nI (tl + 0)) = s := by
    rw [ovl_zero, Nat.add_zero, ← h]
    funext k j
    by_cases hk : k = 0 ∧ j = 1
    · rw [hk.1, hk.2, wr_hit]
    · rw [wr, if_neg hk]
  simp only [h0] at this
  exact this
theorem byte_in (x : Int32) : ∃ b, b < 256 ∧ (x &&& (255 : Int32)) = nI b := pk_andE x (m := 255) 8 (by decide)
theorem good_feed (a b c d e : Int32) : Good0 (fX11_feed a b c d e) (fX12_feed a b c d e) := by
  intro s hs
  obtain ⟨n, nw, nf, r1, r2, r3, ⟨⟨tl, t1, t2, t3⟩, t4, t5⟩, r5, r6, r7⟩ := id hs
  have z700 : (700 : Int32) = nI 700 := rfl
  by_cases hfull : tl + 20 ≤ 700
  · have hc : ∃ s1, fX11_feed a b c d e s = some (nI (tl + 20), s1) ∧ (∀ k, k ≠ 0 → k ≠ 1 → s1 k = s k) ∧ (∀ j, j ≠ 1 → s1 0 j = s 0 j) ∧ s1 0 1 = nI (tl + 20) ∧ ∀ j, s1 1 j = if tl ≤ j ∧ j < tl + 20 then byteF a b c d e (j - tl) else s 1 j := by
      have e1 := c_append (w := a) t2 (by omega)
      have e2 := c_append (s := wr (ovl s 1 tl 4 (fun i => jshr a (nI (24 - 8 * i)) &&& 255)) 0 1 (nI (tl + 4))) (w := b) (tl := tl + 4) wr_hit (by omega)
      generalize hS1 : wr (ovl s 1 tl 4 (fun i => jshr a (nI (24 - 8 * i)) &&& 255)) 0 1 (nI (tl + 4)) = S1 at *
      have e3 := c_append (s := wr (ovl S1 1 (tl + 4) 4 (fun i => jshr b (nI (24 - 8 * i)) &&& 255)) 0 1 (nI (tl + 4 + 4))) (w := c) (tl := tl + 4 + 4) wr_hit (by omega)
      generalize hS2 : wr (ovl S1 1 (tl + 4) 4 (fun i => jshr b (nI (24 - 8 * i)) &&& 255)) 0 1 (nI (tl + 4 + 4)) = S2 at *
      have e4 := c_append (s := wr (ovl S2 1 (tl + 4 + 4) 4 (fun i => jshr c (nI (24 - 8 * i)) &&& 255)) 0 1 (nI (tl + 4 + 4 + 4))) (w := d) (tl := tl + 4 + 4 + 4) wr_hit (by omega)
      generalize hS3 : wr (ovl S2 1 (tl + 4 + 4) 4 (fun i => jshr c (nI (24 - 8 * i)) &&& 255)) 0 1 (nI (tl + 4 + 4 + 4)) = S3 at *
      have e5 := c_append (s := wr (ovl S3 1 (tl + 4 + 4 + 4) 4 (fun i => jshr d (nI (24 - 8 * i)) &&& 255)) 0 1 (nI (tl + 4 + 4 + 4 + 4))) (w := e) (tl := tl + 4 + 4 + 4 + 4) wr_hit (by omega)
      generalize hS4 : wr (ovl S3 1 (tl + 4 + 4 + 4) 4 (fun i => jshr d (nI (24 - 8 * i)) &&& 255)) 0 1 (nI (tl + 4 + 4 + 4 + 4)) = S4 at *
      refine ⟨wr (ovl S4 1 (tl + 4 + 4 + 4 + 4) 4 (fun i => jshr e (nI (24 - 8 * i)) &&& 255)) 0 1 (nI (tl + 4 + 4 + 4 + 4 + 4)), ?_, fun k q0 q1 => ?_, fun j hj => ?_, ?_, fun j => ?_⟩
      · rw [fX11_feed, t2, zra_20, if_pos (by rw [z700, nI_leI (by omega) (by omega)]; exact hfull), e1, bd_some, e2, bd_some, e3, bd_some, e4, bd_some, e5, bd_some, wr_hit]
      · rw [wr_slot q0, ovl_slot q1, ← hS4, wr_slot q0, ovl_slot q1, ← hS3, wr_slot q0, ovl_slot q1, ← hS2, wr_slot q0, ovl_slot q1, ← hS1, wr_slot q0, ovl_slot q1]
      · rw [wr_place hj, ovl_slot (by decide), ← hS4, wr_place hj, ovl_slot (by decide), ← hS3, wr_place hj, ovl_slot (by decide), ← hS2, wr_place hj, ovl_slot (by decide), ← hS1, wr_place hj, ovl_slot (by decide)]
      · rw [wr_hit]
      · by_cases hj : tl ≤ j ∧ j < tl + 20
        · rw [if_pos hj, byteF, wordF, wr_slot (by decide)]
          by_cases h5 : tl + 16 ≤ j
          · rw [ovl_in (by omega) (by omega), if_neg (by omega), if_neg (by omega), if_neg (by omega), if_neg (by omega), show 24 - 8 * (j - (tl + 4 + 4 + 4 + 4)) = 24 - 8 * ((j - tl) % 4) by omega]
          · rw [ovl_off (by omega), ← hS4, wr_slot (by decide)]
            by_cases h4 : tl + 12 ≤ j
            · rw [ovl_in (by omega) (by omega), if_neg (by omega), if_neg (by omega), if_neg (by omega), if_pos (by omega), show 24 - 8 * (j - (tl + 4 + 4 + 4)) = 24 - 8 * ((j - tl) % 4) by omega]
            · rw [ovl_off (by omega), ← hS3, wr_slot (by decide)]
              by_cases h3 : tl + 8 ≤ j
              · rw [ovl_in (by omega) (by omega), if_neg (by omega), if_neg (by omega), if_pos (by omega), show 24 - 8 * (j - (tl + 4 + 4)) = 24 - 8 * ((j - tl) % 4) by omega]
              · rw [ovl_off (by omega), ← hS2, wr_slot (by decide)]
                by_cases h2 : tl + 4 ≤ j
                · rw [ovl_in (by omega) (by omega), if_neg (by omega), if_pos (by omega), show 24 - 8 * (j - (tl + 4)) = 24 - 8 * ((j - tl) % 4) by omega]
                · rw [ovl_off (by omega), ← hS1, wr_slot (by decide), ovl_in (by omega) (by omega), if_pos (by omega), show 24 - 8 * (j - tl) = 24 - 8 * ((j - tl) % 4) by omega]
        · rw [if_neg hj, wr_slot (by decide), ovl_off (by omega), ← hS4, wr_slot (by decide), ovl_off (by omega), ← hS3, wr_slot (by decide), ovl_off (by omega), ← hS2, wr_slot (by decide), ovl_off (by omega), ← hS1, wr_slot (by decide), ovl_off (by omega)]
    obtain ⟨s1, c1, c2, c3, c4, c5⟩ := hc
    have hu : (wr s1 69 1 0) 69 19 = nI tl := by rw [wr_place (by decide), c2 69 (by decide) (by decide), t3]
    have hd : ∀ i : Nat, i < 20 → (24 : Int32) - 8 * jrem (nI i) 4 = nI (24 - 8 * (i % 4)) := by decide +kernel
    have hm := loopT (fun m i t => fX12_feed_L23 a b c d e m (nI i) t) 20 (fun i => wr (ovl (wr s1 69 1 0) 86 tl i (byteF a b c d e)) 69 19 (nI (tl + i))) (some (nI (tl + 20), wr (ovl (wr s1 69 1 0) 86 tl 20 (byteF a b c d e)) 69 19 (nI (tl + 20)))) (fun m i hi => by
      have hj : ∀ q0 : Int32, q0 = wordF a b c d e i → fX12_feed_J76 (fX12_feed_L23 a b c d e m) a b c d e (nI i) q0 (wr (ovl (wr s1 69 1 0) 86 tl i (byteF a b c d e)) 69 19 (nI (tl + i))) = fX12_feed_L23 a b c d e m (nI (i + 1)) (wr (ovl (wr s1 69 1 0) 86 tl (i + 1) (byteF a b c d e)) 69 19 (nI (tl + (i + 1)))) := fun q0 hq => by
        rw [fX12_feed_J76, wr_hit, if_pos (inA_lt (by decide) (by omega)), nI_clamp (by omega), hd i hi, zra_1, hq]
        have q1 : (wr (wr (ovl (wr s1 69 1 0) 86 tl i (byteF a b c d e)) 69 19 (nI (tl + i))) 86 (tl + i) (jshr (wordF a b c d e i) (nI (24 - 8 * (i % 4))) &&& 255)) 69 19 = nI (tl + i) := by rw [wr_slot (by decide), wr_hit]
        show fX12_feed_L23 a b c d e m (nI (i + 1)) (wr _ 69 19 ((wr (wr (ovl (wr s1 69 1 0) 86 tl i (byteF a b c d e)) 69 19 (nI (tl + i))) 86 (tl + i) (jshr (wordF a b c d e i) (nI (24 - 8 * (i % 4))) &&& 255)) 69 19 + 1)) = _
        rw [q1, zra_1]
        congr 1
        rw [← ovl_succ]
        funext k j
        by_cases hk : k = 69
        · subst hk
          by_cases hj : j = 19
          · subst hj; rw [wr_hit, wr_hit, Nat.add_assoc]
          · rw [wr_place hj, wr_place hj, wr_slot (by decide), wr_place hj, wr_slot (by decide)]
        · rw [wr_slot hk, wr_slot hk]
          by_cases hk1 : k = 86
          · subst hk1
            by_cases hj : j = tl + i
            · subst hj; rw [wr_hit, wr_hit]; rfl
            · rw [wr_place hj, wr_place hj, wr_slot (by decide)]
          · rw [wr_slot hk1, wr_slot hk1, wr_slot hk]
      simp only [fX12_feed_L23]
      rw [if_neg (by rw [zll_20 _ (by omega)]; omega)]
      by_cases h4 : i < 4
      · rw [if_neg (by rw [zll_4 _ (by omega)]; omega), hj a (by rw [wordF, if_pos h4])]
      · rw [if_pos (by rw [zll_4 _ (by omega)]; omega)]
        by_cases h8 : i < 8
        · rw [if_neg (by rw [zll_8 _ (by omega)]; omega), hj b (by rw [wordF, if_neg h4, if_pos h8])]
        · rw [if_pos (by rw [zll_8 _ (by omega)]; omega)]
          by_cases h12 : i < 12
          · rw [if_neg (by rw [zll_12 _ (by omega)]; omega), hj c (by rw [wordF, if_neg h4, if_neg h8, if_pos h12])]
          · rw [if_pos (by rw [zll_12 _ (by omega)]; omega)]
            have z16 : ((16 : Int32) ≤ nI i) ↔ 16 ≤ i := nI_leI (a := 16) (by decide) (by omega)
            by_cases h16 : i < 16
            · rw [if_neg (by rw [z16]; omega), hj d (by rw [wordF, if_neg h4, if_neg h8, if_neg h12, if_pos h16])]
            · rw [if_pos (by rw [z16]; omega), hj e (by rw [wordF, if_neg h4, if_neg h8, if_neg h12, if_neg h16])]) (fun m => by
      simp only [fX12_feed_L23]
      rw [if_pos (by decide), wr_hit]) 20 0 FU rfl (by decide)
    have h0 : wr (ovl (wr s1 69 1 0) 86 tl 0 (byteF a b c d e)) 69 19 (nI (tl + 0)) = wr s1 69 1 0 := by
      rw [ovl_zero, Nat.add_zero, ← hu]
      funext k j
      by_cases hk : k = 69 ∧ j = 19
      · rw [hk.1, hk.2, wr_hit]
      · rw [wr, if_neg hk]
    simp only [h0] at hm
    refine ⟨nI (tl + 20), s1, wr (ovl (wr s1 69 1 0) 86 tl 20 (byteF a b c d e)) 69 19 (nI (tl + 20)), c1, ?_, ?_⟩
    · rw [fX12_feed, hu, zra_20, if_pos (by rw [z700, nI_leI (by omega) (by omega)]; exact hfull)]
      exact hm
    · have hk : ∀ k, k ≠ 0 → k ≠ 1 → k ≠ 69 → k ≠ 86 → (wr (ovl (wr s1 69 1 0) 86 tl 20 (byteF a b c d e)) 69 19 (nI (tl + 20))) k = s k := fun k q1 q2 q3 q4 => by rw [wr_slot q3, ovl_slot q4, wr_slot q3, c2 k q1 q2]
      have h69 : ∀ j, j ≠ 1 → j ≠ 19 → (wr (ovl (wr s1 69 1 0) 86 tl 20 (byteF a b c d e)) 69 19 (nI (tl + 20))) 69 j = s 69 j := fun j q1 q2 => by rw [wr_place q2, ovl_slot (by decide), wr_place q1, c2 69 (by decide) (by decide)]
      have h00 : ∀ j, j ≠ 1 → (wr (ovl (wr s1 69 1 0) 86 tl 20 (byteF a b c d e)) 69 19 (nI (tl + 20))) 0 j = s 0 j := fun j q1 => by rw [wr_slot (by decide), ovl_slot (by decide), wr_slot (by decide), c3 j q1]
      generalize hT : wr (ovl (wr s1 69 1 0) 86 tl 20 (byteF a b c d e)) 69 19 (nI (tl + 20)) = T at *
      refine ⟨n, nw, nf, ?_, ?_, ?_, ⟨⟨tl + 20, hfull, ?_, ?_⟩, fun i hi => ?_, ?_⟩, ?_, ?_, ?_⟩
      · refine r1.cong ⟨fun k e => ?_, fun j e => (by cases e), fun z e => ?_⟩
        · have q : k ≠ 0 ∧ k ≠ 1 ∧ k ≠ 69 ∧ k ≠ 86 := by revert k; decide
          exact hk k q.1 q.2.1 q.2.2.1 q.2.2.2
        · have q : z.1 ≠ 0 ∧ z.1 ≠ 1 ∧ z.1 ≠ 69 ∧ z.1 ≠ 86 := by revert z; decide
          rw [hk z.1 q.1 q.2.1 q.2.2.1 q.2.2.2]
      · unfold RNow at r2 ⊢
        rw [vr_same (hk 72 (by decide) (by decide) (by decide) (by decide)) (hk 73 (by decide) (by decide) (by decide) (by decide)) (hk 77 (by decide) (by decide) (by decide) (by decide)) (hk 87 (by decide) (by decide) (by decide) (by decide)) (hk 88 (by decide) (by decide) (by decide) (by decide)) (h69 17 (by decide) (by decide)), hk 34 (by decide) (by decide) (by decide) (by decide), hk 35 (by decide) (by decide) (by decide) (by decide), hk 89 (by decide) (by decide) (by decide) (by decide), hk 32 (by decide) (by decide) (by decide) (by decide), h69 32 (by decide) (by decide), hk 36 (by decide) (by decide) (by decide) (by decide), hk 37 (by decide) (by decide) (by decide) (by decide), hk 102 (by decide) (by decide) (by decide) (by decide), hk 103 (by decide) (by decide) (by decide) (by decide), h69 33 (by decide) (by decide), hk 38 (by decide) (by decide) (by decide) (by decide), hk 85 (by decide) (by decide) (by decide) (by decide)]
        exact r2
      · unfold RKept at r3 ⊢
        rw [h00 7 (by decide), h69 58 (by decide) (by decide), hk 41 (by decide) (by decide) (by decide) (by decide), hk 106 (by decide) (by decide) (by decide) (by decide), hk 42 (by decide) (by decide) (by decide) (by decide), hk 107 (by decide) (by decide) (by decide) (by decide), hk 39 (by decide) (by decide) (by decide) (by decide), h69 59 (by decide) (by decide), hk 43 (by decide) (by decide) (by decide) (by decide), hk 44 (by decide) (by decide) (by decide) (by decide), hk 108 (by decide) (by decide) (by decide) (by decide), hk 109 (by decide) (by decide) (by decide) (by decide), h69 60 (by decide) (by decide), hk 45 (by decide) (by decide) (by decide) (by decide), hk 110 (by decide) (by decide) (by decide) (by decide)]
        exact r3
      · rw [← hT, wr_slot (by decide), ovl_slot (by decide), wr_slot (by decide), c4]
      · rw [← hT, wr_hit]
      · have y1 : T 1 i = if tl ≤ i ∧ i < tl + 20 then byteF a b c d e (i - tl) else s 1 i := by rw [← hT, wr_slot (by decide), ovl_slot (by decide), wr_slot (by decide), c5]
        have y2 : T 86 i = if tl ≤ i ∧ i < tl + 20 then byteF a b c d e (i - tl) else s 86 i := by
          rw [← hT, wr_slot (by decide), ovl]
          by_cases h : tl ≤ i ∧ i < tl + 20
          · rw [if_pos ⟨rfl, h⟩, if_pos h]
          · rw [if_neg (fun e => h e.2), if_neg h, wr_slot (by decide), c2 86 (by decide) (by decide)]
        rw [y1, y2]
        by_cases h : tl ≤ i ∧ i < tl + 20
        · rw [if_pos h, if_pos h]
          exact ⟨rfl, byte_in _⟩
        · rw [if_neg h, if_neg h]
          exact t4 i hi
      · rw [h69 28 (by decide) (by decide), h00 2 (by decide)]
        exact t5
      · rw [hk 51 (by decide) (by decide) (by decide) (by decide), h69 44 (by decide) (by decide), hk 56 (by decide) (by decide) (by decide) (by decide), hk 97 (by decide) (by decide) (by decide) (by decide)]
        exact r5
      · unfold RPost at r6 ⊢
        rw [hk 57 (by decide) (by decide) (by decide) (by decide), h69 48 (by decide) (by decide), h69 47 (by decide) (by decide), hk 98 (by decide) (by decide) (by decide) (by decide), hk 59 (by decide) (by decide) (by decide) (by decide)]
        exact r6
      · rw [hk 62 (by decide) (by decide) (by decide) (by decide), h69 51 (by decide) (by decide), hk 64 (by decide) (by decide) (by decide) (by decide), hk 101 (by decide) (by decide) (by decide) (by decide)]
        exact r7
  · refine ⟨-1, s, wr s 69 1 0, ?_, ?_, hs.keep keep_code⟩
    · rw [fX11_feed, t2, zra_20, if_neg (by rw [z700, nI_leI (by omega) (by omega)]; exact hfull)]
    · rw [fX12_feed, wr_place (by decide), t3, zra_20, if_neg (by rw [z700, nI_leI (by omega) (by omega)]; exact hfull)]
