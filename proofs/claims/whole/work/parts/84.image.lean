/-! ===== an image; back to it ===== -/
theorem c_copyRow {s : St} {r0 r1 : Nat} (h0 : LN r0 < 1000000) (h1 : LN r1 < 1000000) (h : LN r0 ≤ LN r1) : fX11_copyRow r0 r1 s = some (0, ovl s r1 0 (LN r0) (s r0)) := by
  rw [fX11_copyRow]
  show bd (fX11_copyCells r0 (nI 0) r1 (nI 0) (nI (LN r0)) s) _ = _
  rw [c_copy h0 h1 (by omega) (by omega), bd_some, cpy_ovl]
theorem m_be {s : St} {r0 r1 : Nat} (h : r1 ≠ r0) (h0 : LN r0 < 20000) (h1 : LN r1 < 1000000) (hl : LN r0 ≤ LN r1) : fX12_be r0 r1 s = some (0, ovl s r0 0 (LN r0) (s r1)) := by
  have := copyL (fun m i t => fX12_be_L2 r0 r1 m (nI i) t) (fun t => some (0, t)) s r0 0 (LN r0) (s r1) (fun m i hi => by
    simp only [fX12_be_L2]
    rw [if_neg (by show ¬ nI (LN r0) ≤ nI i; rw [nI_leI (by omega) (by omega)]; omega), if_pos (inA_lt (by omega) (by omega)), if_pos (inA_lt (by omega) (by omega)), nI_clamp (by omega), ovl_slot h, zra_1, Nat.zero_add]) (fun m t => by
    simp only [fX12_be_L2]
    rw [if_pos (by show nI (LN r0) ≤ nI (LN r0); exact Int32.le_refl _)]) (LN r0) 0 FU (by omega) (by show LN r0 < 20000; omega)
  rw [ovl_zero] at this
  exact this
theorem c_story {s : St} {o o1 : Nat} (hd : o + 7 ≤ o1 ∨ o1 + 7 ≤ o) (a2 : LN (o + 2) = 94) (b2 : LN (o1 + 2) = 94) (a3 : LN (o + 3) = 3760) (b3 : LN (o1 + 3) = 3760) (a4 : LN (o + 4) = 4) (b4 : LN (o1 + 4) = 4) (a5 : LN (o + 5) = 4) (b5 : LN (o1 + 5) = 4) (a6 : LN (o + 6) = 3) (b6 : LN (o1 + 6) = 3) :
    ∃ s', fX8_copyFrom o o1 s = some (0, s') ∧ (∀ j, j < 94 → s' (o + 2) j = s (o1 + 2) j) ∧ (∀ j, j < 3760 → s' (o + 3) j = s (o1 + 3) j) ∧ s' o 2 = s o1 2 ∧ s' o 3 = s o1 3 ∧ s' o 6 = s o1 6 ∧ (∀ j, j < 4 → s' (o + 4) j = s (o1 + 4) j) ∧ (∀ j, j < 4 → s' (o + 5) j = s (o1 + 5) j) ∧ (∀ j, j < 3 → s' (o + 6) j = s (o1 + 6) j) ∧
      ∀ k, k ≠ o → k ≠ o + 2 → k ≠ o + 3 → k ≠ o + 4 → k ≠ o + 5 → k ≠ o + 6 → s' k = s k := by
  refine ⟨_, by (rw [fX8_copyFrom, fX10_copyFrom, c_copyRow (r0 := o1 + 1 + 1) (r1 := o + 1 + 1) (by show LN (o1 + 2) < _; omega) (by show LN (o + 2) < _; omega) (by show LN (o1 + 2) ≤ LN (o + 2); omega), bd_some, bd_some, c_copyRow (by omega) (by omega) (by omega), bd_some]; dsimp only; rw [c_copyRow (by omega) (by omega) (by omega), bd_some, c_copyRow (by omega) (by omega) (by omega), bd_some, c_copyRow (by omega) (by omega) (by omega), bd_some]), ?_, ?_, ?_, ?_, ?_, ?_, ?_, ?_, ?_⟩
  · intro j hj
    rw [ovl_slot (by omega), wr_slot (by omega), ovl_slot (by omega), ovl_slot (by omega), wr_slot (by omega), wr_slot (by omega), ovl_slot (by omega)]
    show ovl s (o + 2) 0 (LN (o1 + 2)) (s (o1 + 2)) (o + 2) j = _
    rw [ovl_in (by omega) (by omega), Nat.sub_zero]
  · intro j hj
    rw [ovl_slot (by omega), wr_slot (by omega), ovl_slot (by omega), ovl_slot (by omega), wr_slot (by omega), wr_slot (by omega), ovl_in (by omega) (by omega), ovl_slot (by omega), Nat.sub_zero]
  · rw [ovl_slot (by omega), wr_place (by omega), ovl_slot (by omega), ovl_slot (by omega), wr_place (by omega), wr_hit, ovl_slot (by omega), ovl_slot (by omega)]
  · rw [ovl_slot (by omega), wr_place (by omega), ovl_slot (by omega), ovl_slot (by omega), wr_hit, wr_slot (by omega), ovl_slot (by omega), ovl_slot (by omega)]
  · rw [ovl_slot (by omega), wr_hit, ovl_slot (by omega), ovl_slot (by omega), wr_slot (by omega), wr_slot (by omega), ovl_slot (by omega), ovl_slot (by omega)]
  · intro j hj
    rw [ovl_slot (by omega), wr_slot (by omega), ovl_slot (by omega), ovl_in (by omega) (by omega), wr_slot (by omega), wr_slot (by omega), ovl_slot (by omega), ovl_slot (by omega), Nat.sub_zero]
  · intro j hj
    rw [ovl_slot (by omega), wr_slot (by omega), ovl_in (by omega) (by omega), ovl_slot (by omega), wr_slot (by omega), wr_slot (by omega), ovl_slot (by omega), ovl_slot (by omega), Nat.sub_zero]
  · intro j hj
    rw [ovl_in (by omega) (by omega), wr_slot (by omega), ovl_slot (by omega), ovl_slot (by omega), wr_slot (by omega), wr_slot (by omega), ovl_slot (by omega), ovl_slot (by omega), Nat.sub_zero]
  · intro k q1 q2 q3 q4 q5 q6
    rw [ovl_slot (by omega), wr_slot (by omega), ovl_slot (by omega), ovl_slot (by omega), wr_slot (by omega), wr_slot (by omega), ovl_slot (by omega), ovl_slot (by omega)]
theorem RPast.cong {ring queue ring' queue' : Nat → Int32} {o a b o' a' b' : Int32} {n : Nat} (h12 : n ≤ 12) (hr : ∀ j, j < 3760 → ring' j = ring j) (hq : ∀ j, j < 3800 → queue' j = queue j) (h1 : o' = o) (h2 : a' = a) (h3 : b' = b) (h : RPast ring queue o a b n) : RPast ring' queue' o' a' b' n := by
  obtain ⟨od, na, ho, hn, g2, g3, g4, old⟩ := h
  refine ⟨od, na, ho, hn, h1.trans g2, h2.trans g3, h3.trans g4, fun i hi => ?_⟩
  have hm : (od + i) % 40 < 40 := Nat.mod_lt _ (by decide)
  have e1 : ∀ j, j < 94 → ring' (94 * ((od + i) % 40) + j) = ring (94 * ((od + i) % 40) + j) := fun j hj => hr _ (by omega)
  have e2 : ∀ j, j < 95 → queue' (95 * i + j) = queue (95 * i + j) := fun j hj => hq _ (by omega)
  exact ⟨(old i hi).1.cong h12 e1 e2, (old i hi).2.cong h12 e1⟩
theorem RSeen.cong {pc mc pm mm pc' mc' pm' mm' : Nat → Int32} {a b a' b' : Int32} (h1 : ∀ j, j < 4 → pc' j = pc j) (h2 : ∀ j, j < 4 → mc' j = mc j) (h3 : ∀ j, j < 4 → pm' j = pm j) (h4 : ∀ j, j < 4 → mm' j = mm j) (h5 : a' = a) (h6 : b' = b) (h : RSeen pc mc pm mm a b) : RSeen pc' mc' pm' mm' a' b' := by
  obtain ⟨ns, hn, g1, g2, g3⟩ := h
  refine ⟨ns, hn, h5.trans g1, h6.trans g2, fun i hi => ?_⟩
  rw [h1 i (by omega), h2 i (by omega), h3 i (by omega), h4 i (by omega)]
  exact g3 i hi
def kS : List Nat := [1, 22, 23, 24, 25, 26, 27, 28, 30, 34, 35, 36, 37, 38, 56, 59, 64, 72, 73, 74, 75, 76, 77, 78, 79, 80, 81, 82, 83, 84, 85, 86, 87, 88, 89, 97, 98, 101, 102, 103]
def kM : List Nat := [17, 19, 28, 32, 33, 44, 47, 48, 51]
def kO : List (Nat × Nat) := [(0, 1), (0, 2), (21, 0), (21, 4), (21, 6), (21, 10), (29, 2), (29, 3), (32, 2), (32, 3), (32, 6), (51, 4), (57, 2), (62, 2), (71, 0), (71, 1), (71, 2), (71, 3), (71, 4)]
theorem RS.kept {s s' : St} (h : KeepL kS kM kO s s') (r : RS s) (hn : ∀ n nw nf, RLand s n nw nf → RNow s n → RKept s' n) : RS s' := by
  have a : ∀ k, kS.contains k = true → s' k = s k := fun k e => h.1 k (List.contains_iff_mem.mp e)
  have m : ∀ j, kM.contains j = true → s' 69 j = s 69 j := fun j e => h.2.1 j (List.contains_iff_mem.mp e)
  have b : ∀ k j, kO.contains (k, j) = true → s' k j = s k j := fun k j e => h.2.2 (k, j) (List.contains_iff_mem.mp e)
  obtain ⟨n, nw, nf, r1, r2, r3, r4, r5, r6, r7⟩ := r
  refine ⟨n, nw, nf, r1.cong ⟨fun k e => h.1 k ?_, fun j e => (by cases e), fun q e => h.2.2 q ?_⟩, ?_, hn n nw nf r1 r2, ?_, ?_, ?_, ?_⟩
  · revert k; decide
  · revert q; decide
  · unfold RNow at r2 ⊢
    rw [vr_same (a 72 rfl) (a 73 rfl) (a 77 rfl) (a 87 rfl) (a 88 rfl) (m 17 rfl), a 34 rfl, a 35 rfl, a 89 rfl, b 32 2 rfl, b 32 3 rfl, m 32 rfl, a 36 rfl, a 37 rfl, a 102 rfl, a 103 rfl, b 32 6 rfl, m 33 rfl, a 38 rfl, a 85 rfl]
    exact r2
  · unfold RTape at r4 ⊢
    rw [b 0 1 rfl, m 19 rfl, a 86 rfl, a 1 rfl, m 28 rfl, b 0 2 rfl]
    exact r4
  · rw [b 51 4 rfl, m 44 rfl, a 56 rfl, a 97 rfl]
    exact r5
  · unfold RPost at r6 ⊢
    rw [b 57 2 rfl, m 48 rfl, m 47 rfl, a 98 rfl, a 59 rfl]
    exact r6
  · rw [b 62 2 rfl, m 51 rfl, a 64 rfl, a 101 rfl]
    exact r7
theorem good_image : Good0 fX11_image fX12_image := by
  intro s hs
  obtain ⟨s1, c1, c2, c3, c4, c5, c6, c7, c8, c9, c10⟩ := c_story (s := s) (o := 39) (o1 := 32) (by decide) rfl rfl rfl rfl rfl rfl rfl rfl rfl rfl
  have hv : ∀ {v1 v2 v3 v4 : Int32}, vr (wr (wr (wr (wr (wr s1 0 7 1) 69 1 v1) 69 58 v2) 69 59 v3) 69 60 v4) = vr s := by
    intro v1 v2 v3 v4
    have hk : ∀ k, k ≠ 69 → k ≠ 0 → (∀ x ∈ [39, 41, 42, 43, 44, 45], k ≠ x) → (wr (wr (wr (wr (wr s1 0 7 1) 69 1 v1) 69 58 v2) 69 59 v3) 69 60 v4) k = s k := fun k q1 q2 q3 => by
      rw [wr_slot q1, wr_slot q1, wr_slot q1, wr_slot q1, wr_slot q2, c10 k (q3 39 (by decide)) (q3 41 (by decide)) (q3 42 (by decide)) (q3 43 (by decide)) (q3 44 (by decide)) (q3 45 (by decide))]
    refine vr_same (hk _ (by decide) (by decide) (by decide)) (hk _ (by decide) (by decide) (by decide)) (hk _ (by decide) (by decide) (by decide)) (hk _ (by decide) (by decide) (by decide)) (hk _ (by decide) (by decide) (by decide)) ?_
    rw [wr_place (by decide), wr_place (by decide), wr_place (by decide), wr_place (by decide), wr_slot (by decide), c10 69 (by decide) (by decide) (by decide) (by decide) (by decide) (by decide)]
  have hc : fX11_image s = some (0, wr s1 0 7 1) := by rw [fX11_image, c1, bd_some]
  have s69 : (wr s1 0 7 1) 69 = s 69 := by rw [wr_slot (by decide), c10 69 (by decide) (by decide) (by decide) (by decide) (by decide) (by decide)]
  have x1 : ∀ v, (wr (wr (wr s1 0 7 1) 69 1 0) 69 58 v) 69 32 = s 69 32 := fun v => by rw [wr_place (by decide), wr_place (by decide), s69]
  have x2 : ∀ v w, (wr (wr (wr (wr s1 0 7 1) 69 1 0) 69 58 v) 69 59 w) 69 33 = s 69 33 := fun v w => by rw [wr_place (by decide), wr_place (by decide), wr_place (by decide), s69]
  generalize hU : wr (wr (wr (wr (wr s1 0 7 1) 69 1 0) 69 58 1) 69 59 (s 69 32)) 69 60 (s 69 33) = U at *
  have hvU : vr U = vr s := by rw [← hU]; exact hv
  have hU69 : ∀ j, j ≠ 1 → j ≠ 58 → j ≠ 59 → j ≠ 60 → U 69 j = s 69 j := fun j a b c d => by rw [← hU, wr_place d, wr_place c, wr_place b, wr_place a, s69]
  have hUk : ∀ k, k ≠ 69 → k ≠ 0 → U k = s1 k := fun k a b => by rw [← hU, wr_slot a, wr_slot a, wr_slot a, wr_slot a, wr_slot b]
  have hUs : ∀ k, k ≠ 69 → k ≠ 0 → (∀ x ∈ [39, 41, 42, 43, 44, 45], k ≠ x) → U k = s k := fun k q1 q2 q3 => by
    rw [hUk k q1 q2, c10 k (q3 39 (by decide)) (q3 41 (by decide)) (q3 42 (by decide)) (q3 43 (by decide)) (q3 44 (by decide)) (q3 45 (by decide))]
  refine ⟨0, _, ovl (ovl (ovl (ovl (ovl U 106 0 95 (vr U)) 107 0 3800 (U 89)) 108 0 4 (U 102)) 109 0 4 (U 103)) 110 0 3 (U 85), hc, ?_, ?_⟩
  · rw [fX12_image]
    simp only [x1, x2, hU]
    have hp : fX12_pack 106 (0 : Int32) U = some (0, ovl U 106 0 95 (vr U)) := m_pack (s := U) (r := 106) (b := 0) (by decide) (by decide) (by decide) (by decide) (by decide) (by decide) (by decide) (by decide)
    rw [hp, bd_some, m_be (by decide) (by decide) (by decide) (by decide), bd_some, m_be (by decide) (by decide) (by decide) (by decide), bd_some, m_be (by decide) (by decide) (by decide) (by decide), bd_some, m_be (by decide) (by decide) (by decide) (by decide), bd_some]
    rw [ovl_slot (k := 89) (by decide), ovl_slot (k := 102) (by decide), ovl_slot (k := 102) (by decide), ovl_slot (k := 103) (by decide), ovl_slot (k := 103) (by decide), ovl_slot (k := 103) (by decide), ovl_slot (k := 85) (by decide), ovl_slot (k := 85) (by decide), ovl_slot (k := 85) (by decide), ovl_slot (k := 85) (by decide)]
    rfl
  · have hW : ∀ k, k ≠ 106 → k ≠ 107 → k ≠ 108 → k ≠ 109 → k ≠ 110 → (ovl (ovl (ovl (ovl (ovl U 106 0 95 (vr U)) 107 0 3800 (U 89)) 108 0 4 (U 102)) 109 0 4 (U 103)) 110 0 3 (U 85)) k = U k := fun k a b c d e => by rw [ovl_slot e, ovl_slot d, ovl_slot c, ovl_slot b, ovl_slot a]
    refine hs.kept ⟨fun k e => ?_, fun j e => ?_, fun z e => ?_⟩ (fun n nw nf r1 r2 => ?_)
    · have hk : k ≠ 106 ∧ k ≠ 107 ∧ k ≠ 108 ∧ k ≠ 109 ∧ k ≠ 110 ∧ k ≠ 69 ∧ k ≠ 0 ∧ ∀ x ∈ [39, 41, 42, 43, 44, 45], k ≠ x := by revert k; decide
      rw [hW k hk.1 hk.2.1 hk.2.2.1 hk.2.2.2.1 hk.2.2.2.2.1, hUs k hk.2.2.2.2.2.1 hk.2.2.2.2.2.2.1 hk.2.2.2.2.2.2.2]
    · have hj : j ≠ 1 ∧ j ≠ 58 ∧ j ≠ 59 ∧ j ≠ 60 := by revert j; decide
      rw [hW 69 (by decide) (by decide) (by decide) (by decide) (by decide), hU69 j hj.1 hj.2.1 hj.2.2.1 hj.2.2.2]
    · have hz : z.1 ≠ 106 ∧ z.1 ≠ 107 ∧ z.1 ≠ 108 ∧ z.1 ≠ 109 ∧ z.1 ≠ 110 ∧ z.1 ≠ 69 ∧ (∀ x ∈ [39, 41, 42, 43, 44, 45], z.1 ≠ x) ∧ (z.1 = 0 → z.2 ≠ 7) := by revert z; decide
      rw [hW z.1 hz.1 hz.2.1 hz.2.2.1 hz.2.2.2.1 hz.2.2.2.2.1]
      by_cases h0 : z.1 = 0
      · rw [h0, ← hU, wr_slot (by decide), wr_slot (by decide), wr_slot (by decide), wr_slot (by decide), wr_place (hz.2.2.2.2.2.2.2 h0), c10 0 (by decide) (by decide) (by decide) (by decide) (by decide) (by decide)]
      · rw [hUs z.1 hz.2.2.2.2.2.1 h0 hz.2.2.2.2.2.2.1]
    · obtain ⟨w1, w2, w3, w4, w5⟩ := r2
      have h12 : n ≤ 12 := r1.1.2.2
      have i39 : ∀ j, (ovl (ovl (ovl (ovl (ovl U 106 0 95 (vr U)) 107 0 3800 (U 89)) 108 0 4 (U 102)) 109 0 4 (U 103)) 110 0 3 (U 85)) 39 j = s1 39 j := fun j => by rw [hW 39 (by decide) (by decide) (by decide) (by decide) (by decide), hUk 39 (by decide) (by decide)]
      refine Or.inr ⟨?_, ?_, ?_, ?_, ?_, ?_, ?_⟩
      · rw [hW 0 (by decide) (by decide) (by decide) (by decide) (by decide), ← hU, wr_slot (by decide), wr_slot (by decide), wr_slot (by decide), wr_slot (by decide), wr_hit]
      · rw [hW 69 (by decide) (by decide) (by decide) (by decide) (by decide), ← hU, wr_place (by decide), wr_place (by decide), wr_hit]
      · refine w1.cong h12 (fun j hj => ?_) (fun j hj => ?_)
        · rw [hW 41 (by decide) (by decide) (by decide) (by decide) (by decide), hUk 41 (by decide) (by decide), c2 j hj]
        · rw [ovl_slot (by decide), ovl_slot (by decide), ovl_slot (by decide), ovl_slot (by decide), ovl_in (by omega) (by omega), hvU, Nat.sub_zero]
      · refine w2.cong h12 (fun j hj => ?_)
        rw [hW 41 (by decide) (by decide) (by decide) (by decide) (by decide), hUk 41 (by decide) (by decide), c2 j hj]
      · refine w3.cong h12 (fun j hj => ?_) (fun j hj => ?_) ((i39 2).trans c4) ((i39 3).trans c5) ?_
        · rw [hW 42 (by decide) (by decide) (by decide) (by decide) (by decide), hUk 42 (by decide) (by decide), c3 j hj]
        · rw [ovl_slot (by decide), ovl_slot (by decide), ovl_slot (by decide), ovl_in (by omega) (by omega), Nat.sub_zero, hUs 89 (by decide) (by decide) (by decide)]
        · rw [hW 69 (by decide) (by decide) (by decide) (by decide) (by decide), ← hU, wr_place (by decide), wr_hit]
      · refine w4.cong (fun j hj => ?_) (fun j hj => ?_) (fun j hj => ?_) (fun j hj => ?_) ((i39 6).trans c6) ?_
        · rw [hW 43 (by decide) (by decide) (by decide) (by decide) (by decide), hUk 43 (by decide) (by decide), c7 j hj]
        · rw [hW 44 (by decide) (by decide) (by decide) (by decide) (by decide), hUk 44 (by decide) (by decide), c8 j hj]
        · rw [ovl_slot (by decide), ovl_slot (by decide), ovl_in (by omega) (by omega), Nat.sub_zero, hUs 102 (by decide) (by decide) (by decide)]
        · rw [ovl_slot (by decide), ovl_in (by omega) (by omega), Nat.sub_zero, hUs 103 (by decide) (by decide) (by decide)]
        · rw [hW 69 (by decide) (by decide) (by decide) (by decide) (by decide), ← hU, wr_hit]
      · intro j hj
        rw [hW 45 (by decide) (by decide) (by decide) (by decide) (by decide), hUk 45 (by decide) (by decide), c9 j hj, ovl_in (by omega) (by omega), Nat.sub_zero, hUs 85 (by decide) (by decide) (by decide)]
        exact w5 j hj
theorem good_restore : Good0 fX11_restore fX12_restore := by
  intro s hs
  obtain ⟨n, nw, nf, r1, r2, r3, -⟩ := id hs
  have h12 : n ≤ 12 := r1.1.2.2
  rcases r3 with ⟨k1, k2⟩ | ⟨k1, k2, w1, w2, w3, w4, w5⟩
  · exact ⟨0, s, wr s 69 1 0, by rw [fX11_restore, if_pos k1], by rw [fX12_restore, wr_place (by decide), if_pos k2], hs.keep keep_code⟩
  · obtain ⟨s1, c1, c2, c3, c4, c5, c6, c7, c8, c9, c10⟩ := c_story (s := s) (o := 32) (o1 := 39) (by decide) rfl rfl rfl rfl rfl rfl rfl rfl rfl rfl
    have s69 : s1 69 = s 69 := c10 69 (by decide) (by decide) (by decide) (by decide) (by decide) (by decide)
    have hc : fX11_restore s = some (1, s1) := by rw [fX11_restore, if_neg (by rw [k1]; decide), c1, bd_some]
    have x0 : (wr s1 69 1 0) 69 58 = 1 := by rw [wr_place (by decide), s69, k2]
    have x1 : (wr s1 69 1 0) 69 59 = s 69 59 := by rw [wr_place (by decide), s69]
    have x2 : (wr (wr s1 69 1 0) 69 32 (s 69 59)) 69 60 = s 69 60 := by rw [wr_place (by decide), wr_place (by decide), s69]
    obtain ⟨t, m1, m2, m3, m4, m5⟩ := m_unpack (s := wr (wr (wr s1 69 1 0) 69 32 (s 69 59)) 69 33 (s 69 60)) (r := 106) (b := 0) (by decide) (by decide) (by decide) (by decide) (by decide) (by decide) (by decide) (by decide)
    have tk : ∀ x, x ≠ 72 → x ≠ 73 → x ≠ 77 → x ≠ 87 → x ≠ 88 → x ≠ 69 → t x = s1 x := fun x a1 a2 a3 a4 a5 a6 => by rw [m4 x a1 a2 a3 a4 a5 a6, wr_slot a6, wr_slot a6, wr_slot a6]
    have ts : ∀ x, x ≠ 72 → x ≠ 73 → x ≠ 77 → x ≠ 87 → x ≠ 88 → x ≠ 69 → (∀ y ∈ [32, 34, 35, 36, 37, 38], x ≠ y) → t x = s x := fun x a1 a2 a3 a4 a5 a6 q3 => by
      rw [tk x a1 a2 a3 a4 a5 a6, c10 x (q3 32 (by decide)) (q3 34 (by decide)) (q3 35 (by decide)) (q3 36 (by decide)) (q3 37 (by decide)) (q3 38 (by decide))]
    refine ⟨1, s1, ovl (ovl (ovl (ovl t 89 0 3800 (t 107)) 102 0 4 (t 108)) 103 0 4 (t 109)) 85 0 3 (t 110), hc, ?_, ?_⟩
    · rw [fX12_restore, x0, if_neg (by decide)]
      simp only [x1, x2]
      show bd (fX12_unpack 106 (nI 0) _) _ = _
      rw [m1, bd_some, m_be (by decide) (by decide) (by decide) (by decide), bd_some, m_be (by decide) (by decide) (by decide) (by decide), bd_some, m_be (by decide) (by decide) (by decide) (by decide), bd_some, m_be (by decide) (by decide) (by decide) (by decide), bd_some]
      rw [ovl_slot (k := 108) (by decide), ovl_slot (k := 109) (by decide), ovl_slot (k := 109) (by decide), ovl_slot (k := 110) (by decide), ovl_slot (k := 110) (by decide), ovl_slot (k := 110) (by decide)]
      rfl
    · have hW : ∀ k, k ≠ 89 → k ≠ 102 → k ≠ 103 → k ≠ 85 → (ovl (ovl (ovl (ovl t 89 0 3800 (t 107)) 102 0 4 (t 108)) 103 0 4 (t 109)) 85 0 3 (t 110)) k = t k := fun k a b c d => by rw [ovl_slot d, ovl_slot c, ovl_slot b, ovl_slot a]
      have hWv : vr (ovl (ovl (ovl (ovl t 89 0 3800 (t 107)) 102 0 4 (t 108)) 103 0 4 (t 109)) 85 0 3 (t 110)) = vr t := vr_same (hW _ (by decide) (by decide) (by decide) (by decide)) (hW _ (by decide) (by decide) (by decide) (by decide)) (hW _ (by decide) (by decide) (by decide) (by decide)) (hW _ (by decide) (by decide) (by decide) (by decide)) (hW _ (by decide) (by decide) (by decide) (by decide)) (by rw [hW 69 (by decide) (by decide) (by decide) (by decide)])
      have i32 : ∀ j, (ovl (ovl (ovl (ovl t 89 0 3800 (t 107)) 102 0 4 (t 108)) 103 0 4 (t 109)) 85 0 3 (t 110)) 32 j = s1 32 j := fun j => by rw [hW 32 (by decide) (by decide) (by decide) (by decide), tk 32 (by decide) (by decide) (by decide) (by decide) (by decide) (by decide)]
      refine hs.now ⟨fun x e => ?_, fun j e => ?_, fun z e => ?_⟩ (fun n' nw' nf' r1' _ => ?_)
      · have hx : (x ≠ 72 ∧ x ≠ 73 ∧ x ≠ 77 ∧ x ≠ 87 ∧ x ≠ 88 ∧ x ≠ 69 ∧ (∀ y ∈ [32, 34, 35, 36, 37, 38], x ≠ y)) ∧ x ≠ 89 ∧ x ≠ 102 ∧ x ≠ 103 ∧ x ≠ 85 := by revert x; decide
        obtain ⟨⟨a1, a2, a3, a4, a5, a6, a7⟩, b1, b2, b3, b4⟩ := hx
        rw [hW x b1 b2 b3 b4, ts x a1 a2 a3 a4 a5 a6 a7]
      · have hj : j ≠ 17 ∧ j ≠ 1 ∧ j ≠ 32 ∧ j ≠ 33 := by revert j; decide
        rw [hW 69 (by decide) (by decide) (by decide) (by decide), m5 j hj.1, wr_place hj.2.2.2, wr_place hj.2.2.1, wr_place hj.2.1, s69]
      · have hz : (z.1 ≠ 72 ∧ z.1 ≠ 73 ∧ z.1 ≠ 77 ∧ z.1 ≠ 87 ∧ z.1 ≠ 88 ∧ z.1 ≠ 69 ∧ (∀ y ∈ [32, 34, 35, 36, 37, 38], z.1 ≠ y)) ∧ z.1 ≠ 89 ∧ z.1 ≠ 102 ∧ z.1 ≠ 103 ∧ z.1 ≠ 85 := by revert z; decide
        obtain ⟨⟨a1, a2, a3, a4, a5, a6, a7⟩, b1, b2, b3, b4⟩ := hz
        rw [hW z.1 b1 b2 b3 b4, ts z.1 a1 a2 a3 a4 a5 a6 a7]
      · have hnn : nI n' = nI n := r1'.1.1.symm.trans r1.1.1
        obtain rfl : n' = n := (nI_eq (by have := r1'.1.2.2; omega) (by omega)).mp hnn
        have c34 : ∀ j, j < 94 → (ovl (ovl (ovl (ovl t 89 0 3800 (t 107)) 102 0 4 (t 108)) 103 0 4 (t 109)) 85 0 3 (t 110)) 34 j = s 41 j := fun j hj => by rw [hW 34 (by decide) (by decide) (by decide) (by decide), tk 34 (by decide) (by decide) (by decide) (by decide) (by decide) (by decide), c2 j hj]
        refine ⟨?_, w2.cong h12 c34, ?_, ?_, ?_⟩
        · rw [hWv]
          refine w1.cong h12 c34 (fun j hj => ?_)
          rw [m3 j hj, wr_slot (by decide), wr_slot (by decide), wr_slot (by decide), c10 106 (by decide) (by decide) (by decide) (by decide) (by decide) (by decide), Nat.zero_add]
        · refine w3.cong h12 (fun j hj => ?_) (fun j hj => ?_) ((i32 2).trans c4) ((i32 3).trans c5) ?_
          · rw [hW 35 (by decide) (by decide) (by decide) (by decide), tk 35 (by decide) (by decide) (by decide) (by decide) (by decide) (by decide), c3 j hj]
          · rw [ovl_slot (by decide), ovl_slot (by decide), ovl_slot (by decide), ovl_in (by omega) (by omega), Nat.sub_zero, ts 107 (by decide) (by decide) (by decide) (by decide) (by decide) (by decide) (by decide)]
          · rw [hW 69 (by decide) (by decide) (by decide) (by decide), m5 32 (by decide), wr_place (by decide), wr_hit]
        · refine w4.cong (fun j hj => ?_) (fun j hj => ?_) (fun j hj => ?_) (fun j hj => ?_) ((i32 6).trans c6) ?_
          · rw [hW 36 (by decide) (by decide) (by decide) (by decide), tk 36 (by decide) (by decide) (by decide) (by decide) (by decide) (by decide), c7 j hj]
          · rw [hW 37 (by decide) (by decide) (by decide) (by decide), tk 37 (by decide) (by decide) (by decide) (by decide) (by decide) (by decide), c8 j hj]
          · rw [ovl_slot (by decide), ovl_slot (by decide), ovl_in (by omega) (by omega), Nat.sub_zero, ts 108 (by decide) (by decide) (by decide) (by decide) (by decide) (by decide) (by decide)]
          · rw [ovl_slot (by decide), ovl_in (by omega) (by omega), Nat.sub_zero, ts 109 (by decide) (by decide) (by decide) (by decide) (by decide) (by decide) (by decide)]
          · rw [hW 69 (by decide) (by decide) (by decide) (by decide), m5 33 (by decide), wr_hit]
        · intro j hj
          rw [hW 38 (by decide) (by decide) (by decide) (by decide), tk 38 (by decide) (by decide) (by decide) (by decide) (by decide) (by decide), c9 j hj, ovl_in (by omega) (by omega), Nat.sub_zero, ts 110 (by decide) (by decide) (by decide) (by decide) (by decide) (by decide) (by decide)]
          exact w5 j hj
