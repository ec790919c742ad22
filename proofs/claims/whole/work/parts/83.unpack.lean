/-! ===== a row unpacked; undo ===== -/
section UNPACK
variable {s : St} {r b : Nat}
theorem unpack_48 (kk : St → Option (Int32 × St)) (hr : r ≠ 72) (hL : b + 48 ≤ LN r) (hb : LN r < 1000000) : fX12_unpack_L5 kk r (nI b) FU 0 s = kk (ovl s 72 0 48 (fun j => s r (b + j))) := by
  have := copyL (fun m i t => fX12_unpack_L5 kk r (nI b) m (nI i) t) kk s 72 0 48 (fun j => s r (b + j)) (fun m i hi => by
    simp only [fX12_unpack_L5]
    rw [if_neg (by rw [zll_48 _ (by omega)]; omega), nI_add, if_pos (inA_lt (by omega) (by omega)), if_pos (inA_lt (by decide) (by omega)), nI_clamp (by omega), nI_clamp (by omega), ovl_slot hr, zra_1, Nat.zero_add]) (fun m t => by
    simp only [fX12_unpack_L5]
    rw [if_pos (by decide)]) 48 0 FU rfl (by decide)
  rw [ovl_zero] at this
  exact this
theorem unpack_12 (kk : St → Option (Int32 × St)) (hr : r ≠ 87) (hL : b + 12 ≤ LN r) (hb : LN r < 1000000) : fX12_unpack_L85 kk r (nI b) FU 0 s = kk (ovl s 87 0 12 (fun j => s r (b + j))) := by
  have := copyL (fun m i t => fX12_unpack_L85 kk r (nI b) m (nI i) t) kk s 87 0 12 (fun j => s r (b + j)) (fun m i hi => by
    simp only [fX12_unpack_L85]
    rw [if_neg (by rw [zll_12 _ (by omega)]; omega), nI_add, if_pos (inA_lt (by omega) (by omega)), if_pos (inA_lt (by decide) (by omega)), nI_clamp (by omega), nI_clamp (by omega), ovl_slot hr, zra_1, Nat.zero_add]) (fun m t => by
    simp only [fX12_unpack_L85]
    rw [if_pos (by decide)]) 12 0 FU rfl (by decide)
  rw [ovl_zero] at this
  exact this
theorem unpack_10 (hr : r ≠ 88) (hL : b + 11 ≤ LN r) (hb : LN r < 1000000) : fX12_unpack_L117 r (nI b) FU 0 s = some (0, wr (ovl s 88 0 10 (fun j => s r (b + j))) 69 17 (s r (b + 10))) := by
  have := copyL (fun m i t => fX12_unpack_L117 r (nI b) m (nI i) t) (fun t => some (0, wr t 69 17 (t r (b + 10)))) s 88 0 10 (fun j => s r (b + j)) (fun m i hi => by
    simp only [fX12_unpack_L117]
    rw [if_neg (by rw [zll_10 _ (by omega)]; omega), nI_add, if_pos (inA_lt (by omega) (by omega)), if_pos (inA_lt (by decide) (by omega)), nI_clamp (by omega), nI_clamp (by omega), ovl_slot hr, zra_1, Nat.zero_add]) (fun m t => by
    simp only [fX12_unpack_L117]
    rw [if_pos (by decide), zra_10, if_pos (inA_lt (by omega) (by omega)), nI_clamp (by omega)]) 10 0 FU rfl (by decide)
  rw [ovl_zero] at this
  rw [ovl_slot hr] at this
  exact this
def ou2 (s : St) (r b i : Nat) : St := fun k j => if k = 77 ∧ j < i then s r (b + 12 + j) else if k = 73 ∧ j < i then s r (b + j) else s k j
theorem ou2_slot {i k : Nat} (h : k ≠ 73) (h' : k ≠ 77) : ou2 s r b i k = s k := by
  funext j
  rw [ou2, if_neg (fun e => h' e.1), if_neg (fun e => h e.1)]
theorem ou2_77 {i j : Nat} (h : j < i) : ou2 s r b i 77 j = s r (b + 12 + j) := by rw [ou2, if_pos ⟨rfl, h⟩]
theorem ou2_73 {i j : Nat} (h : j < i) : ou2 s r b i 73 j = s r (b + j) := by rw [ou2, if_neg (fun e => absurd e.1 (by decide)), if_pos ⟨rfl, h⟩]
theorem ou2_succ {i : Nat} : wr (wr (ou2 s r b i) 73 i (s r (b + i))) 77 i (s r (b + 12 + i)) = ou2 s r b (i + 1) := by
  funext k j
  by_cases hk : k = 77
  · subst hk
    by_cases hj : j = i
    · subst hj; rw [wr_hit, ou2_77 (by omega)]
    · rw [wr_place hj, wr_slot (by decide), ou2, ou2]
      by_cases h : j < i
      · rw [if_pos ⟨rfl, h⟩, if_pos ⟨rfl, (by omega : j < i + 1)⟩]
      · rw [if_neg (fun e => h e.2), if_neg (fun e => absurd e.1 (by decide)), if_neg (fun e => h (by omega)), if_neg (fun e => absurd e.1 (by decide))]
  · rw [wr_slot hk]
    by_cases hk3 : k = 73
    · subst hk3
      by_cases hj : j = i
      · subst hj; rw [wr_hit, ou2_73 (by omega)]
      · rw [wr_place hj, ou2, ou2]
        by_cases h : j < i
        · rw [if_neg (fun e => absurd e.1 (by decide)), if_pos ⟨rfl, h⟩, if_neg (fun e => absurd e.1 (by decide)), if_pos ⟨rfl, (by omega : j < i + 1)⟩]
        · rw [if_neg (fun e => absurd e.1 (by decide)), if_neg (fun e => h e.2), if_neg (fun e => absurd e.1 (by decide)), if_neg (fun e => h (by omega))]
    · rw [wr_slot hk3, ou2_slot hk3 hk, ou2_slot hk3 hk]
theorem unpack_24 (kk : St → Option (Int32 × St)) (hr : r ≠ 73) (hr2 : r ≠ 77) (hL : b + 24 ≤ LN r) (hb : LN r < 1000000) : fX12_unpack_L37 kk r (nI b) FU 0 s = kk (ou2 s r b 12) := by
  have := loopT (fun m i t => fX12_unpack_L37 kk r (nI b) m (nI i) t) 12 (ou2 s r b) (kk (ou2 s r b 12)) (fun m i hi => by
    simp only [fX12_unpack_L37]
    rw [if_neg (by rw [zll_12 _ (by omega)]; omega), nI_add, if_pos (inA_lt (by omega) (by omega)), if_pos (inA_lt (by decide) (by omega)), zra_12, nI_add, if_pos (inA_lt (by omega) (by omega)), if_pos (inA_lt (by decide) (by omega)), nI_clamp (by omega), nI_clamp (by omega), nI_clamp (by omega), wr_slot hr, ou2_slot hr hr2, ou2_succ, zra_1]) (fun m => by
    simp only [fX12_unpack_L37]
    rw [if_pos (by decide)]) 12 0 FU rfl (by decide)
  have h0 : ou2 s r b 0 = s := by
    funext k j
    rw [ou2, if_neg (by omega), if_neg (by omega)]
  rw [h0] at this
  exact this
theorem KeepM.slot2 {s t : St} (e : ∀ k, k ≠ 73 → k ≠ 77 → t k = s k) : KeepM s t := by
  refine ⟨fun k h => e k (fun q => ?_) (fun q => ?_), fun j _ _ => by rw [e 69 (by decide) (by decide)], fun k j h => by rw [e k (fun q => by subst q; rw [relO_off rfl] at h; cases h) (fun q => by subst q; rw [relO_off rfl] at h; cases h)], e 111 (by decide) (by decide), by rw [e 69 (by decide) (by decide)]⟩
  · subst q; cases h
  · subst q; cases h
theorem m_unpack (h1 : r ≠ 72) (h2 : r ≠ 73) (h3 : r ≠ 77) (h4 : r ≠ 87) (h5 : r ≠ 88) (h6 : r ≠ 69) (hL : b + 95 ≤ LN r) (hb : LN r < 1000000) : ∃ t, fX12_unpack r (nI b) s = some (0, t) ∧ KeepM s t ∧ (∀ j, j < 95 → vr t j = s r (b + j)) ∧ (∀ k, k ≠ 72 → k ≠ 73 → k ≠ 77 → k ≠ 87 → k ≠ 88 → k ≠ 69 → t k = s k) ∧ ∀ j, j ≠ 17 → t 69 j = s 69 j := by
  have e48 : b + 48 + 24 + 12 + 10 = b + 94 := by omega
  refine ⟨_, by rw [fX12_unpack, zra_48, show nI (b + 48) + (24 : Int32) = nI (b + 48 + 24) from nI_add _ 24, zra_12, unpack_48 _ h1 (by omega) hb, unpack_24 _ h2 h3 (by omega) hb, unpack_12 _ h4 (by omega) hb, unpack_10 h5 (by omega) hb], ?_, fun j hj => ?_, fun k q1 q2 q3 q4 q5 q6 => ?_, fun j hj => ?_⟩
  · refine KeepM.trans (KeepM.trans (KeepM.trans (KeepM.trans (KeepM.slot (z := 72) rfl (by decide) (by decide) (relO_off rfl) (fun k hk => ovl_slot hk)) (KeepM.slot2 (fun k q1 q2 => ou2_slot q1 q2))) (KeepM.slot (z := 87) rfl (by decide) (by decide) (relO_off rfl) (fun k hk => ovl_slot hk))) (KeepM.slot (z := 88) rfl (by decide) (by decide) (relO_off rfl) (fun k hk => ovl_slot hk))) (KeepM.put (Or.inr rfl) (by decide))
  · rw [vr, wr_slot (k' := 72) (by decide), wr_slot (k' := 73) (by decide), wr_slot (k' := 77) (by decide), wr_slot (k' := 87) (by decide), wr_slot (k' := 88) (by decide), wr_hit]
    have o1 : ovl s 72 0 48 (fun j => s r (b + j)) r = s r := ovl_slot h1
    have o2 : ou2 (ovl s 72 0 48 (fun j => s r (b + j))) r (b + 48) 12 r = s r := by rw [ou2_slot h2 h3, o1]
    have o3 : ovl (ou2 (ovl s 72 0 48 (fun j => s r (b + j))) r (b + 48) 12) 87 0 12 (fun j => ou2 (ovl s 72 0 48 (fun j => s r (b + j))) r (b + 48) 12 r (b + 48 + 24 + j)) r = s r := by rw [ovl_slot h4, o2]
    rw [o3]
    by_cases q1 : j < 48
    · rw [if_pos q1, ovl_slot (by decide), ovl_slot (by decide), ou2_slot (by decide) (by decide), ovl_in (by omega) (by omega), Nat.sub_zero]
    · rw [if_neg q1]
      by_cases q2 : j < 60
      · rw [if_pos q2, ovl_slot (by decide), ovl_slot (by decide), ou2_73 (by omega), o1, show b + 48 + (j - 48) = b + j by omega]
      · rw [if_neg q2]
        by_cases q3 : j < 72
        · rw [if_pos q3, ovl_slot (by decide), ovl_slot (by decide), ou2_77 (by omega), o1, show b + 48 + 12 + (j - 60) = b + j by omega]
        · rw [if_neg q3]
          by_cases q4 : j < 84
          · rw [if_pos q4, ovl_slot (by decide), ovl_in (by omega) (by omega), o2, show b + 48 + 24 + (j - 72 - 0) = b + j by omega]
          · rw [if_neg q4]
            by_cases q5 : j < 94
            · rw [if_pos q5, ovl_in (by omega) (by omega), show b + 48 + 24 + 12 + (j - 84 - 0) = b + j by omega]
            · rw [if_neg q5, e48, show j = 94 by omega]
  · rw [wr_slot q6, ovl_slot q5, ovl_slot q4, ou2_slot q2 q3, ovl_slot q1]
  · rw [wr_place hj, ovl_slot (by decide), ovl_slot (by decide), ou2_slot (by decide) (by decide), ovl_slot (by decide)]
end UNPACK
theorem c_loadFrom {s : St} {w r j : Nat} (hw : LN (w + 1) = 94) (hr : LN r < 1000000) (h : 94 * j + 94 ≤ LN r) : fX10_loadFrom w r (nI j) s = some (0, ovl s (w + 1) 0 94 (fun i => s r (94 * j + i))) := by
  rw [fX10_loadFrom, zrm_94, Nat.mul_comm j 94]
  show bd (fX11_copyCells r (nI (94 * j)) (w + 1) (nI 0) (nI 94) s) _ = _
  rw [c_copy hr (by omega) h (by omega), bd_some]
  congr 2
theorem good_undo : Good0 fX11_undo fX12_undo := by
  intro s hs
  obtain ⟨n, nw, nf, r1, ⟨w1, w2, ⟨od, na, ho, hn, g2, g3, g4, old⟩, g5, g6⟩, -⟩ := id hs
  have h12 : n ≤ 12 := r1.1.2.2
  by_cases h0 : na = 0
  · subst h0
    refine ⟨-1, s, wr s 69 1 0, ?_, ?_, hs.keep keep_code⟩
    · rw [fX11_undo, fX8_takeBackAct, g3, if_neg (by decide), bd_some, if_pos rfl]
    · rw [fX12_undo, wr_place (by decide), g4, if_pos n00]
  · obtain ⟨k, rfl⟩ : ∃ k, na = k + 1 := ⟨na - 1, by omega⟩
    have hm : (od + k) % 40 < 40 := Nat.mod_lt _ (by decide)
    have e1 : s 32 3 - 1 = nI k := by rw [g3, nI_pred]
    have e2 : s 69 32 - 1 = nI k := by rw [g4, nI_pred]
    have q3 : (ovl (wr s 32 3 (nI k)) 34 0 94 (fun i => (wr s 32 3 (nI k)) 35 (94 * ((od + k) % 40) + i))) 32 3 = nI k := by rw [ovl_slot (by decide), wr_hit]
    have hc : fX11_undo s = some (nI k, ovl (wr s 32 3 (nI k)) 34 0 94 (fun i => (wr s 32 3 (nI k)) 35 (94 * ((od + k) % 40) + i))) := by
      rw [fX11_undo, fX8_takeBackAct, if_pos (by rw [g3, zll_1 _ (by omega)]; omega), e1]
      have z2 : (wr s 32 3 (nI k)) 32 2 = nI od := by rw [wr_place (by decide), g2]
      have z3 : (wr s 32 3 (nI k)) 32 3 = nI k := wr_hit
      show bd (bd (fX10_loadFrom 33 35 (jrem ((wr s 32 3 (nI k)) 32 2 + (wr s 32 3 (nI k)) 32 3) 40) (wr s 32 3 (nI k))) _) _ = _
      rw [z2, z3, nI_add, jrem_40 _ (by omega), c_loadFrom (by rfl) (by decide) (by show _ ≤ 3760; omega), bd_some, bd_some, if_neg (by decide), q3]
    have hu : ∀ (x : St), (wr (wr x 69 1 0) 69 32 (nI k)) 69 32 = nI k := fun x => wr_hit
    obtain ⟨t, m1, m2, m3, m4, m5⟩ := m_unpack (s := wr (wr (ovl (wr s 32 3 (nI k)) 34 0 94 (fun i => (wr s 32 3 (nI k)) 35 (94 * ((od + k) % 40) + i))) 69 1 0) 69 32 (nI k)) (r := 89) (b := 95 * k) (by decide) (by decide) (by decide) (by decide) (by decide) (by decide) (by show _ ≤ 3800; omega) (by decide)
    refine ⟨nI k, _, t, hc, ?_, ?_⟩
    · have z : (wr (ovl (wr s 32 3 (nI k)) 34 0 94 (fun i => (wr s 32 3 (nI k)) 35 (94 * ((od + k) % 40) + i))) 69 1 0) 69 32 = s 69 32 := by rw [wr_place (by decide), ovl_slot (by decide), wr_slot (by decide)]
      rw [fX12_undo, z, if_neg (by rw [g4, zle_0 _ (by omega)]; omega), e2]
      show bd (fX12_unpack 89 (95 * (wr (wr _ 69 1 0) 69 32 (nI k)) 69 32) (wr (wr _ 69 1 0) 69 32 (nI k))) _ = _
      rw [hu, zlm_95, m1, bd_some, m5 32 (by decide), hu]
    · have tk : ∀ x, x ≠ 72 → x ≠ 73 → x ≠ 77 → x ≠ 87 → x ≠ 88 → x ≠ 69 → x ≠ 34 → x ≠ 32 → t x = s x := fun x a1 a2 a3 a4 a5 a6 a7 a8 => by rw [m4 x a1 a2 a3 a4 a5 a6, wr_slot a6, wr_slot a6, ovl_slot a7, wr_slot a8]
      have t69 : ∀ j, j ≠ 17 → j ≠ 1 → j ≠ 32 → t 69 j = s 69 j := fun j a1 a2 a3 => by rw [m5 j a1, wr_place a3, wr_place a2, ovl_slot (by decide), wr_slot (by decide)]
      have t34 : ∀ j, j < 94 → t 34 j = s 35 (94 * ((od + k) % 40) + j) := fun j hj => by rw [m4 34 (by decide) (by decide) (by decide) (by decide) (by decide) (by decide), wr_slot (by decide), wr_slot (by decide), ovl_in (by omega) (by omega), wr_slot (by decide), Nat.sub_zero]
      have tv : ∀ j, j < 95 → vr t j = s 89 (95 * k + j) := fun j hj => by rw [m3 j hj, wr_slot (by decide), wr_slot (by decide), ovl_slot (by decide), wr_slot (by decide)]
      have t32 : ∀ j, j ≠ 3 → t 32 j = s 32 j := fun j hj => by rw [m4 32 (by decide) (by decide) (by decide) (by decide) (by decide) (by decide), wr_slot (by decide), wr_slot (by decide), ovl_slot (by decide), wr_place hj]
      refine hs.now ⟨fun x e => ?_, fun j e => ?_, fun z e => ?_⟩ (fun n' nw' nf' r1' _ => ?_)
      · have hx : x ≠ 72 ∧ x ≠ 73 ∧ x ≠ 77 ∧ x ≠ 87 ∧ x ≠ 88 ∧ x ≠ 69 ∧ x ≠ 34 ∧ x ≠ 32 := by revert x; decide
        exact tk x hx.1 hx.2.1 hx.2.2.1 hx.2.2.2.1 hx.2.2.2.2.1 hx.2.2.2.2.2.1 hx.2.2.2.2.2.2.1 hx.2.2.2.2.2.2.2
      · have hj : j ≠ 17 ∧ j ≠ 1 ∧ j ≠ 32 := by revert j; decide
        exact t69 j hj.1 hj.2.1 hj.2.2
      · have hx : z.1 ≠ 72 ∧ z.1 ≠ 73 ∧ z.1 ≠ 77 ∧ z.1 ≠ 87 ∧ z.1 ≠ 88 ∧ z.1 ≠ 69 ∧ z.1 ≠ 34 ∧ z.1 ≠ 32 := by revert z; decide
        rw [tk z.1 hx.1 hx.2.1 hx.2.2.1 hx.2.2.2.1 hx.2.2.2.2.1 hx.2.2.2.2.2.1 hx.2.2.2.2.2.2.1 hx.2.2.2.2.2.2.2]
      · have hnn : nI n' = nI n := r1'.1.1.symm.trans r1.1.1
        obtain rfl : n' = n := (nI_eq (by have := r1'.1.2.2; omega) (by omega)).mp hnn
        obtain ⟨o1, o2⟩ := old k (by omega)
        refine ⟨o1.cong h12 t34 tv, o2.cong h12 t34, ⟨od, k, ho, by omega, ?_, ?_, ?_, fun i hi => ?_⟩, ?_, ?_⟩
        · rw [t32 2 (by decide), g2]
        · rw [m4 32 (by decide) (by decide) (by decide) (by decide) (by decide) (by decide), wr_slot (by decide), wr_slot (by decide), ovl_slot (by decide), wr_hit]
        · rw [m5 32 (by decide), wr_hit]
        · rw [tk 35 (by decide) (by decide) (by decide) (by decide) (by decide) (by decide) (by decide) (by decide), tk 89 (by decide) (by decide) (by decide) (by decide) (by decide) (by decide) (by decide) (by decide)]
          exact old i (by omega)
        · rw [tk 36 (by decide) (by decide) (by decide) (by decide) (by decide) (by decide) (by decide) (by decide), tk 37 (by decide) (by decide) (by decide) (by decide) (by decide) (by decide) (by decide) (by decide), tk 102 (by decide) (by decide) (by decide) (by decide) (by decide) (by decide) (by decide) (by decide), tk 103 (by decide) (by decide) (by decide) (by decide) (by decide) (by decide) (by decide) (by decide), t32 6 (by decide), t69 33 (by decide) (by decide) (by decide)]
          exact g5
        · rw [tk 38 (by decide) (by decide) (by decide) (by decide) (by decide) (by decide) (by decide) (by decide), tk 85 (by decide) (by decide) (by decide) (by decide) (by decide) (by decide) (by decide) (by decide)]
          exact g6
