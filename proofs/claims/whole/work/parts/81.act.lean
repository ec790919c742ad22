/-! ===== an act, told by both its sides ===== -/
def actC (k : Nat) : Bool := relS k && !(k == 34)
def actM (k : Nat) : Bool := relS k && ![72, 73, 77, 87, 88].contains k
def KeepC (s s' : St) : Prop := (∀ k, actC k = true → s' k = s k) ∧ (∀ k, 69 ≤ k → s' k = s k) ∧ ∀ k j, relO k j = true → s' k j = s k j
def KeepM (s s' : St) : Prop := (∀ k, actM k = true → s' k = s k) ∧ (∀ j, relM j = true → j ≠ 17 → s' 69 j = s 69 j) ∧ (∀ k j, relO k j = true → s' k j = s k j) ∧ s' 111 = s 111 ∧ s' 69 1 = s 69 1
theorem KeepC.rfl' (s : St) : KeepC s s := ⟨fun _ _ => rfl, fun _ _ => rfl, fun _ _ _ => rfl⟩
theorem KeepM.rfl' (s : St) : KeepM s s := ⟨fun _ _ => rfl, fun _ _ _ => rfl, fun _ _ _ => rfl, rfl, rfl⟩
theorem KeepC.trans {s t u : St} (h : KeepC s t) (h2 : KeepC t u) : KeepC s u := ⟨fun k e => (h2.1 k e).trans (h.1 k e), fun k e => (h2.2.1 k e).trans (h.2.1 k e), fun k j e => (h2.2.2 k j e).trans (h.2.2 k j e)⟩
theorem KeepM.trans {s t u : St} (h : KeepM s t) (h2 : KeepM t u) : KeepM s u := ⟨fun k e => (h2.1 k e).trans (h.1 k e), fun k e q => (h2.2.1 k e q).trans (h.2.1 k e q), fun k j e => (h2.2.2.1 k j e).trans (h.2.2.1 k j e), h2.2.2.2.1.trans h.2.2.2.1, h2.2.2.2.2.trans h.2.2.2.2⟩
theorem relO_off {k : Nat} (h : [0, 21, 29, 32, 39, 51, 57, 62, 71].contains k = false) (j : Nat) : relO k j = false := by
  rw [Bool.eq_false_iff]
  intro e
  rw [relO, List.contains_iff_mem] at e
  have h2 : ¬ k ∈ [0, 21, 29, 32, 39, 51, 57, 62, 71] := fun m => by rw [List.contains_iff_mem.mpr m] at h; cases h
  simp only [List.mem_cons, Prod.mk.injEq, List.not_mem_nil, or_false] at e h2
  omega
/-- one slot below 69 changed -/
theorem KeepC.slot {s t : St} {z : Nat} (h1 : actC z = false) (h2 : z < 69) (h3 : ∀ j, relO z j = false) (e : ∀ k, k ≠ z → t k = s k) : KeepC s t := by
  refine ⟨fun k h => e k (fun q => ?_), fun k h => e k (by omega), fun k j h => by rw [e k (fun q => by subst q; rw [h3] at h; cases h)]⟩
  subst q; rw [h1] at h; cases h
theorem KeepM.slot {s t : St} {z : Nat} (h1 : actM z = false) (h2 : z ≠ 69) (h4 : z ≠ 111) (h3 : ∀ j, relO z j = false) (e : ∀ k, k ≠ z → t k = s k) : KeepM s t := by
  refine ⟨fun k h => e k (fun q => ?_), fun j _ _ => by rw [e 69 (fun q => h2 q.symm)], fun k j h => by rw [e k (fun q => by subst q; rw [h3] at h; cases h)], e 111 (fun q => h4 q.symm), by rw [e 69 (fun q => h2 q.symm)]⟩
  subst q; rw [h1] at h; cases h
theorem KeepM.put {s : St} {j : Nat} {v : Int32} (h1 : relM j = false ∨ j = 17) (h2 : j ≠ 1) : KeepM s (wr s 69 j v) := by
  refine ⟨fun k h => wr_slot (fun q => ?_), fun j' h h' => wr_place (fun q => ?_), fun k j' h => by rw [wr_slot (fun q => by subst q; rw [relO_off rfl] at h; cases h)], wr_slot (by decide), wr_place (fun q => h2 q.symm)⟩
  · subst q; cases h
  · subst q
    rcases h1 with h1 | h1
    · rw [h1] at h; cases h
    · exact h' h1
section VRC
variable {s : St} {i : Nat}
theorem vr_0 (h : i < 48) : vr s i = s 72 i := by rw [vr, if_pos h]
theorem vr_1 (h : 48 ≤ i ∧ i < 60) : vr s i = s 73 (i - 48) := by rw [vr, if_neg (show ¬ i < 48 by omega), if_pos h.2]
theorem vr_2 (h : 60 ≤ i ∧ i < 72) : vr s i = s 77 (i - 60) := by rw [vr, if_neg (show ¬ i < 48 by omega), if_neg (show ¬ i < 60 by omega), if_pos h.2]
theorem vr_3 (h : 72 ≤ i ∧ i < 84) : vr s i = s 87 (i - 72) := by rw [vr, if_neg (show ¬ i < 48 by omega), if_neg (show ¬ i < 60 by omega), if_neg (show ¬ i < 72 by omega), if_pos h.2]
theorem vr_4 (h : 84 ≤ i ∧ i < 94) : vr s i = s 88 (i - 84) := by rw [vr, if_neg (show ¬ i < 48 by omega), if_neg (show ¬ i < 60 by omega), if_neg (show ¬ i < 72 by omega), if_neg (show ¬ i < 84 by omega), if_pos h.2]
theorem vr_5 (h : 94 ≤ i) : vr s i = s 69 17 := by rw [vr, if_neg (show ¬ i < 48 by omega), if_neg (show ¬ i < 60 by omega), if_neg (show ¬ i < 72 by omega), if_neg (show ¬ i < 84 by omega), if_neg (show ¬ i < 94 by omega)]
theorem vr_cases (i : Nat) : i < 48 ∨ (48 ≤ i ∧ i < 60) ∨ (60 ≤ i ∧ i < 72) ∨ (72 ≤ i ∧ i < 84) ∨ (84 ≤ i ∧ i < 94) ∨ 94 ≤ i := by omega
end VRC
theorem act_core {s : St} {n : Nat} (hs : RS s) (hn : s 21 0 = nI n) (h12 : n ≤ 12) {f g : St → Option (Int32 × St)}
    (H : ∀ s1 : St, (∀ k, k ≠ 32 → k ≠ 35 → s1 k = s k) → ∃ y s2, f s1 = some (y, s2) ∧ KeepC s1 s2 ∧ WI n (s2 34) ∧
      ∀ t : St, (∀ k, 69 < k → k ≠ 89 → k ≠ 111 → t k = s k) → (∀ j, j ≠ 1 → j ≠ 32 → t 69 j = s 69 j) → vr t = vr s → ∃ t2, g t = some (y, t2) ∧ KeepM t t2 ∧ SW n (s2 34) (vr t2)) :
    ∃ s1 y s2, fX8_keepAct 32 s = some (0, s1) ∧ f s1 = some (y, s2) ∧ ∀ s3 : St, (∀ k, k ≠ 111 → s3 k = s2 k) → (∀ k, 69 < k → k ≠ 111 → s3 k = s k) ∧ (∀ j, s3 69 j = s 69 j) ∧ vr (wr s3 69 1 0) = vr s ∧ ∃ t s4, fX12_keep (wr s3 69 1 0) = some (0, t) ∧ g t = some (y, s4) ∧ RS s4 ∧ s4 111 = s3 111 ∧ s4 69 1 = 0 := by
  obtain ⟨s1, k1, k2, k3⟩ := c_keep_ex hs
  obtain ⟨y, s2, f1, kc, wi, hm⟩ := H s1 (fun k a b => k2 k b a)
  refine ⟨s1, y, s2, k1, f1, fun s3 e3 => ?_⟩
  have e69 : ∀ k, 69 ≤ k → k ≠ 111 → s3 k = s k := fun k a b => by rw [e3 k b, kc.2.1 k a, k2 k (by omega) (by omega)]
  have u69 : ∀ j, j ≠ 1 → (wr s3 69 1 0) 69 j = s 69 j := fun j hj => by rw [wr_place hj, e69 69 (by decide) (by decide)]
  have uk : ∀ k, 69 < k → k ≠ 111 → (wr s3 69 1 0) k = s k := fun k a b => by rw [wr_slot (by omega), e69 k (by omega) b]
  have uv : vr (wr s3 69 1 0) = vr s := by
    funext j
    rw [vr, vr, uk 72 (by decide) (by decide), uk 73 (by decide) (by decide), uk 77 (by decide) (by decide), uk 87 (by decide) (by decide), uk 88 (by decide) (by decide), u69 17 (by decide)]
  obtain ⟨t, t1, t2, t3⟩ := m_keep_ex hs (u69 32 (by decide))
  have tk : ∀ k, 69 < k → k ≠ 89 → k ≠ 111 → t k = s k := fun k a b c => by rw [t2 k b (by omega), uk k a c]
  have tv : vr t = vr s := by
    funext j
    rw [vr, vr, tk 72 (by decide) (by decide) (by decide), tk 73 (by decide) (by decide) (by decide), tk 77 (by decide) (by decide) (by decide), tk 87 (by decide) (by decide) (by decide), tk 88 (by decide) (by decide) (by decide), t3 17 (by decide), u69 17 (by decide)]
  obtain ⟨s4, g1, km, sw⟩ := hm t tk (fun j a b => by rw [t3 j b, u69 j a]) tv
  have tlow : ∀ k, k ≠ 69 → k ≠ 89 → k ≠ 111 → t k = s2 k := fun k a b c => by rw [t2 k b a, wr_slot a, e3 k c]
  refine ⟨fun k a b => e69 k (by omega) b, fun j => by rw [e69 69 (by decide) (by decide)], uv, t, s4, t1, g1, ?_, ?_, ?_⟩
  · refine rs_act hs k1 t1 (uk 89 (by decide) (by decide)) uv (u69 32 (by decide)) ⟨fun k e => ?_, fun j e => ?_, fun z e => ?_⟩ ?_ ?_ ?_ (km.1 89 rfl) (km.2.1 32 rfl (by decide)) (fun n' nw' nf' r1 r2 => ?_)
    · have hk : actM k = true ∧ actC k = true ∧ k ≠ 69 ∧ k ≠ 89 ∧ k ≠ 111 ∧ k ≠ 32 ∧ k ≠ 35 := by revert k; decide
      obtain ⟨q1, q2, q3, q4, q5, q6, q7⟩ := hk
      rw [km.1 k q1, tlow k q3 q4 q5, kc.1 k q2, k2 k q7 q6]
    · have hj : relM j = true ∧ j ≠ 17 ∧ j ≠ 32 ∧ j ≠ 1 := by revert j; decide
      rw [km.2.1 j hj.1 hj.2.1, t3 j hj.2.2.1, u69 j hj.2.2.2]
    · have hz : relO z.1 z.2 = true ∧ z.1 ≠ 69 ∧ z.1 ≠ 89 ∧ z.1 ≠ 111 ∧ z.1 ≠ 35 ∧ (z.1 = 32 → z.2 = 6) := by revert z; decide
      obtain ⟨q1, q2, q3, q4, q5, q6⟩ := hz
      rw [km.2.2.1 z.1 z.2 q1, tlow z.1 q2 q3 q4, kc.2.2 z.1 z.2 q1]
      by_cases h : z.1 = 32
      · rw [h, q6 h, k3 6 (by decide) (by decide)]
      · rw [k2 z.1 q5 h]
    · rw [km.1 35 rfl, tlow 35 (by decide) (by decide) (by decide), kc.1 35 rfl]
    · rw [km.2.2.1 32 2 rfl, tlow 32 (by decide) (by decide) (by decide), kc.2.2 32 2 rfl]
    · rw [km.2.2.1 32 3 rfl, tlow 32 (by decide) (by decide) (by decide), kc.2.2 32 3 rfl]
    · have hnn : nI n' = nI n := r1.1.1.symm.trans hn
      obtain rfl : n' = n := (nI_eq (by have := r1.1.2.2; omega) (by omega)).mp hnn
      rw [km.1 34 rfl, tlow 34 (by decide) (by decide) (by decide)]
      exact ⟨sw, wi⟩
  · rw [km.2.2.2.1, t2 111 (by decide) (by decide), wr_slot (by decide)]
  · rw [km.2.2.2.2, t3 1 (by decide), wr_hit]
def GoodAt (f : St → Option (RT × St)) (g : St → Option (Int32 × St)) (code : Nat → Int32) (s : St) : Prop :=
  ∃ (r : RT) (s1 : St), f s = some (r, s1) ∧ ∀ s3 : St, (∀ k, k ≠ 111 → s3 k = s1 k) → ∃ (y : Int32) (s4 : St), g s3 = some (y, s4) ∧ RS s4 ∧ s4 111 = s3 111 ∧ (match r with
    | .inl a => s4 69 1 = 0 ∧ y = a
    | .inr n => s4 69 1 = code n ∧ (n = 0 ∨ n = 1) ∧ code n ≠ 0)
/-- what holds of the reference's side of s3, the class having changed nothing but slots below 69 -/
def Pre (s u s3 : St) : Prop := wr s3 69 1 0 = u ∧ (∀ k, 69 < k → k ≠ 111 → u k = s k) ∧ (∀ j, j ≠ 1 → u 69 j = s 69 j) ∧ vr u = vr s
theorem pre_st {s s3 : St} (h : ∀ k, 69 ≤ k → k ≠ 111 → s3 k = s k) : Pre s (wr s3 69 1 0) s3 := by
  have uk : ∀ k, 69 < k → k ≠ 111 → (wr s3 69 1 0) k = s k := fun k a b => by rw [wr_slot (by omega), h k (by omega) b]
  have u69 : ∀ j, j ≠ 1 → (wr s3 69 1 0) 69 j = s 69 j := fun j hj => by rw [wr_place hj, h 69 (by decide) (by decide)]
  refine ⟨rfl, uk, u69, ?_⟩
  funext j
  rw [vr, vr, uk 72 (by decide) (by decide), uk 73 (by decide) (by decide), uk 77 (by decide) (by decide), uk 87 (by decide) (by decide), uk 88 (by decide) (by decide), u69 17 (by decide)]
theorem gat_thr {s : St} {f : St → Option (RT × St)} {g : St → Option (Int32 × St)} {code : Nat → Int32} {x : Nat} (hs : RS s) (hx : x = 0 ∨ x = 1) (hc : code x ≠ 0) (hf : f s = some (.inr x, s)) (hg : ∀ u s3, Pre s u s3 → g s3 = some (0, wr u 69 1 (code x))) : GoodAt f g code s :=
  ⟨.inr x, s, hf, fun s3 e3 => ⟨0, _, hg _ s3 (pre_st (fun k _ h => e3 k h)), ((hs.keep (keep_out e3)).keep keep_code).keep keep_code, by rw [wr_slot (by decide), wr_slot (by decide)], wr_hit, hx, hc⟩⟩
theorem gat_ref {s : St} {f : St → Option (RT × St)} {g : St → Option (Int32 × St)} {code : Nat → Int32} (hs : RS s) (y : Int32) (hf : f s = some (.inl y, wr s 38 1 (s 38 1 + 1))) (hg : ∀ u s3, Pre s u s3 → g s3 = some (y, wr u 85 1 (u 85 1 + 1))) : GoodAt f g code s :=
  ⟨.inl y, _, hf, fun s3 e3 => ⟨y, _, hg _ s3 (pre_st (fun k h1 h2 => by rw [e3 k h2, wr_slot (by omega)])), rs_refused (i := 1) (u := wr s3 69 1 0) hs (fun k q1 q2 q3 => by rw [wr_slot q3, e3 k q2, wr_slot q1]) (fun j hj => by rw [wr_place hj, e3 69 (by decide), wr_slot (by decide)]) (by rw [wr_slot (by decide), e3 38 (by decide)]) rfl, by rw [wr_slot (by decide), wr_slot (by decide)], by rw [wr_slot (by decide), wr_hit], rfl⟩⟩
theorem gat_act {s : St} {n : Nat} (hs : RS s) (hn : s 21 0 = nI n) (h12 : n ≤ 12) {f : St → Option (RT × St)} {g : St → Option (Int32 × St)} {code : Nat → Int32} {F G : St → Option (Int32 × St)}
    (hf : ∀ s1 y s2, fX8_keepAct 32 s = some (0, s1) → F s1 = some (y, s2) → f s = some (.inl y, s2)) (hg : ∀ u s3 t y s4, Pre s u s3 → fX12_keep u = some (0, t) → G t = some (y, s4) → g s3 = some (y, s4))
    (H : ∀ s1 : St, (∀ k, k ≠ 32 → k ≠ 35 → s1 k = s k) → ∃ y s2, F s1 = some (y, s2) ∧ KeepC s1 s2 ∧ WI n (s2 34) ∧
      ∀ t : St, (∀ k, 69 < k → k ≠ 89 → k ≠ 111 → t k = s k) → (∀ j, j ≠ 1 → j ≠ 32 → t 69 j = s 69 j) → vr t = vr s → ∃ t2, G t = some (y, t2) ∧ KeepM t t2 ∧ SW n (s2 34) (vr t2)) : GoodAt f g code s := by
  obtain ⟨s1, y, s2, a1, a2, a3⟩ := act_core hs hn h12 H
  refine ⟨.inl y, s2, hf s1 y s2 a1 a2, fun s3 e3 => ?_⟩
  obtain ⟨b1, b2, b3, t, s4, b4, b5, b6, b7, b8⟩ := a3 s3 e3
  refine ⟨y, s4, hg _ s3 t y s4 ⟨rfl, fun k h1 h2 => by rw [wr_slot (by omega), b1 k h1 h2], fun j hj => by rw [wr_place hj, b2 j], b3⟩ b4 b5, b6, b7, b8, rfl⟩
theorem good_wed (a b : Int32) : Good (fX11_wed a b) (fX12_wed a b) c12 := by
  intro s hs
  show GoodAt _ _ _ _
  obtain ⟨n, nw, nf, ⟨⟨hn, hm, h12⟩, -⟩, ⟨hw, hwi, -⟩, -⟩ := id hs
  obtain ⟨A, hA, hAn, hA2, hA3, -⟩ := sw_bits h12 hw
  rcases i_cases a (n := n) (by omega) with ⟨p, hp, rfl⟩ | ho
  · rcases i_cases b (n := n) (by omega) with ⟨q, hq, rfl⟩ | ho
    · have hb : ∀ u s3, Pre s u s3 → u 71 0 = nI n ∧ u 69 17 = nI A ∧ ∀ x, x < n → u 77 x = s 34 (60 + x) := fun u s3 h => ⟨by rw [h.2.1 71 (by decide) (by decide)]; exact hm, by rw [h.2.2.1 17 (by decide)]; exact hA2, fun x hx => by rw [← vr_sp (s := u) (by omega), h.2.2.2, hw.2.2.1 x hx]⟩
      have hx1 : ∀ {α : Type} (x y : α), (if inA (1 : Int32) 3 then x else y) = x := fun x y => if_pos (by decide)
      have hx2 : (1 : Int32).toNatClampNeg = 1 := rfl
      have hcr : fX8_refuse 32 (1 : Int32) s = some (0, wr s 38 1 (s 38 1 + 1)) := c_refuse (s := s) (i := 1) (by decide)
      by_cases hpq : p = q
      · refine gat_ref hs 0 ?_ (fun u s3 h => ?_)
        · rw [fX11_wed, c_person_in hn h12 hp, bx_val, c_person_in hn h12 hq, bx_val, if_pos (by rw [hpq]), hcr, bd_some]
        · obtain ⟨g1, g2, g3⟩ := hb u s3 h
          rw [fX12_wed, h.1, m_person_in g1 h12 hp, bd_some, if_neg (by decide), m_person_in g1 h12 hq, bd_some, if_neg (by decide), if_pos (by rw [hpq]), hx1, hx1, hx2]
      · have hne : ¬ nI p = nI q := fun e => hpq ((nI_eq (by omega) (by omega)).mp e)
        have f1 := w_free (w := 33) (s := s) rfl h12 hp hwi
        have f2 := w_free (w := 33) (s := s) rfl h12 hq hwi
        have hbc : ∀ y, (s 34 (48 + p) = -1 ∨ boundS (s 34) p = true ∨ s 34 (48 + q) = -1 ∨ boundS (s 34) q = true) → y = (0 : Int32) → GoodAt (fX11_wed (nI p) (nI q)) (fX12_wed (nI p) (nI q)) c12 s := fun y hc hy => by
          refine gat_ref hs 0 ?_ (fun u s3 h => ?_)
          · rw [fX11_wed, c_person_in hn h12 hp, bx_val, c_person_in hn h12 hq, bx_val, if_neg hne, f1, bd_some, f2, bd_some, hcr, bd_some]
            by_cases d1 : s 34 (48 + p) = -1
            · rw [if_pos d1, if_pos rfl]
            · rw [if_neg d1]
              by_cases d2 : boundS (s 34) p = true
              · rw [if_pos d2, if_pos rfl]
              · rw [if_neg d2, if_neg (by decide)]
                by_cases d3 : s 34 (48 + q) = -1
                · rw [if_pos d3, if_pos rfl]
                · have d4 : boundS (s 34) q = true := by
                    rcases hc with hc | hc | hc | hc
                    · exact absurd hc d1
                    · exact absurd hc d2
                    · exact absurd hc d3
                    · exact hc
                  rw [if_neg d3, if_pos d4, if_pos rfl]
          · obtain ⟨g1, g2, g3⟩ := hb u s3 h
            rw [fX12_wed, h.1, m_person_in g1 h12 hp, bd_some, if_neg (by decide), m_person_in g1 h12 hq, bd_some, if_neg (by decide), if_neg hne, m_alive_c h12 hA g2 hA3 hp, bd_some, m_alive_c h12 hA g2 hA3 hq, bd_some, m_bound h12 hA g2 hA3 hp (g3 p hp) hwi, bd_some, m_bound h12 hA g2 hA3 hq (g3 q hq) hwi, bd_some]
            simp only [hx1, hx2]
            by_cases d1 : s 34 (48 + p) = -1
            · rw [if_pos d1, if_pos rfl]
            · rw [if_neg d1, if_neg (by decide)]
              by_cases d3 : s 34 (48 + q) = -1
              · rw [if_pos d3, if_pos rfl]
              · rw [if_neg d3, if_neg (by decide)]
                by_cases d2 : boundS (s 34) p = true
                · rw [if_pos d2, if_neg (by decide)]
                · have d4 : boundS (s 34) q = true := by
                    rcases hc with hc | hc | hc | hc
                    · exact absurd hc d1
                    · exact absurd hc d2
                    · exact absurd hc d3
                    · exact hc
                  rw [if_neg d2, if_pos rfl, if_pos d4, if_neg (by decide)]
        by_cases d1 : s 34 (48 + p) = -1
        · exact hbc 0 (Or.inl d1) rfl
        by_cases d2 : boundS (s 34) p = true
        · exact hbc 0 (Or.inr (Or.inl d2)) rfl
        by_cases d3 : s 34 (48 + q) = -1
        · exact hbc 0 (Or.inr (Or.inr (Or.inl d3))) rfl
        by_cases d4 : boundS (s 34) q = true
        · exact hbc 0 (Or.inr (Or.inr (Or.inr d4))) rfl
        refine gat_act hs hn h12 (F := fun s_7 => bd (fX10_leaveSpouse 33 (nI p) s_7) (fun y_8 s_8 => bd (fX10_leaveSpouse 33 (nI q) s_8) (fun y_9 s_9 => bd (fX10_join 33 (nI p) (nI q) s_9) (fun y_10 s_10 => some ((1 : Int32), s_10)))))
          (G := fun s_13 => bd (fX12_unbind (nI p) s_13) (fun y_14 s_14 => bd (fX12_unbind (nI q) s_14) (fun y_15 s_15 => some ((1 : Int32), wr (wr s_15 77 p (nI q)) 77 q (nI p))))) (fun s1 y s2 h1 h2 => ?_) (fun u s3 t y s4 h h1 h2 => ?_) (fun s1 e1 => ?_)
        · rw [fX11_wed, c_person_in hn h12 hp, bx_val, c_person_in hn h12 hq, bx_val, if_neg hne, f1, bd_some, if_neg d1, if_neg d2, if_neg (by decide), f2, bd_some, if_neg d3, if_neg d4, if_neg (by decide), h1, bd_some]
          obtain ⟨x2, x3, x4, j1, j2, j3, -⟩ := c_wed_act (s := s) (s1 := s1) h12 hp hq hwi (by obtain ⟨s1', k1, k2, -⟩ := c_keep_ex hs; rw [h1] at k1; cases k1; exact k2 34 (by decide) (by decide))
          simp only [j1, j2, j3, bd_some] at h2 ⊢
          cases h2
          rfl
        · obtain ⟨g1, g2, g3⟩ := hb u s3 h
          rw [fX12_wed, h.1, m_person_in g1 h12 hp, bd_some, if_neg (by decide), m_person_in g1 h12 hq, bd_some, if_neg (by decide), if_neg hne, m_alive_c h12 hA g2 hA3 hp, bd_some, if_neg d1, if_neg (by decide), m_alive_c h12 hA g2 hA3 hq, bd_some, if_neg d3, if_neg (by decide), m_bound h12 hA g2 hA3 hp (g3 p hp) hwi, bd_some, if_neg d2, if_pos rfl, m_bound h12 hA g2 hA3 hq (g3 q hq) hwi, bd_some, if_neg d4, if_pos rfl, h1, bd_some]
          simp only [if_pos (inA_lt (p := p) (n := 24) (by decide) (by omega)), if_pos (inA_lt (p := q) (n := 24) (by decide) (by omega)), nI_clamp (n := p) (by omega), nI_clamp (n := q) (by omega)]
          exact h2
        · obtain ⟨x2, x3, x4, j1, j2, j3, j4, j5⟩ := c_wed_act (s := s) (s1 := s1) h12 hp hq hwi (e1 34 (by decide) (by decide))
          refine ⟨1, x4, by simp only [j1, j2, j3, bd_some], KeepC.slot (z := 34) rfl (by decide) (relO_off rfl) j5, ?_, fun t tk t69 tv => ?_⟩
          · have : x4 34 = wedR (s 34) p q := funext j4
            rw [this]
            exact wi_wed h12 hp hq hpq hwi
          · have h77 : ∀ x, x < n → t 77 x = s 34 (60 + x) := fun x hx => by rw [← vr_sp (s := t) (by omega), tv, hw.2.2.1 x hx]
            obtain ⟨t2, t3, m1, m2, m3, m4⟩ := m_wed_act (t := t) (c := s 34) h12 hp hq hwi h77
            have hoff : ∀ k, k ≠ 77 → (wr (wr t3 77 p (nI q)) 77 q (nI p)) k = t k := fun k hk => by rw [wr_slot hk, wr_slot hk, m4 k hk]
            refine ⟨_, by simp only [m1, m2, bd_some], KeepM.slot (z := 77) rfl (by decide) (by decide) (relO_off rfl) hoff, ?_⟩
            refine (sw_wed h12 hp hq hpq j4 (m := vr s) (fun j hj => ?_) (fun x hx => ?_) hw hwi).1
            · rw [← tv]
              rcases vr_cases j with h | h | h | h | h | h
              · rw [vr_0 h, vr_0 h, hoff 72 (by decide)]
              · rw [vr_1 h, vr_1 h, hoff 73 (by decide)]
              · omega
              · rw [vr_3 h, vr_3 h, hoff 87 (by decide)]
              · rw [vr_4 h, vr_4 h, hoff 88 (by decide)]
              · rw [vr_5 h, vr_5 h, hoff 69 (by decide)]
            · rw [vr_sp (by omega)]
              exact m3 x hx
    · refine gat_thr (x := 0) hs (Or.inl rfl) (by decide) ?_ (fun u s3 h => ?_)
      · rw [fX11_wed, c_person_in hn h12 hp, bx_val, c_person_out hn ho, bx_thr]
      · have g1 : u 71 0 = nI n := by rw [h.2.1 71 (by decide) (by decide)]; exact hm
        rw [fX12_wed, h.1, m_person_in g1 h12 hp, bd_some, if_neg (by decide), m_person_out g1 h12 ho, bd_some, if_pos rfl]
        rfl
  · refine gat_thr (x := 0) hs (Or.inl rfl) (by decide) ?_ (fun u s3 h => ?_)
    · rw [fX11_wed, c_person_out hn ho, bx_thr]
    · have g1 : u 71 0 = nI n := by rw [h.2.1 71 (by decide) (by decide)]; exact hm
      rw [fX12_wed, h.1, m_person_out g1 h12 ho, bd_some, if_pos rfl]
      rfl
