/-! ===== land: the law's parts ===== -/
def LawI (len : Nat) (dep : Nat → Nat) (σ t : St) : Prop := σ 11 2 = nI len ∧ t 71 9 = nI len ∧ dep 0 = 0 ∧ (∀ j, j ≤ len → dep j ≤ 64) ∧ ∀ j, j < len → RStep (σ 12 j) (t 84 (700 + j)) (dep j) (dep (j + 1))
def LwC (σ σ' : St) : Prop := (∀ x, x ≠ 2 → x ≠ 11 → x ≠ 12 → σ' x = σ x) ∧ (∀ j, j ≠ 4 → j ≠ 5 → j ≠ 6 → j ≠ 7 → σ' 2 j = σ 2 j) ∧ ∀ j, j ≠ 2 → σ' 11 j = σ 11 j
def LwM (t t' : St) : Prop := (∀ x, x ≠ 69 → x ≠ 71 → x ≠ 84 → t' x = t x) ∧ (∀ j, j ≠ 20 → j ≠ 22 → j ≠ 23 → j ≠ 24 → j ≠ 25 → j ≠ 26 → j ≠ 27 → t' 69 j = t 69 j) ∧ (∀ j, j ≠ 9 → t' 71 j = t 71 j) ∧ ∀ j, j < 700 → t' 84 j = t 84 j
theorem RdC.lw {a b : St} (h : RdC a b) : LwC a b := ⟨fun x q _ _ => h.1 x q, h.2, fun j _ => by rw [h.1 11 (by decide)]⟩
theorem RdM.lw {a b : St} (h : RdM a b) : LwM a b := ⟨fun x q _ _ => h.1 x q, h.2, fun j _ => by rw [h.1 71 (by decide)], fun j _ => by rw [h.1 84 (by decide)]⟩
theorem LwC.tr {a b c : St} (h : LwC a b) (h2 : LwC b c) : LwC a c := ⟨fun x q1 q2 q3 => (h2.1 x q1 q2 q3).trans (h.1 x q1 q2 q3), fun j a b c d => (h2.2.1 j a b c d).trans (h.2.1 j a b c d), fun j q => (h2.2.2 j q).trans (h.2.2 j q)⟩
theorem LwM.tr {a b c : St} (h : LwM a b) (h2 : LwM b c) : LwM a c := ⟨fun x q1 q2 q3 => (h2.1 x q1 q2 q3).trans (h.1 x q1 q2 q3), fun j a b c d e f g => (h2.2.1 j a b c d e f g).trans (h.2.1 j a b c d e f g), fun j q => (h2.2.2.1 j q).trans (h.2.2.1 j q), fun j q => (h2.2.2.2 j q).trans (h.2.2.2 j q)⟩
theorem LawI.rd {len : Nat} {dep : Nat → Nat} {σ t σ' t' : St} (h : LawI len dep σ t) (h1 : RdC σ σ') (h2 : RdM t t') : LawI len dep σ' t' := by
  unfold LawI at h ⊢
  rw [h1.1 11 (by decide), h1.1 12 (by decide), h2.1 71 (by decide), h2.1 84 (by decide)]
  exact h
section LAWP
variable {b : Nat → Int32} {m K : Nat} {pl ln : Nat → Nat}
theorem c_addStep {σ : St} {len : Nat} (c : Int32) (h : σ 11 2 = nI len) (hl : len < 700) : ∃ σ', fX5_add 11 c σ = some (0, σ') ∧ σ' = wr (wr σ 12 len c) 11 2 (nI (len + 1)) ∧ LwC σ σ' := by
  refine ⟨_, ?_, rfl, ⟨fun x q1 q2 q3 => by rw [wr_slot q2, wr_slot q3], fun j _ _ _ _ => by rw [wr_slot (by decide), wr_slot (by decide)], fun j q => by rw [wr_place q, wr_slot (by decide)]⟩⟩
  rw [fX5_add, h, put_nI (r := 12) (by decide) (by show len < 700; exact hl), bd_some]
  dsimp only
  rw [wr_slot (show (11 : Nat) ≠ 12 by decide), h, zra_1]
theorem m_addStep {t : St} {len : Nat} (c : Int32) (h0 : t 69 26 = 0) (h : t 71 9 = nI len) (hl : len < 700) : ∃ t', fX12_lay c t = some (0, t') ∧ t' = wr (wr t 84 (700 + len) c) 71 9 (nI (len + 1)) ∧ LwM t t' := by
  refine ⟨_, ?_, rfl, ⟨fun x q1 q2 q3 => by rw [wr_slot q2, wr_slot q3], fun j _ _ _ _ _ _ _ => by rw [wr_slot (by decide), wr_slot (by decide)], fun j q => by rw [wr_place q, wr_slot (by decide)], fun j q => by rw [wr_slot (by decide), wr_place (by omega)]⟩⟩
  have e9 : (9 : Int32).toNatClampNeg = 9 := rfl
  have z : (700 : Int32) = nI 700 := rfl
  rw [fX12_lay, if_pos h0, if_pos (by decide), e9, h, z, nI_add, if_pos (inA_lt (by decide) (by omega)), nI_clamp (by omega)]
  dsimp only
  rw [if_pos (by decide), if_pos (by decide), wr_slot (show (71 : Nat) ≠ 84 by decide), h, zra_1]
theorem law_push {σ t σ' t' : St} {len d' : Nat} {dep : Nat → Nat} {c mm : Int32} (h : LawI len dep σ t) (hs : RStep c mm (dep len) d') (hd : d' ≤ 64) (e1 : σ' = wr (wr σ 12 len c) 11 2 (nI (len + 1))) (e2 : t' = wr (wr t 84 (700 + len) mm) 71 9 (nI (len + 1))) : ∃ dep', LawI (len + 1) dep' σ' t' ∧ dep' (len + 1) = d' := by
  obtain ⟨h1, h2, h3, h4, h5⟩ := h
  refine ⟨fun j => if j = len + 1 then d' else dep j, ⟨by rw [e1, wr_hit], by rw [e2, wr_hit], ?_, fun j hj => ?_, fun j hj => ?_⟩, if_pos rfl⟩
  · show (if 0 = len + 1 then d' else dep 0) = 0
    rw [if_neg (by omega)]; exact h3
  · show (if j = len + 1 then d' else dep j) ≤ 64
    by_cases e : j = len + 1
    · rw [if_pos e]; exact hd
    · rw [if_neg e]; exact h4 j (by omega)
  · show RStep _ _ (if j = len + 1 then d' else dep j) (if j + 1 = len + 1 then d' else dep (j + 1))
    rw [if_neg (show ¬ j = len + 1 by omega), e1, e2, wr_slot (show (12 : Nat) ≠ 11 by decide), wr_slot (show (84 : Nat) ≠ 71 by decide)]
    by_cases e : j = len
    · subst e
      rw [wr_hit, wr_hit, if_pos rfl]
      exact hs
    · rw [wr_place e, wr_place (by omega), if_neg (by omega)]
      exact h5 j (by omega)
/-- the reading of a part of the law: both push one value, or both stand at a fault -/
def POut (b : Nat → Int32) (m K : Nat) (pl ln : Nat → Nat) (e : Nat) (f g : Option (Int32 × St)) (i len d : Nat) (σ t : St) : Prop :=
  (∃ i' len' dep' σ' t', f = some (0, σ') ∧ g = some (0, t') ∧ At b m K pl ln i' σ' t' ∧ i < i' ∧ LawI len' dep' σ' t' ∧ len' + i ≤ len + i' ∧ dep' len' = d + 1 ∧ LwC σ σ' ∧ LwM t t') ∨
  ∃ σ' t' i' c len', f = some (0, σ') ∧ g = some (0, t') ∧ Flt m K pl i' c σ' t' ∧ i ≤ i' ∧ σ' 11 2 = nI len' ∧ len' + i ≤ len + i' + e ∧ LwC σ σ' ∧ LwM t t'
theorem At.lw {i : Nat} {σ t σ' t' : St} (h : At b m K pl ln i σ t) (h1 : LwC σ σ') (h2 : LwM t t') (h3 : ∀ j, σ' 2 j = σ 2 j) (h4 : ∀ j, t' 69 j = t 69 j) : At b m K pl ln i σ' t' :=
  h.cong (fun x q1 q2 => h1.1 x (by omega) (by omega) (by omega)) (fun j _ _ => h3 j) (fun j _ _ => h4 j) (h2.1 86 (by decide) (by decide) (by decide))
theorem At.push {i len : Nat} {σ t : St} {c mm : Int32} (h : At b m K pl ln i σ t) : At b m K pl ln i (wr (wr σ 12 len c) 11 2 (nI (len + 1))) (wr (wr t 84 (700 + len) mm) 71 9 (nI (len + 1))) :=
  h.cong (fun x q1 q2 => by rw [wr_slot (by omega), wr_slot (by omega)]) (fun j _ _ => by rw [wr_slot (by decide), wr_slot (by decide)]) (fun j _ _ => by rw [wr_slot (by decide), wr_slot (by decide)]) (by rw [wr_slot (by decide), wr_slot (by decide)])
theorem Flt.push {i len : Nat} {σ t : St} {c a : Int32} (h : Flt m K pl i c σ t) : Flt m K pl i c (wr (wr σ 12 len a) 11 2 (nI (len + 1))) t := by
  obtain ⟨h1, h2, h3, h4, h5, h6⟩ := h
  exact ⟨h1, h2, by rw [wr_slot (by decide), wr_slot (by decide)]; exact h3, h4, by rw [wr_slot (by decide), wr_slot (by decide)]; exact h5, h6⟩
theorem rsl_70 : ∀ v, v < 7 → (RSL 70 v, (if v = 0 then 302 else if v = 1 then 303 else nI (310 + v))) ∈ WL := by decide +kernel
theorem m_which (hm : m ≤ 700) (hT : TokB b m K pl ln) {i : Nat} {σ t : St} (h : At b m K pl ln i σ t) : ∃ y, fX12_which t = some (y, t) ∧ ((∃ v, v < 7 ∧ y = nI v ∧ σ 2 6 = (if v = 0 then 302 else if v = 1 then 303 else nI (310 + v))) ∨ (y = -1 ∧ ∀ v, v < 7 → ¬ σ 2 6 = (if v = 0 then 302 else if v = 1 then 303 else nI (310 + v)))) := by
  have L : ∀ k v fu, v + k = 7 → k < fu → (∀ x, x < v → ¬ σ 2 6 = (if x = 0 then 302 else if x = 1 then 303 else nI (310 + x))) → ∃ y, fX12_which_L2 fu (nI v) t = some (y, t) ∧ ((∃ v, v < 7 ∧ y = nI v ∧ σ 2 6 = (if v = 0 then 302 else if v = 1 then 303 else nI (310 + v))) ∨ (y = -1 ∧ ∀ v, v < 7 → ¬ σ 2 6 = (if v = 0 then 302 else if v = 1 then 303 else nI (310 + v)))) := by
    intro k
    induction k with
    | zero =>
      intro v fu hv hfu hx
      obtain ⟨fu, rfl⟩ : ∃ z, fu = z + 1 := ⟨fu - 1, by omega⟩
      obtain rfl : v = 7 := by omega
      exact ⟨-1, by rw [fX12_which_L2, if_pos (by decide)], Or.inr ⟨rfl, hx⟩⟩
    | succ k ih =>
      intro v fu hv hfu hx
      obtain ⟨fu, rfl⟩ : ∃ z, fu = z + 1 := ⟨fu - 1, by omega⟩
      have z7 : Int32.ofNat 7 = nI 7 := rfl
      have hI := p_is hm hT h (rsl_70 v (by omega))
      have hh : fX12_which_L2 (fu + 1) (nI v) t = if kflag (decide (σ 2 6 = (if v = 0 then 302 else if v = 1 then 303 else nI (310 + v)))) = 0 then fX12_which_L2 fu (nI (v + 1)) t else some (nI v, t) := by
        rw [fX12_which_L2, z7, if_neg (by rw [nI_leI (by omega) (by omega)]; omega), if_pos (inA_lt (by decide) (by omega)), nI_clamp (by omega), hI, bd_some, zra_1]
      rw [hh]
      by_cases e : σ 2 6 = (if v = 0 then 302 else if v = 1 then 303 else nI (310 + v))
      · rw [decide_eq_true e, if_neg (by decide)]
        exact ⟨_, rfl, Or.inl ⟨v, by omega, rfl, e⟩⟩
      · rw [decide_eq_false e, if_pos kf_f]
        exact ih (v + 1) fu (by omega) (by omega) (fun x hx2 => by
          by_cases q : x = v
          · rw [q]; exact e
          · exact hx x (by omega))
  obtain ⟨y, h1, h2⟩ := L 7 0 FU (by omega) (by decide) (fun x hx => absurd hx (by omega))
  exact ⟨y, h1, h2⟩
end LAWP
