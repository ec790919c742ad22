/-! ===== the start; how an op is held against the other ===== -/
theorem keep_wr {s : St} {k j : Nat} {v : Int32} (hS : relS k = false) (hM : k = 69 → relM j = false) (hO : relO k j = false) : Keep s (wr s k j v) := by
  refine ⟨fun k' e => ?_, fun j' e => ?_, fun k' j' e => ?_⟩
  · funext b
    rw [wr, if_neg]
    rintro ⟨rfl, -⟩
    rw [hS] at e; cases e
  · rw [wr, if_neg]
    rintro ⟨h1, rfl⟩
    rw [hM h1.symm] at e; cases e
  · rw [wr, if_neg]
    rintro ⟨rfl, rfl⟩
    rw [hO] at e; cases e
theorem keep_slot {s s' : St} {z : Nat} (hz : relS z = false) (h69 : z ≠ 69) (hO : ∀ j, relO z j = false) (e : ∀ k, k ≠ z → s' k = s k) : Keep s s' := by
  refine ⟨fun k' h => e k' (fun q => ?_), fun j' h => by rw [e 69 (fun q => h69 q.symm)], fun k' j' h => ?_⟩
  · subst q; rw [hz] at h; cases h
  · rw [e k' (fun q => ?_)]
    subst q; rw [hO] at h; cases h
theorem keep_code {s : St} {v : Int32} : Keep s (wr s 69 1 v) := keep_wr rfl (fun _ => rfl) rfl
theorem relO_111 (j : Nat) : relO 111 j = false := by
  rw [relO, List.contains_eq_any_beq]
  simp
theorem keep_out {s s' : St} (e : ∀ k, k ≠ 111 → s' k = s k) : Keep s s' := keep_slot rfl (by decide) relO_111 e
theorem wr_hit {s : St} {k j : Nat} {v : Int32} : wr s k j v k j = v := by rw [wr, if_pos ⟨rfl, rfl⟩]
theorem wr_slot {s : St} {k j k' : Nat} {v : Int32} (h : k' ≠ k) : wr s k j v k' = s k' := by
  funext b
  rw [wr, if_neg (fun e => h e.1)]
theorem wr_place {s : St} {k j j' : Nat} {v : Int32} (h : j' ≠ j) : wr s k j v k j' = s k j' := by
  rw [wr, if_neg (fun e => h e.2)]
/-- class and reference answer alike, and what holds between calls holds on; code: what a throw is called -/
def Good (f : St → Option (RT × St)) (g : St → Option (Int32 × St)) (code : Nat → Int32) : Prop :=
  ∀ s, RS s → ∃ (r : RT) (s1 : St), f s = some (r, s1) ∧ ∀ s3 : St, (∀ k, k ≠ 111 → s3 k = s1 k) → ∃ (y : Int32) (s4 : St), g s3 = some (y, s4) ∧ RS s4 ∧ s4 111 = s3 111 ∧ (match r with
    | .inl a => s4 69 1 = 0 ∧ y = a
    | .inr n => s4 69 1 = code n ∧ (n = 0 ∨ n = 1) ∧ code n ≠ 0)
/-- the same of calls that never throw -/
def Good0 (f g : St → Option (Int32 × St)) : Prop := ∀ s, RS s → ∃ (y : Int32) (s1 s2 : St), f s = some (y, s1) ∧ g s1 = some (y, s2) ∧ RS s2
def c12 (n : Nat) : Int32 := if n = 0 then 1 else 2
theorem good_sky (a b : Int32) : Good (fX11_sky a b) (fX12_sky a b) c12 := by
  intro s hs
  obtain ⟨n, nw, nf, r1, r2, -⟩ := id hs
  obtain ⟨⟨hn, hm, h12⟩, -⟩ := r1
  rcases i_cases a (n := n) (by omega) with ⟨p, hp, rfl⟩ | ho
  · rcases i_cases b (n := 4) (by omega) with ⟨k, hk, rfl⟩ | ho
    · refine ⟨.inl (s 34 (4 * p + k)), s, by rw [fX11_sky, c_person_in hn h12 hp, bx_val, c_part_in hk, bx_val, w_part rfl (by omega) hk, bd_some], fun s3 e3 => ⟨s 34 (4 * p + k), wr s3 69 1 0, ?_, (hs.keep (keep_out e3)).keep keep_code, wr_slot (by decide), wr_hit, rfl⟩⟩
      have hm3 : (wr s3 69 1 0) 71 0 = nI n := by rw [wr_slot (by decide), e3 71 (by decide)]; exact hm
      rw [fX12_sky]
      rw [m_person_in hm3 h12 hp, bd_some, if_neg (by decide), m_part_in hk, bd_some, if_neg (by decide), zlm_4, nI_add, if_pos (inA_lt (by decide) (by omega)), nI_clamp (by omega), wr_slot (by decide), e3 72 (by decide), ← r2.1.1 p k hp hk, vr_sky (by omega) hk]
    · refine ⟨.inr 0, s, by rw [fX11_sky, c_person_in hn h12 hp, bx_val, c_part_out ho, bx_thr], fun s3 e3 => ⟨0, wr (wr s3 69 1 0) 69 1 1, ?_, ((hs.keep (keep_out e3)).keep keep_code).keep keep_code, by rw [wr_slot (by decide), wr_slot (by decide)], wr_hit, Or.inl rfl, by decide⟩⟩
      have hm3 : (wr s3 69 1 0) 71 0 = nI n := by rw [wr_slot (by decide), e3 71 (by decide)]; exact hm
      rw [fX12_sky]
      rw [m_person_in hm3 h12 hp, bd_some, if_neg (by decide), m_part_out ho, bd_some, if_pos rfl, fX12_fail]
      rfl
  · refine ⟨.inr 0, s, by rw [fX11_sky, c_person_out hn ho, bx_thr], fun s3 e3 => ⟨0, wr (wr s3 69 1 0) 69 1 1, ?_, ((hs.keep (keep_out e3)).keep keep_code).keep keep_code, by rw [wr_slot (by decide), wr_slot (by decide)], wr_hit, Or.inl rfl, by decide⟩⟩
    have hm3 : (wr s3 69 1 0) 71 0 = nI n := by rw [wr_slot (by decide), e3 71 (by decide)]; exact hm
    rw [fX12_sky]
    rw [m_person_out hm3 h12 ho, bd_some, if_pos rfl, fX12_fail]
    rfl
theorem rs_start : RS sgI := by
  refine ⟨0, 0, 0, ?_, ?_, Or.inl ⟨rfl, rfl⟩, ?_, ⟨0, by decide, rfl, Or.inl ⟨rfl, rfl⟩, fun i h => absurd h (by omega)⟩, ⟨0, by decide, rfl, Or.inl ⟨rfl, rfl⟩, fun p h => absurd h (by omega)⟩, ⟨0, by decide, rfl, Or.inl ⟨rfl, rfl⟩, fun i h => absurd h (by omega)⟩⟩
  · refine ⟨⟨rfl, rfl, by decide⟩, ⟨rfl, rfl, by decide⟩, ⟨rfl, rfl, by decide⟩, rfl, fun p h => absurd h (by omega), fun p h => absurd h (by omega), ⟨fun p h => absurd h (by omega), fun i j h => absurd h (by omega), fun a b _ _ h => absurd rfl h⟩, ⟨0, rfl, rfl, rfl, by decide, Or.inl rfl⟩⟩
  · refine ⟨⟨fun p k h => absurd h (by omega), fun p h => absurd h (by omega), fun p h => absurd h (by omega), fun j hj => ?_, fun q hq => ?_, ⟨0, by decide, rfl, fun p h => absurd h (by omega)⟩, fun p _ hp => ?_⟩, ⟨fun p h => absurd h (by omega), fun p h => absurd h (by omega), ⟨fun _ => 0, fun p k h => absurd h (by omega), fun k _ => by show 0 ≤ 11988; omega⟩, fun j hj => ⟨0, by omega, ?_⟩, ⟨fun _ => 0, fun q hq => ?_, by decide⟩⟩, ⟨0, 0, by decide, by decide, rfl, rfl, rfl, fun i h => absurd h (by omega)⟩, ⟨0, by decide, rfl, rfl, fun i h => absurd h (by omega)⟩, fun i _ => rfl⟩
    · rw [vr_got (by omega)]
      show (0 : Int32) = if 48 ≤ 72 + j ∧ 72 + j < 72 then -1 else 0
      rw [if_neg (by omega)]
    · rw [vr_noon hq]
      show (0 : Int32) = if 48 ≤ 84 + q ∧ 84 + q < 72 then -1 else 0
      rw [if_neg (by omega)]
    · show (if 48 ≤ 48 + p ∧ 48 + p < 72 then (-1 : Int32) else 0) = -1
      rw [if_pos (by omega)]
    · show (if 48 ≤ 72 + j ∧ 72 + j < 72 then (-1 : Int32) else 0) = 0
      rw [if_neg (by omega)]
    · show (if 48 ≤ 84 + q ∧ 84 + q < 72 then (-1 : Int32) else 0) = 0
      rw [if_neg (by omega)]
  · exact ⟨⟨0, by decide, rfl, rfl⟩, fun i _ => ⟨rfl, 0, by decide, rfl⟩, rfl⟩
