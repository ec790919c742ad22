/-! ===== land: what a fault leaves standing ===== -/
section FROZEN
variable {σ t : St}
theorem fz_advance (h : ¬ σ 2 4 = 0) : fX6_advance σ = some (0, σ) := by rw [fX6_advance, if_neg h]
theorem fz_refuse (h : ¬ σ 2 4 = 0) (c : Int32) : fX6_refuse c σ = some (0, σ) := by rw [fX6_refuse, if_neg h]
theorem fz_first (h : ¬ σ 2 4 = 0) (a c : Int32) : fX6_takeFirst a c σ = some (0, σ) := by
  rw [fX6_takeFirst, fz_advance h, fz_refuse h]
  by_cases e : a = 0
  · rw [if_pos e]; rfl
  · rw [if_neg e, bd_some, fz_advance h]; rfl
theorem fz_J22 (h : ¬ σ 2 4 = 0) (a c : Int32) : fX6_lookNumber_J22 a c σ = some (σ 2 7, σ) := by
  rw [fX6_lookNumber_J22, fz_refuse h, bd_some]
  by_cases e : σ 2 7 < a
  · rw [if_pos e]
  · rw [if_neg e]
    by_cases e2 : σ 2 7 ≤ c
    · rw [if_pos e2]
    · rw [if_neg e2]
theorem fz_look (h : ¬ σ 2 4 = 0) (a c : Int32) : fX6_lookNumber a c σ = some (σ 2 7, σ) := by rw [fX6_lookNumber, if_neg h, fz_J22 h]
theorem fz_person (h : ¬ σ 2 4 = 0) (a : Int32) : fX6_lookPerson a σ = some (σ 2 7, σ) := by
  have hJ : ∀ v, fX6_lookPerson_J25 a v σ = some (v, σ) := fun v => by
    rw [fX6_lookPerson_J25, fz_refuse h, bd_some]
    by_cases e : v = a
    · rw [if_pos e]
    · rw [if_neg e]
  rw [fX6_lookPerson, fz_look h, bd_some, fz_refuse h, bd_some, hJ]
  by_cases e : σ 2 7 < σ 3 0
  · rw [if_pos e]
  · rw [if_neg e]
theorem fz_takePerson (h : ¬ σ 2 4 = 0) (a : Int32) : fX6_takePerson a σ = some (σ 2 7, σ) := by rw [fX6_takePerson, fz_person h, bd_some, fz_advance h, bd_some]
theorem fz_takeNumber (h : ¬ σ 2 4 = 0) (a c : Int32) : fX6_takeNumber a c σ = some (σ 2 7, σ) := by rw [fX6_takeNumber, fz_look h, bd_some, fz_advance h, bd_some]
theorem fz_take (h : ¬ σ 2 4 = 0) (a : Int32) : fX6_take a σ = some (0, σ) := by
  rw [fX6_take, fz_advance h, fz_refuse h]
  by_cases e : σ 2 6 = a
  · rw [if_pos e]; rfl
  · rw [if_neg e, bd_some, fz_advance h]; rfl
theorem fz_wrong (h : ¬ t 69 26 = 0) (c : Int32) : fX12_wrong c t = some (0, t) := by rw [fX12_wrong, if_neg h]
theorem fz_number (h : ¬ t 69 26 = 0) (a c : Int32) : fX12_numberNow a c t = some (0, t) := by rw [fX12_numberNow, if_neg h]
theorem fz_readNumber (h : ¬ t 69 26 = 0) (a c : Int32) : fX12_readNumber a c t = some (0, t) := by rw [fX12_readNumber, fz_number h, bd_some, if_neg h]
theorem fz_personNow (h : ¬ t 69 26 = 0) : fX12_personNow t = some (0, t) := by rw [fX12_personNow, fz_number h, bd_some, if_neg h, if_neg h]
theorem fz_otherNow (h : ¬ t 69 26 = 0) (a : Int32) : fX12_otherNow a t = some (0, t) := by rw [fX12_otherNow, fz_personNow h, bd_some, if_neg h]
theorem fz_readPerson (h : ¬ t 69 26 = 0) : fX12_readPerson t = some (0, t) := by rw [fX12_readPerson, fz_personNow h, bd_some, if_neg h]
theorem fz_is (h : ¬ t 69 26 = 0) (x : Nat) : fX12_is x t = some (0, t) := by
  rw [fX12_is, if_neg h, fX12_is_J35, fX12_is_J36]
  show fX12_is_L39 x (19999 + 1) 0 0 t = _
  rw [fX12_is_L39, if_pos rfl, if_pos (Or.inl rfl)]
theorem fz_isMarked (h : ¬ t 69 26 = 0) (x : Int32) : fX12_isMarked x t = some (0, t) := by rw [fX12_isMarked, if_neg h]
theorem fz_mark (h : ¬ t 69 26 = 0) (x : Int32) : fX12_mark x t = some (0, t) := by rw [fX12_mark, if_neg h, if_neg h]
theorem fz_lay (h : ¬ t 69 26 = 0) (x : Int32) : fX12_lay x t = some (0, t) := by rw [fX12_lay, if_neg h]
end FROZEN
/-! ===== land: reading, side by side ===== -/
section PAIR
variable {b : Nat → Int32} {m K : Nat} {pl ln : Nat → Nat}
def kAt (b : Nat → Int32) (K : Nat) (pl ln : Nat → Nat) (i : Nat) : Int32 := if i < K then kindT b (pl i) (ln i) else -1
def vAt (b : Nat → Int32) (K : Nat) (pl ln : Nat → Nat) (i : Nat) : Int32 := if i < K then numT b (pl i) (ln i) else 0
def pAt (m K : Nat) (pl : Nat → Nat) (i : Nat) : Nat := if i < K then pl i else m
/-- both stand at token i, no fault -/
def At (b : Nat → Int32) (m K : Nat) (pl ln : Nat → Nat) (i : Nat) (σ t : St) : Prop := i ≤ K ∧ Toks b m K pl ln σ ∧ (t 69 21 = nI m ∧ ∀ j, j < 700 → t 86 j = b j) ∧ σ 2 4 = 0 ∧ t 69 26 = 0 ∧ (σ 2 5 = nI i ∧ σ 2 6 = kAt b K pl ln i ∧ σ 2 7 = vAt b K pl ln i) ∧ RefT b m K pl ln i t
/-- only what reading moves -/
def MovC (σ σ' : St) : Prop := (∀ x, x ≠ 2 → σ' x = σ x) ∧ ∀ j, j ≠ 5 → j ≠ 6 → j ≠ 7 → σ' 2 j = σ 2 j
def MovM (t t' : St) : Prop := (∀ x, x ≠ 69 → t' x = t x) ∧ ∀ j, j ≠ 20 → j ≠ 22 → j ≠ 23 → j ≠ 24 → j ≠ 25 → t' 69 j = t 69 j
/-- the same fault at the same place -/
def Flt (m K : Nat) (pl : Nat → Nat) (i : Nat) (c : Int32) (σ t : St) : Prop := i ≤ K ∧ ¬ c = 0 ∧ σ 2 4 = c ∧ t 69 26 = c ∧ σ 2 5 = nI i ∧ t 69 27 = nI (pAt m K pl i)
theorem At.cong {i : Nat} {σ t σ' t' : St} (h : At b m K pl ln i σ t) (h1 : ∀ x, 17 ≤ x → x ≤ 19 → σ' x = σ x) (h2 : ∀ j, 4 ≤ j → j ≤ 7 → σ' 2 j = σ 2 j) (h3 : ∀ j, 20 ≤ j → j ≤ 26 → t' 69 j = t 69 j) (h4 : t' 86 = t 86) : At b m K pl ln i σ' t' := by
  obtain ⟨a1, a2, ⟨a3, a4⟩, a5, a6, ⟨a7, a8, a9⟩, a10⟩ := h
  refine ⟨a1, ?_, ⟨by rw [h3 21 (by decide) (by decide)]; exact a3, by rw [h4]; exact a4⟩, by rw [h2 4 (by decide) (by decide)]; exact a5, by rw [h3 26 (by decide) (by decide)]; exact a6, ⟨by rw [h2 5 (by decide) (by decide)]; exact a7, by rw [h2 6 (by decide) (by decide)]; exact a8, by rw [h2 7 (by decide) (by decide)]; exact a9⟩, ?_⟩
  · unfold Toks at a2 ⊢
    rw [h1 17 (by decide) (by decide), h1 18 (by decide) (by decide), h1 19 (by decide) (by decide)]
    exact a2
  · unfold RefT at a10 ⊢
    rw [h3 22 (by decide) (by decide), h3 24 (by decide) (by decide), h3 20 (by decide) (by decide), h3 25 (by decide) (by decide), h3 23 (by decide) (by decide)]
    exact a10
theorem p_place {i : Nat} {σ t : St} (h : At b m K pl ln i σ t) : t 69 24 = nI (pAt m K pl i) := by
  rcases h.2.2.2.2.2.2 with ⟨h1, -, h2, -⟩ | ⟨h1, -, h2, -⟩
  · rw [h2, pAt, if_pos h1]
  · rw [h2, pAt, if_neg (by omega)]
theorem p_fault {i : Nat} {σ t : St} (h : At b m K pl ln i σ t) {c : Int32} (hc : ¬ c = 0) : fX6_refuse c σ = some (0, wr σ 2 4 c) ∧ fX12_wrong c t = some (0, wr (wr t 69 26 c) 69 27 (nI (pAt m K pl i))) ∧ Flt m K pl i c (wr σ 2 4 c) (wr (wr t 69 26 c) 69 27 (nI (pAt m K pl i))) := by
  refine ⟨by rw [fX6_refuse, if_pos h.2.2.2.1], ?_, h.1, hc, wr_hit, by rw [wr_place (by decide), wr_hit], by rw [wr_place (by decide)]; exact h.2.2.2.2.2.1.1, wr_hit⟩
  rw [fX12_wrong, if_pos h.2.2.2.2.1]
  dsimp only
  rw [wr_place (show (24 : Nat) ≠ 26 by decide), p_place h]
theorem p_next (hm : m ≤ 700) (hK : K ≤ m) (hT : TokB b m K pl ln) (hB : Bytes b) {i : Nat} {σ t : St} (h : At b m K pl ln i σ t) (hi : i < K) : ∃ σ' t', fX6_advance σ = some (0, σ') ∧ fX12_stepOn t = some (0, t') ∧ At b m K pl ln (i + 1) σ' t' ∧ MovC σ σ' ∧ MovM t t' := by
  obtain ⟨a1, a2, ⟨a3, a4⟩, a5, a6, ⟨a7, a8, a9⟩, a10⟩ := id h
  have e20 : t 69 20 = nI (pl i + ln i) := by
    rcases a10 with ⟨-, -, -, q, -⟩ | ⟨q, -⟩
    · exact q
    · omega
  have hp : pl i + ln i ≤ if i + 1 < K then pl (i + 1) else m := by
    by_cases e : i + 1 < K
    · rw [if_pos e]
      exact (hT.1 (i + 1) e).1
    · rw [if_neg e]
      exact (hT.1 i hi).2.2.2.1
  obtain ⟨t', t1, t2, t3, t4⟩ := m_stepOn (t := t) (i := i + 1) (p0 := pl i + ln i) hm hT hB a3 a4 (by omega) (Nat.le_refl _) hp e20
  have k17 : σ 17 (i + 1) = kAt b K pl ln (i + 1) ∧ σ 19 (i + 1) = vAt b K pl ln (i + 1) := by
    unfold kAt vAt
    by_cases e : i + 1 < K
    · rw [if_pos e, if_pos e]
      exact ⟨(a2.1 (i + 1) e).1, (a2.1 (i + 1) e).2.2⟩
    · obtain rfl : i + 1 = K := by omega
      rw [if_neg e, if_neg e]
      exact ⟨a2.2.1, a2.2.2.2⟩
  obtain ⟨σ', hσ'⟩ : ∃ σ', σ' = wr (wr (wr σ 2 5 (nI (i + 1))) 2 6 (kAt b K pl ln (i + 1))) 2 7 (vAt b K pl ln (i + 1)) := ⟨_, rfl⟩
  have c1 : fX6_advance σ = some (0, σ') := by
    rw [fX6_advance, if_pos a5]
    dsimp only
    rw [a7, zra_1, wr_hit, at_nI (by decide) (by show i + 1 < 701; omega), bd_some, wr_slot (show (17 : Nat) ≠ 2 by decide), k17.1, wr_place (show (5 : Nat) ≠ 6 by decide), wr_hit, at_nI (by decide) (by show i + 1 < 701; omega), bd_some, wr_slot (show (19 : Nat) ≠ 2 by decide), wr_slot (show (19 : Nat) ≠ 2 by decide), k17.2, hσ']
  have mc : MovC σ σ' := ⟨fun x hx => by rw [hσ', wr_slot hx, wr_slot hx, wr_slot hx], fun j q1 q2 q3 => by rw [hσ', wr_place q3, wr_place q2, wr_place q1]⟩
  refine ⟨σ', t', c1, t1, ⟨by omega, ?_, ⟨by rw [t4 21 (by decide) (by decide) (by decide) (by decide) (by decide)]; exact a3, by rw [t3 86 (by decide)]; exact a4⟩, by rw [mc.2 4 (by decide) (by decide) (by decide)]; exact a5, by rw [t4 26 (by decide) (by decide) (by decide) (by decide) (by decide)]; exact a6, ⟨by rw [hσ', wr_place (by decide), wr_place (by decide), wr_hit], by rw [hσ', wr_place (by decide), wr_hit], by rw [hσ', wr_hit]⟩, t2⟩, mc, t3, t4⟩
  unfold Toks at a2 ⊢
  rw [mc.1 17 (by decide), mc.1 18 (by decide), mc.1 19 (by decide)]
  exact a2
end PAIR
