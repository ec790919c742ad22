/-! ===== land: numbers, persons, marks, words, side by side ===== -/
def RdC (σ σ' : St) : Prop := (∀ x, x ≠ 2 → σ' x = σ x) ∧ ∀ j, j ≠ 4 → j ≠ 5 → j ≠ 6 → j ≠ 7 → σ' 2 j = σ 2 j
def RdM (t t' : St) : Prop := (∀ x, x ≠ 69 → t' x = t x) ∧ ∀ j, j ≠ 20 → j ≠ 22 → j ≠ 23 → j ≠ 24 → j ≠ 25 → j ≠ 26 → j ≠ 27 → t' 69 j = t 69 j
theorem RdC.refl (σ : St) : RdC σ σ := ⟨fun _ _ => rfl, fun _ _ _ _ _ => rfl⟩
theorem RdM.refl (t : St) : RdM t t := ⟨fun _ _ => rfl, fun _ _ _ _ _ _ _ _ => rfl⟩
theorem RdC.tr {a b c : St} (h : RdC a b) (h2 : RdC b c) : RdC a c := ⟨fun x q => (h2.1 x q).trans (h.1 x q), fun j a b c d => (h2.2 j a b c d).trans (h.2 j a b c d)⟩
theorem RdM.tr {a b c : St} (h : RdM a b) (h2 : RdM b c) : RdM a c := ⟨fun x q => (h2.1 x q).trans (h.1 x q), fun j a b c d e f g => (h2.2 j a b c d e f g).trans (h.2 j a b c d e f g)⟩
theorem MovC.rd {a b : St} (h : MovC a b) : RdC a b := ⟨h.1, fun j _ q1 q2 q3 => h.2 j q1 q2 q3⟩
theorem MovM.rd {a b : St} (h : MovM a b) : RdM a b := ⟨h.1, fun j q1 q2 q3 q4 q5 _ _ => h.2 j q1 q2 q3 q4 q5⟩
theorem dec_nat {b : Nat → Int32} {p : Nat} : ∀ l, l ≤ 4 → (∀ j, j < l → chK (b (p + j)) = 200) → ∃ w, w < 10 ^ l ∧ decS b p l = nI w
  | 0, _, _ => ⟨0, by decide, rfl⟩
  | l + 1, hl, h => by
    obtain ⟨w, hw, e⟩ := dec_nat l (by omega) (fun j hj => h j (by omega))
    obtain ⟨d, d1, d2, d3⟩ := dig_byte (h l (by omega))
    have hw3 : w < 1000 := Nat.lt_of_lt_of_le hw (Nat.le_trans (Nat.pow_le_pow_right (by decide) (show l ≤ 3 by omega)) (by decide))
    refine ⟨10 * w + d - 48, by rw [Nat.pow_succ]; omega, ?_⟩
    have z : (48 : Int32) = nI 48 := rfl
    have z10 : (10 : Int32) = nI 10 := rfl
    unfold decS at e ⊢
    rw [accN_succ, Nat.zero_add, e, d3, z, z10, nI_mul, nI_add, nI_less _ _ (by omega), Nat.mul_comm w 10]
theorem word_ge (b : Nat → Int32) (p l : Nat) : ∃ w, 300 ≤ w ∧ w ≤ 316 ∧ wordS b p l = nI w := by
  rcases word_cases b p l with h | ⟨x, hx, h, -⟩
  · exact ⟨300, by decide, by decide, h⟩
  · have : ∀ x ∈ WL, 300 ≤ x.2.toNatClampNeg ∧ x.2.toNatClampNeg ≤ 316 ∧ x.2 = nI x.2.toNatClampNeg := by decide +kernel
    obtain ⟨a, c, d⟩ := this x hx
    exact ⟨_, a, c, h.trans d⟩
theorem kind_word {b : Nat → Int32} {p l : Nat} (c : Int32) (h : chK (b p) = 300) (hc : c < 300) : ¬ kindT b p l = c := by
  rw [kindT, if_pos h]
  obtain ⟨w, h1, h2, h3⟩ := word_ge b p l
  rw [h3]
  intro q
  rw [← q] at hc
  have := (nI_ltI (show w < 2147483648 by omega) (show 300 < 2147483648 by decide)).mp hc
  omega
section PAIR2
variable {b : Nat → Int32} {m K : Nat} {pl ln : Nat → Nat} {i : Nat} {σ t : St}
/-- the reading of one thing: both come on, or both stand at the fault -/
def OutF (m K : Nat) (pl : Nat → Nat) (i : Nat) (σ t σ' t' : St) : Prop := ∃ c, Flt m K pl i c σ' t' ∧ RdC σ σ' ∧ RdM t t'
theorem p_flt (h : At b m K pl ln i σ t) {c : Int32} (hc : ¬ c = 0) : ∃ σ' t', fX6_refuse c σ = some (0, σ') ∧ fX12_wrong c t = some (0, t') ∧ OutF m K pl i σ t σ' t' ∧ σ' 2 7 = σ 2 7 := by
  obtain ⟨h1, h2, h3⟩ := p_fault h hc
  exact ⟨_, _, h1, h2, ⟨c, h3, ⟨fun x hx => wr_slot hx, fun j q1 _ _ _ => wr_place q1⟩, ⟨fun x hx => by rw [wr_slot hx, wr_slot hx], fun j _ _ _ _ _ q6 q7 => by rw [wr_place q7, wr_place q6]⟩⟩, wr_place (by decide)⟩
theorem Flt.ne {c : Int32} (h : Flt m K pl i c σ t) : ¬ σ 2 4 = 0 ∧ ¬ t 69 26 = 0 := ⟨by rw [h.2.2.1]; exact h.2.1, by rw [h.2.2.2.1]; exact h.2.1⟩
theorem OutF.ne {σ' t' : St} (h : OutF m K pl i σ t σ' t') : ¬ σ' 2 4 = 0 ∧ ¬ t' 69 26 = 0 := h.elim fun _ q => q.1.ne
theorem p_number (hm : m ≤ 700) (hT : TokB b m K pl ln) (h : At b m K pl ln i σ t) {lo hi : Nat} (hlo : lo ≤ 9999) (hhi : hi ≤ 9999) :
    (i < K ∧ ∃ v, lo ≤ v ∧ v ≤ hi ∧ fX6_lookNumber (nI lo) (nI hi) σ = some (nI v, σ) ∧ fX12_numberNow (nI lo) (nI hi) t = some (nI v, t)) ∨ ∃ y σ' t', fX6_lookNumber (nI lo) (nI hi) σ = some (y, σ') ∧ fX12_numberNow (nI lo) (nI hi) t = some (0, t') ∧ OutF m K pl i σ t σ' t' := by
  obtain ⟨a1, a2, ⟨a3, a4⟩, a5, a6, ⟨a7, a8, a9⟩, a10⟩ := id h
  have hk : (σ 2 6 = 200 ∧ t 69 22 = 2 ∧ i < K ∧ chK (b (pl i)) = 200) ∨ (¬ σ 2 6 = 200 ∧ ¬ t 69 22 = 2) := by
    rcases a10 with ⟨q1, q2, -⟩ | ⟨q1, q2, -⟩
    · rw [a8, q2, kAt, if_pos q1]
      by_cases e : chK (b (pl i)) = 200
      · left
        rw [kindT, tyS, e]
        exact ⟨if_neg (by decide), (if_neg (by decide)).trans (if_pos rfl), q1, rfl⟩
      · right
        refine ⟨fun q => ?_, fun q => ?_⟩
        · by_cases e3 : chK (b (pl i)) = 300
          · exact kind_word 200 e3 (by decide) q
          · rw [kindT, if_neg e3] at q
            exact e q
        · rw [tyS, if_neg e] at q
          by_cases e3 : chK (b (pl i)) = 300
          · rw [if_pos e3] at q
            exact absurd q (by decide)
          · rw [if_neg e3] at q
            by_cases e4 : mkD (b (pl i)) = true
            · rw [if_pos e4] at q
              exact absurd q (by decide)
            · rw [if_neg e4] at q
              exact absurd q (by decide)
    · right
      rw [a8, q2, kAt, if_neg (by omega)]
      exact ⟨by decide, by decide⟩
  rcases hk with ⟨k1, k2, k3, k4⟩ | ⟨k1, k2⟩
  · have ev : σ 2 7 = if ln i ≤ 4 then decS b (pl i) (ln i) else -1 := by rw [a9, vAt, if_pos k3, numT, if_pos k4]
    obtain ⟨e25, e24, e23⟩ : t 69 25 = nI (pl i + ln i) ∧ t 69 24 = nI (pl i) ∧ (ln i ≤ 4 → t 69 23 = decS b (pl i) (ln i)) := by
      rcases a10 with ⟨q1, q2, q3, q4, q5, q6⟩ | ⟨q1, -⟩
      · exact ⟨q5, q3, q6 k4⟩
      · omega
    obtain ⟨o1, o2, o3, o4, o5, o6, o7, o8⟩ := hT.1 i k3
    have hc : fX6_lookNumber (nI lo) (nI hi) σ = fX6_lookNumber_J22 (nI lo) (nI hi) σ := by rw [fX6_lookNumber, if_pos a5, if_pos k1]
    have e4 : (4 : Int32) < t 69 25 - t 69 24 ↔ 4 < ln i := by
      rw [e25, e24, nI_less _ _ (by omega), Nat.add_sub_cancel_left]
      exact zlt_4 _ (by omega)
    have bad : ∀ (hcl : fX6_lookNumber_J22 (nI lo) (nI hi) σ = bd (fX6_refuse (2 : Int32) σ) (fun y_1 s_1 => some ((s_1 2 7), s_1))) (hmd : fX12_numberNow (nI lo) (nI hi) t = fX12_numberNow_J54 t), ∃ y σ' t', fX6_lookNumber (nI lo) (nI hi) σ = some (y, σ') ∧ fX12_numberNow (nI lo) (nI hi) t = some (0, t') ∧ OutF m K pl i σ t σ' t' := fun hcl hmd => by
      obtain ⟨σ', t', f1, f2, f3, f4⟩ := p_flt h (c := 2) (by decide)
      refine ⟨σ' 2 7, σ', t', by rw [hc, hcl, f1, bd_some], ?_, f3⟩
      rw [hmd, fX12_numberNow_J54, f2, bd_some, if_neg f3.ne.2]
    by_cases l4 : ln i ≤ 4
    · rw [if_pos l4] at ev
      obtain ⟨w, hw, ew⟩ := dec_nat (ln i) l4 (fun j hj => by rw [o6 j hj]; exact k4)
      have hw4 : w < 10000 := Nat.lt_of_lt_of_le hw (Nat.le_trans (Nat.pow_le_pow_right (by decide) l4) (by decide))
      rw [ew] at ev
      have e23' := (e23 l4).trans ew
      by_cases c1 : w < lo
      · right
        exact bad (by rw [fX6_lookNumber_J22, ev, if_pos (by rw [nI_ltI (by omega) (by omega)]; exact c1)]) (by rw [fX12_numberNow, if_pos a6, if_pos k2, if_neg (by rw [e4]; omega), e23', if_pos (by rw [nI_ltI (by omega) (by omega)]; exact c1)])
      · by_cases c2 : w ≤ hi
        · left
          refine ⟨k3, w, by omega, c2, ?_, ?_⟩
          · rw [hc, fX6_lookNumber_J22, ev, if_neg (by rw [nI_ltI (by omega) (by omega)]; exact c1), if_pos (by rw [nI_leI (by omega) (by omega)]; exact c2)]
          · rw [fX12_numberNow, if_pos a6, if_pos k2, if_neg (by rw [e4]; omega), e23', if_neg (by rw [nI_ltI (by omega) (by omega)]; exact c1), if_pos (by rw [nI_leI (by omega) (by omega)]; exact c2), if_pos a6]
        · right
          exact bad (by rw [fX6_lookNumber_J22, ev, if_neg (by rw [nI_ltI (by omega) (by omega)]; exact c1), if_neg (by rw [nI_leI (by omega) (by omega)]; exact c2)]) (by rw [fX12_numberNow, if_pos a6, if_pos k2, if_neg (by rw [e4]; omega), e23', if_neg (by rw [nI_ltI (by omega) (by omega)]; exact c1), if_neg (by rw [nI_leI (by omega) (by omega)]; exact c2)])
    · rw [if_neg l4] at ev
      right
      have hlt : (-1 : Int32) < nI lo := by
        rw [i_lt, nI_toInt (by omega)]
        show (-1 : Int) < _
        omega
      exact bad (by rw [fX6_lookNumber_J22, ev, if_pos hlt]) (by rw [fX12_numberNow, if_pos a6, if_pos k2, if_pos (by rw [e4]; omega)])
  · right
    obtain ⟨σ', t', f1, f2, f3, f4⟩ := p_flt h (c := 1) (by decide)
    refine ⟨σ' 2 7, σ', t', ?_, ?_, f3⟩
    · rw [fX6_lookNumber, if_pos a5, if_neg k1, f1, bd_some, fz_J22 f3.ne.1]
    · rw [fX12_numberNow, if_pos a6, if_neg k2, f2, bd_some, if_neg f3.ne.2]
theorem p_takeNumber (hm : m ≤ 700) (hK : K ≤ m) (hT : TokB b m K pl ln) (hB : Bytes b) (h : At b m K pl ln i σ t) {lo hi : Nat} (hlo : lo ≤ 9999) (hhi : hi ≤ 9999) :
    (∃ v σ' t', lo ≤ v ∧ v ≤ hi ∧ fX6_takeNumber (nI lo) (nI hi) σ = some (nI v, σ') ∧ fX12_readNumber (nI lo) (nI hi) t = some (nI v, t') ∧ i < K ∧ At b m K pl ln (i + 1) σ' t' ∧ RdC σ σ' ∧ RdM t t') ∨ ∃ y σ' t', fX6_takeNumber (nI lo) (nI hi) σ = some (y, σ') ∧ fX12_readNumber (nI lo) (nI hi) t = some (0, t') ∧ OutF m K pl i σ t σ' t' := by
  rcases p_number hm hT h hlo hhi with ⟨hi, v, v1, v2, e1, e2⟩ | ⟨y, σ', t', e1, e2, e3⟩
  · left
    obtain ⟨σ', t', n1, n2, n3, n4, n5⟩ := p_next hm hK hT hB h hi
    exact ⟨v, σ', t', v1, v2, by rw [fX6_takeNumber, e1, bd_some, n1, bd_some], by rw [fX12_readNumber, e2, bd_some, if_pos h.2.2.2.2.1, n2, bd_some], hi, n3, n4.rd, n5.rd⟩
  · right
    exact ⟨y, σ', t', by rw [fX6_takeNumber, e1, bd_some, fz_advance e3.ne.1, bd_some], by rw [fX12_readNumber, e2, bd_some, if_neg e3.ne.2], e3⟩
end PAIR2
