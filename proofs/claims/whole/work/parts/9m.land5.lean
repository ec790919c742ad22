/-! ===== land: one step of the reference ===== -/
theorem wr_back {s : St} {k j : Nat} {v : Int32} (h : s k j = v) : wr s k j v = s := by
  funext x y
  rw [wr]
  by_cases q : x = k ∧ y = j
  · rw [if_pos q, q.1, q.2, h]
  · rw [if_neg q]
theorem wr_swap {s : St} {k j j' : Nat} {v w : Int32} (h : ¬ j = j') : wr (wr s k j v) k j' w = wr (wr s k j' w) k j v := by
  funext x y
  by_cases q : x = k
  · subst q
    by_cases e : y = j
    · subst e
      rw [wr_place h, wr_hit, wr_hit]
    · by_cases e2 : y = j'
      · subst e2
        rw [wr_hit, wr_place e, wr_hit]
      · rw [wr_place e2, wr_place e, wr_place e, wr_place e2]
  · rw [wr_slot q, wr_slot q, wr_slot q, wr_slot q]
def tyS (x : Int32) : Int32 := if chK x = 300 then 1 else if chK x = 200 then 2 else if mkD x = true then 3 else 4
def RefT (b : Nat → Int32) (m K : Nat) (pl ln : Nat → Nat) (i : Nat) (t : St) : Prop := (i < K ∧ t 69 22 = tyS (b (pl i)) ∧ t 69 24 = nI (pl i) ∧ t 69 20 = nI (pl i + ln i) ∧ t 69 25 = nI (pl i + ln i) ∧ (chK (b (pl i)) = 200 → ln i ≤ 4 → t 69 23 = decS b (pl i) (ln i))) ∨ (i = K ∧ t 69 22 = 0 ∧ t 69 24 = nI m ∧ t 69 20 = nI m ∧ t 69 25 = nI m)
def Bytes (b : Nat → Int32) : Prop := ∀ j, j < 700 → ∃ c, c < 256 ∧ b j = nI c
section STEPON
variable {b : Nat → Int32} {m : Nat}
theorem m_byteAt {t : St} {p : Nat} (hm : m ≤ 700) (h21 : t 69 21 = nI m) (hb : ∀ j, j < 700 → t 86 j = b j) (hp : p ≤ m) : fX12_byteAt (nI p) t = some ((if p < m then b p else -1), t) := by
  rw [fX12_byteAt, h21]
  by_cases e : p < m
  · rw [if_neg (by rw [nI_leI (by omega) (by omega)]; omega), if_pos (inA_lt (by decide) (by omega)), nI_clamp (by omega), hb p (by omega), if_pos e]
  · rw [if_pos (by rw [nI_leI (by omega) (by omega)]; omega), if_neg e]
theorem m_skip {t : St} {P : Nat} (kk : St → Option (Int32 × St)) (hm : m ≤ 700) (h21 : t 69 21 = nI m) (hb : ∀ j, j < 700 → t 86 j = b j) (hP : P ≤ m) (hn : P < m → ¬ chK (b P) = -3) : ∀ k p fu, p + k = P → k < fu → (∀ j, p ≤ j → j < P → chK (b j) = -3) → fX12_stepOn_L0 kk fu (wr t 69 20 (nI p)) = kk (wr t 69 20 (nI P)) := by
  intro k
  induction k with
  | zero =>
    intro p fu hp hfu hbl
    obtain ⟨fu, rfl⟩ : ∃ z, fu = z + 1 := ⟨fu - 1, by omega⟩
    obtain rfl : p = P := by omega
    have hB : fX12_byteAt (nI p) (wr t 69 20 (nI p)) = some ((if p < m then b p else -1), wr t 69 20 (nI p)) := m_byteAt hm (by rw [wr_place (by decide)]; exact h21) (by rw [wr_slot (by decide)]; exact hb) hP
    have h2 : ¬ (if p < m then b p else -1) = 32 ∧ ¬ (if p < m then b p else -1) = 10 := by
      by_cases e : p < m
      · rw [if_pos e]
        exact ⟨fun q => hn e ((chK_blank _).mpr (Or.inr q)), fun q => hn e ((chK_blank _).mpr (Or.inl q))⟩
      · rw [if_neg e]
        decide
    rw [fX12_stepOn_L0, wr_hit, hB, bd_some, if_neg h2.1, wr_hit, hB, bd_some, if_neg h2.2]
  | succ k ih =>
    intro p fu hp hfu hbl
    obtain ⟨fu, rfl⟩ : ∃ z, fu = z + 1 := ⟨fu - 1, by omega⟩
    have hB : fX12_byteAt (nI p) (wr t 69 20 (nI p)) = some ((if p < m then b p else -1), wr t 69 20 (nI p)) := m_byteAt hm (by rw [wr_place (by decide)]; exact h21) (by rw [wr_slot (by decide)]; exact hb) (by omega)
    rw [if_pos (show p < m by omega)] at hB
    have hx := (chK_blank _).mp (hbl p (Nat.le_refl _) (by omega))
    have next := ih (p + 1) fu (by omega) (by omega) (fun j h1 h2 => hbl j (by omega) h2)
    rw [fX12_stepOn_L0, wr_hit, hB, bd_some]
    by_cases e : b p = 32
    · rw [if_pos e]
      dsimp only
      rw [wr_hit, wr_wr, zra_1]
      exact next
    · rw [if_neg e, wr_hit, hB, bd_some, if_pos (hx.resolve_right e)]
      dsimp only
      rw [wr_hit, wr_wr, zra_1]
      exact next
theorem m_letters {t : St} {E : Nat} (kk : St → Option (Int32 × St)) (hm : m ≤ 700) (h21 : t 69 21 = nI m) (hb : ∀ j, j < 700 → t 86 j = b j) (hE : E ≤ m) (hn : E < m → ¬ chK (b E) = 300) : ∀ k p fu, p + k = E → k < fu → (∀ j, p ≤ j → j < E → chK (b j) = 300) → fX12_stepOn_L76 kk fu (wr t 69 20 (nI p)) = kk (wr t 69 20 (nI E)) := by
  intro k
  induction k with
  | zero =>
    intro p fu hp hfu hbl
    obtain ⟨fu, rfl⟩ : ∃ z, fu = z + 1 := ⟨fu - 1, by omega⟩
    obtain rfl : p = E := by omega
    have hB : fX12_byteAt (nI p) (wr t 69 20 (nI p)) = some ((if p < m then b p else -1), wr t 69 20 (nI p)) := m_byteAt hm (by rw [wr_place (by decide)]; exact h21) (by rw [wr_slot (by decide)]; exact hb) hE
    have h2 : ¬ chK (if p < m then b p else -1) = 300 := by
      by_cases e : p < m
      · rw [if_pos e]
        exact hn e
      · rw [if_neg e]
        decide
    rw [fX12_stepOn_L76, wr_hit, hB, bd_some, m_isLetter, bd_some, decide_eq_false h2, if_pos kf_f]
  | succ k ih =>
    intro p fu hp hfu hbl
    obtain ⟨fu, rfl⟩ : ∃ z, fu = z + 1 := ⟨fu - 1, by omega⟩
    have hB : fX12_byteAt (nI p) (wr t 69 20 (nI p)) = some ((if p < m then b p else -1), wr t 69 20 (nI p)) := m_byteAt hm (by rw [wr_place (by decide)]; exact h21) (by rw [wr_slot (by decide)]; exact hb) (by omega)
    rw [if_pos (show p < m by omega)] at hB
    rw [fX12_stepOn_L76, wr_hit, hB, bd_some, m_isLetter, bd_some, decide_eq_true (hbl p (Nat.le_refl _) (by omega)), if_neg (by decide)]
    dsimp only
    rw [wr_hit, wr_wr, zra_1]
    exact ih (p + 1) fu (by omega) (by omega) (fun j h1 h2 => hbl j (by omega) h2)
theorem dig_byte {x : Int32} (h : chK x = 200) : ∃ d, 48 ≤ d ∧ d ≤ 57 ∧ x = nI d := by
  rcases chK_spec x with ⟨-, -, h3⟩ | ⟨-, h1, h2, -⟩ | ⟨-, -, h3⟩
  · rw [h3] at h; exact absurd h (by decide)
  · rw [i_lt] at h1 h2
    have z : (48 : Int32).toInt = 48 := rfl
    have z2 : (57 : Int32).toInt = 57 := rfl
    refine ⟨x.toInt.toNat, by omega, by omega, ?_⟩
    rw [i_eq, nI_toInt (by omega)]
    omega
  · rw [h3] at h; exact absurd h (chB_not x).2
theorem nI_less (a c : Nat) (h : c ≤ a) : nI a - nI c = nI (a - c) := by
  have e : a = a - c + c := by omega
  rw [e, ← nI_add, Int32.add_sub_cancel, Nat.add_sub_cancel]
theorem m_digits {t : St} {E p0 : Nat} (kk : St → Option (Int32 × St)) (hm : m ≤ 700) (h21 : t 69 21 = nI m) (hb : ∀ j, j < 700 → t 86 j = b j) (hE : E ≤ m) (hn : E < m → ¬ chK (b E) = 200) : ∀ k p fu v, p + k = E → p0 ≤ p → k < fu → (∀ j, p ≤ j → j < E → chK (b j) = 200) → (p - p0 ≤ 4 → v = decS b p0 (p - p0) ∧ ∃ w, w < 10 ^ (p - p0) ∧ v = nI w) →
    ∃ v', (E - p0 ≤ 4 → v' = decS b p0 (E - p0)) ∧ fX12_stepOn_L123 kk fu (wr (wr t 69 23 v) 69 20 (nI p)) = kk (wr (wr t 69 23 v') 69 20 (nI E)) := by
  intro k
  induction k with
  | zero =>
    intro p fu v hp h0 hfu hbl hv
    obtain ⟨fu, rfl⟩ : ∃ z, fu = z + 1 := ⟨fu - 1, by omega⟩
    obtain rfl : p = E := by omega
    have hB : fX12_byteAt (nI p) (wr (wr t 69 23 v) 69 20 (nI p)) = some ((if p < m then b p else -1), wr (wr t 69 23 v) 69 20 (nI p)) := m_byteAt hm (by rw [wr_place (by decide), wr_place (by decide)]; exact h21) (by rw [wr_slot (by decide), wr_slot (by decide)]; exact hb) hE
    have h2 : ¬ chK (if p < m then b p else -1) = 200 := by
      by_cases e : p < m
      · rw [if_pos e]
        exact hn e
      · rw [if_neg e]
        decide
    refine ⟨v, fun h => (hv h).1, ?_⟩
    rw [fX12_stepOn_L123, wr_hit, hB, bd_some, m_isDigit, bd_some, decide_eq_false h2, if_pos kf_f]
  | succ k ih =>
    intro p fu v hp h0 hfu hbl hv
    obtain ⟨fu, rfl⟩ : ∃ z, fu = z + 1 := ⟨fu - 1, by omega⟩
    have hB : fX12_byteAt (nI p) (wr (wr t 69 23 v) 69 20 (nI p)) = some ((if p < m then b p else -1), wr (wr t 69 23 v) 69 20 (nI p)) := m_byteAt hm (by rw [wr_place (by decide), wr_place (by decide)]; exact h21) (by rw [wr_slot (by decide), wr_slot (by decide)]; exact hb) (by omega)
    rw [if_pos (show p < m by omega)] at hB
    have hd := hbl p (Nat.le_refl _) (by omega)
    have hnx : p + 1 - p0 ≤ 4 → jmin 100000 (10 * v + b p - 48) = decS b p0 (p + 1 - p0) ∧ ∃ w, w < 10 ^ (p + 1 - p0) ∧ jmin 100000 (10 * v + b p - 48) = nI w := fun h4 => by
      obtain ⟨e1, w, hw, e2⟩ := hv (by omega)
      obtain ⟨d, d1, d2, d3⟩ := dig_byte hd
      have hp1 : p + 1 - p0 = (p - p0) + 1 := by omega
      have hw3 : w < 1000 := Nat.lt_of_lt_of_le hw (Nat.le_trans (Nat.pow_le_pow_right (by decide) (show p - p0 ≤ 3 by omega)) (by decide))
      have ev : 10 * v + b p - 48 = nI (10 * w + d - 48) := by
        have z : (48 : Int32) = nI 48 := rfl
        have z10 : (10 : Int32) = nI 10 := rfl
        rw [e2, d3, z, z10, nI_mul, nI_add, nI_less _ _ (by omega)]
      have ej : jmin 100000 (10 * v + b p - 48) = nI (10 * w + d - 48) := by
        rw [ev]
        show jmin (nI 100000) _ = _
        rw [jmin_nI (by decide) (by omega), Nat.min_eq_right (by omega)]
      rw [ej, hp1]
      refine ⟨?_, 10 * w + d - 48, ?_, rfl⟩
      · rw [decS, accN_succ, Nat.zero_add, show p0 + (p - p0) = p by omega, ← ev, e1, Int32.mul_comm 10]
        rfl
      · rw [Nat.pow_succ]
        omega
    obtain ⟨v', g1, g2⟩ := ih (p + 1) fu _ (by omega) (by omega) (by omega) (fun j h1 h2 => hbl j (by omega) h2) hnx
    refine ⟨v', g1, ?_⟩
    rw [← g2, fX12_stepOn_L123, wr_hit, hB, bd_some, m_isDigit, bd_some, decide_eq_true hd, if_neg (by decide), wr_hit, hB, bd_some]
    dsimp only
    have e23 : (wr (wr t 69 23 v) 69 20 (nI p)) 69 23 = v := by rw [wr_place (by decide), wr_hit]
    rw [e23, wr_place (show (20 : Nat) ≠ 23 by decide), wr_hit, zra_1, wr_swap (by decide), wr_wr, wr_swap (show ¬ (20 : Nat) = 23 by decide), wr_wr]
end STEPON
section STEPON2
variable {b : Nat → Int32} {m K : Nat} {pl ln : Nat → Nat}
theorem m_stepOn {t : St} {i p0 : Nat} (hm : m ≤ 700) (hT : TokB b m K pl ln) (hB : Bytes b) (h21 : t 69 21 = nI m) (hb : ∀ j, j < 700 → t 86 j = b j) (hi : i ≤ K) (h0 : enS pl ln i ≤ p0) (hp : p0 ≤ if i < K then pl i else m) (h20 : t 69 20 = nI p0) :
    ∃ t', fX12_stepOn t = some (0, t') ∧ RefT b m K pl ln i t' ∧ (∀ x, x ≠ 69 → t' x = t x) ∧ ∀ j, j ≠ 20 → j ≠ 22 → j ≠ 23 → j ≠ 24 → j ≠ 25 → t' 69 j = t 69 j := by
  have hself : wr t 69 20 (nI p0) = t := wr_back h20
  have ne1 : ∀ j, j < 700 → ¬ b j = -1 := fun j hj q => by
    obtain ⟨c, hc, e⟩ := hB j hj
    have : (nI c).toInt = (-1 : Int32).toInt := congrArg Int32.toInt (e.symm.trans q)
    rw [nI_toInt (by omega)] at this
    have z : (-1 : Int32).toInt = -1 := rfl
    omega
  by_cases hiK : i < K
  · rw [if_pos hiK] at hp
    obtain ⟨o1, o2, o3, o4, o5, o6, o7, o8⟩ := hT.1 i hiK
    obtain ⟨u, hu⟩ : ∃ u, u = wr (wr t 69 20 (nI (pl i))) 69 24 (nI (pl i)) := ⟨_, rfl⟩
    have hpm : pl i < m := by omega
    have u21 : u 69 21 = nI m := by rw [hu, wr_place (by decide), wr_place (by decide)]; exact h21
    have u86 : ∀ j, j < 700 → u 86 j = b j := by rw [hu, wr_slot (by decide), wr_slot (by decide)]; exact hb
    have u20 : u 69 20 = nI (pl i) := by rw [hu, wr_place (by decide), wr_hit]
    have u24 : u 69 24 = nI (pl i) := by rw [hu, wr_hit]
    have ux : ∀ x, x ≠ 69 → u x = t x := fun x hx => by rw [hu, wr_slot hx, wr_slot hx]
    have uj : ∀ j, j ≠ 20 → j ≠ 24 → u 69 j = t 69 j := fun j q1 q2 => by rw [hu, wr_place q2, wr_place q1]
    have hskip := fun kk => m_skip (t := t) (P := pl i) kk hm h21 hb (by omega) (fun _ => o5) (pl i - p0) p0 FU (by omega) (by show pl i - p0 < 20000; omega) (fun j h1 h2 => o2 j (by omega) h2)
    rw [hself] at hskip
    have hbt : fX12_byteAt (nI (pl i)) u = some (b (pl i), u) := by
      have := m_byteAt (t := u) (p := pl i) hm u21 u86 (by omega)
      rw [if_pos hpm] at this
      exact this
    have fin : ∀ (w : St) (v : Int32), (∀ x, x ≠ 69 → w x = u x) → (∀ j, j ≠ 20 → j ≠ 22 → j ≠ 23 → j ≠ 25 → w 69 j = u 69 j) → w 69 20 = nI (pl i + ln i) → w 69 22 = tyS (b (pl i)) → w 69 25 = nI (pl i + ln i) → (chK (b (pl i)) = 200 → ln i ≤ 4 → w 69 23 = decS b (pl i) (ln i)) → RefT b m K pl ln i w ∧ (∀ x, x ≠ 69 → w x = t x) ∧ ∀ j, j ≠ 20 → j ≠ 22 → j ≠ 23 → j ≠ 24 → j ≠ 25 → w 69 j = t 69 j := fun w v e1 e2 e3 e4 e5 e6 =>
      ⟨Or.inl ⟨hiK, e4, by rw [e2 24 (by decide) (by decide) (by decide) (by decide)]; exact u24, e3, e5, e6⟩, fun x hx => by rw [e1 x hx, ux x hx], fun j q1 q2 q3 q4 q5 => by rw [e2 j q1 q2 q3 q5, uj j q1 q4]⟩
    have tail : fX12_stepOn t = bd (fX12_isLetter (b (pl i)) u) (fun y_8 s_8 =>
    if y_8 = 0 then
    (bd (fX12_isDigit (b (pl i)) s_8) (fun y_9 s_9 =>
    if y_9 = 0 then
    (let s_10 := wr s_9 69 20 ((s_9 69 20) + (1 : Int32));
    bd (fX12_isMark (b (pl i)) s_10) (fun y_11 s_11 =>
    if y_11 = 0 then
    (let s_12 := wr s_11 69 22 (4 : Int32);
    let s_13 := wr s_12 69 25 (s_12 69 20);
    some (0, s_13))
  else
    (let s_14 := wr s_11 69 22 (3 : Int32);
    let s_15 := wr s_14 69 25 (s_14 69 20);
    some (0, s_15))))
  else
    (let s_16 := wr s_9 69 23 (0 : Int32);
    fX12_stepOn_L123 (fun s_22 => let s_23 := wr s_22 69 22 (2 : Int32);
    let s_24 := wr s_23 69 25 (s_23 69 20);
    some (0, s_24)) FU s_16)))
  else
    (fX12_stepOn_L76 (fun s_28 => let s_29 := wr s_28 69 22 (1 : Int32);
    let s_30 := wr s_29 69 25 (s_29 69 20);
    some (0, s_30)) FU s_8)) := by
      rw [fX12_stepOn, hskip]
      dsimp only
      rw [wr_hit, ← hu, u20, hbt, bd_some, if_neg (ne1 _ (by omega))]
    rw [tail, m_isLetter, bd_some]
    by_cases eL : chK (b (pl i)) = 300
    · rw [decide_eq_true eL, if_neg (by decide)]
      have hl := m_letters (t := u) (E := pl i + ln i) (fun s_28 => let s_29 := wr s_28 69 22 (1 : Int32); let s_30 := wr s_29 69 25 (s_29 69 20); some ((0 : Int32), s_30)) hm u21 u86 o4 (fun q => by have := o8 (Or.inl eL) q; rw [eL] at this; exact this) (ln i) (pl i) FU rfl (by show ln i < 20000; omega) (fun j h1 h2 => by
        have := o6 (j - pl i) (by omega)
        rw [show pl i + (j - pl i) = j by omega, eL] at this
        exact this)
      rw [wr_back u20] at hl
      refine ⟨_, hl, fin _ 0 (fun x hx => by rw [wr_slot hx, wr_slot hx, wr_slot hx]) (fun j q1 q2 q3 q5 => by rw [wr_place q5, wr_place q2, wr_place q1]) ?_ ?_ ?_ (fun q => absurd (eL.symm.trans q) (by decide))⟩
      · rw [wr_place (by decide), wr_place (by decide), wr_hit]
      · rw [wr_place (by decide), wr_hit, tyS, if_pos eL]
      · rw [wr_hit, wr_place (by decide), wr_hit]
    · rw [decide_eq_false eL, if_pos kf_f, m_isDigit, bd_some]
      by_cases eD : chK (b (pl i)) = 200
      · rw [decide_eq_true eD, if_neg (by decide)]
        obtain ⟨v', d1, d2⟩ := m_digits (t := u) (E := pl i + ln i) (p0 := pl i) (fun s_22 => let s_23 := wr s_22 69 22 (2 : Int32); let s_24 := wr s_23 69 25 (s_23 69 20); some ((0 : Int32), s_24)) hm u21 u86 o4 (fun q => by have := o8 (Or.inr eD) q; rw [eD] at this; exact this) (ln i) (pl i) FU 0 rfl (Nat.le_refl _) (by show ln i < 20000; omega) (fun j h1 h2 => by
          have := o6 (j - pl i) (by omega)
          rw [show pl i + (j - pl i) = j by omega, eD] at this
          exact this) (fun _ => by
          rw [Nat.sub_self]
          exact ⟨rfl, 0, by decide, rfl⟩)
        rw [Nat.add_sub_cancel_left] at d1
        rw [wr_swap (by decide), wr_back (s := u) u20] at d2
        refine ⟨_, d2, fin _ 0 (fun x hx => by rw [wr_slot hx, wr_slot hx, wr_slot hx, wr_slot hx]) (fun j q1 q2 q3 q5 => by rw [wr_place q5, wr_place q2, wr_place q1, wr_place q3]) ?_ ?_ ?_ (fun _ q => ?_)⟩
        · rw [wr_place (by decide), wr_place (by decide), wr_hit]
        · rw [wr_place (by decide), wr_hit, tyS, if_neg eL, if_pos eD]
        · rw [wr_hit, wr_place (by decide), wr_hit]
        · rw [wr_place (by decide), wr_place (by decide), wr_place (by decide), wr_hit]
          exact d1 q
      · rw [decide_eq_false eD, if_pos kf_f]
        dsimp only
        have hl1 : ln i = 1 := by
          rcases Nat.lt_or_ge 1 (ln i) with q | q
          · exact absurd (o7 q) (fun q => q.elim eL eD)
          · omega
        rw [u20, zra_1, m_isMark, bd_some]
        by_cases eM : mkD (b (pl i)) = true
        · rw [eM, if_neg (by decide)]
          refine ⟨_, rfl, fin _ 0 (fun x hx => by rw [wr_slot hx, wr_slot hx, wr_slot hx]) (fun j q1 q2 q3 q5 => by rw [wr_place q5, wr_place q2, wr_place q1]) ?_ ?_ ?_ (fun q => absurd q eD)⟩
          · rw [wr_place (by decide), wr_place (by decide), wr_hit, hl1]
          · rw [wr_place (by decide), wr_hit, tyS, if_neg eL, if_neg eD, if_pos eM]
          · rw [wr_hit, wr_place (by decide), wr_hit, hl1]
        · rw [Bool.eq_false_iff.mpr eM, if_pos kf_f]
          refine ⟨_, rfl, fin _ 0 (fun x hx => by rw [wr_slot hx, wr_slot hx, wr_slot hx]) (fun j q1 q2 q3 q5 => by rw [wr_place q5, wr_place q2, wr_place q1]) ?_ ?_ ?_ (fun q => absurd q eD)⟩
          · rw [wr_place (by decide), wr_place (by decide), wr_hit, hl1]
          · rw [wr_place (by decide), wr_hit, tyS, if_neg eL, if_neg eD, if_neg eM]
          · rw [wr_hit, wr_place (by decide), wr_hit, hl1]
  · obtain rfl : i = K := by omega
    rw [if_neg hiK] at hp
    have hskip := fun kk => m_skip (t := t) (P := m) kk hm h21 hb (Nat.le_refl _) (fun q => absurd q (by omega)) (m - p0) p0 FU (by omega) (by show m - p0 < 20000; omega) (fun j h1 h2 => hT.2.2 j (by omega) h2)
    rw [hself] at hskip
    obtain ⟨u, hu⟩ : ∃ u, u = wr (wr t 69 20 (nI m)) 69 24 (nI m) := ⟨_, rfl⟩
    have u20 : u 69 20 = nI m := by rw [hu, wr_place (by decide), wr_hit]
    have hbt : fX12_byteAt (nI m) u = some (-1, u) := by
      have := m_byteAt (t := u) (p := m) hm (by rw [hu, wr_place (by decide), wr_place (by decide)]; exact h21) (by rw [hu, wr_slot (by decide), wr_slot (by decide)]; exact hb) (Nat.le_refl _)
      rw [if_neg (Nat.lt_irrefl _)] at this
      exact this
    refine ⟨wr (wr u 69 22 0) 69 25 (nI m), ?_, Or.inr ⟨rfl, ?_, ?_, ?_, wr_hit⟩, fun x hx => ?_, fun j q1 q2 q3 q4 q5 => ?_⟩
    · rw [fX12_stepOn, hskip]
      dsimp only
      rw [wr_hit, ← hu, u20, hbt, bd_some, if_pos rfl, wr_place (show (20 : Nat) ≠ 22 by decide), u20]
    · rw [wr_place (by decide), wr_hit]
    · rw [wr_place (by decide), wr_place (by decide), hu, wr_hit]
    · rw [wr_place (by decide), wr_place (by decide), u20]
    · rw [wr_slot hx, wr_slot hx, hu, wr_slot hx, wr_slot hx]
    · rw [wr_place q5, wr_place q2, hu, wr_place q4, wr_place q1]
end STEPON2
