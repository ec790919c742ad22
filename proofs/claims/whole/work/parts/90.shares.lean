/-! ===== shares, at the class's side ===== -/
def EP (sh : Nat → Nat) (n : Nat) (v : Int32) : Prop := (v = -1 ∧ ∀ p, p < n → sh p = 0) ∨ ∃ p, p < n ∧ v = nI p ∧ sh p ≠ 0 ∧ ∀ q, q < p → sh q = 0
theorem EP.uniq {sh : Nat → Nat} {n : Nat} {v v' : Int32} (h : EP sh n v) (h' : EP sh n v') : v = v' := by
  rcases h with ⟨e, h⟩ | ⟨p, e, h1, h2, h3⟩ <;> rcases h' with ⟨e', h'⟩ | ⟨p', e', h1', h2', h3'⟩
  · rw [e, e']
  · exact absurd (h p' e') h2'
  · exact absurd (h' p e) h2
  · rcases Nat.lt_trichotomy p p' with q | q | q
    · exact absurd (h3' p q) h2
    · rw [h1, h1', q]
    · exact absurd (h3 p' q) h2'
theorem EP.up {sh : Nat → Nat} {n m : Nat} {v : Int32} (hnm : n ≤ m) (h0 : ∀ p, n ≤ p → p < m → sh p = 0) (h : EP sh n v) : EP sh m v := by
  rcases h with ⟨e, h⟩ | ⟨p, e, h1, h2, h3⟩
  · refine Or.inl ⟨e, fun p hp => ?_⟩
    by_cases q : p < n
    · exact h p q
    · exact h0 p (by omega) hp
  · exact Or.inr ⟨p, by omega, h1, h2, h3⟩
def cntN (sh : Nat → Nat) (k : Nat) : Nat := sumN (fun p => if sh p = 0 then 0 else 1) k
theorem sumN_const {f : Nat → Nat} {b : Nat} : ∀ k, (∀ p, p < k → f p ≤ b) → sumN f k ≤ k * b
  | 0, _ => Nat.zero_le _
  | k + 1, h => by
    have h1 := sumN_const (f := f) (b := b) k (fun p hp => h p (by omega))
    have h2 := h k (by omega)
    rw [sumN, Nat.succ_mul]
    omega
theorem sumN_eq0 {f : Nat → Nat} : ∀ k, sumN f k = 0 ↔ ∀ p, p < k → f p = 0
  | 0 => ⟨fun _ p hp => absurd hp (by omega), fun _ => rfl⟩
  | k + 1 => by
    rw [sumN]
    constructor
    · intro h p hp
      by_cases e : p = k
      · subst e; omega
      · exact (sumN_eq0 k).mp (by omega) p (by omega)
    · intro h
      have := (sumN_eq0 (f := f) k).mpr (fun p hp => h p (by omega))
      have := h k (by omega)
      omega
theorem cnt_0 {sh : Nat → Nat} {k : Nat} : cntN sh k = 0 ↔ sumN sh k = 0 := by
  rw [cntN, sumN_eq0, sumN_eq0]
  constructor
  · intro h p hp
    have := h p hp
    by_cases e : sh p = 0
    · exact e
    · rw [if_neg e] at this; omega
  · intro h p hp
    rw [if_pos (h p hp)]
theorem cnt_le {sh : Nat → Nat} {k : Nat} : cntN sh k ≤ k := by
  have := sumN_const (f := fun p => if sh p = 0 then 0 else 1) (b := 1) k (fun p _ => by split <;> omega)
  rw [cntN]; omega
/-- what the class knows of the shares of the first k -/
def SetP (k : Nat) (s : St) (sh : Nat → Nat) : Prop := (∀ p, p < k → s 50 p = nI (sh p)) ∧ s 48 2 = nI (cntN sh k) ∧ s 48 3 = nI (sumN sh k) ∧ EP sh k (s 48 4)
theorem c_begin {s : St} (sh : Nat → Nat) : ∃ s', fX2_begin s = some (0, s') ∧ SetP 0 s' sh ∧ ∀ x, x ≠ 48 → s' x = s x := by
  refine ⟨_, rfl, ⟨fun p hp => absurd hp (by omega), ?_, ?_, Or.inl ⟨?_, fun p hp => absurd hp (by omega)⟩⟩, fun x hx => ?_⟩
  · show wr (wr (wr s 48 2 0) 48 3 0) 48 4 (-1) 48 2 = _
    rw [wr_place (by decide), wr_place (by decide), wr_hit]; rfl
  · show wr (wr (wr s 48 2 0) 48 3 0) 48 4 (-1) 48 3 = _
    rw [wr_place (by decide), wr_hit]; rfl
  · show wr (wr (wr s 48 2 0) 48 3 0) 48 4 (-1) 48 4 = _
    rw [wr_hit]
  · show wr (wr (wr s 48 2 0) 48 3 0) 48 4 (-1) x = _
    rw [wr_slot hx, wr_slot hx, wr_slot hx]
theorem c_addShare {w k : Nat} {s : St} {sh : Nat → Nat} {told : Int32} (hw : LN (w + 1) = 94) (hk : k < 12) (hb : ∀ p, sh p ≤ 999) (ht : (if s (w + 1) (48 + k) = -1 then 0 else told) = nI (sh k)) (h : SetP k s sh) : ∃ s', fX2_addShare w (nI k) told s = some (0, s') ∧ SetP (k + 1) s' sh ∧ ∀ x, x ≠ 48 → x ≠ 50 → s' x = s x := by
  obtain ⟨h1, h2, h3, h4⟩ := h
  have hbk := hb k
  have hsum : sumN sh k ≤ k * 999 := sumN_const k (fun p _ => hb p)
  have hcnt := cnt_le (sh := sh) (k := k)
  have hJ : fX2_addShare w (nI k) told s = fX2_addShare_J13 w (nI k) (nI (sh k)) s := by
    rw [fX2_addShare, w_alive hw hk, bd_some]
    by_cases e : s (w + 1) (48 + k) = -1
    · rw [if_pos e] at ht
      rw [if_pos e, if_pos rfl, ht]
    · rw [if_neg e] at ht
      rw [if_neg e, if_neg (by decide), ht]
  rw [hJ, fX2_addShare_J13, put_nI (by decide) hk, bd_some, ite_iff (zrl_0 _ (by omega))]
  have h50 : ∀ v p, p < k + 1 → v = nI (sh k) → (wr s 50 k v) 50 p = nI (sh p) := fun v p hp hv => by
    by_cases e : p = k
    · subst e; rw [wr_hit, hv]
    · rw [wr_place e, h1 p (by omega)]
  by_cases e : sh k = 0
  · rw [if_pos (by omega)]
    refine ⟨_, rfl, ⟨fun p hp => h50 _ p hp rfl, ?_, ?_, ?_⟩, fun x q1 q2 => wr_slot q2⟩
    · rw [wr_slot (by decide), h2, cntN, cntN, sumN, if_pos e, Nat.add_zero]
    · rw [wr_slot (by decide), h3, sumN, e, Nat.add_zero]
    · rw [wr_slot (by decide)]
      exact h4.up (by omega) (fun p q1 q2 => by rw [show p = k by omega, e])
  · rw [if_neg (by omega)]
    have z2 : (wr s 50 k (nI (sh k))) 48 2 = nI (cntN sh k) := by rw [wr_slot (by decide), h2]
    have z3 : (wr (wr s 50 k (nI (sh k))) 48 2 (nI (cntN sh k + 1))) 48 3 = nI (sumN sh k) := by rw [wr_place (by decide), wr_slot (by decide), h3]
    have z4 : (wr (wr (wr s 50 k (nI (sh k))) 48 2 (nI (cntN sh k + 1))) 48 3 (nI (sumN sh k + sh k))) 48 4 = s 48 4 := by rw [wr_place (by decide), wr_place (by decide), wr_slot (by decide)]
    have ec : cntN sh (k + 1) = cntN sh k + 1 := by rw [cntN, sumN, if_neg e]; rfl
    have es : sumN sh (k + 1) = sumN sh k + sh k := rfl
    have fin : ∀ v : Int32, EP sh (k + 1) v → SetP (k + 1) (wr (wr (wr (wr s 50 k (nI (sh k))) 48 2 (nI (cntN sh k + 1))) 48 3 (nI (sumN sh k + sh k))) 48 4 v) sh ∧ ∀ x, x ≠ 48 → x ≠ 50 → (wr (wr (wr (wr s 50 k (nI (sh k))) 48 2 (nI (cntN sh k + 1))) 48 3 (nI (sumN sh k + sh k))) 48 4 v) x = s x := fun v hv => by
      refine ⟨⟨fun p hp => ?_, ?_, ?_, ?_⟩, fun x q1 q2 => by rw [wr_slot q1, wr_slot q1, wr_slot q1, wr_slot q2]⟩
      · rw [wr_slot (by decide), wr_slot (by decide), wr_slot (by decide)]
        exact h50 _ p hp rfl
      · rw [wr_place (by decide), wr_place (by decide), wr_hit, ec]
      · rw [wr_place (by decide), wr_hit, es]
      · rw [wr_hit]; exact hv
    simp only [z2, zra_1, z3, nI_add, z4]
    by_cases e4 : s 48 4 = -1
    · rw [if_pos e4]
      have hz : ∀ p, p < k → sh p = 0 := by
        rcases h4 with ⟨-, g⟩ | ⟨p, g1, g2, -⟩
        · exact g
        · rw [g2] at e4
          exact absurd e4 (neg1 (by omega))
      obtain ⟨f1, f2⟩ := fin (nI k) (Or.inr ⟨k, by omega, rfl, e, hz⟩)
      exact ⟨_, rfl, f1, f2⟩
    · rw [if_neg e4]
      have hv : EP sh (k + 1) (s 48 4) := by
        rcases h4 with ⟨g, -⟩ | ⟨p, g1, g2, g3, g4⟩
        · exact absurd g e4
        · exact Or.inr ⟨p, by omega, g2, g3, g4⟩
      obtain ⟨f1, f2⟩ := fin (s 48 4) hv
      exact ⟨_, rfl, f1, f2⟩
def shW (s : St) (c : Nat → Int32) (d p : Nat) : Nat := if c (48 + p) = -1 then 0 else (s 25 (12 * d + p)).toNatClampNeg
def shL (L : Nat → Nat) (c : Nat → Int32) (d p : Nat) : Nat := if p = d ∨ c (48 + p) = -1 then 0 else L p
def shD (s : St) (L : Nat → Nat) (c : Nat → Int32) (d : Nat) : Nat → Nat := if sumN (shW s c d) 12 = 0 then shL L c d else shW s c d
theorem will_nat {s : St} {n nw d p : Nat} (h12 : n ≤ 12) (h : RWill s n nw) (hd : d < 12) (hp : p < 12) : ∃ v : Nat, v ≤ 99 ∧ s 25 (12 * d + p) = nI v ∧ (v ≠ 0 → d < n ∧ p < n ∧ d ≠ p ∧ ∃ i, i < nw ∧ s 78 i = nI d ∧ s 79 i = nI p ∧ s 80 i = nI v) := by
  obtain ⟨h1, h2, h3⟩ := h
  by_cases e : s 25 (12 * d + p) = 0
  · exact ⟨0, by omega, e, fun h => absurd rfl h⟩
  · obtain ⟨i, hi, e1, e2⟩ := h3 d p hd hp e
    obtain ⟨a, b, v, ha, hb, hab, hv1, hv2, f1, f2, f3, f4⟩ := h1 i hi
    have z1 : d = a := (nI_eq (by omega) (by omega)).mp (e1.symm.trans f1)
    have z2 : p = b := (nI_eq (by omega) (by omega)).mp (e2.symm.trans f2)
    subst z1 z2
    exact ⟨v, hv2, f4, fun _ => ⟨ha, hb, hab, i, hi, f1, f2, f3⟩⟩
theorem shW_le {s : St} {n nw d : Nat} {c : Nat → Int32} (h12 : n ≤ 12) (h : RWill s n nw) (hd : d < 12) : ∀ p, p < 12 → shW s c d p ≤ 99 ∧ (shW s c d p ≠ 0 → p < n ∧ p ≠ d) ∧ (if c (48 + p) = -1 then 0 else s 25 (12 * d + p)) = nI (shW s c d p) := by
  intro p hp
  obtain ⟨v, hv, e, g⟩ := will_nat h12 h hd hp
  rw [shW]
  by_cases q : c (48 + p) = -1
  · rw [if_pos q, if_pos q]
    exact ⟨by omega, fun h => absurd rfl h, rfl⟩
  · rw [if_neg q, if_neg q, e, nI_clamp (by omega)]
    exact ⟨hv, fun h0 => ⟨(g h0).2.1, fun x => (g h0).2.2.1 x.symm⟩, rfl⟩
/-- shares cut at 12, so that all are bounded -/
def cut12 (f : Nat → Nat) : Nat → Nat := fun p => if p < 12 then f p else 0
theorem cut12_in {f : Nat → Nat} {p : Nat} (h : p < 12) : cut12 f p = f p := if_pos h
theorem SetP.cong {k : Nat} {s : St} {f g : Nat → Nat} (he : ∀ p, p < k → g p = f p) (h : SetP k s f) : SetP k s g := by
  obtain ⟨h1, h2, h3, h4⟩ := h
  have es : sumN g k = sumN f k := sumN_congr k he
  have ec : cntN g k = cntN f k := sumN_congr k (fun p hp => by show (if g p = 0 then 0 else 1) = if f p = 0 then 0 else 1; rw [he p hp])
  refine ⟨fun p hp => by rw [he p hp]; exact h1 p hp, by rw [ec]; exact h2, by rw [es]; exact h3, ?_⟩
  rcases h4 with ⟨g1, g2⟩ | ⟨p, g1, g2, g3, g4⟩
  · exact Or.inl ⟨g1, fun p hp => by rw [he p hp]; exact g2 p hp⟩
  · exact Or.inr ⟨p, g1, g2, by rw [he p g1]; exact g3, fun q hq => by rw [he q (by omega)]; exact g4 q hq⟩
theorem c_settleL {w d : Nat} {s : St} {sh : Nat → Nat} (kk : St → Option (Int32 × St)) (hw : LN (w + 1) = 94) (hd : d < 12) (hb : ∀ p, sh p ≤ 999) (hs : ∀ p, p < 12 → (if s (w + 1) (48 + p) = -1 then 0 else s 25 (12 * d + p)) = nI (sh p)) : ∀ k i m s', i + k = 12 → k < m → SetP i s' sh → (∀ x, x ≠ 48 → x ≠ 50 → s' x = s x) → ∃ s'', fX2_settle_L7 kk 21 w (nI d) m (nI i) s' = kk s'' ∧ SetP 12 s'' sh ∧ ∀ x, x ≠ 48 → x ≠ 50 → s'' x = s x := by
  have w48 : w + 1 ≠ 48 := fun e => by rw [e] at hw; exact absurd hw (by decide)
  have w50 : w + 1 ≠ 50 := fun e => by rw [e] at hw; exact absurd hw (by decide)
  intro k
  induction k with
  | zero =>
    intro i m s' hi hm h1 h2
    obtain ⟨m, rfl⟩ : ∃ q, m = q + 1 := ⟨m - 1, by omega⟩
    obtain rfl : i = 12 := by omega
    exact ⟨s', by rw [fX2_settle_L7, if_pos (by decide)], h1, h2⟩
  | succ k ih =>
    intro i m s' hi hm h1 h2
    obtain ⟨m, rfl⟩ : ∃ q, m = q + 1 := ⟨m - 1, by omega⟩
    have hl : fX4_left 21 (nI d) (nI i) s' = some (s 25 (12 * d + i), s') := by
      rw [fX4_left, zrm_12, nI_add, at_nI (by decide) (by show d * 12 + i < 144; omega), bd_some, Nat.mul_comm]
      show some (s' 25 (12 * d + i), s') = _
      rw [h2 25 (by decide) (by decide)]
    obtain ⟨s1, e1, e2, e3⟩ := c_addShare (w := w) (k := i) (s := s') (sh := sh) (told := s 25 (12 * d + i)) hw (by omega) hb (by rw [h2 (w + 1) w48 w50]; exact hs i (by omega)) h1
    rw [fX2_settle_L7, if_neg (by rw [zll_12 _ (by omega)]; omega), hl, bd_some, e1, bd_some, zra_1]
    exact ih (i + 1) m s1 (by omega) (by omega) e2 (fun x q1 q2 => by rw [e3 x q1 q2, h2 x q1 q2])
theorem c_lawfulL {w d : Nat} {s : St} {sh : Nat → Nat} (hw : LN (w + 1) = 94) (hd : d < 12) (hb : ∀ p, sh p ≤ 999) (hs : ∀ p, p < 12 → (if s (w + 1) (48 + p) = -1 then 0 else if p = d then 0 else s 49 (12 * d + p)) = nI (sh p)) : ∀ k i m s', i + k = 12 → k < m → SetP i s' sh → (∀ x, x ≠ 48 → x ≠ 50 → s' x = s x) → ∃ s'', fX2_settleByLaw_L6 w (nI d) m (nI i) s' = some (0, s'') ∧ SetP 12 s'' sh ∧ ∀ x, x ≠ 48 → x ≠ 50 → s'' x = s x := by
  have w48 : w + 1 ≠ 48 := fun e => by rw [e] at hw; exact absurd hw (by decide)
  have w50 : w + 1 ≠ 50 := fun e => by rw [e] at hw; exact absurd hw (by decide)
  intro k
  induction k with
  | zero =>
    intro i m s' hi hm h1 h2
    obtain ⟨m, rfl⟩ : ∃ q, m = q + 1 := ⟨m - 1, by omega⟩
    obtain rfl : i = 12 := by omega
    exact ⟨s', by rw [fX2_settleByLaw_L6, if_pos (by decide)], h1, h2⟩
  | succ k ih =>
    intro i m s' hi hm h1 h2
    obtain ⟨m, rfl⟩ : ∃ q, m = q + 1 := ⟨m - 1, by omega⟩
    have hsi := hs i (by omega)
    rw [fX2_settleByLaw_L6, if_neg (by rw [zll_12 _ (by omega)]; omega), ite_iff (nI_eq (by omega) (by omega)), zra_1]
    by_cases e : i = d
    · rw [if_pos e] at hsi
      obtain ⟨s1, e1, e2, e3⟩ := c_addShare (w := w) (k := i) (s := s') (sh := sh) (told := 0) hw (by omega) hb (by rw [h2 (w + 1) w48 w50]; exact hsi) h1
      rw [if_pos e, e1, bd_some]
      exact ih (i + 1) m s1 (by omega) (by omega) e2 (fun x q1 q2 => by rw [e3 x q1 q2, h2 x q1 q2])
    · rw [if_neg e] at hsi
      have hl : fX11_at 49 (nI d * 12 + nI i) s' = some (s 49 (12 * d + i), s') := by
        rw [zrm_12, nI_add, at_nI (by decide) (by show d * 12 + i < 144; omega), Nat.mul_comm, h2 49 (by decide) (by decide)]
      obtain ⟨s1, e1, e2, e3⟩ := c_addShare (w := w) (k := i) (s := s') (sh := sh) (told := s 49 (12 * d + i)) hw (by omega) hb (by rw [h2 (w + 1) w48 w50]; exact hsi) h1
      rw [if_neg e, hl, bd_some, e1, bd_some]
      exact ih (i + 1) m s1 (by omega) (by omega) e2 (fun x q1 q2 => by rw [e3 x q1 q2, h2 x q1 q2])
theorem c_settleByLaw {w d : Nat} {s : St} {L : Nat → Nat} (hw : LN (w + 1) = 94) (hd : d < 12) (hL : ∀ p, L p ≤ 999) (h49 : ∀ p, p < 12 → p ≠ d → ¬ s (w + 1) (48 + p) = -1 → s 49 (12 * d + p) = nI (L p)) : ∃ s', fX2_settleByLaw w (nI d) s = some (0, s') ∧ SetP 12 s' (shL L (s (w + 1)) d) ∧ ∀ x, x ≠ 48 → x ≠ 50 → s' x = s x := by
  have w48 : w + 1 ≠ 48 := fun e => by rw [e] at hw; exact absurd hw (by decide)
  obtain ⟨s1, a1, a2, a3⟩ := c_begin (s := s) (shL L (s (w + 1)) d)
  obtain ⟨s2, b1, b2, b3⟩ := c_lawfulL (w := w) (d := d) (s := s1) (sh := shL L (s (w + 1)) d) hw hd (fun p => by rw [shL]; split; omega; exact hL p) (fun p hp => by
    rw [a3 (w + 1) w48, a3 49 (by decide), shL]
    by_cases e : s (w + 1) (48 + p) = -1
    · rw [if_pos e, if_pos (Or.inr e)]; rfl
    · rw [if_neg e]
      by_cases e2 : p = d
      · rw [if_pos e2, if_pos (Or.inl e2)]; rfl
      · rw [if_neg e2, if_neg (by rintro (h | h); exact e2 h; exact e h)]
        exact h49 p hp e2 e) 12 0 FU s1 (by omega) (by decide) a2 (fun _ _ _ => rfl)
  refine ⟨s2, ?_, b2, fun x q1 q2 => by rw [b3 x q1 q2, a3 x q1]⟩
  rw [fX2_settleByLaw, a1, bd_some]
  exact b1
theorem c_settle {w d n nw : Nat} {s0 s : St} {L : Nat → Nat} (hw : LN (w + 1) = 94) (hd : d < 12) (h12 : n ≤ 12) (hwl : RWill s0 n nw) (hs0 : s 25 = s0 25) (hL : ∀ p, L p ≤ 999) (h49 : ∀ p, p < 12 → p ≠ d → ¬ s (w + 1) (48 + p) = -1 → s 49 (12 * d + p) = nI (L p)) : ∃ s', fX2_settle 21 w (nI d) s = some (0, s') ∧ SetP 12 s' (shD s0 L (s (w + 1)) d) ∧ ∀ x, x ≠ 48 → x ≠ 50 → s' x = s x := by
  have w48 : w + 1 ≠ 48 := fun e => by rw [e] at hw; exact absurd hw (by decide)
  have w50 : w + 1 ≠ 50 := fun e => by rw [e] at hw; exact absurd hw (by decide)
  obtain ⟨s1, a1, a2, a3⟩ := c_begin (s := s) (cut12 (shW s0 (s (w + 1)) d))
  obtain ⟨s2, b1, b2, b3⟩ := c_settleL (w := w) (d := d) (s := s1) (sh := cut12 (shW s0 (s (w + 1)) d)) (fun s_4 => if (s_4 48 2) = 0 then (bd (fX2_settleByLaw w (nI d) s_4) (fun y_5 s_5 => some (0, s_5))) else (some (0, s_4))) hw hd (fun p => by
    rw [cut12]
    split
    · rename_i hp
      have := (shW_le (c := s (w + 1)) h12 hwl hd p hp).1
      omega
    · omega) (fun p hp => by
    rw [cut12_in hp, a3 (w + 1) w48, a3 25 (by decide), hs0]
    exact (shW_le h12 hwl hd p hp).2.2) 12 0 FU s1 (by omega) (by decide) a2 (fun _ _ _ => rfl)
  have b2' : SetP 12 s2 (shW s0 (s (w + 1)) d) := b2.cong (fun p hp => (cut12_in hp).symm)
  rw [fX2_settle, a1, bd_some]
  show ∃ s', fX2_settle_L7 _ 21 w (nI d) FU (nI 0) s1 = _ ∧ _
  rw [b1]
  have hcl := cnt_le (sh := shW s0 (s (w + 1)) d) (k := 12)
  rw [b2'.2.1]
  by_cases e : sumN (shW s0 (s (w + 1)) d) 12 = 0
  · obtain ⟨s3, c1, c2, c3⟩ := c_settleByLaw (w := w) (d := d) (s := s2) (L := L) hw hd hL (fun p hp q1 q2 => by
      rw [b3 49 (by decide) (by decide), a3 49 (by decide)]
      exact h49 p hp q1 (by rw [b3 (w + 1) w48 w50, a3 (w + 1) w48] at q2; exact q2))
    rw [if_pos (by rw [cnt_0.mpr e]; rfl), c1, bd_some]
    refine ⟨s3, rfl, ?_, fun x q1 q2 => by rw [c3 x q1 q2, b3 x q1 q2, a3 x q1]⟩
    rw [shD, if_pos e]
    rw [b3 (w + 1) w48 w50, a3 (w + 1) w48] at c2
    exact c2
  · rw [if_neg (by
      intro h
      have := (nI_eq (a := cntN (shW s0 (s (w + 1)) d) 12) (b := 0) (by omega) (by omega)).mp h
      exact e (cnt_0.mp this))]
    refine ⟨s2, rfl, ?_, fun x q1 q2 => by rw [b3 x q1 q2, a3 x q1]⟩
    rw [shD, if_neg e]
    exact b2'
/-- what the class has learnt of a dead one -/
theorem c_learn {w d len : Nat} {s0 s : St} {dep : Nat → Nat} (hl : LawD s0 dep len) (hs : LC s0 s) (hw : LN (w + 1) = 94) (hd : d < 12) : ∃ s', fX2_learn 21 w (nI d) s = some (0, s') ∧ (∀ p, p < 12 → p ≠ d → ¬ s (w + 1) (48 + p) = -1 → s' 49 (12 * d + p) = lawV s0 dep len (s (w + 1)) d p) ∧ (∀ j, j < 12 * d ∨ 12 * d + 12 ≤ j → s' 49 j = s 49 j) ∧ ∀ x, x ≠ 31 → x ≠ 49 → s' x = s x := by
  have w31 : w + 1 ≠ 31 := fun e => by rw [e] at hw; exact absurd hw (by decide)
  have w49 : w + 1 ≠ 49 := fun e => by rw [e] at hw; exact absurd hw (by decide)
  have key : ∀ k i m s', i + k = 12 → k < m → (∀ p, p < i → p ≠ d → ¬ s (w + 1) (48 + p) = -1 → s' 49 (12 * d + p) = lawV s0 dep len (s (w + 1)) d p) → (∀ j, j < 12 * d ∨ 12 * d + 12 ≤ j → s' 49 j = s 49 j) → (∀ x, x ≠ 31 → x ≠ 49 → s' x = s x) → ∃ s'', fX2_learn_L3 21 w (nI d) m (nI i) s' = some (0, s'') ∧ (∀ p, p < 12 → p ≠ d → ¬ s (w + 1) (48 + p) = -1 → s'' 49 (12 * d + p) = lawV s0 dep len (s (w + 1)) d p) ∧ (∀ j, j < 12 * d ∨ 12 * d + 12 ≤ j → s'' 49 j = s 49 j) ∧ ∀ x, x ≠ 31 → x ≠ 49 → s'' x = s x := by
    intro k
    induction k with
    | zero =>
      intro i m s' hi hm h1 h2 h3
      obtain ⟨m, rfl⟩ : ∃ q, m = q + 1 := ⟨m - 1, by omega⟩
      obtain rfl : i = 12 := by omega
      exact ⟨s', by rw [fX2_learn_L3, if_pos (by decide)], h1, h2, h3⟩
    | succ k ih =>
      intro i m s' hi hm h1 h2 h3
      obtain ⟨m, rfl⟩ : ∃ q, m = q + 1 := ⟨m - 1, by omega⟩
      have put : ∀ (v : Int32) (t : St), (t 49 = s' 49) → (∀ x, x ≠ 31 → x ≠ 49 → t x = s x) → (i ≠ d → ¬ s (w + 1) (48 + i) = -1 → v = lawV s0 dep len (s (w + 1)) d i) → ∃ s'', fX2_learn_L3 21 w (nI d) m (nI (i + 1)) (wr t 49 (12 * d + i) v) = some (0, s'') ∧ (∀ p, p < 12 → p ≠ d → ¬ s (w + 1) (48 + p) = -1 → s'' 49 (12 * d + p) = lawV s0 dep len (s (w + 1)) d p) ∧ (∀ j, j < 12 * d ∨ 12 * d + 12 ≤ j → s'' 49 j = s 49 j) ∧ ∀ x, x ≠ 31 → x ≠ 49 → s'' x = s x := fun v t ht ht2 hv => by
        refine ih (i + 1) m _ (by omega) (by omega) (fun p hp q1 q2 => ?_) (fun j hj => ?_) (fun x q1 q2 => by rw [wr_slot q2, ht2 x q1 q2])
        · by_cases e : p = i
          · subst e; rw [wr_hit]; exact hv q1 q2
          · rw [wr_place (by omega), ht]
            exact h1 p (by omega) q1 q2
        · rw [wr_place (by omega), ht, h2 j hj]
      have idx : nI d * 12 + nI i = nI (12 * d + i) := by rw [zrm_12, nI_add, Nat.mul_comm]
      have hno : (i = d ∨ s (w + 1) (48 + i) = -1) → ∃ s'', fX2_learn_J29 (fX2_learn_L3 21 w (nI d) m) 21 w (nI d) (nI i) s' = some (0, s'') ∧ (∀ p, p < 12 → p ≠ d → ¬ s (w + 1) (48 + p) = -1 → s'' 49 (12 * d + p) = lawV s0 dep len (s (w + 1)) d p) ∧ (∀ j, j < 12 * d ∨ 12 * d + 12 ≤ j → s'' 49 j = s 49 j) ∧ ∀ x, x ≠ 31 → x ≠ 49 → s'' x = s x := fun hc => by
        rw [fX2_learn_J29, fX2_learn_J30, if_pos rfl, idx, put_nI (by decide) (by show 12 * d + i < 144; omega), bd_some, zra_1]
        exact put 0 s' rfl h3 (fun q1 q2 => by rcases hc with hc | hc; exact absurd hc q1; exact absurd hc q2)
      rw [fX2_learn_L3, if_neg (by rw [zll_12 _ (by omega)]; omega), ite_iff (nI_eq (by omega) (by omega))]
      by_cases e : i = d
      · rw [if_pos e]
        exact hno (Or.inl e)
      · rw [if_neg e, w_alive hw (by omega), bd_some, h3 (w + 1) w31 w49]
        by_cases e2 : s (w + 1) (48 + i) = -1
        · rw [if_pos e2, if_pos rfl]
          exact hno (Or.inr e2)
        · rw [if_neg e2, if_neg (by decide), fX2_learn_J30, if_neg (by decide)]
          obtain ⟨t, t1, t2⟩ := law_c (s' := s') (w := w) (d := d) (h := i) hl (fun k q1 q2 => by rw [h3 k (by omega) (by omega)]; exact hs k q1 q2) hw hd (by omega)
          rw [t1, bd_some, idx, put_nI (by decide) (by show 12 * d + i < 144; omega), bd_some, zra_1]
          exact put _ t (t2 49 (by decide)) (fun x q1 q2 => by rw [t2 x q1, h3 x q1 q2]) (fun _ _ => by rw [h3 (w + 1) w31 w49])
  exact key 12 0 FU s (by omega) (by decide) (fun p hp => absurd hp (by omega)) (fun _ _ => rfl) (fun _ _ _ => rfl)
