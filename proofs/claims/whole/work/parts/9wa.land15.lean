/-! ===== land: what the lines have told, class and reference ===== -/
theorem put_any {r : Nat} {a v : Int32} {s : St} (hr : LN r < 2147483648) : ∃ s', fX11_put r a v s = some (0, s') ∧ ∀ k, k ≠ r → s' k = s k := by
  rcases i_cases a hr with ⟨p, hp, rfl⟩ | h
  · exact ⟨_, put_nI hr hp, fun k hk => wr_slot hk⟩
  · refine ⟨s, ?_, fun _ _ => rfl⟩
    rw [fX11_put]
    by_cases h0 : a < 0
    · rw [if_pos h0]
    · rw [if_neg h0]
      rcases h with h | h
      · exact absurd h h0
      · rw [if_pos (show Int32.ofNat (LN r) ≤ a from h)]
def DPeo (n : Nat) (c4 c5 c6 m74 m75 m76 : Nat → Int32) : Prop := ∀ p, p < n → m74 (12 + p) = c4 p ∧ m75 (12 + p) = c5 p ∧ m76 (12 + p) = c6 p ∧ Cell0 (c4 p) n ∧ Cell0 (c5 p) n ∧ (c6 p = 0 ∨ c6 p = 1)
def DSky (n : Nat) (c15 m72 m73 : Nat → Int32) : Prop := ∀ p, p < n → (∀ k, k < 4 → ∃ v, v ≤ 999 ∧ c15 (4 * p + k) = nI v ∧ m72 (48 + (4 * p + k)) = nI v) ∧ ∃ q, q < 10 ∧ c15 (48 + p) = nI q ∧ m73 (12 + p) = nI q
def DWed (n : Nat) (c15 m77 : Nat → Int32) : Prop := ∀ p, p < n → m77 (12 + p) = c15 (60 + p) ∧ (c15 (60 + p) = -1 ∨ ∃ q, q < n ∧ q ≠ p ∧ c15 (60 + p) = nI q ∧ c15 (60 + q) = nI p)
def DFree (n : Nat) (c15 : Nat → Int32) : Prop := (∀ p, n ≤ p → p < 12 → c15 (48 + p) = -1 ∧ c15 (60 + p) = -1) ∧ ∀ j, 72 ≤ j → j < 94 → c15 j = 0
def DFld (nf : Nat) (c8 c9 c10 m81 m82 m83 : Nat → Int32) : Prop := ∀ f, f < nf → m81 (6 + f) = c8 f ∧ m82 (6 + f) = c9 f ∧ m83 (6 + f) = c10 f ∧ (∃ q, q < 10 ∧ c8 f = nI q) ∧ (∃ v, v ≤ 9999 ∧ c9 f = nI v) ∧ ∃ v, v ≤ 9999 ∧ c10 f = nI v
def DWil (n nw : Nat) (c7 m78 m79 m80 : Nat → Int32) : Prop := (∀ i, i < nw → ∃ a b v : Nat, a < n ∧ b < n ∧ a ≠ b ∧ 1 ≤ v ∧ v ≤ 99 ∧ m78 (12 + i) = nI a ∧ m79 (12 + i) = nI b ∧ m80 (12 + i) = nI v ∧ c7 (12 * a + b) = nI v) ∧
  (∀ i j, i < nw → j < nw → m78 (12 + i) = m78 (12 + j) → m79 (12 + i) = m79 (12 + j) → i = j) ∧ (∀ a b, a < 12 → b < 12 → ¬ c7 (12 * a + b) = 0 → ∃ i, i < nw ∧ m78 (12 + i) = nI a ∧ m79 (12 + i) = nI b)
def DLaw (lt : Bool) (l2 l9 l3 : Int32) (c12 m84 : Nat → Int32) : Prop := ∃ len : Nat, l2 = nI len ∧ l9 = nI len ∧ l3 = (if lt = true then 1 else 0) ∧ (lt = false ↔ len = 0) ∧ RLawOf c12 (fun j => m84 (700 + j)) len
/-- n people, nw wills, nf fields told; front told, law told -/
def DatI (n nw nf : Nat) (ft lt : Bool) (σ t : St) : Prop := (σ 3 0 = nI n ∧ t 71 5 = nI n ∧ n ≤ 12) ∧ (σ 3 4 = nI nw ∧ t 71 6 = nI nw ∧ nw ≤ 12) ∧ (σ 3 6 = nI nf ∧ t 71 7 = nI nf ∧ nf ≤ 6) ∧ t 71 8 = σ 3 10 ∧ σ 2 8 = (if ft = true then 1 else 0) ∧
  DPeo n (σ 4) (σ 5) (σ 6) (t 74) (t 75) (t 76) ∧ DSky n (σ 15) (t 72) (t 73) ∧ DWed n (σ 15) (t 77) ∧ DFree n (σ 15) ∧ DFld nf (σ 8) (σ 9) (σ 10) (t 81) (t 82) (t 83) ∧ DWil n nw (σ 7) (t 78) (t 79) (t 80) ∧ DLaw lt (σ 11 2) (t 71 9) (σ 11 3) (σ 12) (t 84)
theorem DatI.rd {n nw nf : Nat} {ft lt : Bool} {σ t σ' t' : St} (h : DatI n nw nf ft lt σ t) (h1 : RdC σ σ') (h2 : RdM t t') : DatI n nw nf ft lt σ' t' := by
  unfold DatI at h ⊢
  rw [h1.1 3 (by decide), h1.1 4 (by decide), h1.1 5 (by decide), h1.1 6 (by decide), h1.1 7 (by decide), h1.1 8 (by decide), h1.1 9 (by decide), h1.1 10 (by decide), h1.1 11 (by decide), h1.1 12 (by decide), h1.1 15 (by decide), h1.2 8 (by decide) (by decide) (by decide) (by decide), h2.1 71 (by decide), h2.1 72 (by decide), h2.1 73 (by decide), h2.1 74 (by decide), h2.1 75 (by decide), h2.1 76 (by decide), h2.1 77 (by decide), h2.1 78 (by decide), h2.1 79 (by decide), h2.1 80 (by decide), h2.1 81 (by decide), h2.1 82 (by decide), h2.1 83 (by decide), h2.1 84 (by decide)]
  exact h
/-- what lines leave alone -/
def LnC (σ σ' : St) : Prop := ∀ k, k < 2 ∨ 15 < k → σ' k = σ k
def LnM (t t' : St) : Prop := (∀ k, k < 69 ∨ k = 70 ∨ 84 < k → t' k = t k) ∧ (∀ j, j ≠ 20 → j ≠ 22 → j ≠ 23 → j ≠ 24 → j ≠ 25 → j ≠ 26 → j ≠ 27 → t' 69 j = t 69 j) ∧ ∀ k j, 71 ≤ k → k ≤ 84 → j < LN k / 2 → t' k j = t k j
theorem LnC.refl (σ : St) : LnC σ σ := fun _ _ => rfl
theorem LnM.refl (t : St) : LnM t t := ⟨fun _ _ => rfl, fun _ _ _ _ _ _ _ _ => rfl, fun _ _ _ _ _ => rfl⟩
theorem LnC.tr {a b c : St} (h : LnC a b) (h2 : LnC b c) : LnC a c := fun k q => (h2 k q).trans (h k q)
theorem LnM.tr {a b c : St} (h : LnM a b) (h2 : LnM b c) : LnM a c := ⟨fun k q => (h2.1 k q).trans (h.1 k q), fun j a b c d e f g => (h2.2.1 j a b c d e f g).trans (h.2.1 j a b c d e f g), fun k j a b c => (h2.2.2 k j a b c).trans (h.2.2 k j a b c)⟩
theorem RdC.ln {a b : St} (h : RdC a b) : LnC a b := fun k q => h.1 k (by omega)
theorem RdM.ln {a b : St} (h : RdM a b) : LnM a b := ⟨fun k q => h.1 k (by omega), h.2, fun k j q1 q2 _ => by rw [h.1 k (by omega)]⟩
theorem LwC.ln {a b : St} (h : LwC a b) : LnC a b := fun k q => h.1 k (by omega) (by omega) (by omega)
theorem LwM.ln {a b : St} (h : LwM a b) : LnM a b := ⟨fun k q => h.1 k (by omega) (by omega) (by omega), h.2.1, fun k j q1 q2 q3 => by
  by_cases e : k = 71
  · subst e
    have q3 : j < 5 := q3
    exact h.2.2.1 j (by omega)
  · by_cases e2 : k = 84
    · subst e2
      exact h.2.2.2 j q3
    · rw [h.1 k (by omega) e e2]⟩
theorem LnC.w1 {σ : St} {k j : Nat} {v : Int32} (h1 : 2 ≤ k) (h2 : k ≤ 15) : LnC σ (wr σ k j v) := fun x q => wr_slot (by omega)
theorem LnM.w1 {t : St} {k j : Nat} {v : Int32} (h1 : 71 ≤ k) (h2 : k ≤ 84) (h3 : LN k / 2 ≤ j) : LnM t (wr t k j v) := ⟨fun x q => wr_slot (by omega), fun y _ _ _ _ _ _ _ => by rw [wr_slot (show (69 : Nat) ≠ k by omega)], fun x y q1 q2 q3 => by
  by_cases e : x = k
  · subst e
    rw [wr_place (by omega)]
  · rw [wr_slot e]⟩
section LINES
variable {m K : Nat} {pl : Nat → Nat}
theorem Flt.cong {i : Nat} {c : Int32} {σ t σ' t' : St} (h : Flt m K pl i c σ t) (h1 : σ' 2 = σ 2) (h2 : t' 69 = t 69) : Flt m K pl i c σ' t' := by
  unfold Flt at h ⊢
  rw [h1, h2]
  exact h
end LINES
/-- the outcome of a line's body -/
def BOut (b : Nat → Int32) (m K : Nat) (pl ln : Nat → Nat) (f g : Option (Int32 × St)) (ft lt : Bool) (i : Nat) (σ t : St) : Prop :=
  (∃ i' n nw nf σ' t', f = some (0, σ') ∧ g = some (0, t') ∧ At b m K pl ln i' σ' t' ∧ i < i' ∧ DatI n nw nf ft lt σ' t' ∧ LnC σ σ' ∧ LnM t t') ∨
  ∃ σ' t' i' c, f = some (0, σ') ∧ g = some (0, t') ∧ Flt m K pl i' c σ' t' ∧ LnC σ σ' ∧ LnM t t'
theorem BOut.after {b : Nat → Int32} {m K : Nat} {pl ln : Nat → Nat} {f g : Option (Int32 × St)} {ft lt : Bool} {i i2 : Nat} {σ t σ2 t2 : St} (h : BOut b m K pl ln f g ft lt i2 σ2 t2) (hi : i ≤ i2) (h1 : LnC σ σ2) (h2 : LnM t t2) : BOut b m K pl ln f g ft lt i σ t := by
  rcases h with ⟨i', n, nw, nf, σ', t', e1, e2, e3, e4, e5, e6, e7⟩ | ⟨σ', t', i', c, e1, e2, e3, e4, e5⟩
  · exact Or.inl ⟨i', n, nw, nf, σ', t', e1, e2, e3, by omega, e5, h1.tr e6, h2.tr e7⟩
  · exact Or.inr ⟨σ', t', i', c, e1, e2, e3, h1.tr e4, h2.tr e5⟩
/-! ===== land: somebody more ===== -/
theorem cell_up {v : Int32} {n n' : Nat} (h : Cell0 v n) (hn : n ≤ n') : Cell0 v n' := by
  rcases h with h | ⟨q, h1, h2⟩
  · exact Or.inl h
  · exact Or.inr ⟨q, by omega, h2⟩
theorem dat_person {n nw nf : Nat} {ft lt : Bool} {σ t σ' t' : St} {f1 f2 ad : Int32} {q : Nat} {S : Nat → Nat} (h : DatI n nw nf ft lt σ t) (hn : n < 12) (hf1 : Cell0 f1 n) (hf2 : Cell0 f2 n) (had : ad = 0 ∨ ad = 1) (hq : q < 10) (hS : ∀ k, k < 4 → S k ≤ 999)
    (c2 : σ' 2 8 = σ 2 8) (c30 : σ' 3 0 = nI (n + 1)) (c3 : ∀ j, j ≠ 0 → σ' 3 j = σ 3 j) (c4 : ∀ p, σ' 4 p = if p = n then f1 else σ 4 p) (c5 : ∀ p, σ' 5 p = if p = n then f2 else σ 5 p) (c6 : ∀ p, σ' 6 p = if p = n then ad else σ 6 p) (cx : ∀ x, 7 ≤ x → x ≤ 12 → σ' x = σ x)
    (c15a : σ' 15 (48 + n) = nI q) (c15b : ∀ k, k < 4 → σ' 15 (4 * n + k) = nI (S k)) (c15c : ∀ y, y ≠ 48 + n → ¬ (4 * n ≤ y ∧ y < 4 * n + 4) → σ' 15 y = σ 15 y)
    (m5 : t' 71 5 = nI (n + 1)) (m71 : ∀ j, j ≠ 5 → t' 71 j = t 71 j) (m74 : ∀ p, t' 74 (12 + p) = if p = n then f1 else t 74 (12 + p)) (m75 : ∀ p, t' 75 (12 + p) = if p = n then f2 else t 75 (12 + p)) (m76 : ∀ p, t' 76 (12 + p) = if p = n then ad else t 76 (12 + p)) (m77 : ∀ p, t' 77 (12 + p) = if p = n then -1 else t 77 (12 + p)) (m73 : ∀ p, t' 73 (12 + p) = if p = n then nI q else t 73 (12 + p))
    (m72a : ∀ k, k < 4 → t' 72 (48 + (4 * n + k)) = nI (S k)) (m72b : ∀ y, ¬ (48 + 4 * n ≤ y ∧ y < 48 + (4 * n + 4)) → t' 72 y = t 72 y) (mx : ∀ x, 78 ≤ x → x ≤ 84 → t' x = t x) : DatI (n + 1) nw nf ft lt σ' t' := by
  obtain ⟨d1, d2, d3, d4, d5, d6, d7, d8, ⟨d9, d9'⟩, d10, d11, d12⟩ := h
  refine ⟨⟨c30, m5, by omega⟩, ⟨by rw [c3 4 (by decide)]; exact d2.1, by rw [m71 6 (by decide)]; exact d2.2.1, d2.2.2⟩, ⟨by rw [c3 6 (by decide)]; exact d3.1, by rw [m71 7 (by decide)]; exact d3.2.1, d3.2.2⟩, by rw [m71 8 (by decide), c3 10 (by decide)]; exact d4, by rw [c2]; exact d5, fun p hp => ?_, fun p hp => ?_, fun p hp => ?_, ⟨fun p hp1 hp2 => ?_, fun j hj1 hj2 => ?_⟩, ?_, ?_, ?_⟩
  · rw [m74, m75, m76, c4, c5, c6]
    by_cases e : p = n
    · rw [if_pos e, if_pos e, if_pos e, if_pos e, if_pos e, if_pos e]
      exact ⟨rfl, rfl, rfl, cell_up hf1 (by omega), cell_up hf2 (by omega), had⟩
    · rw [if_neg e, if_neg e, if_neg e, if_neg e, if_neg e, if_neg e]
      obtain ⟨a1, a2, a3, a4, a5, a6⟩ := d6 p (by omega)
      exact ⟨a1, a2, a3, cell_up a4 (by omega), cell_up a5 (by omega), a6⟩
  · by_cases e : p = n
    · subst e
      exact ⟨fun k hk => ⟨S k, hS k hk, c15b k hk, m72a k hk⟩, q, hq, c15a, by rw [m73, if_pos rfl]⟩
    · obtain ⟨a1, a2⟩ := d7 p (by omega)
      refine ⟨fun k hk => ?_, ?_⟩
      · rw [c15c _ (by omega) (by omega), m72b _ (by omega)]
        exact a1 k hk
      · rw [c15c _ (by omega) (by omega), m73, if_neg e]
        exact a2
  · by_cases e : p = n
    · subst e
      rw [m77, if_pos rfl, c15c _ (by omega) (by omega), (d9 p (Nat.le_refl _) hn).2]
      exact ⟨rfl, Or.inl rfl⟩
    · obtain ⟨a1, a2⟩ := d8 p (by omega)
      rw [m77, if_neg e, c15c _ (by omega) (by omega)]
      refine ⟨a1, ?_⟩
      rcases a2 with a2 | ⟨r, r1, r2, r3, r4⟩
      · exact Or.inl a2
      · exact Or.inr ⟨r, by omega, r2, r3, by rw [c15c _ (by omega) (by omega)]; exact r4⟩
  · rw [c15c _ (by omega) (by omega), c15c _ (by omega) (by omega)]
    exact d9 p (by omega) hp2
  · rw [c15c _ (by omega) (by omega)]
    exact d9' j hj1 hj2
  · rw [cx 8 (by decide) (by decide), cx 9 (by decide) (by decide), cx 10 (by decide) (by decide), mx 81 (by decide) (by decide), mx 82 (by decide) (by decide), mx 83 (by decide) (by decide)]
    exact d10
  · rw [cx 7 (by decide) (by decide), mx 78 (by decide) (by decide), mx 79 (by decide) (by decide), mx 80 (by decide) (by decide)]
    obtain ⟨a1, a2, a3⟩ := d11
    refine ⟨fun i hi => ?_, a2, a3⟩
    obtain ⟨a, b, v, b1, b2, b3⟩ := a1 i hi
    exact ⟨a, b, v, by omega, by omega, b3⟩
  · rw [cx 11 (by decide) (by decide), cx 12 (by decide) (by decide), m71 9 (by decide), mx 84 (by decide) (by decide)]
    exact d12
