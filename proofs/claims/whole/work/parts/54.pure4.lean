/-! ===== what holds between the calls: class (slots below 69) and reference (69 to 110) tell the same ===== -/
def Cell0 (v : Int32) (n : Nat) : Prop := v = -1 ∨ ∃ q, q < n ∧ v = nI q
/-- wills: the class's square of shares, the reference's list -/
def RWill (s : St) (n nw : Nat) : Prop :=
  (∀ i, i < nw → ∃ a b v : Nat, a < n ∧ b < n ∧ a ≠ b ∧ 1 ≤ v ∧ v ≤ 99 ∧ s 78 i = nI a ∧ s 79 i = nI b ∧ s 80 i = nI v ∧ s 25 (12 * a + b) = nI v) ∧
  (∀ i j, i < nw → j < nw → s 78 i = s 78 j → s 79 i = s 79 j → i = j) ∧
  (∀ a b, a < 12 → b < 12 → ¬ s 25 (12 * a + b) = 0 → ∃ i, i < nw ∧ s 78 i = nI a ∧ s 79 i = nI b)
/-- a step of the law: what the class keeps, what the reference keeps, how deep the stack is before and behind -/
def RStep (c m : Int32) (d d' : Nat) : Prop :=
  (d' = d + 1 ∧ ((∃ v, v ≤ 9999 ∧ c = nI v ∧ m = c) ∨ (∃ v : Nat, v < 7 ∧ c = -1 - nI v ∧ m = c))) ∨ (1 ≤ d ∧ d' = d ∧ c = -11 ∧ m = -28) ∨
  (2 ≤ d ∧ d = d' + 1 ∧ ((c = -12 ∧ m = -27) ∨ (c = -13 ∧ m = -26) ∨ (c = -14 ∧ m = -24) ∨ (c = -15 ∧ m = -25) ∨ (c = -16 ∧ m = -20) ∨ (c = -17 ∧ m = -21) ∨ (c = -18 ∧ m = -22) ∨ (c = -19 ∧ m = -23)))
def RLawOf (st sg : Nat → Int32) (len : Nat) : Prop := len ≤ 700 ∧ (len = 0 ∨ ∃ dep : Nat → Nat, dep 0 = 0 ∧ dep len = 1 ∧ (∀ i, i ≤ len → dep i ≤ 64) ∧ ∀ i, i < len → RStep (st i) (sg i) (dep i) (dep (i + 1)))
def RLaw (s : St) : Prop := ∃ len : Nat, s 29 2 = nI len ∧ s 71 4 = nI len ∧ s 29 3 = (if len = 0 then 0 else 1) ∧ RLawOf (s 30) (s 84) len
def RLand (s : St) (n nw nf : Nat) : Prop :=
  (s 21 0 = nI n ∧ s 71 0 = nI n ∧ n ≤ 12) ∧ (s 21 4 = nI nw ∧ s 71 1 = nI nw ∧ nw ≤ 12) ∧ (s 21 6 = nI nf ∧ s 71 2 = nI nf ∧ nf ≤ 6) ∧ s 71 3 = s 21 10 ∧
  (∀ p, p < n → s 74 p = s 22 p ∧ s 75 p = s 23 p ∧ s 76 p = s 24 p ∧ Cell0 (s 22 p) n ∧ Cell0 (s 23 p) n ∧ (s 24 p = 0 ∨ s 24 p = 1)) ∧
  (∀ f, f < nf → s 81 f = s 26 f ∧ s 82 f = s 27 f ∧ s 83 f = s 28 f ∧ (∃ q, q < 10 ∧ s 26 f = nI q) ∧ (∃ v, v ≤ 9999 ∧ s 27 f = nI v) ∧ (∃ v, v ≤ 9999 ∧ s 28 f = nI v)) ∧ RWill s n nw ∧ RLaw s
/-- the acts that can be undone: the class's ring of 40 rows of 94, the reference's queue of rows of 95 -/
def RPast (ring queue : Nat → Int32) (oldest acts acts' : Int32) (n : Nat) : Prop := ∃ od na : Nat, od < 40 ∧ na ≤ 40 ∧ oldest = nI od ∧ acts = nI na ∧ acts' = nI na ∧
  ∀ i, i < na → SW n (fun j => ring (94 * ((od + i) % 40) + j)) (fun j => queue (95 * i + j)) ∧ WI n (fun j => ring (94 * ((od + i) % 40) + j))
def RSeen (pc mc pm mm : Nat → Int32) (seen seen' : Int32) : Prop := ∃ ns : Nat, ns ≤ 4 ∧ seen = nI ns ∧ seen' = nI ns ∧ ∀ i, i < ns → pm i = pc i ∧ mm i = mc i ∧ (∃ k, k < 4 ∧ pc i = nI k) ∧ ∃ v, v ≤ 9999 ∧ mc i = nI v
def RStat (c m : Nat → Int32) : Prop := ∀ i, i < 3 → m i = c i
def RNow (s : St) (n : Nat) : Prop := SW n (s 34) (vr s) ∧ WI n (s 34) ∧ RPast (s 35) (s 89) (s 32 2) (s 32 3) (s 69 32) n ∧ RSeen (s 36) (s 37) (s 102) (s 103) (s 32 6) (s 69 33) ∧ RStat (s 38) (s 85)
def RKept (s : St) (n : Nat) : Prop := (s 0 7 = 0 ∧ s 69 58 = 0) ∨ (s 0 7 = 1 ∧ s 69 58 = 1 ∧ SW n (s 41) (s 106) ∧ WI n (s 41) ∧ RPast (s 42) (s 107) (s 39 2) (s 39 3) (s 69 59) n ∧ RSeen (s 43) (s 44) (s 108) (s 109) (s 39 6) (s 69 60) ∧ RStat (s 45) (s 110))
def RTape (s : St) : Prop := (∃ tl : Nat, tl ≤ 700 ∧ s 0 1 = nI tl ∧ s 69 19 = nI tl) ∧ (∀ i, i < 700 → s 86 i = s 1 i ∧ ∃ b, b < 256 ∧ s 1 i = nI b) ∧ s 69 28 = s 0 2
/-- the rows that were found: deaths, posts, seats -/
def RRow (len len' : Int32) (c m : Nat → Int32) (most : Nat) : Prop := ∃ k : Nat, k ≤ most ∧ len = nI k ∧ ((len' = -1 ∧ k = 0) ∨ len' = nI k) ∧ ∀ i, i < k → m i = c i
def RPost (s : St) (n : Nat) : Prop := ∃ B : Nat, B < 2 ^ n ∧ s 57 2 = nI B ∧ ((s 69 48 = 0 ∧ B = 0) ∨ (s 69 48 = 1 ∧ s 69 47 = nI B)) ∧ ∀ p, p < n → B.testBit p = true → s 98 p = s 59 p
def RS (s : St) : Prop := ∃ n nw nf : Nat, RLand s n nw nf ∧ RNow s n ∧ RKept s n ∧ RTape s ∧ RRow (s 51 4) (s 69 44) (s 56) (s 97) 3 ∧ RPost s n ∧ RRow (s 62 2) (s 69 51) (s 64) (s 101) 7
/-- the places that RS looks at -/
def relM (j : Nat) : Bool := [17, 19, 28, 32, 33, 44, 47, 48, 51, 58, 59, 60].contains j
def relS (k : Nat) : Bool := [1, 22, 23, 24, 25, 26, 27, 28, 30, 34, 35, 36, 37, 38, 41, 42, 43, 44, 45, 56, 59, 64, 72, 73, 74, 75, 76, 77, 78, 79, 80, 81, 82, 83, 84, 85, 86, 87, 88, 89, 97, 98, 101, 102, 103, 106, 107, 108, 109, 110].contains k
def relO (k j : Nat) : Bool := [(0, 1), (0, 2), (0, 7), (21, 0), (21, 4), (21, 6), (21, 10), (29, 2), (29, 3), (32, 2), (32, 3), (32, 6), (39, 2), (39, 3), (39, 6), (51, 4), (57, 2), (62, 2), (71, 0), (71, 1), (71, 2), (71, 3), (71, 4)].contains (k, j)
/-- s' is s but for scratch -/
def Keep (s s' : St) : Prop := (∀ k, relS k = true → s' k = s k) ∧ (∀ j, relM j = true → s' 69 j = s 69 j) ∧ ∀ k j, relO k j = true → s' k j = s k j
theorem Keep.rfl' (s : St) : Keep s s := ⟨fun _ _ => rfl, fun _ _ => rfl, fun _ _ _ => rfl⟩
theorem Keep.trans {s t u : St} (h : Keep s t) (h2 : Keep t u) : Keep s u := ⟨fun k e => (h2.1 k e).trans (h.1 k e), fun k e => (h2.2.1 k e).trans (h.2.1 k e), fun k j e => (h2.2.2 k j e).trans (h.2.2 k j e)⟩
theorem vr_keep {s s' : St} (h : Keep s s') : vr s' = vr s := by
  funext j
  rw [vr, vr, h.1 72 rfl, h.1 73 rfl, h.1 77 rfl, h.1 87 rfl, h.1 88 rfl, h.2.1 17 rfl]
theorem RS.keep {s s' : St} (h : Keep s s') (r : RS s) : RS s' := by
  obtain ⟨n, nw, nf, r1, r2, r3, r4, r5, r6, r7⟩ := r
  refine ⟨n, nw, nf, ?_, ?_, ?_, ?_, ?_, ?_, ?_⟩
  · unfold RLand RWill RLaw at r1 ⊢
    rw [h.2.2 21 0 rfl, h.2.2 71 0 rfl, h.2.2 21 4 rfl, h.2.2 71 1 rfl, h.2.2 21 6 rfl, h.2.2 71 2 rfl, h.2.2 71 3 rfl, h.2.2 21 10 rfl, h.1 74 rfl, h.1 22 rfl, h.1 75 rfl, h.1 23 rfl, h.1 76 rfl, h.1 24 rfl, h.1 81 rfl, h.1 26 rfl, h.1 82 rfl, h.1 27 rfl, h.1 83 rfl, h.1 28 rfl, h.1 78 rfl, h.1 79 rfl, h.1 80 rfl, h.1 25 rfl, h.2.2 29 2 rfl, h.2.2 71 4 rfl, h.2.2 29 3 rfl, h.1 30 rfl, h.1 84 rfl]
    exact r1
  · unfold RNow at r2 ⊢
    rw [vr_keep h, h.1 34 rfl, h.1 35 rfl, h.1 89 rfl, h.2.2 32 2 rfl, h.2.2 32 3 rfl, h.2.1 32 rfl, h.1 36 rfl, h.1 37 rfl, h.1 102 rfl, h.1 103 rfl, h.2.2 32 6 rfl, h.2.1 33 rfl, h.1 38 rfl, h.1 85 rfl]
    exact r2
  · unfold RKept at r3 ⊢
    rw [h.2.2 0 7 rfl, h.2.1 58 rfl, h.1 41 rfl, h.1 106 rfl, h.1 42 rfl, h.1 107 rfl, h.2.2 39 2 rfl, h.2.2 39 3 rfl, h.2.1 59 rfl, h.1 43 rfl, h.1 44 rfl, h.1 108 rfl, h.1 109 rfl, h.2.2 39 6 rfl, h.2.1 60 rfl, h.1 45 rfl, h.1 110 rfl]
    exact r3
  · unfold RTape at r4 ⊢
    rw [h.2.2 0 1 rfl, h.2.1 19 rfl, h.1 86 rfl, h.1 1 rfl, h.2.1 28 rfl, h.2.2 0 2 rfl]
    exact r4
  · rw [h.2.2 51 4 rfl, h.2.1 44 rfl, h.1 56 rfl, h.1 97 rfl]
    exact r5
  · unfold RPost at r6 ⊢
    rw [h.2.2 57 2 rfl, h.2.1 48 rfl, h.2.1 47 rfl, h.1 98 rfl, h.1 59 rfl]
    exact r6
  · rw [h.2.2 62 2 rfl, h.2.1 51 rfl, h.1 64 rfl, h.1 101 rfl]
    exact r7
