/-! ===== calls that change what is now ===== -/
def KeepL (S M : List Nat) (O : List (Nat × Nat)) (s s' : St) : Prop := (∀ k ∈ S, s' k = s k) ∧ (∀ j ∈ M, s' 69 j = s 69 j) ∧ ∀ q ∈ O, s' q.1 q.2 = s q.1 q.2
theorem KeepL.rfl' {S M : List Nat} {O : List (Nat × Nat)} (s : St) : KeepL S M O s s := ⟨fun _ _ => rfl, fun _ _ => rfl, fun _ _ => rfl⟩
theorem KeepL.trans {S M : List Nat} {O : List (Nat × Nat)} {s t u : St} (h : KeepL S M O s t) (h2 : KeepL S M O t u) : KeepL S M O s u := ⟨fun k e => (h2.1 k e).trans (h.1 k e), fun k e => (h2.2.1 k e).trans (h.2.1 k e), fun q e => (h2.2.2 q e).trans (h.2.2 q e)⟩
theorem KeepL.wr {S M : List Nat} {O : List (Nat × Nat)} {s t : St} {k j : Nat} {v : Int32} (h : KeepL S M O s t) (hS : S.contains k = false) (hM : k = 69 → M.contains j = false) (hO : ∀ q ∈ O, q.1 = k → q.2 ≠ j) : KeepL S M O s (wr t k j v) := by
  refine h.trans ⟨fun k' e => wr_slot (fun q => ?_), fun j' e => ?_, fun q e => ?_⟩
  · subst q
    rw [List.contains_iff_mem.mpr e] at hS
    cases hS
  · by_cases h69 : k = 69
    · have := hM h69
      subst h69
      refine wr_place (fun q => ?_)
      subst q
      rw [List.contains_iff_mem.mpr e] at this
      cases this
    · rw [wr_slot (fun q => h69 q.symm)]
  · by_cases hk : q.1 = k
    · have := hO q e hk
      rw [← hk]
      exact wr_place this
    · rw [wr_slot hk]
theorem KeepL.out {S M : List Nat} {O : List (Nat × Nat)} {s s' : St} {z : Nat} (hz : S.contains z = false) (h69 : z ≠ 69) (hO : ∀ q ∈ O, q.1 ≠ z) (e : ∀ k, k ≠ z → s' k = s k) : KeepL S M O s s' := by
  refine ⟨fun k' h => e k' (fun q => ?_), fun j' h => by rw [e 69 (fun q => h69 q.symm)], fun q h => by rw [e q.1 (hO q h)]⟩
  subst q
  rw [List.contains_iff_mem.mpr h] at hz
  cases hz
def lS : List Nat := [22, 23, 24, 25, 26, 27, 28, 30, 74, 75, 76, 78, 79, 80, 81, 82, 83, 84]
def lO : List (Nat × Nat) := [(21, 0), (21, 4), (21, 6), (21, 10), (29, 2), (29, 3), (71, 0), (71, 1), (71, 2), (71, 3), (71, 4)]
def oS : List Nat := [22, 23, 24, 25, 26, 27, 28, 30, 74, 75, 76, 78, 79, 80, 81, 82, 83, 84, 41, 42, 43, 44, 45, 106, 107, 108, 109, 110, 1, 86, 56, 97, 59, 98, 64, 101]
def oM : List Nat := [58, 59, 60, 19, 28, 44, 47, 48, 51]
def oO : List (Nat × Nat) := [(21, 0), (21, 4), (21, 6), (21, 10), (29, 2), (29, 3), (71, 0), (71, 1), (71, 2), (71, 3), (71, 4), (0, 7), (39, 2), (39, 3), (39, 6), (0, 1), (0, 2), (51, 4), (57, 2), (62, 2)]
/-- all but what is now stays -/
abbrev KeepO (s s' : St) : Prop := KeepL oS oM oO s s'
theorem RLand.cong {s s' : St} {n nw nf : Nat} (h : KeepL lS [] lO s s') (r : RLand s n nw nf) : RLand s' n nw nf := by
  have a : ∀ k, lS.contains k = true → s' k = s k := fun k e => h.1 k (List.contains_iff_mem.mp e)
  have b : ∀ k j, lO.contains (k, j) = true → s' k j = s k j := fun k j e => h.2.2 (k, j) (List.contains_iff_mem.mp e)
  unfold RLand RWill RLaw at r ⊢
  rw [b 21 0 rfl, b 71 0 rfl, b 21 4 rfl, b 71 1 rfl, b 21 6 rfl, b 71 2 rfl, b 71 3 rfl, b 21 10 rfl, a 74 rfl, a 22 rfl, a 75 rfl, a 23 rfl, a 76 rfl, a 24 rfl, a 81 rfl, a 26 rfl, a 82 rfl, a 27 rfl, a 83 rfl, a 28 rfl, a 78 rfl, a 79 rfl, a 80 rfl, a 25 rfl, b 29 2 rfl, b 71 4 rfl, b 29 3 rfl, a 30 rfl, a 84 rfl]
  exact r
theorem RS.now {s s' : St} (h : KeepO s s') (r : RS s) (hn : ∀ n nw nf, RLand s n nw nf → RNow s n → RNow s' n) : RS s' := by
  have a : ∀ k, oS.contains k = true → s' k = s k := fun k e => h.1 k (List.contains_iff_mem.mp e)
  have m : ∀ j, oM.contains j = true → s' 69 j = s 69 j := fun j e => h.2.1 j (List.contains_iff_mem.mp e)
  have b : ∀ k j, oO.contains (k, j) = true → s' k j = s k j := fun k j e => h.2.2 (k, j) (List.contains_iff_mem.mp e)
  obtain ⟨n, nw, nf, r1, r2, r3, r4, r5, r6, r7⟩ := r
  refine ⟨n, nw, nf, r1.cong ⟨fun k e => h.1 k ?_, fun j e => (by cases e), fun q e => h.2.2 q ?_⟩, hn n nw nf r1 r2, ?_, ?_, ?_, ?_, ?_⟩
  · revert k; decide
  · revert q; decide
  · unfold RKept at r3 ⊢
    rw [b 0 7 rfl, m 58 rfl, a 41 rfl, a 106 rfl, a 42 rfl, a 107 rfl, b 39 2 rfl, b 39 3 rfl, m 59 rfl, a 43 rfl, a 44 rfl, a 108 rfl, a 109 rfl, b 39 6 rfl, m 60 rfl, a 45 rfl, a 110 rfl]
    exact r3
  · unfold RTape at r4 ⊢
    rw [b 0 1 rfl, m 19 rfl, a 86 rfl, a 1 rfl, m 28 rfl, b 0 2 rfl]
    exact r4
  · rw [b 51 4 rfl, m 44 rfl, a 56 rfl, a 97 rfl]
    exact r5
  · unfold RPost at r6 ⊢
    rw [b 57 2 rfl, m 48 rfl, m 47 rfl, a 98 rfl, a 59 rfl]
    exact r6
  · rw [b 62 2 rfl, m 51 rfl, a 64 rfl, a 101 rfl]
    exact r7
theorem good_fault : Good0 fX11_fault fX12_fault := by
  intro s hs
  obtain ⟨n, nw, nf, -, -, -, ⟨-, -, hf⟩, -⟩ := id hs
  exact ⟨s 0 2, s, wr s 69 1 0, rfl, by rw [fX12_fault, wr_place (by decide), hf], hs.keep keep_code⟩
/-- what is seen may be changed at both sides -/
theorem RNow.seen {s s' : St} {n : Nat} (h : KeepL [34, 35, 38, 72, 73, 77, 85, 87, 88, 89] [17, 32] [(32, 2), (32, 3)] s s') (r : RNow s n) (hr : RSeen (s' 36) (s' 37) (s' 102) (s' 103) (s' 32 6) (s' 69 33)) : RNow s' n := by
  have a : ∀ k, List.contains [34, 35, 38, 72, 73, 77, 85, 87, 88, 89] k = true → s' k = s k := fun k e => h.1 k (List.contains_iff_mem.mp e)
  have hv : vr s' = vr s := by
    funext j
    rw [vr, vr, a 72 rfl, a 73 rfl, a 77 rfl, a 87 rfl, a 88 rfl, h.2.1 17 (by decide)]
  refine ⟨?_, ?_, ?_, hr, ?_⟩
  · rw [hv, a 34 rfl]; exact r.1
  · rw [a 34 rfl]; exact r.2.1
  · rw [a 35 rfl, a 89 rfl, h.2.2 (32, 2) (by decide), h.2.2 (32, 3) (by decide), h.2.1 32 (by decide)]; exact r.2.2.1
  · rw [a 38 rfl, a 85 rfl]; exact r.2.2.2.2
theorem RNow.stat {s s' : St} {n : Nat} (h : KeepL [34, 35, 36, 37, 72, 73, 77, 87, 88, 89, 102, 103] [17, 32, 33] [(32, 2), (32, 3), (32, 6)] s s') (r : RNow s n) (hr : RStat (s' 38) (s' 85)) : RNow s' n := by
  have a : ∀ k, List.contains [34, 35, 36, 37, 72, 73, 77, 87, 88, 89, 102, 103] k = true → s' k = s k := fun k e => h.1 k (List.contains_iff_mem.mp e)
  have hv : vr s' = vr s := by
    funext j
    rw [vr, vr, a 72 rfl, a 73 rfl, a 77 rfl, a 87 rfl, a 88 rfl, h.2.1 17 (by decide)]
  refine ⟨?_, ?_, ?_, ?_, hr⟩
  · rw [hv, a 34 rfl]; exact r.1
  · rw [a 34 rfl]; exact r.2.1
  · rw [a 35 rfl, a 89 rfl, h.2.2 (32, 2) (by decide), h.2.2 (32, 3) (by decide), h.2.1 32 (by decide)]; exact r.2.2.1
  · rw [a 36 rfl, a 37 rfl, a 102 rfl, a 103 rfl, h.2.2 (32, 6) (by decide), h.2.1 33 (by decide)]; exact r.2.2.2.1
