/-! ===== the law's start ===== -/
theorem tbl {w : Cond} (i : Nat) (h : tables_1[i]? = some w) : w ∈ lw_tbl := List.mem_append_right _ (List.mem_of_getElem? h)
section START
variable {s : State} {args : Array Value}
theorem st_arr {ty : FieldType} (hty : ty = .int ∨ ty = .long) (h : (Cond.arrayClass ty).before args s = true) : ∃ c, ArrOfT s c ty ∧ va_RA s c ty := by
  obtain ⟨c, k, comp, h1, h2, h3⟩ := Cond.arrayClass_spec h
  exact ⟨c, fun n z => ⟨(fun k h => by cases h), k, h2, comp, h3⟩, by rcases hty with rfl | rfl <;> exact h1⟩
theorem st_ao {C : String} (h : (Cond.arrayOver (.object C)).before args s = true) : ∃ c, ArrOfT s c (.object C) ∧ va_RA s c (.object C) := by
  obtain ⟨comp, c, k, h1, h2, h3, h4, h5⟩ := Cond.arrayOver_spec h
  exact ⟨c, fun n z => ⟨(fun k h => by cases h), k, h3, comp, h4⟩, ⟨k, comp, h3, h4, h1, h5⟩⟩
theorem st_K (hts : ∀ w ∈ lw_tbl, w.before args s = true) : ∃ (D : va_G) (cI : ClassId) (cS : ClassId × ClassId), va_K D vwCl [(cI, .int), (cS.1, .object "java/lang/String"), (cS.2, .long)] s := by
  have hws : ∀ w ∈ WS, w.before args s = true := fun w hw => hts w (List.mem_filter.mp hw).1
  have h0 : ∀ c : Nat, ∃ p : ClassId × (Nat → Nat), ∀ q : vw_C, vwCl[c]? = some q → u_Kn s q.1 q.2.1 q.2.2 p.1 p.2 := by
    intro c
    match c with
    | 0 =>
      obtain ⟨cC, iS, h⟩ := u_known hws iX0 (hts _ (tbl 307 (w := Cond.instantiable RX0 6) (by decide +kernel)))
      exact ⟨(cC, iS), fun q hq => by cases hq; exact h⟩
    | 1 =>
      obtain ⟨cC, iS, h⟩ := u_known hws iX1 (hts _ (tbl 272 (w := Cond.instantiable RX1 8) (by decide +kernel)))
      exact ⟨(cC, iS), fun q hq => by cases hq; exact h⟩
    | 2 =>
      obtain ⟨cC, iS, h⟩ := u_known hws iX2 (hts _ (tbl 249 (w := Cond.instantiable RX2 5) (by decide +kernel)))
      exact ⟨(cC, iS), fun q hq => by cases hq; exact h⟩
    | 3 =>
      obtain ⟨cC, iS, h⟩ := u_known hws iX3 (hts _ (tbl 358 (w := Cond.instantiable RX3 5) (by decide +kernel)))
      exact ⟨(cC, iS), fun q hq => by cases hq; exact h⟩
    | 4 =>
      obtain ⟨cC, iS, h⟩ := u_known hws iX4 (hts _ (tbl 40 (w := Cond.instantiable RX4 12) (by decide +kernel)))
      exact ⟨(cC, iS), fun q hq => by cases hq; exact h⟩
    | 5 =>
      obtain ⟨cC, iS, h⟩ := u_known hws iX5 (hts _ (tbl 46 (w := Cond.instantiable RX5 4) (by decide +kernel)))
      exact ⟨(cC, iS), fun q hq => by cases hq; exact h⟩
    | 6 =>
      obtain ⟨cC, iS, h⟩ := u_known hws iX6 (hts _ (tbl 34 (w := Cond.instantiable RX6 9) (by decide +kernel)))
      exact ⟨(cC, iS), fun q hq => by cases hq; exact h⟩
    | 7 =>
      obtain ⟨cC, iS, h⟩ := u_known hws iX7 (hts _ (tbl 334 (w := Cond.instantiable RX7 5) (by decide +kernel)))
      exact ⟨(cC, iS), fun q hq => by cases hq; exact h⟩
    | 8 =>
      obtain ⟨cC, iS, h⟩ := u_known hws iX8 (hts _ (tbl 206 (w := Cond.instantiable RX8 8) (by decide +kernel)))
      exact ⟨(cC, iS), fun q hq => by cases hq; exact h⟩
    | 9 =>
      obtain ⟨cC, iS, h⟩ := u_known hws iX9 (hts _ (tbl 148 (w := Cond.instantiable RX9 5) (by decide +kernel)))
      exact ⟨(cC, iS), fun q hq => by cases hq; exact h⟩
    | 10 =>
      obtain ⟨cC, iS, h⟩ := u_known hws iX10 (hts _ (tbl 132 (w := Cond.instantiable RX10 1) (by decide +kernel)))
      exact ⟨(cC, iS), fun q hq => by cases hq; exact h⟩
    | 11 =>
      obtain ⟨cC, iS, h⟩ := u_known hws iX11 (hts _ (tbl 26 (w := Cond.instantiable RX11 15) (by decide +kernel)))
      exact ⟨(cC, iS), fun q hq => by cases hq; exact h⟩
    | 12 =>
      obtain ⟨cC, iS, h⟩ := u_known hws iX12 (hts _ (tbl 1381 (w := Cond.instantiable RX12 66) (by decide +kernel)))
      exact ⟨(cC, iS), fun q hq => by cases hq; exact h⟩
    | n + 13 => exact ⟨(0, fun _ => 0), fun q hq => by cases hq⟩
  obtain ⟨p, hp⟩ := Classical.axiomOfChoice h0
  obtain ⟨cI, a1, a2⟩ := st_arr (Or.inl rfl) (hts _ (tbl 65 (w := Cond.arrayClass .int) (by decide +kernel)))
  obtain ⟨cL, b1, b2⟩ := st_arr (Or.inr rfl) (hts _ (tbl 2009 (w := Cond.arrayClass .long) (by decide +kernel)))
  obtain ⟨cT, c1, c2⟩ := st_ao (C := "java/lang/String") (hts _ (tbl 1387 (w := Cond.arrayOver (.object "java/lang/String")) (by decide +kernel)))
  refine ⟨(fun c => (p c).1, fun c => (p c).2), cI, (cT, cL), fun c q hq => hp c q hq, fun k q hq => ?_⟩
  match k with
  | 0 => cases hq; exact ⟨a1, a2⟩
  | 1 => cases hq; exact ⟨c1, c2⟩
  | 2 => cases hq; exact ⟨b1, b2⟩
  | n + 3 => cases hq
def TMI : List Nat := [80, 82, 68, 70, 72, 74, 76, 78, 84, 86, 88, 90, 92, 58, 64, 66]
abbrev tmS (i : Nat) : Term := .string RX9 (TMI.getD i 0)
def nF : List Cond := flatC (Jvm.Cond.and given_1 narrow_1)
abbrev tmV (i : Nat) : Term := .field (tmS i) "java/lang/String" "value" "[B"
theorem nf_ex : ∀ i : Nat, i < 16 → Cond.exactly (tmS i) "java/lang/String" ∈ nF := by decide +kernel
theorem nf_co : ∀ i : Nat, i < 16 → Cond.eq (.field (tmS i) "java/lang/String" "coder" "B") (.int 0) ∈ nF := by decide +kernel
theorem nf_ar : ∀ i : Nat, i < 16 → Cond.arrayOf (tmV i) .byte ∈ nF := by decide +kernel
theorem nf_le : ∀ i : Nat, i < 16 → Cond.eq (.length (tmV i)) (.int (Int32.ofNat (STRL.getD i 0))) ∈ nF := by decide +kernel
theorem nf_el : ∀ i : Nat, i < 16 → ∀ j : Nat, j < STRL.getD i 0 → Cond.eq (.elem (tmV i) (.int (Int32.ofNat j))) (.int ((STRB.getD i []).getD j 0)) ∈ nF := by decide +kernel
theorem nf_sm : ∀ q ∈ STRW, q.1 = RX9 ∧ q.2.1 = TMI.getD q.2.2 0 ∨ Cond.eq (tmS q.2.2) (.string q.1 q.2.1) ∈ nF := by decide +kernel
theorem nf_rf : ∀ q ∈ STRW, q.2.2 < 16 ∧ Cond.stringRef q.1 q.2.1 (STRT.getD q.2.2 "") ∈ tables_1 := by decide +kernel
theorem nf_df : ∀ i : Nat, i < 16 → ∀ j : Nat, j < 16 → i ≠ j → STRL.getD i 0 ≠ STRL.getD j 0 ∨ ∃ k : Nat, k < STRL.getD i 0 ∧ (STRB.getD i []).getD k 0 ≠ (STRB.getD j []).getD k 0 := by
  intro i hi j hj hij
  have h : ∀ i : Nat, i < 16 → ∀ j : Nat, j < 16 → i ≠ j → STRL.getD i 0 ≠ STRL.getD j 0 ∨ (List.range (STRL.getD i 0)).any (fun k => (STRB.getD i []).getD k 0 != (STRB.getD j []).getD k 0) = true := by decide +kernel
  rcases h i hi j hj hij with h | h
  · exact Or.inl h
  · obtain ⟨k, hk, h⟩ := List.any_eq_true.mp h
    exact Or.inr ⟨k, List.mem_range.mp hk, by simpa using h⟩
/-- texts of different letters stand at different places -/
theorem st_ne {A : Nat → Prop} {H : Heap} {a v w n n' : Nat} {f f' : Nat → Int32} (hv : va_OF "java/lang/String" "value" "[B" (.ref v) a A s H) (hw : va_OF "java/lang/String" "value" "[B" (.ref w) a A s H) (h1 : va_T .byte v n (fun j => .int (f j)) A s H) (h2 : va_T .byte w n' (fun j => .int (f' j)) A s H) (hn : n < 100 ∧ n' < 100) : n = n' ∧ ∀ k, k < n → f k = f' k := by
  obtain ⟨cf, k, i, fd, cell, e1, e2, e3, e4, e5, e6⟩ := hv
  obtain ⟨cf', k', i', fd', cell', e1', e2', e3', e4', e5', e6'⟩ := hw
  rw [e1] at e1'
  cases e1'
  rw [e3] at e3'
  cases e3'
  rw [e5] at e5'
  cases e5'
  obtain ⟨c1, g1, g2, g3, g4, g5, g6, g7⟩ := h1
  obtain ⟨c2, k1, k2, k3, k4, k5, k6, k7⟩ := h2
  rw [g1] at k1
  cases k1
  have e : Int32.ofNat n = Int32.ofNat n' := g5.symm.trans k5
  have e' : n = n' := by
    have := congrArg Int32.toInt e
    rw [i_ofNat (by omega), i_ofNat (by omega)] at this
    omega
  refine ⟨e', fun k hk => ?_⟩
  have q1 := g6 k hk
  have q2 := k6 k (e' ▸ hk)
  rw [q1] at q2
  simpa using q2
theorem st_S {A : Nat → Prop} (hg : (Jvm.Cond.and given_1 narrow_1).before args s = true) (hA : ∀ a : Nat, a < s.heap.size → ¬ A a) : ∃ adK adV : Nat → Nat, vk_S 16 STRL STRB adK adV A s s.heap ∧ ∀ i : Nat, i < 16 → (tmS i).eval args s none [] s = some (.ref (adK i)) := by
  have hs := flat_of_before _ hg
  have h0 : ∀ i : Nat, ∃ q : Nat × Nat, i < 16 → (tmS i).eval args s none [] s = some (.ref q.1) ∧ va_O "java/lang/String" q.1 A s s.heap ∧ va_OF "java/lang/String" "coder" "B" (.int 0) q.1 A s s.heap ∧ va_OF "java/lang/String" "value" "[B" (.ref q.2) q.1 A s s.heap ∧ va_T .byte q.2 (STRL.getD i 0) (fun j => .int ((STRB.getD i []).getD j 0)) A s s.heap := by
    intro i
    by_cases hi : i < 16
    · obtain ⟨aK, aV, ⟨hS, -⟩, he⟩ := vk_Sof (N := 1) (tm := fun _ => tmS i) (len := [STRL.getD i 0]) (byt := [STRB.getD i []]) (A := A) (s := s) (args := args) (fun j hj => by
          have : j = 0 := by omega
          subst this
          show STRL.getD i 0 < 2 ^ 31
          revert i
          decide) (fun j hj => hs _ (nf_ex i hi)) (fun j hj => hs _ (nf_co i hi)) (fun j hj => hs _ (nf_ar i hi)) (fun j hj => by
          have : j = 0 := by omega
          subst this
          exact hs _ (nf_le i hi)) (fun j hj k hk => by
          have : j = 0 := by omega
          subst this
          exact hs _ (nf_el i hi k hk)) (fun j k hj hk hjk => absurd (by omega : j = k) hjk) hA
      exact ⟨(aK 0, aV 0), fun _ => ⟨he 0 (by omega), hS 0 (by omega)⟩⟩
    · exact ⟨(0, 0), fun h => absurd h hi⟩
  obtain ⟨ad, had⟩ := Classical.axiomOfChoice h0
  refine ⟨fun i => (ad i).1, fun i => (ad i).2, ⟨fun i hi => (had i hi).2, fun i j hi hj e => ?_⟩, fun i hi => (had i hi).1⟩
  by_cases hij : i = j
  · exact hij
  · have hlen : ∀ i : Nat, i < 16 → STRL.getD i 0 < 100 := by decide
    have e' : (ad i).1 = (ad j).1 := e
    have hj2 := (had j hj).2.2.2.1
    rw [← e'] at hj2
    have hn := st_ne (had i hi).2.2.2.1 hj2 (had i hi).2.2.2.2 (had j hj).2.2.2.2 ⟨hlen i hi, hlen j hj⟩
    rcases nf_df i hi j hj hij with h | ⟨k, hk, h⟩
    · exact absurd hn.1 h
    · exact absurd (hn.2 k hk) h
end START

/-- a smaller room will do -/
theorem w_room {p : Program} {l : Launch} {e : Env} {R R' : Room} {s : State} {m : MethodId} {args : Array Value} {below : List Frame} {meth : Method} {c : Code} {H : Heap} {locs : List Loc} {cells slots : Nat} {Q : State → Prop} {g : JFrame} (hf : R'.frames ≤ R.frames) (hl : R'.locals ≤ R.locals) (hc : R'.cells ≤ R.cells) (hs : R'.slots ≤ R.slots) (k : W p l e R' s m args below meth c H locs cells slots Q g) : W p l e R s m args below meth c H locs cells slots Q g := by
  intro T hT X
  refine k T hT { X with room := ?_ }
  have h := X.room
  simp only [State.hasRoom, Bool.and_eq_true, decide_eq_true_eq] at h ⊢
  obtain ⟨⟨⟨⟨h1, h2, h3, h4, h5, h6⟩, h7⟩, h8⟩, h9⟩ := h
  refine ⟨⟨⟨⟨by omega, by omega, by omega, by omega, by omega, h6⟩, ?_⟩, ?_⟩, h9⟩
  · omega
  · omega

