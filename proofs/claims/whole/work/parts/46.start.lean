/-! ===== the law's start ===== -/
theorem tbl {w : Cond} (i : Nat) (h : tables_1[i]? = some w) : w ∈ lw_tbl := List.mem_append_right _ (List.mem_of_getElem? h)
section START
variable {s : State} {args : Array Value}
theorem st_arr {ty : FieldType} (hty : ty = .int ∨ ty = .long) (h : (Cond.arrayClass ty).before args s = true) : ∃ c, ArrOfT s c ty ∧ va_RA s c ty := by
  obtain ⟨c, k, comp, h1, h2, h3⟩ := Cond.arrayClass_spec h
  exact ⟨c, fun n z => ⟨(fun k h => by cases h), k, h2, comp, h3⟩, by rcases hty with rfl | rfl <;> exact h1⟩
theorem st_ao {C : String} (h : (Cond.arrayOver (.object C)).before args s = true) : ∃ c, ArrOfT s c (.object C) ∧ va_RA s c (.object C) := by
  obtain ⟨comp, c, k, h1, h2, h3, h4, h5⟩ := Cond.arrayOver_spec h
  exact ⟨c, fun n z => ⟨(fun k h => by cases h), k, h3, comp, h4⟩, ⟨k, comp, h3, h4, h1, h5⟩⟩
theorem st_K (hts : ∀ w ∈ lw_tbl, w.before args s = true) : ∃ (D : va_G) (cI : ClassId) (cS : ClassId × ClassId), va_K D vwCl [(cI, .int), (cS.1, .object "java/lang/String"), (cS.2, .long)] s := by
  have hws : ∀ w ∈ WS, w.before args s = true := fun w hw => hts w (List.mem_filter.mp hw).1
  have h0 : ∀ c : Nat, ∃ p : ClassId × (Nat → Nat), ∀ q : vw_C, vwCl[c]? = some q → u_Kn s q.1 q.2.1 q.2.2 p.1 p.2 := by
    intro c
    match c with
    | 0 =>
      obtain ⟨cC, iS, h⟩ := u_known hws iX0 (hts _ (tbl 307 (w := Cond.instantiable RX0 6) (by decide +kernel)))
      exact ⟨(cC, iS), fun q hq => by cases hq; exact h⟩
    | 1 =>
      obtain ⟨cC, iS, h⟩ := u_known hws iX1 (hts _ (tbl 272 (w := Cond.instantiable RX1 8) (by decide +kernel)))
      exact ⟨(cC, iS), fun q hq => by cases hq; exact h⟩
    | 2 =>
      obtain ⟨cC, iS, h⟩ := u_known hws iX2 (hts _ (tbl 249 (w := Cond.instantiable RX2 5) (by decide +kernel)))
      exact ⟨(cC, iS), fun q hq => by cases hq; exact h⟩
    | 3 =>
      obtain ⟨cC, iS, h⟩ := u_known hws iX3 (hts _ (tbl 358 (w := Cond.instantiable RX3 5) (by decide +kernel)))
      exact ⟨(cC, iS), fun q hq => by cases hq; exact h⟩
    | 4 =>
      obtain ⟨cC, iS, h⟩ := u_known hws iX4 (hts _ (tbl 40 (w := Cond.instantiable RX4 12) (by decide +kernel)))
      exact ⟨(cC, iS), fun q hq => by cases hq; exact h⟩
    | 5 =>
      obtain ⟨cC, iS, h⟩ := u_known hws iX5 (hts _ (tbl 46 (w := Cond.instantiable RX5 4) (by decide +kernel)))
      exact ⟨(cC, iS), fun q hq => by cases hq; exact h⟩
    | 6 =>
      obtain ⟨cC, iS, h⟩ := u_known hws iX6 (hts _ (tbl 34 (w := Cond.instantiable RX6 9) (by decide +kernel)))
      exact ⟨(cC, iS), fun q hq => by cases hq; exact h⟩
    | 7 =>
      obtain ⟨cC, iS, h⟩ := u_known hws iX7 (hts _ (tbl 334 (w := Cond.instantiable RX7 5) (by decide +kernel)))
      exact ⟨(cC, iS), fun q hq => by cases hq; exact h⟩
    | 8 =>
      obtain ⟨cC, iS, h⟩ := u_known hws iX8 (hts _ (tbl 206 (w := Cond.instantiable RX8 8) (by decide +kernel)))
      exact ⟨(cC, iS), fun q hq => by cases hq; exact h⟩
    | 9 =>
      obtain ⟨cC, iS, h⟩ := u_known hws iX9 (hts _ (tbl 148 (w := Cond.instantiable RX9 5) (by decide +kernel)))
      exact ⟨(cC, iS), fun q hq => by cases hq; exact h⟩
    | 10 =>
      obtain ⟨cC, iS, h⟩ := u_known hws iX10 (hts _ (tbl 132 (w := Cond.instantiable RX10 1) (by decide +kernel)))
      exact ⟨(cC, iS), fun q hq => by cases hq; exact h⟩
    | 11 =>
      obtain ⟨cC, iS, h⟩ := u_known hws iX11 (hts _ (tbl 26 (w := Cond.instantiable RX11 15) (by decide +kernel)))
      exact ⟨(cC, iS), fun q hq => by cases hq; exact h⟩
    | 12 =>
      obtain ⟨cC, iS, h⟩ := u_known hws iX12 (hts _ (tbl 1381 (w := Cond.instantiable RX12 66) (by decide +kernel)))
      exact ⟨(cC, iS), fun q hq => by cases hq; exact h⟩
    | n + 13 => exact ⟨(0, fun _ => 0), fun q hq => by cases hq⟩
  obtain ⟨p, hp⟩ := Classical.axiomOfChoice h0
  obtain ⟨cI, a1, a2⟩ := st_arr (Or.inl rfl) (hts _ (tbl 65 (w := Cond.arrayClass .int) (by decide +kernel)))
  obtain ⟨cL, b1, b2⟩ := st_arr (Or.inr rfl) (hts _ (tbl 2009 (w := Cond.arrayClass .long) (by decide +kernel)))
  obtain ⟨cT, c1, c2⟩ := st_ao (C := "java/lang/String") (hts _ (tbl 1387 (w := Cond.arrayOver (.object "java/lang/String")) (by decide +kernel)))
  refine ⟨(fun c => (p c).1, fun c => (p c).2), cI, (cT, cL), fun c q hq => hp c q hq, fun k q hq => ?_⟩
  match k with
  | 0 => cases hq; exact ⟨a1, a2⟩
  | 1 => cases hq; exact ⟨c1, c2⟩
  | 2 => cases hq; exact ⟨b1, b2⟩
  | n + 3 => cases hq
def TMI : List Nat := [80, 82, 68, 70, 72, 74, 76, 78, 84, 86, 88, 90, 92, 58, 64, 66]
abbrev tmS (i : Nat) : Term := .string RX9 (TMI.getD i 0)
def nF : List Cond := flatC (Jvm.Cond.and given_1 narrow_1)
abbrev tmV (i : Nat) : Term := .field (tmS i) "java/lang/String" "value" "[B"
theorem nf_ex : ∀ i : Nat, i < 16 → Cond.exactly (tmS i) "java/lang/String" ∈ nF := by decide +kernel
theorem nf_co : ∀ i : Nat, i < 16 → Cond.eq (.field (tmS i) "java/lang/String" "coder" "B") (.int 0) ∈ nF := by decide +kernel
theorem nf_ar : ∀ i : Nat, i < 16 → Cond.arrayOf (tmV i) .byte ∈ nF := by decide +kernel
theorem nf_le : ∀ i : Nat, i < 16 → Cond.eq (.length (tmV i)) (.int (Int32.ofNat (STRL.getD i 0))) ∈ nF := by decide +kernel
theorem nf_el : ∀ i : Nat, i < 16 → ∀ j : Nat, j < STRL.getD i 0 → Cond.eq (.elem (tmV i) (.int (Int32.ofNat j))) (.int ((STRB.getD i []).getD j 0)) ∈ nF := by decide +kernel
theorem nf_sm : ∀ q ∈ STRW, q.1 = RX9 ∧ q.2.1 = TMI.getD q.2.2 0 ∨ Cond.eq (tmS q.2.2) (.string q.1 q.2.1) ∈ nF := by decide +kernel
theorem nf_rf : ∀ q ∈ STRW, q.2.2 < 16 ∧ Cond.stringRef q.1 q.2.1 (STRT.getD q.2.2 "") ∈ tables_1 := by decide +kernel
theorem nf_df : ∀ i : Nat, i < 16 → ∀ j : Nat, j < 16 → i ≠ j → STRL.getD i 0 ≠ STRL.getD j 0 ∨ ∃ k : Nat, k < STRL.getD i 0 ∧ (STRB.getD i []).getD k 0 ≠ (STRB.getD j []).getD k 0 := by
  intro i hi j hj hij
  have h : ∀ i : Nat, i < 16 → ∀ j : Nat, j < 16 → i ≠ j → STRL.getD i 0 ≠ STRL.getD j 0 ∨ (List.range (STRL.getD i 0)).any (fun k => (STRB.getD i []).getD k 0 != (STRB.getD j []).getD k 0) = true := by decide +kernel
  rcases h i hi j hj hij with h | h
  · exact Or.inl h
  · obtain ⟨k, hk, h⟩ := List.any_eq_true.mp h
    exact Or.inr ⟨k, List.mem_range.mp hk, by simpa using h⟩
/-- texts of different letters stand at different places -/
theorem st_ne {A : Nat → Prop} {H : Heap} {a v w n n' : Nat} {f f' : Nat → Int32} (hv : va_OF "java/lang/String" "value" "[B" (.ref v) a A s H) (hw : va_OF "java/lang/String" "value" "[B" (.ref w) a A s H) (h1 : va_T .byte v n (fun j => .int (f j)) A s H) (h2 : va_T .byte w n' (fun j => .int (f' j)) A s H) (hn : n < 100 ∧ n' < 100) : n = n' ∧ ∀ k, k < n → f k = f' k := by
  obtain ⟨cf, k, i, fd, cell, e1, e2, e3, e4, e5, e6⟩ := hv
  obtain ⟨cf', k', i', fd', cell', e1', e2', e3', e4', e5', e6'⟩ := hw
  rw [e1] at e1'
  cases e1'
  rw [e3] at e3'
  cases e3'
  rw [e5] at e5'
  cases e5'
  obtain ⟨c1, g1, g2, g3, g4, g5, g6, g7⟩ := h1
  obtain ⟨c2, k1, k2, k3, k4, k5, k6, k7⟩ := h2
  rw [g1] at k1
  cases k1
  have e : Int32.ofNat n = Int32.ofNat n' := g5.symm.trans k5
  have e' : n = n' := by
    have := congrArg Int32.toInt e
    rw [i_ofNat (by omega), i_ofNat (by omega)] at this
    omega
  refine ⟨e', fun k hk => ?_⟩
  have q1 := g6 k hk
  have q2 := k6 k (e' ▸ hk)
  rw [q1] at q2
  simpa using q2
theorem st_S {A : Nat → Prop} (hg : (Jvm.Cond.and given_1 narrow_1).before args s = true) (hA : ∀ a : Nat, a < s.heap.size → ¬ A a) : ∃ adK adV : Nat → Nat, vk_S 16 STRL STRB adK adV A s s.heap ∧ ∀ i : Nat, i < 16 → (tmS i).eval args s none [] s = some (.ref (adK i)) := by
  have hs := flat_of_before _ hg
  have h0 : ∀ i : Nat, ∃ q : Nat × Nat, i < 16 → (tmS i).eval args s none [] s = some (.ref q.1) ∧ va_O "java/lang/String" q.1 A s s.heap ∧ va_OF "java/lang/String" "coder" "B" (.int 0) q.1 A s s.heap ∧ va_OF "java/lang/String" "value" "[B" (.ref q.2) q.1 A s s.heap ∧ va_T .byte q.2 (STRL.getD i 0) (fun j => .int ((STRB.getD i []).getD j 0)) A s s.heap := by
    intro i
    by_cases hi : i < 16
    · obtain ⟨aK, aV, ⟨hS, -⟩, he⟩ := vk_Sof (N := 1) (tm := fun _ => tmS i) (len := [STRL.getD i 0]) (byt := [STRB.getD i []]) (A := A) (s := s) (args := args) (fun j hj => by
          have : j = 0 := by omega
          subst this
          show STRL.getD i 0 < 2 ^ 31
          revert i
          decide) (fun j hj => hs _ (nf_ex i hi)) (fun j hj => hs _ (nf_co i hi)) (fun j hj => hs _ (nf_ar i hi)) (fun j hj => by
          have : j = 0 := by omega
          subst this
          exact hs _ (nf_le i hi)) (fun j hj k hk => by
          have : j = 0 := by omega
          subst this
          exact hs _ (nf_el i hi k hk)) (fun j k hj hk hjk => absurd (by omega : j = k) hjk) hA
      exact ⟨(aK 0, aV 0), fun _ => ⟨he 0 (by omega), hS 0 (by omega)⟩⟩
    · exact ⟨(0, 0), fun h => absurd h hi⟩
  obtain ⟨ad, had⟩ := Classical.axiomOfChoice h0
  refine ⟨fun i => (ad i).1, fun i => (ad i).2, ⟨fun i hi => (had i hi).2, fun i j hi hj e => ?_⟩, fun i hi => (had i hi).1⟩
  by_cases hij : i = j
  · exact hij
  · have hlen : ∀ i : Nat, i < 16 → STRL.getD i 0 < 100 := by decide
    have e' : (ad i).1 = (ad j).1 := e
    have hj2 := (had j hj).2.2.2.1
    rw [← e'] at hj2
    have hn := st_ne (had i hi).2.2.2.1 hj2 (had i hi).2.2.2.2 (had j hj).2.2.2.2 ⟨hlen i hi, hlen j hj⟩
    rcases nf_df i hi j hj hij with h | ⟨k, hk, h⟩
    · exact absurd hn.1 h
    · exact absurd (hn.2 k hk) h
end START

/-- a smaller room will do -/
theorem w_room {p : Program} {l : Launch} {e : Env} {R R' : Room} {s : State} {m : MethodId} {args : Array Value} {below : List Frame} {meth : Method} {c : Code} {H : Heap} {locs : List Loc} {cells slots : Nat} {Q : State → Prop} {g : JFrame} (hf : R'.frames ≤ R.frames) (hl : R'.locals ≤ R.locals) (hc : R'.cells ≤ R.cells) (hs : R'.slots ≤ R.slots) (k : W p l e R' s m args below meth c H locs cells slots Q g) : W p l e R s m args below meth c H locs cells slots Q g := by
  intro T hT X
  refine k T hT { X with room := ?_ }
  have h := X.room
  simp only [State.hasRoom, Bool.and_eq_true, decide_eq_true_eq] at h ⊢
  obtain ⟨⟨⟨⟨h1, h2, h3, h4, h5, h6⟩, h7⟩, h8⟩, h9⟩ := h
  refine ⟨⟨⟨⟨by omega, by omega, by omega, by omega, by omega, h6⟩, ?_⟩, ?_⟩, h9⟩
  · omega
  · omega

section ZI2
variable {X : KX} {Q : State → Prop} {mc ms : Nat} {ws rest : va_W} {pc : Nat} {ls : List (Nat × Value)} {st st1 : List Value} {own : String} {cc : ByteArray} {R : Room}
theorem zi_astore_n {k0 : Fin 4} {i a : Nat} {ls' : List (Nat × Value)} (hC : CtI X own cc R) (hd : decode cc pc = .ok (.astore_n k0, 1)) (hi : (k0 : Nat) = i) (hn : i < X_nL X) (hl : stL i (.ref a) ls = ls') (k : Zi X Q mc ms ws (pc + 1) ls' st) : Zi X Q mc ms ws pc ls (.ref a :: st) := fun H locs la hP hD hS h => lv_astore_n hC.1 hC.2.1 hd hi h hn hl (fun la' h' => k H locs la' hP hD hS h')
theorem zi_istore {i : Nat} {v : Int32} {ls' : List (Nat × Value)} (hC : CtI X own cc R) (hd : decode cc pc = .ok (.istore i, 2)) (hn : i < X_nL X) (hl : stL i (.int v) ls = ls') (k : Zi X Q mc ms ws (pc + 2) ls' st) : Zi X Q mc ms ws pc ls (.int v :: st) := fun H locs la hP hD hS h => lv_istore hC.1 hC.2.1 hd h hn hl (fun la' h' => k H locs la' hP hD hS h')
theorem zi_newl {n : Int32} {N : Nat} (hC : CtI X own cc R) (harr : Cond.arrayClass .long ∈ WS) (hn : ¬ n < 0) (hN : n.toNatClampNeg = N) (hb : N * componentBytes .long ≤ 536870912) (hRc : mc + 1 ≤ R.cells) (hRs : ms + N ≤ R.slots) (hd : decode cc pc = .ok (.newarray .long, 2))
    (k : ∀ q : Nat, Zi X Q (mc + 1) (ms + N) (ws ++ [(q, .inl ((X_cS X).2, (N, .inr (.inl (fun _ => 0)))))]) (pc + 2) ls (.ref q :: st)) : Zi X Q mc ms ws pc ls (.int n :: st) := fun H locs la hP hD hS h => by
  refine va_newa (atype := .long) (ty := .long) (a0 := (N, .inr (.inl (fun _ => 0)))) hC.1 hC.2.1 (hC.2.2.2.2.1 _ harr) rfl hC.2.2.2.2.2.2.1.1 hP hD hS hC.2.2.2.2.2.2.2.1 (fun _ => rfl) hn hN hb (by rw [hC.2.2.2.2.2.1]; exact hRc) (by rw [hC.2.2.2.2.2.1]; exact hRs) hd (fun q cA H1 hK1 hP1 hD1 hS1 => ?_)
  have e : cA = (X_cS X).2 := cI_one (t0 := 2) hK1 rfl ((hK1.2 3 _ rfl).2) (Or.inr (Or.inl rfl))
  subst e
  exact k q H1 locs la hP1 hD1 hS1 h
end ZI2
theorem wsOf_congr2 {cI : ClassId} {cS : ClassId × ClassId} {a a' : Nat → Nat} {σ : St} {L : List Nat} (h : ∀ k ∈ L, a k = a' k) (h2 : ∀ k, 1000 ≤ k → a k = a' k) (hr : ∀ k ∈ L, ∀ r ∈ refsOf k, r ∈ L ∨ 1000 ≤ r) : wsOf cI cS a σ L = wsOf cI cS a' σ L := by
  refine List.map_congr_left (fun k hk => ?_)
  rw [h k hk]
  congr 1
  have hq : ∀ r ∈ refsOf k, a r = a' r := fun r hr0 => by
    rcases hr k hk r hr0 with h3 | h3
    · exact h r h3
    · exact h2 r h3
  unfold refsOf at hq
  unfold cellOf
  split
  · rename_i ci fs hL
    rw [hL] at hq
    congr 2
    refine List.map_congr_left (fun j hj => ?_)
    split
    · rename_i r hj'
      rw [hq r (List.mem_filterMap.mpr ⟨some r, List.mem_of_getElem? hj', rfl⟩)]
    · rfl
  · rfl
  · rename_i rs hL
    rw [hL] at hq
    have e : (fun i : Nat => (rs[i]?).map a) = fun i : Nat => (rs[i]?).map a' := by
      funext i
      cases hi : rs[i]? with
      | none => rfl
      | some r => simp [hq r (List.mem_of_getElem? hi)]
    rw [e]
  · rfl
/-- the end, in any room -/
theorem lw_retR {p : Program} {l : Launch} {e : Env} {R : Room} {s : State} {m : MethodId} {below : List Frame} {meth : Method} {c : Code} {b : Nat} (hx : p.tables.exec = Jvm.exec) (hb : c.code = code) (hr : meth.sig.returnType = ret) (hlocks : meth.locks = false) {pc : Nat} {H : Heap} {ls : Array Slot} (hdg : decode code pc = .ok (.ireturn, 1)) : W p l e R s m #[Value.ref b] below meth c H [] 601024 7293034 (lw_Z below #[Value.ref b] s) (F0 m pc ls [.int 1]) := by
  intro T hT X
  obtain ⟨fs, hret, hrun, hended, hW, hframe⟩ := X.leave (v := some (.int 1)) (hlocks := hlocks) (fun h => by rw [hr] at h; cases h)
  have hmeth' : T.vm.method? m = some meth := X.method'
  refine ⟨T.setFrames fs, ?_, .returned (some (.int 1)), hrun, hended, rfl, ⟨_, rfl⟩, hW, hframe⟩
  jvm_step X.here [X.here.top, hx, hb, hdg, hmeth', hr, ret, narrow_b1]
  (try refine ⟨rfl, ?_⟩); (try refine ⟨rfl, ?_⟩)
  first | (intro acts; rw [hret _ acts rfl rfl rfl]) | rw [hret _ _ rfl rfl rfl]
  exact Steps.refl _
set_option maxRecDepth 100000 in
set_option maxHeartbeats 4000000 in
/-- the start, if the law's term comes to true -/
theorem whole_start0 {p : Program} {e : Env} {s : State} {m : MethodId} {below : List Frame} {meth : Method} {c : Code} (l : Launch) (hflags : l.flags = flags0) {b L : Nat} {xs : Nat → Int32} (hp : ∃ σ' : St, fL_law_L23 L xs FU 0 sgI = some (1, σ')) (C0 : lw_At p s m meth c b L xs) : W p l e room_1 s m #[Value.ref b] below meth c s.heap [] 0 0 (lw_Z below #[Value.ref b] s) (entryFrame m ([Value.ref b] : List Value).toArray 7) := by
  obtain ⟨hx, hb, hr, hml, hown, hts, hX, hbl, hlocks, hgv⟩ := C0
  have hst : l.stackTraces = false := by unfold Launch.stackTraces; rw [hflags]; decide
  obtain ⟨D, cI, cS, hK⟩ := st_K hts
  have hA0 : ∀ a : Nat, a < s.heap.size → ¬ (fun q : Nat => s.heap.size ≤ q) a := fun a h1 h2 => absurd h1 (Nat.not_lt.mpr h2)
  obtain ⟨adK, adV, hSS, hev⟩ := st_S (A := fun q : Nat => s.heap.size ≤ q) hgv hA0
  have hs := flat_of_before _ hgv
  have hws : ∀ w ∈ WS, w.before #[Value.ref b] s = true := fun w hw => hts w (List.mem_filter.mp hw).1
  generalize had : (fun k : Nat => if 2000 ≤ k then adV (k - 2000) else adK (k - 1000)) = ad0
  have e1 : ∀ i, i < 16 → ad0 (1000 + i) = adK i := by
    intro i hi
    rw [← had]
    simp only []
    rw [if_neg (by omega), Nat.add_sub_cancel_left]
  have e2 : ∀ i, i < 16 → ad0 (2000 + i) = adV i := by
    intro i hi
    rw [← had]
    simp only []
    rw [if_pos (by omega), Nat.add_sub_cancel_left]
  have hKU : KU D cI cS ad0 s := by
    refine ⟨hK, fun q hq => ?_, fun w hw => va_tabs (nw_tab (List.mem_filter.mp hw).2) rfl (hts w (List.mem_filter.mp hw).1), va_Nc.of (hs (Cond.not (.castable "java/lang/IllegalArgumentException" "java/util/NoSuchElementException")) (by decide +kernel))⟩
    obtain ⟨h1, h2⟩ := nf_rf q hq
    rw [e1 _ h1]
    refine vk_R.of (A := #[Value.ref b]) (hts _ (List.mem_append_right _ h2)) ?_
    have he := hev q.2.2 h1
    rcases nf_sm q hq with ⟨h3, h4⟩ | h3
    · rw [h3, h4]
      exact he
    · exact va_eqR (hs _ h3) he
  have hEF : EF ad0 (fun q : Nat => s.heap.size ≤ q) s s.heap := by
    refine ⟨⟨fun i hi => ?_, fun i j hi hj h => ?_⟩, ?_, ?_, ?_, ?_⟩
    · have h := hSS.1 i hi
      show _ ∧ _ ∧ _ ∧ _
      simp only [e1 i hi, e2 i hi]
      exact h
    · have h' : ad0 (1000 + i) = ad0 (1000 + j) := h
      rw [e1 i hi, e1 j hj] at h'
      exact hSS.2 i j hi hj h'
    · exact vx_Zqof (hts _ (tbl 663 (by decide +kernel))) (hts _ (tbl 14 (by decide +kernel))) (hs _ (by decide +kernel)) hA0
    · exact vx_Zqof (hts _ (tbl 665 (by decide +kernel))) (hts _ (tbl 14 (by decide +kernel))) (hs _ (by decide +kernel)) hA0
    · exact va_Zof (hts _ (tbl 741 (by decide +kernel))) (hts _ (tbl 18 (by decide +kernel))) (va_eqi (hs _ (by decide +kernel))) hA0
    · exact va_Zqof (hts _ (tbl 757 (by decide +kernel))) (hts _ (tbl 20 (by decide +kernel))) (hs _ (by decide +kernel)) hA0
  have hAO : va_AO "java/lang/String" s := va_AO.of (hts _ (tbl 1387 (by decide +kernel)))
  have hC1 : CtI ((p, l, e, room_1, s), (m, #[Value.ref b], below, meth, c), ((fun q : Nat => s.heap.size ≤ q), s.heap, 7, D, cI, cS, ad0, [])) RL cL_law room_1 :=
    ⟨hx, hb, hml, hown, hws, rfl, hKU, fun q hq => hq, hEF, rfl, hAO⟩
  have main : Zi ((p, l, e, room_1, s), (m, #[Value.ref b], below, meth, c), ((fun q : Nat => s.heap.size ≤ q), s.heap, 7, D, cI, cS, ad0, [])) (lw_Z below #[Value.ref b] s) 0 0 [] 0 [(0, .ref b)] [] := by
    refine zi_new (pc := 0) (fs := [.null, .int 0, .int 0, .null, .null, .null, .null, .int 0, .null, .null, .null, .null, .null, .null, .null]) hC1 rfl iX11 tyX11_ok m_25 m_26 m_1 (by decide +kernel) (fun h9 => ci_0 _ h9) mc_yX11_init rfl m_28 (Or.inl m_27) ⟨Nat.le_of_ble_eq_true rfl, Nat.le_of_ble_eq_true rfl⟩ (Nat.le_of_ble_eq_true rfl) (Nat.le_of_ble_eq_true rfl) (Nat.le_of_ble_eq_true rfl) dL_law_0 dL_law_3 dL_law_4 (fun a0 z0 => ?_)
    refine zi_astore_n (pc := 7) (i := 1) (ls' := [(1, _), (0, _)]) hC1 dL_law_7 rfl (Nat.le_of_ble_eq_true rfl) rfl ?_
    refine zi_new (pc := 8) (fs := [.null, .int 0, .null, .null, .null, .null, .null, .null, .null, .null, .null, .null, .null, .null, .null, .null, .null, .int 0, .null, .int 0, .int 0, .int 0, .int 0, .int 0, .int 0, .int 0, .int 0, .int 0, .int 0, .null, .null, .null, .int 0, .int 0, .null, .null, .null, .int 0, .int 0, .null, .null, .null, .null, .null, .int 0, .null, .null, .int 0, .int 0, .null, .null, .int 0, .int 0, .null, .null, .null, .null, .int 0, .int 0, .int 0, .int 0, .null, .null, .null, .null, .null]) hC1 rfl iX12 tyX12_ok m_1380 m_1381 m_13 (by decide +kernel) (fun h9 => ci_69 _ h9) mc_yX12_init rfl m_1383 (Or.inl m_1382) ⟨Nat.le_of_ble_eq_true rfl, Nat.le_of_ble_eq_true rfl⟩ (Nat.le_of_ble_eq_true rfl) (Nat.le_of_ble_eq_true rfl) (Nat.le_of_ble_eq_true rfl) dL_law_8 dL_law_11 dL_law_12 (fun a69 z69 => ?_)
    refine zi_astore_n (pc := 15) (i := 2) (ls' := [(2, _), (1, _), (0, _)]) hC1 dL_law_15 rfl (Nat.le_of_ble_eq_true rfl) rfl ?_
    refine zi_iconst (pc := 16) (v := (1 : Int32)) hC1 dL_law_16 (by decide) ?_
    refine zi_newl (pc := 17) (N := 1) hC1 m_2009 (by decide) (by decide) (Nat.le_of_ble_eq_true rfl) (Nat.le_of_ble_eq_true rfl) (Nat.le_of_ble_eq_true rfl) dL_law_17 (fun q => ?_)
    refine zi_astore_n (pc := 19) (i := 3) (ls' := [(3, _), (2, _), (1, _), (0, _)]) hC1 dL_law_19 rfl (Nat.le_of_ble_eq_true rfl) rfl ?_
    refine zi_iconst (pc := 20) (v := (0 : Int32)) hC1 dL_law_20 (by decide) ?_
    refine zi_istore (pc := 21) (ls' := [(4, _), (3, _), (2, _), (1, _), (0, _)]) hC1 dL_law_21 (Nat.le_of_ble_eq_true rfl) rfl ?_
    generalize ha9 : (fun k : Nat => if k < 69 then a0 k else if k < 111 then a69 k else if k < 112 then q else ad0 k) = a9
    have h9 : ∀ k, 1000 ≤ k → a9 k = ad0 k := by
      intro k hk
      rw [← ha9]
      simp only []
      rw [if_neg (by omega), if_neg (by omega), if_neg (by omega)]
    have w9 : (([] ++ wsOf cI cS a0 sgI (List.range' 0 69)) ++ wsOf cI cS a69 sgI (List.range' 69 42)) ++ [(q, (.inl (cS.2, (1, .inr (.inl (fun _ => 0)))) : va_E))] = wsOf cI cS a9 sgI FULL := by
      have e9 : FULL = (([] ++ List.range' 0 69) ++ List.range' 69 42) ++ [111] := by decide +kernel
      rw [e9]
      refine ct_app (ct_app (ct_app rfl ?_) ?_) ?_
      · refine (wsOf_congr (fun k hk => ?_) (by decide +kernel)).symm
        obtain ⟨h1, h2⟩ := List.mem_range'_1.mp hk
        rw [← ha9]
        simp only []
        rw [if_pos (by omega)]
      · refine (wsOf_congr2 (fun k hk => ?_) (fun k hk => ?_) (by decide +kernel)).symm
        · obtain ⟨h1, h2⟩ := List.mem_range'_1.mp hk
          rw [← ha9]
          simp only []
          rw [if_neg (by omega), if_pos (by omega)]
        · rw [h9 k hk, z69 k hk]
      · show _ = [(a9 111, cellOf cI cS a9 sgI 111)]
        rw [cellOf, lay_111, ← ha9]
        rfl
    have r0 : a9 0 = a0 0 := by rw [← ha9]; rfl
    have r69 : a9 69 = a69 69 := by rw [← ha9]; rfl
    have r111 : a9 111 = q := by rw [← ha9]; rfl
    intro H locs la hP hD hS h
    rw [w9] at hP hD
    have hC2 : Ctx ((p, l, e, rmK 1700 200000, s), (m, #[Value.ref b], below, meth, c), ((fun q : Nat => s.heap.size ≤ q), s.heap, 7, D, cI, cS, a9, FULL)) RL cL_law FULL 1700 200000 :=
      ⟨hx, hb, hml, hown, hws, rfl, rfl, hKU.ad h9, wsOf_D hD, fun q hq => hq, hEF.ad h9, rfl⟩
    obtain ⟨σ', hσ⟩ := hp
    have key := tL_law_L23 ((p, l, e, rmK 1700 200000, s), (m, #[Value.ref b], below, meth, c), ((fun q : Nat => s.heap.size ≤ q), s.heap, 7, D, cI, cS, a9, FULL)) (fun _ _ => lw_Z below #[Value.ref b] s) hC2 rfl hst (b := b) (L := L) (xs := xs) ⟨hX, hbl, Nat.not_le.mpr hbl⟩
      (fun x t pc ls hx9 hd9 o τ e9 H9 locs9 la9 hP9 hS9 h9' => W.widen (k := 601024) (n := 7293034) (by omega) (by omega) (va_forget (fun q hq => hS9.2.2 q hq) (lw_retR hx hb hr hlocks hd9)))
      FU 0 sgI 5000 (by decide) 1 σ' hσ H locs la hP hS
      (by
        have := lv_sub h [4, 3, 2, 1, 0] rfl
        show lv_has la 7 [(0, .ref b), (1, .ref (a9 0)), (2, .ref (a9 69)), (3, .ref (a9 111)), (4, .int 0)]
        rw [r0, r69, r111]
        exact this)
    exact w_room (R := room_1) (R' := rmK 1700 200000) (Nat.le_of_ble_eq_true rfl) (Nat.le_of_ble_eq_true rfl) (Nat.le_of_ble_eq_true rfl) (Nat.le_of_ble_eq_true rfl) (W.widen (k := 5000) (n := 6 * 5000) (Nat.le_of_ble_eq_true rfl) (Nat.le_of_ble_eq_true rfl) key)
  have hl := lv_entry [.ref b] (n := 7) (by show 1 ≤ 7; omega)
  rw [lg_entry_eq]
  generalize (lg_sl [Value.ref b] ++ List.replicate (7 - (lg_sl [Value.ref b]).length) Slot.unset).toArray = la at hl ⊢
  refine main s.heap [] la ?_ ?_ va_S.rf hl
  · intro k x hx9
    simp at hx9
  · exact ⟨fun i j p r hi => by simp at hi, fun i p hi => by simp at hi⟩

