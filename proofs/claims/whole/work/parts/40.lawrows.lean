/-! ===== the law's own methods: tables of handlers, the row of one long, the script ===== -/
section LAWROWS
variable {α : Type} {X : KX} {QF : α → St → State → Prop} {x : Nat} {σ : St} {pc : Nat} {ls : List (Nat × Value)} {st st1 : List Value} {r r1 r2 : Option (α × St)} {own : String} {cc : ByteArray} {Dl : List Nat} {d xm : Nat}
theorem zr_widen {x' : Nat} (hx : x ≤ x') (k : Zr X QF x' σ pc ls st r) : Zr X QF x σ pc ls st r := fun o σ' e H locs la hP hS h => W.widen (k := x') (n := 6 * x') hx (by omega) (k o σ' e H locs la hP hS h)
theorem zr_lald {k0 n : Nat} {i : Int32} (hC : Ctx X own cc Dl d xm) (hk : k0 ∈ Dl) (hL : LAY k0 = .inr (.inr (.inr n))) (hd : decode cc pc = .ok (.laload, 1))
    (k : Zr X QF x σ (pc + 1) ls (.long (σ k0 i.toNatClampNeg).toInt64 :: st) r) : Zr X QF x σ pc ls (.int i :: .ref (X_ad X k0) :: st) (if 0 ≤ i.toInt ∧ i.toInt < n then r else none) := fun o σ' e H locs la hP hS h => by
  by_cases hc : 0 ≤ i.toInt ∧ i.toInt < n
  · rw [if_pos hc] at e
    obtain ⟨q0, hq, hg⟩ := wsOf_get (cI := X_cI X) (cS := X_cS X) (ad := X_ad X) (σ := σ) hk
    have hce : cellOf (X_cI X) (X_cS X) (X_ad X) σ k0 = .inl ((X_cS X).2, (n, .inr (.inl (fun i => (σ k0 i).toInt64)))) := by unfold cellOf; rw [hL]
    rw [hce] at hg
    have hP' := hP
    rw [hC.2.2.2.2.2.1] at hP'
    exact va_lald (D := X_D X) (cl := vwCl) hC.1 hC.2.1 hC.2.2.2.2.2.2.2.1.1 hP' q0 2 hg rfl (vp_in_iff.mpr hc) hd (k o σ' e H locs la hP hS h)
  · rw [if_neg hc] at e; cases e
theorem zr_last {k0 n : Nat} {i v : Int32} {w : Int64} (hC : Ctx X own cc Dl d xm) (hk : k0 ∈ Dl) (hL : LAY k0 = .inr (.inr (.inr n))) (hw : w = Int32.toInt64 v) (hd : decode cc pc = .ok (.lastore, 1))
    (k : Zr X QF x (wr σ k0 i.toNatClampNeg v) (pc + 1) ls st r) : Zr X QF x σ pc ls (.long w :: .int i :: .ref (X_ad X k0) :: st) (if 0 ≤ i.toInt ∧ i.toInt < n then r else none) := fun o σ' e H locs la hP hS h => by
  subst hw
  by_cases hc : 0 ≤ i.toInt ∧ i.toInt < n
  · rw [if_pos hc] at e
    obtain ⟨q0, hq, hg⟩ := wsOf_get (cI := X_cI X) (cS := X_cS X) (ad := X_ad X) (σ := σ) hk
    have hce : cellOf (X_cI X) (X_cS X) (X_ad X) σ k0 = .inl ((X_cS X).2, (n, .inr (.inl (fun i => (σ k0 i).toInt64)))) := by unfold cellOf; rw [hL]
    rw [hce] at hg
    have hD := wsOf_D (σ' := σ) hC.2.2.2.2.2.2.2.2.1
    have hDl := hC.2.2.2.2.2.1
    have hP' := hP
    rw [hDl] at hP'
    refine va_last (D := X_D X) (cl := vwCl) hC.1 hC.2.1 hC.2.2.2.2.2.2.2.1.1 hP' hD hS q0 2 hg rfl (vp_in_iff.mpr hc) hd (fun H1 locs1 hP1 hD1 hS1 => ?_)
    have e1 : (Sum.inl ((X_cS X).2, (n, .inr (.inl (vp_updL (fun i => (σ k0 i).toInt64) i.toNatClampNeg v.toInt64)))) : va_E) = cellOf (X_cI X) (X_cS X) (X_ad X) (wr σ k0 i.toNatClampNeg v) k0 := by
      unfold cellOf
      rw [hL]
      have : vp_updL (fun i => (σ k0 i).toInt64) i.toNatClampNeg v.toInt64 = fun b => (wr σ k0 i.toNatClampNeg v k0 b).toInt64 := by
        funext b
        by_cases hb : b = i.toNatClampNeg <;> simp [vp_updL, wr, hb]
      rw [this]
    rw [e1, wsOf_set hD hq (fun a ha => wr_ne ha), ← hDl] at hP1
    exact k o σ' e H1 locs1 la hP1 hS1 h
  · rw [if_neg hc] at e; cases e
/-- the script -/
def XS (X : KX) (b L : Nat) (xs : Nat → Int32) : Prop := va_X b L xs (X_s X) (X_s X).heap ∧ b < (X_s X).heap.size ∧ ¬ X_A X b
theorem zr_scl {b L : Nat} {xs : Nat → Int32} (hC : Ctx X own cc Dl d xm) (hX : XS X b L xs) (hd : decode cc pc = .ok (.arraylength, 1)) (k : Zr X QF x σ (pc + 1) ls (.int (Int32.ofNat L) :: st) r) : Zr X QF x σ pc ls (.ref b :: st) r := fun o σ' e H locs la hP hS h =>
  va_slen hC.1 hC.2.1 hX.1 hX.2.1 hX.2.2 (zr_SS hC hS) hd (k o σ' e H locs la hP hS h)
theorem zr_scd {b L : Nat} {xs : Nat → Int32} {i : Int32} (hC : Ctx X own cc Dl d xm) (hX : XS X b L xs) (hd : decode cc pc = .ok (.iaload, 1)) (k : Zr X QF x σ (pc + 1) ls (.int (xs i.toNatClampNeg) :: st) r) : Zr X QF x σ pc ls (.int i :: .ref b :: st) (if 0 ≤ i.toInt ∧ i.toInt < L then r else none) := fun o σ' e H locs la hP hS h => by
  by_cases hc : 0 ≤ i.toInt ∧ i.toInt < L
  · rw [if_pos hc] at e
    exact va_sld hC.1 hC.2.1 hX.1 hX.2.1 hX.2.2 (zr_SS hC hS) (vp_in_iff.mpr hc) hd (k o σ' e H locs la hP hS h)
  · rw [if_neg hc] at e; cases e
def bw {α : Type} (f : Option (RT × St)) (k : Int32 → St → Option (α × St)) (h : Nat → St → Option (α × St)) : Option (α × St) := match f with
  | none => none
  | some (.inl a, σ) => k a σ
  | some (.inr n, σ) => h n σ
theorem bw_val (a : Int32) (σ : St) (k : Int32 → St → Option (α × St)) (h : Nat → St → Option (α × St)) : bw (some (.inl a, σ)) k h = k a σ := rfl
theorem bw_thr (n : Nat) (σ : St) (k : Int32 → St → Option (α × St)) (h : Nat → St → Option (α × St)) : bw (some (.inr n, σ)) k h = h n σ := rfl
variable {y : MethodName} {bytes : ByteArray} {maxL d' b ci N n index xm' : Nat} {As : (Nat → Nat) → List Value} {fs : List (Option Nat)} {cl : String} {T : u_T} {f : Option (RT × St)} {k : Int32 → St → Option (α × St)} {hk : Nat → St → Option (α × St)} {ty : FieldType}
/-- a call that may throw, of a method with handlers -/
theorem zw_call (hC : Ctx X own cc Dl d xm) (hx : x + xm' ≤ xm) (hM : CX (X_l X) y bytes maxL (some ty) d' xm' Dl (fun ad => .ref (ad b) :: As ad) σ f) (hd' : d' + 1 ≤ d) (hmc : MC y bytes maxL (some ty) n) (hli : Cond.methodLink own index y ∈ WS) (hin : Cond.instanceMethod y ∈ WS) (hse : Cond.selects y.cls y y ∈ WS) (hb : b ∈ Dl) (hL : LAY b = .inl (ci, fs)) (hcl : vwCl[ci]? = some (cl, T, N)) (hcy : cl = y.cls) (hAs : (As (X_ad X)).length = n) (hst : st = (As (X_ad X)).reverse ++ .ref (X_ad X b) :: st1) (hcat : (st1.map fun v => v.category).sum ≤ 8) (hdg : decode cc pc = .ok (.invokevirtual index, 3))
    (kh : ∀ (n : Nat) (σ1 : St) (o : α) (σ' : St), hk n σ1 = some (o, σ') → ∀ (q9 : Addr) (ce : Cell) (H1 : Heap) (locs1 : List Loc) (la : Array Slot), va_P (X_D X) vwCl (wsOf (X_cI X) (X_cS X) (X_ad X) σ1 (X_Dl X)) H1 → va_S (X_A X) (X_H0 X) H1 locs1 → lv_has la (X_nL X) ls → H1[q9]? = some ce → ce.vm = .none → (X_s X).vm.findClass (excN n) = some ce.cls → vx_W (X_p X) (X_l X) (X_e X) (X_R X) (X_s X) (X_m X) (X_args X) (X_below X) (X_meth X) (X_c X) H1 locs1 (x + xm') (6 * (x + xm')) (QF o σ') (F0 (X_m X) pc la st1) q9)
    (kk : ∀ (v : Int32) (σ1 : St), Zr X QF (x + xm') σ1 (pc + 3) ls (.int v :: st1) (k v σ1)) : Zr X QF x σ pc ls st (bw f k hk) := fun o σ' e H locs la hP hS h => by
  have hrec := zr_recv (σ := σ) hC hP hb hL hcl
  subst hcy
  cases hf : f with
  | none => rw [hf] at e; cases e
  | some q =>
    obtain ⟨v, σ1⟩ := q
    rw [hf] at e
    have hA := free_of hC hS
    have hDl := hC.2.2.2.2.2.1
    have six : 6 * x + 6 * xm' = 6 * (x + xm') := by omega
    have hT : GoodIn WS (wsV own index y.cls y (wsC y bytes maxL (some ty))) := by
      intro w hwm
      rcases List.mem_append.mp hwm with e | e
      · have := vWi hli hin hse hmc.2.1 w e
        exact ⟨this, good_of_word (List.mem_filter.mp this).2⟩
      · exact WS_good hmc.1 w e
    refine vx_calli (a := (Value.ref (X_ad X b) :: As (X_ad X)).toArray) (vx_runV (As := As (X_ad X)) (rest := st1) (Ts := WS) ⟨hC.1, hC.2.1, hC.2.2.1, hC.2.2.2.1, hC.2.2.2.2.1⟩ (hM v σ1 hf (X_D X) (X_cI X) (X_cS X) (X_ad X) H.size) (cwV n hC.2.2.2.2.1 hT rfl rfl rfl ⟨rfl, hmc.2.2.2⟩ (room_ofx hC hd' hmc.2.2.1)) ⟨pre_blind, hrec, fun U hU hW => ⟨rfl, pre_of hC hP hS hU hW⟩⟩ rfl hAs h.1 hst (lv_room hcat) hdg ⟨by rw [hC.2.2.2.2.2.2.1]; simp only [rmK]; omega, by rw [hC.2.2.2.2.2.2.1]; simp only [rmK]; omega⟩) hS (fun q _ hq => hA q hq) hA (fun q _ hq => hA q hq)
      (fun E ce q9 u t H1 locs1 ht hvm hv hB hz1 hk1 hS1 hce hcv hcl => ?_) (fun v0 u t H1 locs1 ht hvm hw hB hz1 hk1 hS1 => ?_)
    · subst hv
      obtain ⟨rfl, hB⟩ := hB
      have hB' : va_P (X_D X) vwCl (wsOf (X_cI X) (X_cS X) (X_ad X) σ1 Dl) t.heap := hB
      rw [ht, ← hDl] at hB'
      rw [six]
      exact kh u σ1 o σ' e q9 ce H1 locs1 la hB' hS1 h hce hcv hcl
    · subst hw
      have hB' : va_P (X_D X) vwCl (wsOf (X_cI X) (X_cS X) (X_ad X) σ1 Dl) t.heap := hB
      rw [ht, ← hDl] at hB'
      rw [six]
      exact kk v0 σ1 o σ' e H1 locs1 la hB' hS1 h
/-- one handler, of the class of number k0 -/
theorem zw_catch1 {k0 en h1 ix : Nat} {h9 : St → Option (α × St)} (hC : Ctx X own cc Dl d xm) (htb : (X_c X).exceptionTable.toList = tableOf [(0, en, h1, ix)]) (hpc : pc < en) (hix : ix ≠ 0) (hcl : Cond.classLink own ix (excN k0) ∈ WS) (hca : Cond.castable (excN k0) (excN k0) ∈ NW) (hk9 : ∀ n σ1, hk n σ1 = if excN n = excN k0 then h9 σ1 else none)
    (kh : ∀ (σ1 : St) (q9 : Nat), Zr X QF (x + xm') σ1 h1 ls [.ref q9] (h9 σ1)) :
    ∀ (n : Nat) (σ1 : St) (o : α) (σ' : St), hk n σ1 = some (o, σ') → ∀ (q9 : Addr) (ce : Cell) (H1 : Heap) (locs1 : List Loc) (la : Array Slot), va_P (X_D X) vwCl (wsOf (X_cI X) (X_cS X) (X_ad X) σ1 (X_Dl X)) H1 → va_S (X_A X) (X_H0 X) H1 locs1 → lv_has la (X_nL X) ls → H1[q9]? = some ce → ce.vm = .none → (X_s X).vm.findClass (excN n) = some ce.cls → vx_W (X_p X) (X_l X) (X_e X) (X_R X) (X_s X) (X_m X) (X_args X) (X_below X) (X_meth X) (X_c X) H1 locs1 (x + xm') (6 * (x + xm')) (QF o σ') (F0 (X_m X) pc la st1) q9 := by
  intro n σ1 o σ' e q9 ce H1 locs1 la hP hS h hce hcv hfc
  rw [hk9] at e
  by_cases hn : excN n = excN k0
  · rw [if_pos hn] at e
    rw [hn] at hfc
    exact vx_catch hC.2.2.2.1 [] ⟨0, en, h1, ix⟩ [] htb (fun z hz => absurd hz List.not_mem_nil) (by simp [covers, hpc]) hix (hC.2.2.2.2.1 _ hcl) (va_Nw.use (by rfl) (hC.2.2.2.2.2.2.2.1.2.2.1 _ hca)) hce hcv hfc (kh σ1 q9 o σ' e H1 locs1 la hP hS h)
  · rw [if_neg hn] at e; cases e
theorem zw_catch2 {en h1 h2 ix1 ix2 : Nat} {h9 h8 : St → Option (α × St)} (hC : Ctx X own cc Dl d xm) (htb : (X_c X).exceptionTable.toList = tableOf [(0, en, h1, ix1), (0, en, h2, ix2)]) (hpc : pc < en) (hix1 : ix1 ≠ 0) (hix2 : ix2 ≠ 0) (hcl1 : Cond.classLink own ix1 (excN 0) ∈ WS) (hcl2 : Cond.classLink own ix2 (excN 1) ∈ WS) (hca1 : Cond.castable (excN 0) (excN 0) ∈ NW) (hca2 : Cond.castable (excN 1) (excN 1) ∈ NW) (hk9 : ∀ n σ1, hk n σ1 = if n = 0 then h9 σ1 else h8 σ1)
    (kh1 : ∀ (σ1 : St) (q9 : Nat), Zr X QF (x + xm') σ1 h1 ls [.ref q9] (h9 σ1)) (kh2 : ∀ (σ1 : St) (q9 : Nat), Zr X QF (x + xm') σ1 h2 ls [.ref q9] (h8 σ1)) :
    ∀ (n : Nat) (σ1 : St) (o : α) (σ' : St), hk n σ1 = some (o, σ') → ∀ (q9 : Addr) (ce : Cell) (H1 : Heap) (locs1 : List Loc) (la : Array Slot), va_P (X_D X) vwCl (wsOf (X_cI X) (X_cS X) (X_ad X) σ1 (X_Dl X)) H1 → va_S (X_A X) (X_H0 X) H1 locs1 → lv_has la (X_nL X) ls → H1[q9]? = some ce → ce.vm = .none → (X_s X).vm.findClass (excN n) = some ce.cls → vx_W (X_p X) (X_l X) (X_e X) (X_R X) (X_s X) (X_m X) (X_args X) (X_below X) (X_meth X) (X_c X) H1 locs1 (x + xm') (6 * (x + xm')) (QF o σ') (F0 (X_m X) pc la st1) q9 := by
  intro n σ1 o σ' e q9 ce H1 locs1 la hP hS h hce hcv hfc
  rw [hk9] at e
  by_cases hn : n = 0
  · rw [if_pos hn] at e
    subst hn
    exact vx_catch hC.2.2.2.1 [] ⟨0, en, h1, ix1⟩ [⟨0, en, h2, ix2⟩] htb (fun z hz => absurd hz List.not_mem_nil) (by simp [covers, hpc]) hix1 (hC.2.2.2.2.1 _ hcl1) (va_Nw.use (by rfl) (hC.2.2.2.2.2.2.2.1.2.2.1 _ hca1)) hce hcv hfc (kh1 σ1 q9 o σ' e H1 locs1 la hP hS h)
  · rw [if_neg hn] at e
    have he : excN n = excN 1 := by simp [excN, hn]
    rw [he] at hfc
    refine vx_catch (E := excN 1) hC.2.2.2.1 [⟨0, en, h1, ix1⟩] ⟨0, en, h2, ix2⟩ [] htb (fun z hz => ?_) (by simp [covers, hpc]) hix2 (hC.2.2.2.2.1 _ hcl2) (va_Nw.use (by rfl) (hC.2.2.2.2.2.2.2.1.2.2.1 _ hca2)) hce hcv hfc (kh2 σ1 q9 o σ' e H1 locs1 la hP hS h)
    rw [List.mem_singleton] at hz
    subst hz
    exact Or.inr ⟨hix1, excN 0, hC.2.2.2.2.1 _ hcl1, hC.2.2.2.2.2.2.2.1.2.2.2⟩
end LAWROWS
/-! ===== methods with handlers, called by a name ===== -/
abbrev wsW (y : MethodName) (bytes : ByteArray) (maxL : Nat) (ret : Option FieldType) (hh : List (Nat × Nat × Nat × Nat)) : List Cond := Cond.codeWith y bytes maxL ret hh :: WS
def CW (l : Launch) (y : MethodName) (bytes : ByteArray) (maxL : Nat) (ret : Option FieldType) (hh : List (Nat × Nat × Nat × Nat)) (d xm : Nat) (Dl : List Nat) (As : (Nat → Nat) → List Value) (σ : St) (f : Option (Int32 × St)) : Prop :=
  ∀ (v : Int32) (σ' : St), f = some (v, σ') → ∀ (D : va_G) (cI : ClassId) (cS : ClassId × ClassId) (ad : Nat → Nat) (sz : Nat),
    Met l y (wsW y bytes maxL ret hh) (rmK d xm) (va_Pc (As ad) (preU D cI cS ad σ Dl sz)) (qcN ret v (postU D cI cS ad σ' Dl) (va_A (wsOf cI cS ad (fun _ _ => 0) Dl) sz)) xm (6 * xm) (va_A (wsOf cI cS ad (fun _ _ => 0) Dl) sz)
def QFW (X : KX) (ret : Option FieldType) (xm : Nat) : Int32 → St → State → Prop := fun v σ' => MQ (X_below X) (qcN ret v (postU (X_D X) (X_cI X) (X_cS X) (X_ad X) σ' (X_Dl X)) (X_A X)) (X_args X) (X_s X) xm (6 * xm) (X_A X)
def RW (X : KX) (hh : List (Nat × Nat × Nat × Nat)) : Prop := RC X (some .int) ∧ (X_c X).exceptionTable.toList = tableOf hh
theorem zw_iret {X : KX} {σ : St} {pc x : Nat} {ls : List (Nat × Value)} {own : String} {cc : ByteArray} {Dl : List Nat} {d xm : Nat} {hh : List (Nat × Nat × Nat × Nat)} {v : Int32} (hC : Ctx X own cc Dl d xm) (hx : x ≤ xm) (hR : RW X hh) (hd : decode cc pc = .ok (.ireturn, 1)) : Zr X (QFW X (some .int) xm) x σ pc ls [.int v] (some (v, σ)) := fun o σ' e H locs la hP hS h => by
  cases e
  have hS' := hS
  rw [hC.2.2.2.2.2.2.2.2.2.2.2] at hS'
  refine W.widen (k := xm) (n := 6 * xm) hx (by omega) ?_
  exact W.iret hC.1 hC.2.1 hR.1.1 (fun t ht hW => ⟨⟨v, (), rfl, rfl, (by show va_P _ _ _ t.heap; rw [ht]; exact hP)⟩, hS'.F ht⟩) hS.2.2 hd hR.1.2
/-- the words of a method with handlers: its own is a good one where the tables are meant -/
theorem cw_of {l : Launch} {y : MethodName} {cc : ByteArray} {maxL : Nat} {hh : List (Nat × Nat × Nat × Nat)} {d xm : Nat} {Dl : List Nat} {As : (Nat → Nat) → List Value} {σ : St} {f : Option (Int32 × St)} (hy : plainName y.cls = true) (hsz : ∀ ad, (lg_sl (As ad)).length ≤ maxL)
    (body : ∀ X : KX, Ctx X y.cls cc Dl d xm → RW X hh → X_l X = l → X_nL X = maxL → Zr X (QFW X (some .int) xm) 0 σ 0 (lv_args 0 (As (X_ad X))) [] f) : CW l y cc maxL (some .int) hh d xm Dl As σ f := by
  intro v σ' hf D cI cS ad sz
  have key : vx_Met l y (wsW y cc maxL (some .int) hh) (rmK d xm) (va_Pc (As ad) (preU D cI cS ad σ Dl sz)) (qcN (some .int) v (postU D cI cS ad σ' Dl) (va_A (wsOf cI cS ad (fun _ _ => 0) Dl) sz)) (fun _ _ _ => False) xm (6 * xm) (va_A (wsOf cI cS ad (fun _ _ => 0) Dl) sz) := by
    refine vx_ofWH (cc := cc) (maxL := maxL) (ret := some .int) (hh := hh) hy rfl ?_
    intro p e s m args below meth c s₁ B hml hv
    obtain ⟨rfl, hsz', hP, hK, hD0, hE⟩ := hv
    subst hsz'
    have hts := atoms_spec (ws := wsW y cc maxL (some .int) hh) B.pre
    have htb := vx_table (x := y) B (hts _ List.mem_cons_self)
    have hl2 := lv_entry (As ad) (n := maxL) (hsz ad)
    rw [lg_entry_eq]
    generalize (lg_sl (As ad) ++ List.replicate (maxL - (lg_sl (As ad)).length) Slot.unset).toArray = la at hl2 ⊢
    have hDs : va_D (va_A (wsOf cI cS ad (fun _ _ => 0) Dl) s.heap.size) (wsOf cI cS ad (fun _ _ => 0) Dl) := hD0.self
    have key := body ((p, l, e, rmK d xm, s), (m, (As ad).toArray, below, meth, c), (va_A (wsOf cI cS ad (fun _ _ => 0) Dl) s.heap.size, s.heap, maxL, D, cI, cS, ad, Dl))
      ⟨B.exec, B.bytes, hml, findClass_of_methodNamed B.named, fun w hw => hts w (List.mem_cons_of_mem _ hw), rfl, rfl, hK, hDs, fun q hq => Or.inr hq, hE, rfl⟩ ⟨⟨B.returns, B.notSynchronized⟩, htb⟩ rfl rfl
    exact vx_ret (key v σ' hf s.heap [] la hP va_S.rf hl2)
  intro p e ha hc hk s m args below hf2 happ hP hT
  obtain ⟨t, o, h1, h2, h3, h4⟩ := key p e ha hc hk s m args below hf2 happ hP hT
  refine ⟨t, o, h1, h2, h3, ?_⟩
  rcases h4 with h4 | ⟨q, -, E, ce, L, hx, -⟩
  · exact h4
  · exact hx.elim
theorem zr_callW {α : Type} {X : KX} {QF : α → St → State → Prop} {x : Nat} {σ : St} {pc : Nat} {ls : List (Nat × Value)} {st st1 : List Value} {own : String} {cc : ByteArray} {Dl : List Nat} {d xm : Nat} {y : MethodName} {bytes : ByteArray} {maxL d' n index xm' : Nat} {As : (Nat → Nat) → List Value} {hh : List (Nat × Nat × Nat × Nat)} {f : Option (Int32 × St)} {k : Int32 → St → Option (α × St)} (hC : Ctx X own cc Dl d xm) (hx : x + xm' ≤ xm) (hM : CW (X_l X) y bytes maxL (some .int) hh d' xm' Dl As σ f) (hd' : d' + 1 ≤ d) (hcode : Cond.codeWith y bytes maxL (some .int) hh ∈ WS) (hini : Cond.initialized y.cls ∈ WS) (hm29 : maxL ≤ 29) (hd : y.cls ≠ "java/lang/invoke/MethodHandle" ∧ y.cls ≠ "java/lang/invoke/VarHandle" ∧ (parseMethodDescriptor y.desc).map (fun d => d.parameters.length) = some n) (hli : Cond.methodLink own index y ∈ WS) (hstt : Cond.static y ∈ WS) (hAs : (As (X_ad X)).length = n) (hst : st = (As (X_ad X)).reverse ++ st1) (hcat : (st1.map fun v => v.category).sum ≤ 8) (hdg : decode cc pc = .ok (.invokestatic index, 3))
    (kk : ∀ (v : Int32) (σ1 : St), Zr X QF (x + xm') σ1 (pc + 3) ls (.int v :: st1) (k v σ1)) : Zr X QF x σ pc ls st (bd f k) := fun o σ' e H locs la hP hS h => by
  cases hf : f with
  | none => rw [hf] at e; cases e
  | some q =>
    obtain ⟨v, σ1⟩ := q
    rw [hf] at e
    have hA := free_of hC hS
    have six : 6 * x + 6 * xm' = 6 * (x + xm') := by omega
    have hT : GoodIn WS (va_wsS own index y (wsW y bytes maxL (some .int) hh)) := by
      intro w hwm
      have : w ∈ WS := by
        rcases List.mem_append.mp hwm with e | e
        · simp only [List.mem_cons, List.not_mem_nil, or_false] at e
          rcases e with e | e | e
          · rw [e]; exact hli
          · rw [e]; exact hstt
          · rw [e]; exact hini
        · rcases List.mem_cons.mp e with e | e
          · rw [e]; exact hcode
          · exact e
      exact ⟨this, good_of_word (List.mem_filter.mp this).2⟩
    refine va_calli (a := (As (X_ad X)).toArray) (vx_runSW (As := As (X_ad X)) (rest := st1) (Ts := WS) ⟨hC.1, hC.2.1, hC.2.2.1, hC.2.2.2.1, hC.2.2.2.2.1⟩ (hM v σ1 hf (X_D X) (X_cI X) (X_cS X) (X_ad X) H.size) (vx_cwSW n hC.2.2.2.2.1 hT rfl rfl rfl hd (room_ofx hC hd' hm29)) ⟨pre_blind, fun U hU hW => ⟨rfl, pre_of hC hP hS hU hW⟩⟩ rfl hAs h.1 hst (lv_room hcat) hdg ⟨by rw [hC.2.2.2.2.2.2.1]; simp only [rmK]; omega, by rw [hC.2.2.2.2.2.2.1]; simp only [rmK]; omega⟩) hS (fun q _ hq => hA q hq) hA (fun r0 u t H1 locs1 ht hvm hw hB hz1 hk1 hS1 => ?_)
    subst hw
    have hB' : va_P (X_D X) vwCl (wsOf (X_cI X) (X_cS X) (X_ad X) σ1 Dl) t.heap := hB
    rw [ht, ← hC.2.2.2.2.2.1] at hB'
    rw [six]
    exact kk r0 σ1 o σ' e H1 locs1 la hB' hS1 h
