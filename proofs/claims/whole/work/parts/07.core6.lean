/-! ===== switches, compares of longs ===== -/
section SWITCH
variable {α : Type} {X : KX} {QF : α → St → State → Prop} {x : Nat} {σ : St} {pc : Nat} {ls : List (Nat × Value)} {st st1 : List Value} {r r1 r2 : Option (α × St)} {own : String} {cc : ByteArray} {Dl : List Nat} {d xm : Nat}
theorem zr_lcmp {a b : Int64} (hC : Ctx X own cc Dl d xm) (hd : decode cc pc = .ok (.lcmp, 1)) (k : Zr X QF x σ (pc + 1) ls (.int (lg_cmp a b) :: st) r) : Zr X QF x σ pc ls (.long b :: .long a :: st) r := fun o σ' e H locs la hP hS h => W.lcmp hC.1 hC.2.1 hd (k o σ' e H locs la hP hS h)
theorem zr_ldcw {index : Nat} {v : Int32} (hC : Ctx X own cc Dl d xm) (hd : decode cc pc = .ok (.ldc_w index, 3)) (hw : Jvm.Cond.constant own index v ∈ WS) (k : Zr X QF x σ (pc + 3) ls (.int v :: st) r) : Zr X QF x σ pc ls st r := fun o σ' e H locs la hP hS h => lv_ldcw hC.1 hC.2.1 hC.2.2.2.1 (hC.2.2.2.2.1 _ hw) hd (k o σ' e H locs la hP hS h)
/-- one case of a switch over a row of numbers -/
theorem zr_tcase {a v : Int32} {dflt lo hi off : Int} {offs : Array Int} {len tgt : Nat} (hC : Ctx X own cc Dl d xm) (hd : decode cc pc = .ok (.tableswitch dflt lo hi offs, len)) (h1 : ¬ v.toInt < lo) (h2 : ¬ hi < v.toInt) (ho : offs[(v.toInt - lo).toNat]? = some off) (ht : (pc : Int) + off = (tgt : Int)) (k1 : Zr X QF x σ tgt ls st r1) (k2 : ¬ a = v → Zr X QF x σ pc ls (.int a :: st) r2) : Zr X QF x σ pc ls (.int a :: st) (if a = v then r1 else r2) := fun o σ' e H locs la hP hS h => by
  by_cases hc : a = v
  · rw [if_pos hc] at e
    subst hc
    exact lv_tableIn hC.1 hC.2.1 hd h1 h2 ho ht (k1 o σ' e H locs la hP hS h)
  · rw [if_neg hc] at e
    exact k2 hc o σ' e H locs la hP hS h
theorem zr_tdef {a : Int32} {dflt lo hi : Int} {offs : Array Int} {len tgt : Nat} (vs : List Int32) (hC : Ctx X own cc Dl d xm) (hd : decode cc pc = .ok (.tableswitch dflt lo hi offs, len)) (hn : ∀ v ∈ vs, ¬ a = v) (hv : (List.range offs.size).all (fun i => decide (offs[i]? = some dflt) || decide (Int32.ofInt (lo + i) ∈ vs)) = true) (hh : hi = lo + offs.size - 1) (ht : (pc : Int) + dflt = (tgt : Int)) (k : Zr X QF x σ tgt ls st r) : Zr X QF x σ pc ls (.int a :: st) r := fun o σ' e H locs la hP hS h => by
  by_cases h1 : a.toInt < lo
  · exact lv_tableOut hC.1 hC.2.1 hd (Or.inl h1) ht (k o σ' e H locs la hP hS h)
  · by_cases h2 : hi < a.toInt
    · exact lv_tableOut hC.1 hC.2.1 hd (Or.inr h2) ht (k o σ' e H locs la hP hS h)
    · have h3 : (a.toInt - lo).toNat < offs.size := by omega
      have h4 := List.all_eq_true.mp hv _ (List.mem_range.mpr h3)
      simp only [Bool.or_eq_true, decide_eq_true_eq] at h4
      rcases h4 with h4 | h4
      · exact lv_tableIn hC.1 hC.2.1 hd h1 h2 h4 ht (k o σ' e H locs la hP hS h)
      · have h5 : lo + ((a.toInt - lo).toNat : Int) = a.toInt := by omega
        rw [h5, Int32.ofInt_toInt] at h4
        exact absurd rfl (hn a h4)
theorem zr_lcase {a v : Int32} {dflt off : Int} {ps : Array (Int × Int)} {len tgt : Nat} (hC : Ctx X own cc Dl d xm) (hd : decode cc pc = .ok (.lookupswitch dflt ps, len)) (hp : (ps.toList.zip (ps.toList.drop 1)).all (fun (a, next) => a.1 < next.1) = true) (ho : Op.lookupswitch.offset ps.toList dflt v.toInt = off) (ht : (pc : Int) + off = (tgt : Int)) (k1 : Zr X QF x σ tgt ls st r1) (k2 : ¬ a = v → Zr X QF x σ pc ls (.int a :: st) r2) : Zr X QF x σ pc ls (.int a :: st) (if a = v then r1 else r2) := fun o σ' e H locs la hP hS h => by
  by_cases hc : a = v
  · rw [if_pos hc] at e
    subst hc
    exact lv_lookup hC.1 hC.2.1 hd hp ho ht (k1 o σ' e H locs la hP hS h)
  · rw [if_neg hc] at e
    exact k2 hc o σ' e H locs la hP hS h
theorem lk_def {dflt x : Int} : ∀ {ps : List (Int × Int)}, (∀ q ∈ ps, ¬ x = q.1) → Op.lookupswitch.offset ps dflt x = dflt
  | [], _ => rfl
  | (a, o) :: r, h => by
    rw [Op.lookupswitch.offset_cons]
    have h1 : ¬ x = a := h (a, o) List.mem_cons_self
    have h2 := lk_def (ps := r) (dflt := dflt) (x := x) (fun q hq => h q (List.mem_cons_of_mem _ hq))
    have h3 : ¬ a = x := fun e => h1 e.symm
    simp [h1, h3, h2]
theorem zr_ldef {a : Int32} {dflt : Int} {ps : Array (Int × Int)} {len tgt : Nat} (vs : List Int32) (hC : Ctx X own cc Dl d xm) (hd : decode cc pc = .ok (.lookupswitch dflt ps, len)) (hp : (ps.toList.zip (ps.toList.drop 1)).all (fun (a, next) => a.1 < next.1) = true) (hn : ∀ v ∈ vs, ¬ a = v) (hv : vs.map Int32.toInt = ps.toList.map (fun q => q.1)) (ht : (pc : Int) + dflt = (tgt : Int)) (k : Zr X QF x σ tgt ls st r) : Zr X QF x σ pc ls (.int a :: st) r := fun o σ' e H locs la hP hS h => by
  refine lv_lookup hC.1 hC.2.1 hd hp (lk_def (fun q hq hx => ?_)) ht (k o σ' e H locs la hP hS h)
  have : q.1 ∈ vs.map Int32.toInt := by rw [hv]; exact List.mem_map_of_mem hq
  obtain ⟨v, hv1, hv2⟩ := List.mem_map.mp this
  exact hn v hv1 (Int32.toInt_inj.mp (by rw [hx, hv2]))
theorem zr_putB {cl : String} {T : u_T} {N ci j index k0 : Nat} {fs : List (Option Nat)} {v : Int32} {ty0 : Nat → FieldType} (hv : v = 0 ∨ v = 1) (hC : Ctx X own cc Dl d xm) (hk : k0 ∈ Dl) (hL : LAY k0 = .inl (ci, fs)) (hj : fs[j]? = some none) (hcl : vwCl[ci]? = some (cl, T, N)) (hjN : j < N) (hin : ∀ w ∈ u_ws cl T N, w ∈ WS) (hty : ∀ k, k < N → parseFieldDescriptor (T k).2.2.1 = some (ty0 k)) (hnm : ∀ a, a < N → ∀ b, b < N → a ≠ b → (T a).2.1 ≠ (T b).2.1) (hw : Cond.fieldLink own index (T j).1 (T j).2.1 (T j).2.2.1 ∈ WS) (hfin : (T j).2.2.2 = false) (hpd : parseFieldDescriptor (T j).2.2.1 = some .boolean) (hd : decode cc pc = .ok (.putfield index, 3))
    (k : Zr X QF x (wr σ k0 j v) (pc + 3) ls st r) : Zr X QF x σ pc ls (.int v :: .ref (X_ad X k0) :: st) r := fun o σ' e =>
  zr_putZ hC hk hL hj hcl hjN hin hty hnm hw hfin hpd hd k o σ' (by rw [if_pos hv]; exact e)
end SWITCH
/-! ===== methods that may throw ===== -/
def excN (n : Nat) : String := if n = 0 then "java/util/NoSuchElementException" else "java/lang/IllegalArgumentException"
def qcX (ret : Option FieldType) (o : Int32 ⊕ Nat) (B : State → Prop) (A : Nat → Prop) : Array Value → State → Outcome → State → Prop := match ret with
  | none => va_Qv (fun _ : Unit => ∃ v, o = .inl v) (fun _ t => B t) A
  | some _ => va_Qi (fun v (_ : Unit) => o = .inl v) (fun _ t => B t) A
def xcX (o : Int32 ⊕ Nat) (B : State → Prop) (A : Nat → Prop) : String → State → State → Prop := vx_X (fun n : Nat => o = .inr n) (fun E n t => E = excN n ∧ B t) A
def CX (l : Launch) (y : MethodName) (bytes : ByteArray) (maxL : Nat) (ret : Option FieldType) (d xm : Nat) (Dl : List Nat) (As : (Nat → Nat) → List Value) (σ : St) (f : Option ((Int32 ⊕ Nat) × St)) : Prop :=
  ∀ (o : Int32 ⊕ Nat) (σ' : St), f = some (o, σ') → ∀ (D : va_G) (cI : ClassId) (cS : ClassId × ClassId) (ad : Nat → Nat) (sz : Nat),
    vx_Met l y (wsC y bytes maxL ret) (rmK d xm) (va_Pc (As ad) (preU D cI cS ad σ Dl sz)) (qcX ret o (postU D cI cS ad σ' Dl) (va_A (wsOf cI cS ad (fun _ _ => 0) Dl) sz)) (xcX o (postU D cI cS ad σ' Dl) (va_A (wsOf cI cS ad (fun _ _ => 0) Dl) sz)) xm (6 * xm) (va_A (wsOf cI cS ad (fun _ _ => 0) Dl) sz)
def QFX (X : KX) (ret : Option FieldType) (xm : Nat) : (Int32 ⊕ Nat) → St → State → Prop := fun o σ' => vx_MQ (X_below X) (qcX ret o (postU (X_D X) (X_cI X) (X_cS X) (X_ad X) σ' (X_Dl X)) (X_A X)) (xcX o (postU (X_D X) (X_cI X) (X_cS X) (X_ad X) σ' (X_Dl X)) (X_A X)) (X_args X) (X_s X) xm (6 * xm) (X_A X)
def RX (X : KX) (ret : Option FieldType) : Prop := RC X ret ∧ (∀ z ∈ (X_c X).exceptionTable.toList, False) ∧ (X_l X).stackTraces = false
abbrev RT : Type := Int32 ⊕ Nat
def pushR (ty0 : Option FieldType) (v : Int32) (st1 : List Value) : List Value := match ty0 with
  | none => st1
  | some _ => .int v :: st1
def bx (f : Option (RT × St)) (k : Int32 → St → Option (RT × St)) : Option (RT × St) := match f with
  | none => none
  | some (.inl a, σ) => k a σ
  | some (.inr n, σ) => some (.inr n, σ)
theorem bx_val (a : Int32) (σ : St) (k : Int32 → St → Option (RT × St)) : bx (some (.inl a, σ)) k = k a σ := rfl
theorem bx_thr (n : Nat) (σ : St) (k : Int32 → St → Option (RT × St)) : bx (some (.inr n, σ)) k = some (.inr n, σ) := rfl
section THROWS
variable {X : KX} {x : Nat} {σ : St} {pc : Nat} {ls : List (Nat × Value)} {st st1 : List Value} {own : String} {cc : ByteArray} {Dl : List Nat} {d xm : Nat} {ret : Option FieldType}
theorem zx_iret {v : Int32} (hC : Ctx X own cc Dl d xm) (hx : x ≤ xm) (hR : RX X (some .int)) (hd : decode cc pc = .ok (.ireturn, 1)) : Zr X (QFX X (some .int) xm) x σ pc ls [.int v] (some (.inl v, σ)) := fun o σ' e H locs la hP hS h => by
  cases e
  have hS' := hS
  rw [hC.2.2.2.2.2.2.2.2.2.2.2] at hS'
  refine W.widen (k := xm) (n := 6 * xm) hx (by omega) (vx_ret ?_)
  exact W.iret hC.1 hC.2.1 hR.1.1 (fun t ht hW => ⟨⟨v, (), rfl, rfl, (by show va_P _ _ _ t.heap; rw [ht]; exact hP)⟩, hS'.F ht⟩) hS.2.2 hd hR.1.2
theorem zx_zret {v : Int32} (hv : v = 0 ∨ v = 1) (hC : Ctx X own cc Dl d xm) (hx : x ≤ xm) (hR : RX X (some .boolean)) (hd : decode cc pc = .ok (.ireturn, 1)) : Zr X (QFX X (some .boolean) xm) x σ pc ls [.int v] (some (.inl v, σ)) := fun o σ' e H locs la hP hS h => by
  cases e
  have hS' := hS
  rw [hC.2.2.2.2.2.2.2.2.2.2.2] at hS'
  refine W.widen (k := xm) (n := 6 * xm) hx (by omega) (vx_ret ?_)
  exact W.zret hC.1 hC.2.1 hR.1.1 (by rcases hv with rfl | rfl <;> rfl) (fun t ht hW => ⟨⟨v, (), rfl, rfl, (by show va_P _ _ _ t.heap; rw [ht]; exact hP)⟩, hS'.F ht⟩) hS.2.2 hd hR.1.2
theorem zx_vret (hC : Ctx X own cc Dl d xm) (hx : x ≤ xm) (hR : RX X none) (hd : decode cc pc = .ok (.return_, 1)) : Zr X (QFX X none xm) x σ pc ls [] (some (.inl 0, σ)) := fun o σ' e H locs la hP hS h => by
  cases e
  have hS' := hS
  rw [hC.2.2.2.2.2.2.2.2.2.2.2] at hS'
  refine W.widen (k := xm) (n := 6 * xm) hx (by omega) (vx_ret ?_)
  exact W.vret hC.1 hC.2.1 hR.1.1 (fun t ht hW => ⟨⟨(), rfl, ⟨0, rfl⟩, (by show va_P _ _ _ t.heap; rw [ht]; exact hP)⟩, hS'.F ht⟩) hS.2.2 hd hR.1.2
theorem room_ofx (hC : Ctx X own cc Dl d xm) {d' xm' maxL : Nat} (hd : d' + 1 ≤ d) (hm : maxL ≤ 29) : (rmK d' xm').frames + 1 ≤ (X_R X).frames ∧ 8 + (maxL + 11) + (rmK d' xm').locals ≤ (X_R X).locals := by
  rw [hC.2.2.2.2.2.2.1]
  simp only [rmK]
  omega
/-- behind a call that may throw -/
theorem zx_after {f : Option (RT × St)} {k : Int32 → St → Option (RT × St)} {H : Heap} {locs : List Loc} {la : Array Slot} {st0 : List Value} {a : Array Value} {ty0 : Option FieldType} {o : RT} {σ' : St} {xm' : Nat} (hC : Ctx X own cc Dl d xm) (hR : RX X ret) (hx : x + xm' ≤ xm) (hS : va_S (X_A X) (X_H0 X) H locs) (h : lv_has la (X_nL X) ls) (e : bx f k = some (o, σ'))
    (hr : ∀ (v : RT) (σ1 : St), f = some (v, σ1) → vx_Run (X_p X) (X_l X) (X_e X) (X_R X) (X_s X) (X_m X) (X_args X) (X_below X) (X_meth X) (X_c X) H locs x (6 * x) xm' (6 * xm') (F0 (X_m X) pc la st0) st1 (qcX ty0 v (postU (X_D X) (X_cI X) (X_cS X) (X_ad X) σ1 Dl) (va_A (wsOf (X_cI X) (X_cS X) (X_ad X) (fun _ _ => 0) Dl) H.size) a) (xcX v (postU (X_D X) (X_cI X) (X_cS X) (X_ad X) σ1 Dl) (va_A (wsOf (X_cI X) (X_cS X) (X_ad X) (fun _ _ => 0) Dl) H.size)) (va_A (wsOf (X_cI X) (X_cS X) (X_ad X) (fun _ _ => 0) Dl) H.size))
    (kk : ∀ (v : Int32) (σ1 : St), Zr X (QFX X ret xm) (x + xm') σ1 (pc + 3) ls (pushR ty0 v st1) (k v σ1)) : X_W X H locs x (QFX X ret xm o σ') (F0 (X_m X) pc la st0) := by
  cases hf : f with
  | none => rw [hf] at e; cases e
  | some q =>
    obtain ⟨v, σ1⟩ := q
    rw [hf] at e
    have hA := free_of hC hS
    have hDl := hC.2.2.2.2.2.1
    have six : 6 * x + 6 * xm' = 6 * (x + xm') := by omega
    have thrown : ∀ (E : String) (ce : Cell) (q9 : Addr) (u : Nat) (t : State) (H1 : Heap) (locs1 : List Loc), t.heap = H1 → (X_s X).vm.Alike t.vm → v = .inr u → (E = excN u ∧ postU (X_D X) (X_cI X) (X_cS X) (X_ad X) σ1 Dl t) → H.size ≤ H1.size → (∀ q : Nat, q < H.size → ¬ va_A (wsOf (X_cI X) (X_cS X) (X_ad X) (fun _ _ => 0) Dl) H.size q → H1[q]? = H[q]?) → va_S (X_A X) (X_H0 X) H1 locs1 → H1[q9]? = some ce → ce.vm = .none → (X_s X).vm.findClass E = some ce.cls → vx_W (X_p X) (X_l X) (X_e X) (X_R X) (X_s X) (X_m X) (X_args X) (X_below X) (X_meth X) (X_c X) H1 locs1 (x + xm') (6 * x + 6 * xm') (QFX X ret xm o σ') (F0 (X_m X) pc la st1) q9 := by
      intro E ce q9 u t H1 locs1 ht hvm hv hB hz1 hk1 hS1 hce hcv hcl
      subst hv
      cases e
      have hS' := hS1
      rw [hC.2.2.2.2.2.2.2.2.2.2.2] at hS'
      refine vx_out (fun z hz => absurd (hR.2.1 z hz) (fun h => h.elim)) hR.1.2 hce hcv hcl (fun t' ht' hv' => ⟨u, rfl, ⟨hB.1, ?_⟩, hS'.F ht'⟩) hS1.2.2 hx (by omega)
      show va_P _ _ _ t'.heap
      rw [ht', ← ht, hDl]
      exact hB.2
    cases ty0 with
    | none =>
      refine vx_callv (a := a) (hr v σ1 hf) hS (fun q _ hq => hA q hq) hA (fun q _ hq => hA q hq) thrown (fun u t H1 locs1 ht hvm hw hB hz1 hk1 hS1 => ?_)
      obtain ⟨v0, rfl⟩ := hw
      have hB' : va_P (X_D X) vwCl (wsOf (X_cI X) (X_cS X) (X_ad X) σ1 Dl) t.heap := hB
      rw [ht, ← hDl] at hB'
      rw [six]
      exact kk v0 σ1 o σ' e H1 locs1 la hB' hS1 h
    | some ty =>
      refine vx_calli (a := a) (hr v σ1 hf) hS (fun q _ hq => hA q hq) hA (fun q _ hq => hA q hq) thrown (fun v0 u t H1 locs1 ht hvm hw hB hz1 hk1 hS1 => ?_)
      subst hw
      have hB' : va_P (X_D X) vwCl (wsOf (X_cI X) (X_cS X) (X_ad X) σ1 Dl) t.heap := hB
      rw [ht, ← hDl] at hB'
      rw [six]
      exact kk v0 σ1 o σ' e H1 locs1 la hB' hS1 h
variable {y : MethodName} {bytes : ByteArray} {maxL d' b ci N n index xm' : Nat} {As : (Nat → Nat) → List Value} {fs : List (Option Nat)} {cl : String} {T : u_T} {f : Option (RT × St)} {k : Int32 → St → Option (RT × St)} {ty0 : Option FieldType}
theorem zx_callV (hC : Ctx X own cc Dl d xm) (hR : RX X ret) (hx : x + xm' ≤ xm) (hM : CX (X_l X) y bytes maxL ty0 d' xm' Dl (fun ad => .ref (ad b) :: As ad) σ f) (hd' : d' + 1 ≤ d) (hmc : MC y bytes maxL ty0 n) (hli : Cond.methodLink own index y ∈ WS) (hin : Cond.instanceMethod y ∈ WS) (hse : Cond.selects y.cls y y ∈ WS) (hb : b ∈ Dl) (hL : LAY b = .inl (ci, fs)) (hcl : vwCl[ci]? = some (cl, T, N)) (hcy : cl = y.cls) (hAs : (As (X_ad X)).length = n) (hst : st = (As (X_ad X)).reverse ++ .ref (X_ad X b) :: st1) (hcat : (st1.map fun v => v.category).sum ≤ 8) (hdg : decode cc pc = .ok (.invokevirtual index, 3))
    (kk : ∀ (v : Int32) (σ1 : St), Zr X (QFX X ret xm) (x + xm') σ1 (pc + 3) ls (pushR ty0 v st1) (k v σ1)) : Zr X (QFX X ret xm) x σ pc ls st (bx f k) := fun o σ' e H locs la hP hS h => by
  have hrec := zr_recv (σ := σ) hC hP hb hL hcl
  subst hcy
  refine zx_after (a := (Value.ref (X_ad X b) :: As (X_ad X)).toArray) hC hR hx hS h e (fun v σ1 hf => ?_) kk
  have hT : GoodIn WS (wsV own index y.cls y (wsC y bytes maxL ty0)) := by
    intro w hwm
    rcases List.mem_append.mp hwm with e | e
    · have := vWi hli hin hse hmc.2.1 w e
      exact ⟨this, good_of_word (List.mem_filter.mp this).2⟩
    · exact WS_good hmc.1 w e
  exact vx_runV (As := As (X_ad X)) (rest := st1) (Ts := WS) ⟨hC.1, hC.2.1, hC.2.2.1, hC.2.2.2.1, hC.2.2.2.2.1⟩ (hM v σ1 hf (X_D X) (X_cI X) (X_cS X) (X_ad X) H.size) (cwV n hC.2.2.2.2.1 hT rfl rfl rfl ⟨rfl, hmc.2.2.2⟩ (room_ofx hC hd' hmc.2.2.1)) ⟨pre_blind, hrec, fun U hU hW => ⟨rfl, pre_of hC hP hS hU hW⟩⟩ rfl hAs h.1 hst (lv_room hcat) hdg ⟨by rw [hC.2.2.2.2.2.2.1]; simp only [rmK]; omega, by rw [hC.2.2.2.2.2.2.1]; simp only [rmK]; omega⟩
theorem zx_callS (hC : Ctx X own cc Dl d xm) (hR : RX X ret) (hx : x + xm' ≤ xm) (hM : CX (X_l X) y bytes maxL ty0 d' xm' Dl As σ f) (hd' : d' + 1 ≤ d) (hmc : MC y bytes maxL ty0 n) (hli : Cond.methodLink own index y ∈ WS) (hstt : Cond.static y ∈ WS) (hcy : y.cls = own) (hAs : (As (X_ad X)).length = n) (hst : st = (As (X_ad X)).reverse ++ st1) (hcat : (st1.map fun v => v.category).sum ≤ 8) (hdg : decode cc pc = .ok (.invokestatic index, 3))
    (kk : ∀ (v : Int32) (σ1 : St), Zr X (QFX X ret xm) (x + xm') σ1 (pc + 3) ls (pushR ty0 v st1) (k v σ1)) : Zr X (QFX X ret xm) x σ pc ls st (bx f k) := fun o σ' e H locs la hP hS h => by
  subst hcy
  refine zx_after (a := (As (X_ad X)).toArray) hC hR hx hS h e (fun v σ1 hf => ?_) kk
  have hT : GoodIn WS (wsS y.cls index y (wsC y bytes maxL ty0)) := by
    intro w hwm
    rcases List.mem_append.mp hwm with e | e
    · have : w ∈ WS := by
        simp only [List.mem_cons, List.not_mem_nil, or_false] at e
        rcases e with e | e | e
        · rw [e]; exact hli
        · rw [e]; exact hstt
        · rw [e]; exact hmc.2.1
      exact ⟨this, good_of_word (List.mem_filter.mp this).2⟩
    · exact WS_good hmc.1 w e
  exact vx_runS (As := As (X_ad X)) (rest := st1) (Ts := WS) ⟨hC.1, hC.2.1, hC.2.2.1, hC.2.2.2.1, hC.2.2.2.2.1⟩ (hM v σ1 hf (X_D X) (X_cI X) (X_cS X) (X_ad X) H.size) (cwS n hC.2.2.2.2.1 hT rfl rfl rfl ⟨rfl, hmc.2.2.2⟩ (room_ofx hC hd' hmc.2.2.1)) ⟨pre_blind, fun U hU hW => ⟨rfl, pre_of hC hP hS hU hW⟩⟩ rfl hAs h.1 hst (lv_room hcat) hdg ⟨by rw [hC.2.2.2.2.2.2.1]; simp only [rmK]; omega, by rw [hC.2.2.2.2.2.2.1]; simp only [rmK]; omega⟩
/-- new E(); throw it -/
theorem zx_throw {k0 ik ic : Nat} {names : List String} (hC : Ctx X own cc Dl d xm) (hx : x + 1 ≤ xm) (hR : RX X ret) (hdd : 6 ≤ d) (hnl : names.length = 2) (hfit : Bundle.fit (excN k0) = true) (hnames : ∀ n ∈ names, Bundle.fit n = true) (hk : Cond.classLink own ik (excN k0) ∈ WS) (hini : Cond.initialized (excN k0) ∈ WS) (hat : ∀ w ∈ vx_at0 own ic (excN k0) names, w ∈ WS ∨ w ∈ NW) (hgood : ∀ w ∈ Cond.classLink own ik (excN k0) :: Cond.initialized (excN k0) :: vx_at0 own ic (excN k0) names, vx_ot w = true) (hcat : (st.map fun v => v.category).sum ≤ 8)
    (d0 : decode cc pc = .ok (.new ik, 3)) (d3 : decode cc (pc + 3) = .ok (.dup, 1)) (d4 : decode cc (pc + 4) = .ok (.invokespecial ic, 3)) (d7 : decode cc (pc + 7) = .ok (.athrow, 1)) : Zr X (QFX X ret xm) x σ pc ls st (some (.inr k0, σ)) := fun o σ' e H locs la hP hS h => by
  cases e
  have hS' := hS
  have hH0 := hC.2.2.2.2.2.2.2.2.2.2.2
  rw [hH0] at hS'
  have hE := hC.2.2.2.2.2.2.2.2.2.2.1
  rw [hH0] at hE
  have hRm := hC.2.2.2.2.2.2.1
  refine vx_throw0 (A := X_A X) hC.1 hC.2.1 hR.2.2 hC.2.2.2.1 hfit hnames (hC.2.2.2.2.1 _ hk) (hC.2.2.2.2.1 _ hini) (fun w hw => ?_) hgood hE.2.1 hE.2.2.1 hS' (h.1.trans hC.2.2.1.symm) d0 d3 d4 d7 (fun z hz => absurd (hR.2.1 z hz) (fun h => h.elim)) (by rw [hRm, hnl]; simp only [rmK]; omega) (by rw [hRm, hnl]; simp only [rmK]; omega) (by rw [hRm]; simp only [rmK]; omega) (by rw [hRm]; simp only [rmK]; omega) hR.1.2 (fun t hv hz hk1 => ⟨k0, rfl, ⟨rfl, ?_⟩, ?_⟩) hS.2.2 hx (by omega)
  · rcases hat w hw with h1 | h1
    · exact hC.2.2.2.2.1 w h1
    · exact va_Nw.use (nw_tab (List.mem_filter.mp h1).2) (hC.2.2.2.2.2.2.2.1.2.2.1 w h1)
  · exact hP.kept (fun k q hk => hk1 q.1 ((hP k q hk).lt))
  · exact ⟨Nat.le_trans hS'.1 hz, fun q h1 h2 => by rw [hk1 q (Nat.lt_of_lt_of_le h1 hS'.1)]; exact hS'.2.1 q h1 h2⟩
end THROWS
theorem cx_of {l : Launch} {y : MethodName} {cc : ByteArray} {maxL : Nat} {ret : Option FieldType} {d xm : Nat} {Dl : List Nat} {As : (Nat → Nat) → List Value} {σ : St} {f : Option (RT × St)} (hl : l.stackTraces = false) (hy : plainName y.cls = true) (hsz : ∀ ad, (lg_sl (As ad)).length ≤ maxL)
    (body : ∀ X : KX, Ctx X y.cls cc Dl d xm → RX X ret → X_l X = l → X_nL X = maxL → Zr X (QFX X ret xm) 0 σ 0 (lv_args 0 (As (X_ad X))) [] f) : CX l y cc maxL ret d xm Dl As σ f := by
  intro v σ' hf D cI cS ad sz
  refine vx_ofW (cc := cc) (maxL := maxL) (ret := ret) hy rfl ?_
  intro p e s m args below meth c s₁ B hml hex hv
  obtain ⟨rfl, hsz', hP, hK, hD0, hE⟩ := hv
  subst hsz'
  have hts := atoms_spec (ws := wsC y cc maxL ret) B.pre
  have hl2 := lv_entry (As ad) (n := maxL) (hsz ad)
  rw [lg_entry_eq]
  generalize (lg_sl (As ad) ++ List.replicate (maxL - (lg_sl (As ad)).length) Slot.unset).toArray = la at hl2 ⊢
  have hDs : va_D (va_A (wsOf cI cS ad (fun _ _ => 0) Dl) s.heap.size) (wsOf cI cS ad (fun _ _ => 0) Dl) := hD0.self
  have key := body ((p, l, e, rmK d xm, s), (m, (As ad).toArray, below, meth, c), (va_A (wsOf cI cS ad (fun _ _ => 0) Dl) s.heap.size, s.heap, maxL, D, cI, cS, ad, Dl))
    ⟨B.exec, B.bytes, hml, findClass_of_methodNamed B.named, fun w hw => hts w (List.mem_cons_of_mem _ hw), rfl, rfl, hK, hDs, fun q hq => Or.inr hq, hE, rfl⟩ ⟨⟨B.returns, B.notSynchronized⟩, hex, hl⟩ rfl rfl
  exact key v σ' hf s.heap [] la hP va_S.rf hl2
