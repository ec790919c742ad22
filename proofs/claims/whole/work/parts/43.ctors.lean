/-! ===== constructors: an object's tree is laid in the slots b, b + 1 .. ===== -/
def Zi (X : KX) (Q : State → Prop) (mc ms : Nat) (ws : va_W) (pc : Nat) (ls : List (Nat × Value)) (st : List Value) : Prop :=
  ∀ (H : Heap) (locs : List Loc) (la : Array Slot), va_P (X_D X) vwCl ws H → va_D (X_A X) ws → va_S (X_A X) (X_H0 X) H locs → lv_has la (X_nL X) ls → W (X_p X) (X_l X) (X_e X) (X_R X) (X_s X) (X_m X) (X_args X) (X_below X) (X_meth X) (X_c X) H locs mc ms Q (F0 (X_m X) pc la st)
def rmI (d mc ms : Nat) : Room := { frames := d, cells := mc, slots := ms, locals := 48 * d }
def preI (D : va_G) (cI : ClassId) (cS : ClassId × ClassId) (ad : Nat → Nat) (ws : va_W) (sz : Nat) (U : State) : Prop :=
  U.heap.size = sz ∧ va_P D vwCl ws U.heap ∧ KU D cI cS ad U ∧ va_D (fun _ => True) ws ∧ EF ad (va_A ws sz) U U.heap ∧ va_AO "java/lang/String" U
/-- an initial state of all slots -/
def sgI : St := fun k => match k with
  | 0 => fun j => if j = 2 then -1 else 0
  | 2 => fun j => if j = 2 then -1 else if j = 6 then -1 else 0
  | 3 => fun j => if j = 10 then 300 else 0
  | 15 => fun j => if 48 ≤ j ∧ j < 72 then -1 else 0
  | 21 => fun j => if j = 10 then 300 else 0
  | 34 => fun j => if 48 ≤ j ∧ j < 72 then -1 else 0
  | 41 => fun j => if 48 ≤ j ∧ j < 72 then -1 else 0
  | 47 => fun j => if 48 ≤ j ∧ j < 72 then -1 else 0
  | 48 => fun j => if j = 4 then -1 else 0
  | 53 => fun j => if 48 ≤ j ∧ j < 72 then -1 else 0
  | 57 => fun j => if j = 5 then -1 else 0
  | 65 => fun j => if j = 3 then -1 else 0
  | 69 => fun j => if j = 28 then -1 else if j = 44 then -1 else if j = 51 then -1 else 0
  | 71 => fun j => if j = 3 then 300 else if j = 8 then 300 else 0
  | _ => fun _ => 0
/-- a constructor: from a fresh object at h0 it comes to a tree that lies in the slots from b on -/
def CI (l : Launch) (y : MethodName) (bytes : ByteArray) (maxL d mc ms h0 b len ci : Nat) (fs0 : List Value) : Prop :=
  ∀ (D : va_G) (cI : ClassId) (cS : ClassId × ClassId) (ad : Nat → Nat) (sz : Nat),
    Met l y (wsC y bytes maxL none) (rmI d mc ms) (va_Pc [.ref h0] (preI D cI cS ad [(h0, .inr (ci, fs0))] sz)) (va_Qv (fun a : Nat → Nat => a b = h0 ∧ ∀ k, 1000 ≤ k → a k = ad k) (fun a t => va_P D vwCl (wsOf cI cS a sgI (List.range' b len)) t.heap ∧ va_D (va_A [(h0, .inr (ci, fs0))] sz) (wsOf cI cS a sgI (List.range' b len))) (va_A [(h0, .inr (ci, fs0))] sz)) mc ms (va_A [(h0, .inr (ci, fs0))] sz)
def CtI (X : KX) (own : String) (cc : ByteArray) (R : Room) : Prop :=
  (X_p X).tables.exec = Jvm.exec ∧ (X_c X).code = cc ∧ (X_c X).maxLocals = X_nL X ∧ (X_s X).vm.findClass own = some (X_m X).cls ∧ (∀ w ∈ WS, w.before (X_args X) (X_s X) = true) ∧ X_R X = R ∧ KU (X_D X) (X_cI X) (X_cS X) (X_ad X) (X_s X) ∧ (∀ q : Nat, (X_H0 X).size ≤ q → X_A X q) ∧ EF (X_ad X) (X_A X) (X_s X) (X_H0 X) ∧ X_H0 X = (X_s X).heap ∧ va_AO "java/lang/String" (X_s X)
def RI (X : KX) : Prop := (X_meth X).name = "<init>" ∧ (X_meth X).sig.returnType = none ∧ (X_meth X).locks = false
section ZI
variable {X : KX} {Q : State → Prop} {mc ms : Nat} {ws rest : va_W} {pc : Nat} {ls : List (Nat × Value)} {st st1 : List Value} {own : String} {cc : ByteArray} {R : Room}
theorem zi_iconst {n : Int} {v : Int32} (hC : CtI X own cc R) (hd : decode cc pc = .ok (.iconst n, 1)) (hv : Int32.ofInt n = v) (k : Zi X Q mc ms ws (pc + 1) ls (.int v :: st)) : Zi X Q mc ms ws pc ls st := fun H locs la hP hD hS h => lv_iconst hC.1 hC.2.1 hd hv (k H locs la hP hD hS h)
theorem zi_bipush {n : Int} {v : Int32} (hC : CtI X own cc R) (hd : decode cc pc = .ok (.bipush n, 2)) (hv : (Int8.ofInt n).toInt32 = v) (k : Zi X Q mc ms ws (pc + 2) ls (.int v :: st)) : Zi X Q mc ms ws pc ls st := fun H locs la hP hD hS h => lv_bipush hC.1 hC.2.1 hd hv (k H locs la hP hD hS h)
theorem zi_sipush {n : Int} {v : Int32} (hC : CtI X own cc R) (hd : decode cc pc = .ok (.sipush n, 3)) (hv : (Int16.ofInt n).toInt32 = v) (k : Zi X Q mc ms ws (pc + 3) ls (.int v :: st)) : Zi X Q mc ms ws pc ls st := fun H locs la hP hD hS h => lv_sipush hC.1 hC.2.1 hd hv (k H locs la hP hD hS h)
theorem zi_aload0 {a : Nat} (hC : CtI X own cc R) (hd : decode cc pc = .ok (.aload_n 0, 1)) (hl : ls = [(0, .ref a)]) (k : Zi X Q mc ms ws (pc + 1) ls (.ref a :: st)) : Zi X Q mc ms ws pc ls st := fun H locs la hP hD hS h => lv_aload_n hC.1 hC.2.1 hd rfl (lv_at h 0 (by rw [hl]; rfl)) (k H locs la hP hD hS h)
theorem zi_dup {v : Value} (hC : CtI X own cc R) (hd : decode cc pc = .ok (.dup, 1)) (hv : v.category = 1) (k : Zi X Q mc ms ws (pc + 1) ls (v :: v :: st)) : Zi X Q mc ms ws pc ls (v :: st) := fun H locs la hP hD hS h => lv_dup hC.1 hC.2.1 hd hv (k H locs la hP hD hS h)
theorem zi_obj {a index : Nat} (hC : CtI X own cc R) (hli : Cond.methodLink own index objectInit ∈ WS) (hin : Cond.instanceMethod objectInit ∈ WS) (hco : Cond.code objectInit ⟨#[0xb1]⟩ 1 none ∈ WS) (hR : 1 ≤ R.frames ∧ (st.map fun v => v.category).sum + 12 ≤ R.locals) (hd : decode cc pc = .ok (.invokespecial index, 3)) (k : Zi X Q mc ms ws (pc + 3) ls st) : Zi X Q mc ms ws pc ls (.ref a :: st) := fun H locs la hP hD hS h => by
  refine W.objInit hC.1 hC.2.1 hC.2.2.2.1 (hC.2.2.2.2.1 _ hli) (hC.2.2.2.2.1 _ hin) (hC.2.2.2.2.1 _ hco) rfl (by rw [hC.2.2.1]; exact h.1) rfl hd (by rw [hC.2.2.2.2.2.1]; exact hR.1) (by rw [hC.2.2.2.2.2.1]; show 2 * 0 + _ + 12 ≤ _; omega) ?_
  exact k H locs la hP hD hS h
/-- a store into the object that is made -/
theorem zi_put {cl : String} {T : u_T} {N ci j index h0 : Nat} {fs fs' : List Value} {v : Value} {ty : FieldType} {ty0 : Nat → FieldType} (hC : CtI X own cc R) (hR : RI X) (hcl : vwCl[ci]? = some (cl, T, N)) (hjN : j < N) (hin : ∀ w ∈ u_ws cl T N, w ∈ WS) (hty : ∀ k, k < N → parseFieldDescriptor (T k).2.2.1 = some (ty0 k)) (hnm : ∀ a, a < N → ∀ b, b < N → a ≠ b → (T a).2.1 ≠ (T b).2.1) (hw : Cond.fieldLink own index (T j).1 (T j).2.1 (T j).2.2.1 ∈ WS) (hdecl : (T j).1 = own) (hpd : parseFieldDescriptor (T j).2.2.1 = some ty) (hn : narrow ty v = v) (hfit : fits ty v = true) (hl : j < fs.length) (hf : fs.set j v = fs') (hd : decode cc pc = .ok (.putfield index, 3))
    (k : Zi X Q mc ms ((h0, .inr (ci, fs')) :: rest) (pc + 3) ls st) : Zi X Q mc ms ((h0, .inr (ci, fs)) :: rest) pc ls (v :: .ref h0 :: st) := fun H locs la hP hD hS h => by
  subst hf
  cases hfin : (T j).2.2.2 with
  | true => exact va_putF (D := X_D X) (cl := vwCl) (ty := ty) hC.1 hC.2.1 hC.2.2.2.2.1 hin ty0 hty hnm hC.2.2.2.1 hC.2.2.2.2.2.2.1.1 hP hD hS 0 rfl hcl j hjN (hC.2.2.2.2.1 _ hw) (fun _ h9 => h9) hfin hR.1 hdecl hpd hn hfit hl hd (fun H1 locs1 hP1 hD1 hS1 => k H1 locs1 la hP1 hD1 hS1 h)
  | false => exact va_put (D := X_D X) (cl := vwCl) (ty := ty) hC.1 hC.2.1 hC.2.2.2.2.1 hin ty0 hty hnm hC.2.2.2.1 hC.2.2.2.2.2.2.1.1 hP hD hS 0 rfl hcl j hjN (hC.2.2.2.2.1 _ hw) (fun _ h9 => h9) hfin hpd hn hfit hl hd (fun H1 locs1 hP1 hD1 hS1 => k H1 locs1 la hP1 hD1 hS1 h)
theorem zi_get {cl : String} {T : u_T} {N ci j index h0 : Nat} {fs : List Value} {v : Value} (hC : CtI X own cc R) (hcl : vwCl[ci]? = some (cl, T, N)) (hjN : j < N) (hin : ∀ w ∈ u_ws cl T N, w ∈ WS) (hw : Cond.fieldLink own index (T j).1 (T j).2.1 (T j).2.2.1 ∈ WS) (hv : fs[j]? = some v) (hd : decode cc pc = .ok (.getfield index, 3))
    (k : Zi X Q mc ms ((h0, .inr (ci, fs)) :: rest) (pc + 3) ls (v :: st)) : Zi X Q mc ms ((h0, .inr (ci, fs)) :: rest) pc ls (.ref h0 :: st) := fun H locs la hP hD hS h =>
  va_get (D := X_D X) (cl := vwCl) hC.1 hC.2.1 hC.2.2.2.2.1 hin hC.2.2.2.1 hC.2.2.2.2.2.2.1.1 hP 0 rfl hcl j hjN (hC.2.2.2.2.1 _ hw) (fun _ h9 => h9) hv hd (k H locs la hP hD hS h)
/-- the class of arrays of whole numbers is one -/
theorem cI_one {cA : ClassId} {ty : FieldType} {t0 : Nat} {c1 : ClassId} {tys : List (ClassId × FieldType)} {s : State} {D : va_G} (hK : va_K D vwCl tys s) (ht : tys[t0]? = some (c1, ty)) (hr : va_RA s cA ty) (hp : ty = .int ∨ ty = .long ∨ ty = .object "java/lang/String") : cA = c1 := by
  have h1 := (hK.2 t0 _ ht).2
  rcases hp with rfl | rfl | rfl
  · exact Option.some.inj ((show s.vm.findClass _ = some cA from hr).symm.trans (show s.vm.findClass _ = some c1 from h1))
  · exact Option.some.inj ((show s.vm.findClass _ = some cA from hr).symm.trans (show s.vm.findClass _ = some c1 from h1))
  · obtain ⟨_, _, _, _, _, e1⟩ := hr
    obtain ⟨_, _, _, _, _, e2⟩ := h1
    exact Option.some.inj (e1.symm.trans e2)
theorem zi_newa {n : Int32} {N : Nat} (hC : CtI X own cc R) (harr : Cond.arrayClass .int ∈ WS) (hn : ¬ n < 0) (hN : n.toNatClampNeg = N) (hb : N * componentBytes .int ≤ 536870912) (hRc : mc + 1 ≤ R.cells) (hRs : ms + N ≤ R.slots) (hd : decode cc pc = .ok (.newarray .int, 2))
    (k : ∀ q : Nat, Zi X Q (mc + 1) (ms + N) (ws ++ [(q, .inl (X_cI X, (N, .inl (fun _ => 0))))]) (pc + 2) ls (.ref q :: st)) : Zi X Q mc ms ws pc ls (.int n :: st) := fun H locs la hP hD hS h => by
  refine va_newa (atype := .int) (ty := .int) (a0 := (N, .inl (fun _ => 0))) hC.1 hC.2.1 (hC.2.2.2.2.1 _ harr) rfl hC.2.2.2.2.2.2.1.1 hP hD hS hC.2.2.2.2.2.2.2.1 (fun _ => rfl) hn hN hb (by rw [hC.2.2.2.2.2.1]; exact hRc) (by rw [hC.2.2.2.2.2.1]; exact hRs) hd (fun q cA H1 hK1 hP1 hD1 hS1 => ?_)
  have e : cA = X_cI X := cI_one (t0 := 0) hK1 rfl ((hK1.2 3 _ rfl).2) (Or.inl rfl)
  subst e
  exact k q H1 locs la hP1 hD1 hS1 h
/-- new C(); the child's tree comes behind the list -/
theorem zi_new {y : MethodName} {bytes : ByteArray} {cl : String} {T : u_T} {N ci ik ic b len d' mc' ms' maxL : Nat} {fs : List Value} {ty : Nat → FieldType} (hC : CtI X own cc R) (hcl : vwCl[ci]? = some (cl, T, N)) (hin : ∀ w ∈ u_ws cl T N, w ∈ WS) (hty : ∀ k, k < N → parseFieldDescriptor (T k).2.2.1 = some (ty k)) (hlk : Cond.classLink own ik cl ∈ WS) (hins : Cond.instantiable cl N ∈ WS) (hini : Cond.initialized cl ∈ WS) (hfs : ∀ j, j < N → defaultValue (ty j) = vp_V fs j)
    (hM : ∀ h0, CI (X_l X) y bytes maxL d' mc' ms' h0 b len ci fs) (hmc : MC y bytes maxL none 0) (hy1 : y.name = "<init>") (hyi : Cond.instanceMethod y ∈ WS) (hcall : (Cond.methodLink own ic y ∈ WS) ∨ ∃ host, Cond.methodLinkNest own ic y host ∈ NW) (hRd : d' + 1 ≤ R.frames ∧ 8 + (maxL + 11) + 48 * d' ≤ R.locals) (hRc : mc + 1 + mc' ≤ R.cells) (hRs : ms + N + ms' ≤ R.slots) (hcat : (st.map fun v => v.category).sum ≤ 7)
    (d0 : decode cc pc = .ok (.new ik, 3)) (d3 : decode cc (pc + 3) = .ok (.dup, 1)) (d4 : decode cc (pc + 4) = .ok (.invokespecial ic, 3))
    (k : ∀ a : Nat → Nat, (∀ k, 1000 ≤ k → a k = X_ad X k) → Zi X Q (mc + 1 + mc') (ms + N + ms') (ws ++ wsOf (X_cI X) (X_cS X) a sgI (List.range' b len)) (pc + 7) ls (.ref (a b) :: st)) : Zi X Q mc ms ws pc ls st := fun H locs la hP hD hS h => by
  have hR := hC.2.2.2.2.2.1
  refine va_new (ci := ci) (fs := fs) hC.1 hC.2.1 hC.2.2.2.2.1 hin ty hty hC.2.2.2.1 (hC.2.2.2.2.1 _ hlk) (hC.2.2.2.2.1 _ hins) (hC.2.2.2.2.1 _ hini) hC.2.2.2.2.2.2.1.1 hP hD hS hC.2.2.2.2.2.2.2.1 hcl hfs (by rw [hR]; omega) (by rw [hR]; omega) d0 (fun q H1 hP1 hD1 hS1 => ?_)
  refine lv_dup hC.1 hC.2.1 d3 rfl ?_
  have hlast : (ws ++ [(q, (.inr (ci, fs) : va_E))])[ws.length]? = some (q, .inr (ci, fs)) := by simp
  have hPc : va_P (X_D X) vwCl [(q, .inr (ci, fs))] H1 := by
    intro k0 x hx
    cases k0 with
    | zero => cases hx; exact hP1 ws.length _ hlast
    | succ k1 => simp at hx
  have hqA : X_A X q := hD1.2 ws.length _ hlast
  have hfree : ∀ z, va_A [(q, .inr (ci, fs))] H1.size z → X_A X z := by
    intro z hz
    rcases hz with ⟨k0, e0, hk0⟩ | hz
    · cases k0 with
      | zero => cases hk0; exact hqA
      | succ k1 => simp at hk0
    · exact hC.2.2.2.2.2.2.2.1 z (Nat.le_trans hS1.1 hz)
  have hpreI : ∀ U : State, U.heap = H1 → (X_s X).WarmedH U.vm → va_Pc [.ref q] (preI (X_D X) (X_cI X) (X_cS X) (X_ad X) [(q, .inr (ci, fs))] H1.size) ([Value.ref q]).toArray U := by
    intro U hU hW
    refine ⟨rfl, by rw [hU], by rw [hU]; exact hPc, hC.2.2.2.2.2.2.1.moved hW, ⟨fun i j p r hi hj _ => ?_, fun _ _ _ => trivial⟩, ?_⟩
    · cases i <;> cases j <;> simp at hi hj ⊢
    · rw [hU]
      exact ⟨EF.narrow (EF.moved hW.alike (hC.2.2.2.2.2.2.2.2.1.kept (fun a h1 h2 => hS1.2.1 a h1 h2))) (fun z hz => hfree z hz), va_AO.moved hW.alike hC.2.2.2.2.2.2.2.2.2.2⟩
  have hblind : FrameBlind (va_Pc [.ref q] (preI (X_D X) (X_cI X) (X_cS X) (X_ad X) [(q, .inr (ci, fs))] H1.size)) := by
    intro a U g mk hh
    obtain ⟨z0, z1, z2, z3, z4, z5, z6⟩ := hh
    exact ⟨z0, z1, z2, KU.same (u := U) (U := U.calling g mk a) rfl z3, z4, EF.moved (u := U) (Vm.Alike.refl U.vm) z5, va_AO.moved (u := U) (Vm.Alike.refl U.vm) z6⟩
  have hrun : va_Run (X_p X) (X_l X) (X_e X) (X_R X) (X_s X) (X_m X) (X_args X) (X_below X) (X_meth X) (X_c X) H1 locs (mc + 1) (ms + N) mc' ms' (F0 (X_m X) (pc + 4) la (.ref q :: .ref q :: st)) (.ref q :: st) (va_Qv (fun a : Nat → Nat => a b = q ∧ ∀ k, 1000 ≤ k → a k = X_ad X k) (fun a t => va_P (X_D X) vwCl (wsOf (X_cI X) (X_cS X) a sgI (List.range' b len)) t.heap ∧ va_D (va_A [(q, .inr (ci, fs))] H1.size) (wsOf (X_cI X) (X_cS X) a sgI (List.range' b len))) (va_A [(q, .inr (ci, fs))] H1.size) ([Value.ref q]).toArray) (va_A [(q, .inr (ci, fs))] H1.size) := by
    have hcat' : (((Value.ref q :: st).map fun v => v.category).sum) ≤ 8 := by
      show 1 + (st.map fun v => v.category).sum ≤ 8
      omega
    rcases hcall with hli | ⟨host, hli⟩
    · exact va_runI (As := []) (rest := .ref q :: st) (Ts := WS) ⟨hC.1, hC.2.1, hC.2.2.1, hC.2.2.2.1, hC.2.2.2.2.1⟩ (hM q (X_D X) (X_cI X) (X_cS X) (X_ad X) H1.size) (cwI 0 hC.2.2.2.2.1 (WS_good hmc.1) rfl rfl rfl (hC.2.2.2.2.1 _ hmc.2.1) (hC.2.2.2.2.1 _ hli) (hC.2.2.2.2.1 _ hyi) hy1 hmc.2.2.2 (by rw [hR]; exact hRd)) ⟨hblind, hpreI⟩ rfl rfl h.1 rfl (lv_room hcat') d4 ⟨by rw [hR]; exact hRc, by rw [hR]; exact hRs⟩
    · exact va_runIN (As := []) (rest := .ref q :: st) (Ts := WS) ⟨hC.1, hC.2.1, hC.2.2.1, hC.2.2.2.1, hC.2.2.2.2.1⟩ (hM q (X_D X) (X_cI X) (X_cS X) (X_ad X) H1.size) ⟨va_cnB 0 hC.2.2.2.2.1 (WS_good hmc.1) rfl rfl rfl (hC.2.2.2.2.2.2.1.2.2.1 _ hli) (hC.2.2.2.2.1 _ hmc.2.1) hmc.2.2.2 (by rw [hR]; exact hRd), hy1, hC.2.2.2.2.1 _ hyi⟩ ⟨hblind, hpreI⟩ rfl rfl h.1 rfl (lv_room hcat') d4 ⟨by rw [hR]; exact hRc, by rw [hR]; exact hRs⟩
  refine va_callv hrun hS1 (fun z _ hz => hfree z hz) hfree (fun a t H2 locs2 ht hvm hw hB hz2 hk2 hS2 => ?_)
  obtain ⟨hab, hst⟩ := hw
  obtain ⟨hP2, hD2⟩ := hB
  rw [ht] at hP2
  have old : ∀ (k0 : Nat) (x : Nat × va_E), ws[k0]? = some x → x.1 < H1.size ∧ x.1 ≠ q := by
    intro k0 x hx
    have hk0 : k0 < ws.length := (List.getElem?_eq_some_iff.mp hx).1
    have hx1 : (ws ++ [(q, (.inr (ci, fs) : va_E))])[k0]? = some x := by rw [List.getElem?_append_left hk0]; exact hx
    refine ⟨(hP1 k0 x hx1).lt, fun e => ?_⟩
    have := hD1.1 k0 ws.length x _ hx1 hlast e
    omega
  have hPw : va_P (X_D X) vwCl ws H2 := by
    intro k0 x hx
    have hk0 : k0 < ws.length := (List.getElem?_eq_some_iff.mp hx).1
    have hx1 : (ws ++ [(q, (.inr (ci, fs) : va_E))])[k0]? = some x := by rw [List.getElem?_append_left hk0]; exact hx
    refine (hP1 k0 x hx1).kept (hk2 x.1 (old k0 x hx).1 (fun hz => ?_))
    rcases hz with ⟨k1, e1, hk1⟩ | hz
    · cases k1 with
      | zero => cases hk1; exact (old k0 _ hx).2 rfl
      | succ k1 => simp at hk1
    · exact absurd (old k0 x hx).1 (Nat.not_lt.mpr hz)
  have hDw : va_D (X_A X) ws := by
    refine ⟨fun i j p r hi hj e => hD1.1 i j p r ?_ ?_ e, fun i p hi => hD1.2 i p ?_⟩
    · rw [List.getElem?_append_left (List.getElem?_eq_some_iff.mp hi).1]; exact hi
    · rw [List.getElem?_append_left (List.getElem?_eq_some_iff.mp hj).1]; exact hj
    · rw [List.getElem?_append_left (List.getElem?_eq_some_iff.mp hi).1]; exact hi
  have hDn : va_D (X_A X) (ws ++ wsOf (X_cI X) (X_cS X) a sgI (List.range' b len)) := by
    refine hDw.app (hD2.weaken (fun _ _ _ hz => hfree _ hz)) (fun i j p r hi hj e => ?_)
    have h1 := old i p hi
    rcases hD2.2 j r hj with ⟨k1, e1, hk1⟩ | hz
    · cases k1 with
      | zero => cases hk1; exact h1.2 e
      | succ k1 => simp at hk1
    · rw [e] at h1
      exact absurd h1.1 (Nat.not_lt.mpr hz)
  have key := k a hst H2 locs2 la (hPw.app hP2) hDn hS2 h
  rw [hab] at key
  exact key
/-- a store into a new array of whole numbers -/
theorem zi_iast {a n : Nat} {f f' : Nat → Int32} {i v : Int32} {ws' : va_W} (q0 : Nat) (hC : CtI X own cc R) (ha : ws[q0]? = some (a, .inl (X_cI X, n, .inl f))) (hin : vp_in i n) (hf : ∀ j : Nat, upd f i.toNatClampNeg v j = f' j) (hws : ws.set q0 (a, .inl (X_cI X, n, .inl f')) = ws') (hd : decode cc pc = .ok (.iastore, 1))
    (k : Zi X Q mc ms ws' (pc + 1) ls st) : Zi X Q mc ms ws pc ls (.int v :: .int i :: .ref a :: st) := fun H locs la hP hD hS h => by
  have e : upd f i.toNatClampNeg v = f' := funext hf
  refine va_iast hC.1 hC.2.1 hC.2.2.2.2.2.2.1.1 hP hD hS q0 0 ha rfl hin hd (fun H1 locs1 hP1 hD1 hS1 => ?_)
  rw [e, hws] at hP1 hD1
  exact k H1 locs1 la hP1 hD1 hS1 h
/-- new String[n] -/
theorem zi_newq {n : Int32} {N index : Nat} (hC : CtI X own cc R) (hlk : Cond.classLink own index "java/lang/String" ∈ WS) (hn : ¬ n < 0) (hN : n.toNatClampNeg = N) (hb : N * 4 ≤ 536870912) (hRc : mc + 1 ≤ R.cells) (hRs : ms + N ≤ R.slots) (hd : decode cc pc = .ok (.anewarray index, 3))
    (k : ∀ q : Nat, Zi X Q (mc + 1) (ms + N) (ws ++ [(q, .inl ((X_cS X).1, (N, .inr (.inr (.inr (.inr (fun _ => none)))))))]) (pc + 3) ls (.ref q :: st)) : Zi X Q mc ms ws pc ls (.int n :: st) := fun H locs la hP hD hS h => by
  refine va_newq hC.1 hC.2.1 hC.2.2.2.1 (hC.2.2.2.2.1 _ hlk) hC.2.2.2.2.2.2.2.2.2.2 hC.2.2.2.2.2.2.1.1 hP hD hS hC.2.2.2.2.2.2.2.1 hn hN hb (by rw [hC.2.2.2.2.2.1]; exact hRc) (by rw [hC.2.2.2.2.2.1]; exact hRs) hd (fun q cA H1 hK1 hP1 hD1 hS1 => ?_)
  have e : cA = (X_cS X).1 := cI_one (t0 := 1) hK1 rfl ((hK1.2 3 _ rfl).2) (Or.inr (Or.inr rfl))
  subst e
  exact k q H1 locs la hP1 hD1 hS1 h
theorem zi_ldcS {index t : Nat} (hC : CtI X own cc R) (hw : (own, index, t) ∈ STRW) (hd : decode cc pc = .ok (.ldc index, 2)) (k : Zi X Q mc ms ws (pc + 2) ls (.ref (X_ad X (1000 + t)) :: st)) : Zi X Q mc ms ws pc ls st := fun H locs la hP hD hS h =>
  va_ldcS hC.1 hC.2.1 hC.2.2.2.1 (hC.2.2.2.2.2.2.1.2.1 _ hw) hd (k H locs la hP hD hS h)
theorem as_self (vm : Vm) (c : ClassId) : vm.assignable c c = true := by
  show vm.assignableAux (255 + 1) c c = true
  rw [Vm.assignableAux]
  simp only [beq_self_eq_true, Bool.true_or]
def qs (ad : Nat → Nat) (l : List Nat) : Nat → Option Nat := fun i => (l[i]?).map ad
theorem qs_nil (ad : Nat → Nat) : qs ad [] = fun _ => none := by funext i; simp [qs]
theorem qs_snoc (ad : Nat → Nat) (l : List Nat) (r : Nat) : va_up (qs ad l) l.length (some (ad r)) = qs ad (l ++ [r]) := by
  funext i
  by_cases h : i = l.length
  · subst h; simp [va_up, qs]
  · rw [va_up]
    simp only [h, if_false, qs]
    by_cases h2 : i < l.length
    · rw [List.getElem?_append_left h2]
    · rw [List.getElem?_eq_none (by omega), List.getElem?_eq_none (by simp; omega)]
theorem zi_aast {a n t : Nat} {l : List Nat} {i : Int32} {ws' : va_W} (q0 : Nat) (hC : CtI X own cc R) (ha : ws[q0]? = some (a, .inl ((X_cS X).1, n, .inr (.inr (.inr (.inr (qs (X_ad X) l))))))) (hin : vp_in i n) (hi : i.toNatClampNeg = l.length) (ht : t < 16) (hws : ws.set q0 (a, .inl ((X_cS X).1, n, .inr (.inr (.inr (.inr (qs (X_ad X) (l ++ [1000 + t]))))))) = ws') (hd : decode cc pc = .ok (.aastore, 1))
    (k : Zi X Q mc ms ws' (pc + 1) ls st) : Zi X Q mc ms ws pc ls (.ref (X_ad X (1000 + t)) :: .int i :: .ref a :: st) := fun H locs la hP hD hS h => by
  have hE := hC.2.2.2.2.2.2.2.2.1
  have hO : va_O "java/lang/String" (X_ad X (1000 + t)) (X_A X) (X_s X) H := ((hE.1.1 t ht).1).kept (fun a h1 h2 => hS.2.1 a h1 h2)
  have hany : va_Any "java/lang/String" (X_s X) H (X_ad X (1000 + t)) := by
    obtain ⟨cell, h1, h2, h3, -⟩ := hO
    obtain ⟨kC, hkC, -⟩ := Vm.findClass_spec h3
    refine ⟨cell, h1, h2, ⟨kC, hkC⟩, fun comp h => ?_⟩
    have e : comp = cell.cls := Option.some.inj (h.symm.trans h3)
    rw [e]
    exact as_self _ _
  refine va_astqM hC.1 hC.2.1 hC.2.2.2.2.2.2.1.1 hP hD hS q0 1 ha rfl hany hin hd (fun H1 locs1 hP1 hD1 hS1 => ?_)
  rw [hi, qs_snoc, hws] at hP1 hD1
  exact k H1 locs1 la hP1 hD1 hS1 h
theorem KU.ad {D : va_G} {cI : ClassId} {cS : ClassId × ClassId} {ad ad' : Nat → Nat} {U : State} (h : KU D cI cS ad U) (e : ∀ k, 1000 ≤ k → ad' k = ad k) : KU D cI cS ad' U := ⟨h.1, fun q hq => by rw [e _ (by omega)]; exact h.2.1 q hq, h.2.2⟩
theorem EF.ad {ad ad' : Nat → Nat} {A : Nat → Prop} {U : State} {H : Heap} (h : EF ad A U H) (e : ∀ k, 1000 ≤ k → ad' k = ad k) : EF ad' A U H := by
  have e1 : (fun i => ad' (1000 + i)) = fun i => ad (1000 + i) := funext fun i => e _ (by omega)
  have e2 : (fun i => ad' (2000 + i)) = fun i => ad (2000 + i) := funext fun i => e _ (by omega)
  refine ⟨?_, h.2⟩
  rw [e1, e2]
  exact h.1
theorem fill_lit (b : Nat) : (if 15 = 15 ∧ (48 : Int32).toInt ≤ b ∧ (b : Int) < (72 : Int32).toInt then (-1 : Int32) else 0) = sgI 15 b := by
  show _ = if 48 ≤ b ∧ b < 72 then (-1 : Int32) else 0
  rw [show (48 : Int32).toInt = 48 from rfl, show (72 : Int32).toInt = 72 from rfl]
  by_cases h : 48 ≤ b ∧ b < 72
  · rw [if_pos (by omega), if_pos h]
  · rw [if_neg (by omega), if_neg h]
/-- the new world's row is filled -/
theorem zi_fill {q h0 index : Nat} {host : String} {fs : List Value} (hC : CtI X own cc R) (hli : Cond.methodLinkNest own index yX11_fill host ∈ NW) (hstt : Cond.static yX11_fill ∈ WS) (hRd : 3 ≤ R.frames ∧ 8 + (5 + 11) + 48 * 2 ≤ R.locals) (hRc : mc ≤ R.cells) (hRs : ms ≤ R.slots) (hw : ws = [(h0, .inr (10, fs)), (q, .inl (X_cI X, (94, .inl (fun _ => 0))))]) (hd : decode cc pc = .ok (.invokestatic index, 3))
    (k : Zi X Q mc ms [(h0, .inr (10, fs)), (q, .inl (X_cI X, (94, .inl (sgI 15))))] (pc + 3) ls []) : Zi X Q mc ms ws pc ls [.int (-1), .int 72, .int 48, .ref q] := fun H locs la hP hD hS h => by
  subst hw
  obtain ⟨σ1, hf, hσ⟩ : ∃ σ1 : St, fX11_fill 15 48 72 (-1) (fun _ _ => 0) = some (0, σ1) ∧ σ1 15 = sgI 15 := ⟨_, fill_spec (by decide) (by decide) (by decide), by funext b; exact fill_lit b⟩
  have hR := hC.2.2.2.2.2.1
  have hst : ∀ k, 1000 ≤ k → (fun k => if k = 15 then q else X_ad X k) k = X_ad X k := by
    intro k hk
    simp only []
    rw [if_neg (by omega)]
  generalize hed : (fun k => if k = 15 then q else X_ad X k) = ad' at hst
  have h15 : ad' 15 = q := by rw [← hed]; rfl
  have hwo : ∀ σ : St, wsOf (X_cI X) (X_cS X) ad' σ [15] = [(q, .inl (X_cI X, (94, .inl (σ 15))))] := by
    intro σ
    show [(ad' 15, _)] = _
    rw [h15]
    rfl
  have hqA : X_A X q := hD.2 1 _ rfl
  have hD1 : ∀ (σ : St) (A : Nat → Prop), A q → va_D A (wsOf (X_cI X) (X_cS X) ad' σ [15]) := by
    intro σ A hA
    rw [hwo]
    refine ⟨fun i j p r hi hj _ => ?_, fun i p hi => ?_⟩
    · cases i <;> cases j <;> simp at hi hj ⊢
    · cases i with
      | zero => cases hi; exact hA
      | succ i => simp at hi
  have hPc : va_P (X_D X) vwCl (wsOf (X_cI X) (X_cS X) ad' (fun _ _ => 0) [15]) H := by
    rw [hwo]
    intro k0 x hx
    cases k0 with
    | zero => cases hx; exact hP 1 _ rfl
    | succ k1 => simp at hx
  have hfree : ∀ z, va_A (wsOf (X_cI X) (X_cS X) ad' (fun _ _ => 0) [15]) H.size z → X_A X z := by
    intro z hz
    rw [hwo] at hz
    rcases hz with ⟨k0, e0, hk0⟩ | hz
    · cases k0 with
      | zero => cases hk0; exact hqA
      | succ k1 => simp at hk0
    · exact hC.2.2.2.2.2.2.2.1 z (Nat.le_trans hS.1 hz)
  have hpre : ∀ U : State, U.heap = H → (X_s X).WarmedH U.vm → va_Pc [.ref (ad' 15), .int 48, .int 72, .int (-1)] (preU (X_D X) (X_cI X) (X_cS X) ad' (fun _ _ => 0) [15] H.size) ([Value.ref (ad' 15), .int 48, .int 72, .int (-1)]).toArray U := by
    intro U hU hW
    refine ⟨rfl, by rw [hU], by rw [hU]; exact hPc, (hC.2.2.2.2.2.2.1.moved hW).ad hst, hD1 _ _ trivial, ?_⟩
    rw [hU]
    exact EF.narrow ((EF.moved hW.alike (hC.2.2.2.2.2.2.2.2.1.kept (fun a h1 h2 => hS.2.1 a h1 h2))).ad hst) (fun z hz => hfree z hz)
  have hrun : va_Run (X_p X) (X_l X) (X_e X) (X_R X) (X_s X) (X_m X) (X_args X) (X_below X) (X_meth X) (X_c X) H locs mc ms 0 0 (F0 (X_m X) pc la [.int (-1), .int 72, .int 48, .ref q]) [] (qcN none 0 (postU (X_D X) (X_cI X) (X_cS X) ad' σ1 [15]) (va_A (wsOf (X_cI X) (X_cS X) ad' (fun _ _ => 0) [15]) H.size) ([Value.ref (ad' 15), .int 48, .int 72, .int (-1)]).toArray) (va_A (wsOf (X_cI X) (X_cS X) ad' (fun _ _ => 0) [15]) H.size) := by
    have hmc := mc_yX11_fill
    exact va_runSN (As := [.ref (ad' 15), .int 48, .int 72, .int (-1)]) (rest := []) (Ts := WS) ⟨hC.1, hC.2.1, hC.2.2.1, hC.2.2.2.1, hC.2.2.2.2.1⟩ (kX11_fill (X_l X) (Dl := [15]) (r0 := 15) ⟨List.mem_singleton.mpr rfl, lay_15⟩ 48 72 (-1) (fun _ _ => 0) 0 σ1 hf (X_D X) (X_cI X) (X_cS X) ad' H.size) ⟨va_cnB 4 hC.2.2.2.2.1 (WS_good hmc.1) rfl rfl rfl (hC.2.2.2.2.2.2.1.2.2.1 _ hli) (hC.2.2.2.2.1 _ hmc.2.1) hmc.2.2.2 (by rw [hR]; exact hRd), hC.2.2.2.2.1 _ hstt, trivial⟩ ⟨pre_blind, hpre⟩ rfl rfl h.1 (by rw [h15]; rfl) (lv_room (st := []) (Nat.zero_le _)) hd ⟨by rw [hR]; exact hRc, by rw [hR]; exact hRs⟩
  refine va_callv (a := ([Value.ref (ad' 15), .int 48, .int 72, .int (-1)]).toArray) hrun hS (fun z _ hz => hfree z hz) hfree (fun u t H2 locs2 ht hvm hw hB hz2 hk2 hS2 => ?_)
  have hP2 : va_P (X_D X) vwCl (wsOf (X_cI X) (X_cS X) ad' σ1 [15]) t.heap := hB
  rw [ht, hwo, hσ] at hP2
  have hne : h0 ≠ q := fun e => absurd (hD.1 0 1 _ _ rfl rfl e) (by decide)
  refine k H2 locs2 la ?_ ?_ hS2 h
  · intro k0 x hx
    cases k0 with
    | zero =>
      cases hx
      refine (hP 0 _ rfl).kept (hk2 h0 (hP 0 _ rfl).lt (fun hz => ?_))
      rw [hwo] at hz
      rcases hz with ⟨k1, e1, hk1⟩ | hz
      · cases k1 with
        | zero => cases hk1; exact hne rfl
        | succ k1 => simp at hk1
      · exact absurd (hP 0 _ rfl).lt (Nat.not_lt.mpr hz)
    | succ k1 =>
      cases k1 with
      | zero => cases hx; exact hP2 0 _ rfl
      | succ k2 => simp at hx
  · refine ⟨fun i j p r hi hj e => ?_, fun i p hi => ?_⟩
    · match i, j with
      | 0, 0 => rfl
      | 1, 1 => rfl
      | 0, 1 => cases hi; cases hj; exact absurd e hne
      | 1, 0 => cases hi; cases hj; exact absurd e.symm hne
      | 0, _ + 2 => simp at hj
      | 1, _ + 2 => simp at hj
      | _ + 2, _ => simp at hi
    · match i with
      | 0 => cases hi; exact hD.2 0 _ rfl
      | 1 => cases hi; exact hqA
      | _ + 2 => simp at hi
theorem zi_ret {h0 b len ci : Nat} {fs0 : List Value} {a : Nat → Nat} (hC : CtI X own cc R) (hR : RI X) (hA : X_A X = va_A [(h0, .inr (ci, fs0))] (X_H0 X).size) (hab : a b = h0) (hst : ∀ k, 1000 ≤ k → a k = X_ad X k) (hw : ws = wsOf (X_cI X) (X_cS X) a sgI (List.range' b len)) (hd : decode cc pc = .ok (.return_, 1)) : Zi X (MQ (X_below X) (va_Qv (fun a : Nat → Nat => a b = h0 ∧ ∀ k, 1000 ≤ k → a k = X_ad X k) (fun a t => va_P (X_D X) vwCl (wsOf (X_cI X) (X_cS X) a sgI (List.range' b len)) t.heap ∧ va_D (va_A [(h0, .inr (ci, fs0))] (X_H0 X).size) (wsOf (X_cI X) (X_cS X) a sgI (List.range' b len))) (va_A [(h0, .inr (ci, fs0))] (X_H0 X).size)) (X_args X) (X_s X) mc ms (va_A [(h0, .inr (ci, fs0))] (X_H0 X).size)) mc ms ws pc ls [] := fun H locs la hP hD hS h => by
  subst hw
  rw [hA] at hD hS
  have hS' := hS
  have hH0 := hC.2.2.2.2.2.2.2.2.2.1
  have hF : ∀ t : State, t.heap = H → va_F (va_A [(h0, .inr (ci, fs0))] (X_H0 X).size) (X_s X) t := by
    intro t ht
    rw [hH0] at hS' ⊢
    exact hS'.F ht
  exact W.vret hC.1 hC.2.1 hR.2.1 (fun t ht hW => ⟨⟨a, rfl, ⟨hab, hst⟩, by rw [ht]; exact hP, hD⟩, hF t ht⟩) hS.2.2 hd hR.2.2
theorem zi_newa' {hd0 : Nat × va_E} {n : Int32} {N : Nat} (hC : CtI X own cc R) (harr : Cond.arrayClass .int ∈ WS) (hn : ¬ n < 0) (hN : n.toNatClampNeg = N) (hb : N * componentBytes .int ≤ 536870912) (hRc : mc + 1 ≤ R.cells) (hRs : ms + N ≤ R.slots) (hd : decode cc pc = .ok (.newarray .int, 2))
    (k : ∀ q : Nat, Zi X Q (mc + 1) (ms + N) (hd0 :: (rest ++ [(q, .inl (X_cI X, (N, .inl (fun _ => 0))))])) (pc + 2) ls (.ref q :: st)) : Zi X Q mc ms (hd0 :: rest) pc ls (.int n :: st) := zi_newa hC harr hn hN hb hRc hRs hd k
theorem zi_newq' {hd0 : Nat × va_E} {n : Int32} {N index : Nat} (hC : CtI X own cc R) (hlk : Cond.classLink own index "java/lang/String" ∈ WS) (hn : ¬ n < 0) (hN : n.toNatClampNeg = N) (hb : N * 4 ≤ 536870912) (hRc : mc + 1 ≤ R.cells) (hRs : ms + N ≤ R.slots) (hd : decode cc pc = .ok (.anewarray index, 3))
    (k : ∀ q : Nat, Zi X Q (mc + 1) (ms + N) (hd0 :: (rest ++ [(q, .inl ((X_cS X).1, (N, .inr (.inr (.inr (.inr (qs (X_ad X) []))))))) ])) (pc + 3) ls (.ref q :: st)) : Zi X Q mc ms (hd0 :: rest) pc ls (.int n :: st) := zi_newq hC hlk hn hN hb hRc hRs hd (by simp only [qs_nil] at k; exact k)
theorem zi_new' {hd0 : Nat × va_E} {y : MethodName} {bytes : ByteArray} {cl : String} {T : u_T} {N ci ik ic b len d' mc' ms' maxL : Nat} {fs : List Value} {ty : Nat → FieldType} (hC : CtI X own cc R) (hcl : vwCl[ci]? = some (cl, T, N)) (hin : ∀ w ∈ u_ws cl T N, w ∈ WS) (hty : ∀ k, k < N → parseFieldDescriptor (T k).2.2.1 = some (ty k)) (hlk : Cond.classLink own ik cl ∈ WS) (hins : Cond.instantiable cl N ∈ WS) (hini : Cond.initialized cl ∈ WS) (hfs : ∀ j, j < N → defaultValue (ty j) = vp_V fs j)
    (hM : ∀ h0, CI (X_l X) y bytes maxL d' mc' ms' h0 b len ci fs) (hmc : MC y bytes maxL none 0) (hy1 : y.name = "<init>") (hyi : Cond.instanceMethod y ∈ WS) (hcall : (Cond.methodLink own ic y ∈ WS) ∨ ∃ host, Cond.methodLinkNest own ic y host ∈ NW) (hRd : d' + 1 ≤ R.frames ∧ 8 + (maxL + 11) + 48 * d' ≤ R.locals) (hRc : mc + 1 + mc' ≤ R.cells) (hRs : ms + N + ms' ≤ R.slots) (hcat : (st.map fun v => v.category).sum ≤ 7)
    (d0 : decode cc pc = .ok (.new ik, 3)) (d3 : decode cc (pc + 3) = .ok (.dup, 1)) (d4 : decode cc (pc + 4) = .ok (.invokespecial ic, 3))
    (k : ∀ a : Nat → Nat, (∀ k, 1000 ≤ k → a k = X_ad X k) → Zi X Q (mc + 1 + mc') (ms + N + ms') (hd0 :: (rest ++ wsOf (X_cI X) (X_cS X) a sgI (List.range' b len))) (pc + 7) ls (.ref (a b) :: st)) : Zi X Q mc ms (hd0 :: rest) pc ls st := zi_new hC hcl hin hty hlk hins hini hfs hM hmc hy1 hyi hcall hRd hRc hRs hcat d0 d3 d4 k
end ZI
theorem ci_of {l : Launch} {y : MethodName} {cc : ByteArray} {maxL d mc ms h0 b len ci : Nat} {fs0 : List Value} (hy : plainName y.cls = true) (hy1 : y.name = "<init>") (hsz : 1 ≤ maxL)
    (body : ∀ X : KX, CtI X y.cls cc (rmI d mc ms) → RI X → X_l X = l → X_nL X = maxL → X_A X = va_A [(h0, .inr (ci, fs0))] (X_H0 X).size → Zi X (MQ (X_below X) (va_Qv (fun a : Nat → Nat => a b = h0 ∧ ∀ k, 1000 ≤ k → a k = X_ad X k) (fun a t => va_P (X_D X) vwCl (wsOf (X_cI X) (X_cS X) a sgI (List.range' b len)) t.heap ∧ va_D (va_A [(h0, .inr (ci, fs0))] (X_H0 X).size) (wsOf (X_cI X) (X_cS X) a sgI (List.range' b len))) (va_A [(h0, .inr (ci, fs0))] (X_H0 X).size)) (X_args X) (X_s X) mc ms (va_A [(h0, .inr (ci, fs0))] (X_H0 X).size)) 0 0 [(h0, .inr (ci, fs0))] 0 [(0, .ref h0)] []) : CI l y cc maxL d mc ms h0 b len ci fs0 := by
  intro D cI cS ad sz
  refine Met.ofW (cc := cc) (maxL := maxL) (ret := none) hy rfl ?_
  intro p e s m args below meth c s₁ B hml hv
  obtain ⟨rfl, hsz', hP, hK, hD0, hE, hAO⟩ := hv
  subst hsz'
  have hts := atoms_spec (ws := wsC y cc maxL none) B.pre
  have hl := lv_entry [.ref h0] (n := maxL) (by show 1 ≤ maxL; exact hsz)
  rw [lg_entry_eq]
  generalize (lg_sl [Value.ref h0] ++ List.replicate (maxL - (lg_sl [Value.ref h0]).length) Slot.unset).toArray = la at hl ⊢
  have hin : meth.name = "<init>" := (name_of_methodNamed B.named B.method).1.trans hy1
  have key := body ((p, l, e, rmI d mc ms, s), (m, ([Value.ref h0]).toArray, below, meth, c), (va_A [(h0, .inr (ci, fs0))] s.heap.size, s.heap, maxL, D, cI, cS, ad, []))
    ⟨B.exec, B.bytes, hml, findClass_of_methodNamed B.named, fun w hw => hts w (List.mem_cons_of_mem _ hw), rfl, hK, fun q hq => Or.inr hq, hE, rfl, hAO⟩ ⟨hin, B.returns, B.notSynchronized⟩ rfl rfl rfl
  exact key s.heap [] la hP hD0.self va_S.rf hl
def refsOf (k : Nat) : List Nat := match LAY k with
  | .inl (_, fs) => fs.filterMap id
  | .inr (.inr (.inl rs)) => rs
  | _ => []
theorem wsOf_congr {cI : ClassId} {cS : ClassId × ClassId} {a a' : Nat → Nat} {σ : St} {L : List Nat} (h : ∀ k ∈ L, a k = a' k) (hr : ∀ k ∈ L, ∀ r ∈ refsOf k, r ∈ L) : wsOf cI cS a σ L = wsOf cI cS a' σ L := by
  refine List.map_congr_left (fun k hk => ?_)
  rw [h k hk]
  congr 1
  have hr' := hr k hk
  unfold refsOf at hr'
  unfold cellOf
  split
  · rename_i ci fs hL
    rw [hL] at hr'
    congr 2
    refine List.map_congr_left (fun j hj => ?_)
    split
    · rename_i r hj'
      rw [h r (hr' r (List.mem_filterMap.mpr ⟨some r, List.mem_of_getElem? hj', rfl⟩))]
    · rfl
  · rfl
  · rename_i rs hL
    rw [hL] at hr'
    have e : (fun i : Nat => (rs[i]?).map a) = fun i : Nat => (rs[i]?).map a' := by
      funext i
      cases hi : rs[i]? with
      | none => rfl
      | some r => simp [h r (hr' r (List.mem_of_getElem? hi))]
    rw [e]
  · rfl
theorem ct_app {cI : ClassId} {cS : ClassId × ClassId} {a : Nat → Nat} {L M : List Nat} {ws P : va_W} (h1 : ws = wsOf cI cS a sgI L) (h2 : P = wsOf cI cS a sgI M) : ws ++ P = wsOf cI cS a sgI (L ++ M) := by
  rw [h1, h2, wsOf, wsOf, wsOf, List.map_append]
theorem ct_cons {cI : ClassId} {cS : ClassId × ClassId} {a : Nat → Nat} {b h0 ci : Nat} {fl : List (Option Nat)} {fs : List Value} {L L' : List Nat} {ws : va_W} (hL : LAY b = .inl (ci, fl)) (hb : a b = h0) (hf : fvals a (sgI b) fl = fs) (hr : L' = b :: L) (h : ws = wsOf cI cS a sgI L) : (h0, .inr (ci, fs)) :: ws = wsOf cI cS a sgI L' := by
  subst hr
  subst hf
  subst hb
  rw [h]
  show _ = (a b, cellOf cI cS a sgI b) :: _
  rw [cellOf, hL]
  rfl
theorem ct_arr {cI : ClassId} {cS : ClassId × ClassId} {a : Nat → Nat} {s q n : Nat} {f : Nat → Int32} (hL : LAY s = .inr (.inl n)) (hq : a s = q) (hf : sgI s = f) : [(q, .inl (cI, (n, .inl f)))] = wsOf cI cS a sgI [s] := by
  show _ = [(a s, cellOf cI cS a sgI s)]
  rw [cellOf, hL, hq, hf]
theorem ct_str {cI : ClassId} {cS : ClassId × ClassId} {a ad : Nat → Nat} {s q n : Nat} {rs : List Nat} (hL : LAY s = .inr (.inr (.inl rs))) (hq : a s = q) (hn : rs.length = n) (hf : ∀ r ∈ rs, a r = ad r) : [(q, .inl (cS.1, (n, .inr (.inr (.inr (.inr (qs ad rs)))))))] = wsOf cI cS a sgI [s] := by
  show _ = [(a s, cellOf cI cS a sgI s)]
  rw [cellOf, hL, hq, ← hn]
  have : qs ad rs = fun i => (rs[i]?).map a := by
    funext i
    rw [qs]
    cases hi : rs[i]? with
    | none => rfl
    | some r => simp [hf r (List.mem_of_getElem? hi)]
  rw [this]
theorem ct_tree {cI : ClassId} {cS : ClassId × ClassId} {a a' : Nat → Nat} {s len : Nat} (h : ∀ k, s ≤ k → k < s + len → a' k = a k) (hr : ∀ k ∈ List.range' s len, ∀ r ∈ refsOf k, r ∈ List.range' s len) : wsOf cI cS a sgI (List.range' s len) = wsOf cI cS a' sgI (List.range' s len) :=
  (wsOf_congr (fun k hk => by obtain ⟨h1, h2⟩ := List.mem_range'_1.mp hk; exact h k h1 h2) hr).symm
