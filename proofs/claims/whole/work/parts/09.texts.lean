/-! ===== texts: the constants' slots are 1000 and on ===== -/
def isStr (t : Nat) : Prop := 1000 ≤ t ∧ t < 1000 + STRT.length
def strLen (t : Nat) : Int32 := Int32.ofNat (STRL.getD (t - 1000) 0)
def strAt (t i : Nat) : Int32 := (STRB.getD (t - 1000) []).getD i 0
def RSL (k i : Nat) : Nat := match LAY k with
  | .inr (.inr (.inl rs)) => rs.getD i 1000
  | _ => 1000
theorem str_is (t : Nat) (h : 1000 ≤ t ∧ t < 1000 + STRT.length) : isStr t := h
theorem rs_70 : ∀ i, i < 7 → isStr (RSL 70 i) := by
  intro i hi
  have : (List.range 7).all (fun i => decide (1000 ≤ RSL 70 i ∧ RSL 70 i < 1000 + STRT.length)) = true := by decide +kernel
  have h2 : 1000 ≤ RSL 70 i ∧ RSL 70 i < 1000 + STRT.length := of_decide_eq_true (List.all_eq_true.mp this i (List.mem_range.mpr hi))
  exact h2
theorem rsl_str {k n : Nat} {i : Int32} (h : ∀ i, i < n → isStr (RSL k i)) (hz : 0 ≤ i.toInt ∧ i.toInt < n) : isStr (RSL k i.toNatClampNeg) := by
  refine h _ ?_
  have h1 : (i.toNatClampNeg : Int) = i.toInt := by
    have := hz.1
    simp only [Int32.toNatClampNeg]
    omega
  omega
section STRS
variable {α : Type} {X : KX} {QF : α → St → State → Prop} {x : Nat} {σ : St} {pc : Nat} {ls : List (Nat × Value)} {st st1 : List Value} {r r1 r2 : Option (α × St)} {own : String} {cc : ByteArray} {Dl : List Nat} {d xm : Nat}
theorem zr_ldcS {index t : Nat} (hC : Ctx X own cc Dl d xm) (hd : decode cc pc = .ok (.ldc index, 2)) (hw : (own, index, t) ∈ STRW) (k : Zr X QF x σ (pc + 2) ls (.ref (X_ad X (1000 + t)) :: st) r) : Zr X QF x σ pc ls st r := fun o σ' e H locs la hP hS h =>
  va_ldcS hC.1 hC.2.1 hC.2.2.2.1 (hC.2.2.2.2.2.2.2.1.2.1 _ hw) hd (k o σ' e H locs la hP hS h)
theorem ldcwString {p : Program} {l : Launch} {e : Env} {R : Room} {s : State} {m : MethodId} {args : Array Value} {below : List Frame} {meth : Method} {c : Code} {T : State} {locs : List Loc} {cells slots : Nat}
    (X : Stand p l e R s m args below meth c T locs cells slots) (hexec : p.tables.exec = Jvm.exec) {own text : String} {index : Nat} {a : Addr} (hown : s.vm.findClass own = some m.cls)
    (hconst : (Cond.stringRef own index text).before args s = true) (hev : (Term.string own index).eval args s none [] s = some (.ref a)) {g : JFrame} (hg : g.method = m) (hdg : decode c.code g.pc = .ok (.ldc_w index, 3)) :
    ∀ target, Steps p.tables e below (T.setTop { g with pc := g.pc + 3, stack := .ref a :: g.stack }) target → Steps p.tables e below (T.setTop g) target := by
  obtain ⟨k, cf, i, a', hk, hcf, hcp, -, hr, hev'⟩ := Cond.stringRef_spec hown hconst
  cases hev.symm.trans hev'
  obtain ⟨k', hk', he⟩ := X.warmed.alike.2.2 _ _ hk
  have hr' : k'.resolved[index]? = some (some (.string a)) := by
    rcases X.warmed.entry hk hk' index with h | ⟨h, -⟩
    · rw [h]; exact hr
    · rw [hr] at h; cases h
  intro target hrest
  subst hg
  jvm_step X.here [hexec, hdg, ldc_w.wp_string (e := e) (s := T) (f := g) X.here.top hk' (by rw [he]; exact hcf) hcp hr']
  exact hrest
theorem zr_ldcSw {index t : Nat} (hC : Ctx X own cc Dl d xm) (hd : decode cc pc = .ok (.ldc_w index, 3)) (hw : (own, index, t) ∈ STRW) (k : Zr X QF x σ (pc + 3) ls (.ref (X_ad X (1000 + t)) :: st) r) : Zr X QF x σ pc ls st r := fun o σ' e H locs la hP hS h => by
  intro T hT XX
  obtain ⟨t1, a1, b1⟩ := k o σ' e H locs la hP hS h T hT XX
  have hZ := hC.2.2.2.2.2.2.2.1.2.1 _ hw
  exact ⟨t1, ldcwString XX hC.1 hC.2.2.2.1 (text := STRT.getD t "") (a := X_ad X (1000 + t)) hZ.1 hZ.2 (g := F0 (X_m X) pc la st) rfl (by rw [hC.2.1]; exact hd) t1 a1, b1⟩
theorem zr_aldS {k0 : Nat} {rs : List Nat} {i : Int32} (hC : Ctx X own cc Dl d xm) (hk : k0 ∈ Dl) (hL : LAY k0 = .inr (.inr (.inl rs))) (hd : decode cc pc = .ok (.aaload, 1))
    (k : (0 ≤ i.toInt ∧ i.toInt < rs.length) → Zr X QF x σ (pc + 1) ls (.ref (X_ad X (RSL k0 i.toNatClampNeg)) :: st) r) : Zr X QF x σ pc ls (.int i :: .ref (X_ad X k0) :: st) (if 0 ≤ i.toInt ∧ i.toInt < rs.length then r else none) := fun o σ' e H locs la hP hS h => by
  by_cases hc : 0 ≤ i.toInt ∧ i.toInt < rs.length
  · rw [if_pos hc] at e
    obtain ⟨q0, hq, hg⟩ := wsOf_get (cI := X_cI X) (cS := X_cS X) (ad := X_ad X) (σ := σ) hk
    have hce : cellOf (X_cI X) (X_cS X) (X_ad X) σ k0 = .inl ((X_cS X).1, (rs.length, .inr (.inr (.inr (.inr (fun i => (rs[i]?).map (X_ad X))))))) := by unfold cellOf; rw [hL]
    rw [hce] at hg
    have hP' := hP
    rw [hC.2.2.2.2.2.1] at hP'
    have h1 : (i.toNatClampNeg : Int) = i.toInt := by
      have := hc.1
      simp only [Int32.toNatClampNeg]
      omega
    have h2 : i.toNatClampNeg < rs.length := by omega
    have h3 : va_rf ((rs[i.toNatClampNeg]?).map (X_ad X)) = .ref (X_ad X (RSL k0 i.toNatClampNeg)) := by
      unfold RSL
      rw [hL]
      simp [List.getElem?_eq_getElem h2, va_rf]
    refine va_aldq (D := X_D X) (cl := vwCl) hC.1 hC.2.1 hC.2.2.2.2.2.2.2.1.1 hP' q0 1 hg rfl (vp_in_iff.mpr hc) hd ?_
    rw [h3]
    exact k hc o σ' e H locs la hP hS h
  · rw [if_neg hc] at e; cases e
theorem zr_alenS {k0 : Nat} {rs : List Nat} (hC : Ctx X own cc Dl d xm) (hk : k0 ∈ Dl) (hL : LAY k0 = .inr (.inr (.inl rs))) (hd : decode cc pc = .ok (.arraylength, 1))
    (k : Zr X QF x σ (pc + 1) ls (.int (Int32.ofNat rs.length) :: st) r) : Zr X QF x σ pc ls (.ref (X_ad X k0) :: st) r := fun o σ' e H locs la hP hS h => by
  obtain ⟨q0, hq, hg⟩ := wsOf_get (cI := X_cI X) (cS := X_cS X) (ad := X_ad X) (σ := σ) hk
  have hce : cellOf (X_cI X) (X_cS X) (X_ad X) σ k0 = .inl ((X_cS X).1, (rs.length, .inr (.inr (.inr (.inr (fun i => (rs[i]?).map (X_ad X))))))) := by unfold cellOf; rw [hL]
  rw [hce] at hg
  have hP' := hP
  rw [hC.2.2.2.2.2.1] at hP'
  exact va_alen (D := X_D X) (cl := vwCl) hC.1 hC.2.1 hC.2.2.2.2.2.2.2.1.1 hP' q0 1 hg rfl rfl hd (k o σ' e H locs la hP hS h)
theorem zr_vkS (hC : Ctx X own cc Dl d xm) : vk_S STRT.length STRL STRB (fun i => X_ad X (1000 + i)) (fun i => X_ad X (2000 + i)) (X_A X) (X_s X) (X_s X).heap := by
  have := hC.2.2.2.2.2.2.2.2.2.2.1.1
  rw [hC.2.2.2.2.2.2.2.2.2.2.2] at this
  exact this
theorem zr_SS (hC : Ctx X own cc Dl d xm) {H : Heap} {locs : List Loc} (hS : va_S (X_A X) (X_H0 X) H locs) : va_S (X_A X) (X_s X).heap H locs := by
  rw [hC.2.2.2.2.2.2.2.2.2.2.2] at hS
  exact hS
/-- in the JDK's own code: what a text's fields hold -/
theorem zr_jval {t index : Nat} (hC : Ctx X own cc Dl d xm) (ht : t < STRT.length) (hw : Cond.fieldLink own index "java/lang/String" "value" "[B" ∈ WS) (hd : decode cc pc = .ok (.getfield index, 3)) (k : Zr X QF x σ (pc + 3) ls (.ref (X_ad X (2000 + t)) :: st) r) : Zr X QF x σ pc ls (.ref (X_ad X (1000 + t)) :: st) r := fun o σ' e H locs la hP hS h =>
  vk_getf hC.1 hC.2.1 ((zr_vkS hC).1 t ht).2.2.1 (zr_SS hC hS) hC.2.2.2.1 (hC.2.2.2.2.1 _ hw) (fun _ h9 => h9) hd (k o σ' e H locs la hP hS h)
theorem zr_jcod {t index : Nat} (hC : Ctx X own cc Dl d xm) (ht : t < STRT.length) (hw : Cond.fieldLink own index "java/lang/String" "coder" "B" ∈ WS) (hd : decode cc pc = .ok (.getfield index, 3)) (k : Zr X QF x σ (pc + 3) ls (.int 0 :: st) r) : Zr X QF x σ pc ls (.ref (X_ad X (1000 + t)) :: st) r := fun o σ' e H locs la hP hS h =>
  vk_getf hC.1 hC.2.1 ((zr_vkS hC).1 t ht).2.1 (zr_SS hC hS) hC.2.2.2.1 (hC.2.2.2.2.1 _ hw) (fun _ h9 => h9) hd (k o σ' e H locs la hP hS h)
theorem zr_jcom {index : Nat} (hC : Ctx X own cc Dl d xm) (hw : Cond.fieldLink own index "java/lang/String" "COMPACT_STRINGS" "Z" ∈ WS) (hd : decode cc pc = .ok (.getstatic index, 3)) (k : Zr X QF x σ (pc + 3) ls (.int 1 :: st) r) : Zr X QF x σ pc ls st r := fun o σ' e H locs la hP hS h => by
  have hE := hC.2.2.2.2.2.2.2.2.2.2.1.2.2.2.1
  rw [hC.2.2.2.2.2.2.2.2.2.2.2] at hE
  exact va_gets hC.1 hC.2.1 hE (zr_SS hC hS) hC.2.2.2.1 (hC.2.2.2.2.1 _ hw) (fun _ h9 => h9) hd (k o σ' e H locs la hP hS h)
theorem zr_jfmt {index : Nat} (hC : Ctx X own cc Dl d xm) (hw : Cond.fieldLink own index "jdk/internal/util/Preconditions" "SIOOBE_FORMATTER" "Ljava/util/function/BiFunction;" ∈ WS) (hd : decode cc pc = .ok (.getstatic index, 3)) (k : ∀ v : Value, (v = .null ∨ ∃ a, v = .ref a) → Zr X QF x σ (pc + 3) ls (v :: st) r) : Zr X QF x σ pc ls st r := fun o σ' e H locs la hP hS h => by
  have hE := hC.2.2.2.2.2.2.2.2.2.2.1.2.2.2.2
  rw [hC.2.2.2.2.2.2.2.2.2.2.2] at hE
  rcases hE with hE | ⟨t, hE⟩
  · exact va_gets hC.1 hC.2.1 hE (zr_SS hC hS) hC.2.2.2.1 (hC.2.2.2.2.1 _ hw) (fun _ h9 => h9) hd (k _ (Or.inl rfl) o σ' e H locs la hP hS h)
  · exact va_gets hC.1 hC.2.1 hE (zr_SS hC hS) hC.2.2.2.1 (hC.2.2.2.2.1 _ hw) (fun _ h9 => h9) hd (k _ (Or.inr ⟨t, rfl⟩) o σ' e H locs la hP hS h)
theorem zr_jlen {t : Nat} (hC : Ctx X own cc Dl d xm) (ht : t < STRT.length) (hd : decode cc pc = .ok (.arraylength, 1)) (k : Zr X QF x σ (pc + 1) ls (.int (Int32.ofNat (STRL.getD t 0)) :: st) r) : Zr X QF x σ pc ls (.ref (X_ad X (2000 + t)) :: st) r := fun o σ' e H locs la hP hS h =>
  va_tlen hC.1 hC.2.1 ((zr_vkS hC).1 t ht).2.2.2 (zr_SS hC hS) rfl hd (k o σ' e H locs la hP hS h)
theorem zr_jbyt {t : Nat} {i : Int32} (hC : Ctx X own cc Dl d xm) (ht : t < STRT.length) (hi : 0 ≤ i.toInt ∧ i.toInt < (STRL.getD t 0 : Nat)) (hd : decode cc pc = .ok (.baload, 1)) (k : Zr X QF x σ (pc + 1) ls (.int ((STRB.getD t []).getD i.toNatClampNeg 0) :: st) r) : Zr X QF x σ pc ls (.int i :: .ref (X_ad X (2000 + t)) :: st) r := fun o σ' e H locs la hP hS h =>
  va_tb hC.1 hC.2.1 ((zr_vkS hC).1 t ht).2.2.2 (zr_SS hC hS) (vp_in_iff.mpr hi) rfl hd (k o σ' e H locs la hP hS h)
theorem zr_i2c {v : Int32} (hC : Ctx X own cc Dl d xm) (hd : decode cc pc = .ok (.i2c, 1)) (k : Zr X QF x σ (pc + 1) ls (.int (v.toUInt32 % 65536).toInt32 :: st) r) : Zr X QF x σ pc ls (.int v :: st) r := fun o σ' e H locs la hP hS h => lv_i2c hC.1 hC.2.1 hd rfl (k o σ' e H locs la hP hS h)
/-- a call of a method of a constant text -/
theorem zr_callT {y : MethodName} {bytes : ByteArray} {maxL d' n index t : Nat} {ty : FieldType} {As : (Nat → Nat) → List Value} {f : Option (Int32 × St)} {k : Int32 → St → Option (α × St)} (hC : Ctx X own cc Dl d xm) (hxm : x ≤ xm) (ht : t < STRT.length) (hM : CN (X_l X) y bytes maxL (some ty) d' Dl (fun ad => .ref (ad (1000 + t)) :: As ad) σ f) (hd' : d' + 1 ≤ d) (hmc : MC y bytes maxL (some ty) n) (hli : Cond.methodLink own index y ∈ WS) (hin : Cond.instanceMethod y ∈ WS) (hse : Cond.selects y.cls y y ∈ WS) (hcy : y.cls = "java/lang/String") (hAs : (As (X_ad X)).length = n) (hst : st = (As (X_ad X)).reverse ++ .ref (X_ad X (1000 + t)) :: st1) (hcat : (st1.map fun v => v.category).sum ≤ 8) (hdg : decode cc pc = .ok (.invokevirtual index, 3))
    (kk : ∀ (v : Int32) (σ1 : St), Zr X QF x σ1 (pc + 3) ls (.int v :: st1) (k v σ1)) : Zr X QF x σ pc ls st (bd f k) := fun o σ' e H locs la hP hS h => by
  refine zr_afteri (ty := ty) (a := (Value.ref (X_ad X (1000 + t)) :: As (X_ad X)).toArray) hC hS h e (fun v σ1 hf => ?_) kk
  have hrec := vk_recv (i := t) (zr_vkS hC) ht (zr_SS hC hS)
  rw [← hcy] at hrec
  have hT : GoodIn WS (wsV own index y.cls y (wsC y bytes maxL (some ty))) := by
    intro w hwm
    rcases List.mem_append.mp hwm with e | e
    · have := vWi hli hin hse hmc.2.1 w e
      exact ⟨this, good_of_word (List.mem_filter.mp this).2⟩
    · exact WS_good hmc.1 w e
  exact va_runV (As := As (X_ad X)) (rest := st1) (Ts := WS) ⟨hC.1, hC.2.1, hC.2.2.1, hC.2.2.2.1, hC.2.2.2.2.1⟩ (hM v σ1 hf (X_D X) (X_cI X) (X_cS X) (X_ad X) H.size) (cwV n hC.2.2.2.2.1 hT rfl rfl rfl ⟨rfl, hmc.2.2.2⟩ (room_of hC hd' hmc.2.2.1)) ⟨pre_blind, hrec, fun U hU hW => ⟨rfl, pre_of hC hP hS hU hW⟩⟩ rfl hAs h.1 hst (lv_room hcat) hdg ⟨by rw [hC.2.2.2.2.2.2.1]; simp only [rmK]; omega, by rw [hC.2.2.2.2.2.2.1]; simp only [rmK]; omega⟩
/-- a static method of another class -/
theorem zr_runO {y : MethodName} {bytes : ByteArray} {maxL d' n index : Nat} {ret : Option FieldType} {As : (Nat → Nat) → List Value} {f : Option (Int32 × St)} (hC : Ctx X own cc Dl d xm) (hxm : x ≤ xm) (hM : CN (X_l X) y bytes maxL ret d' Dl As σ f) (hd' : d' + 1 ≤ d) (hmc : MC y bytes maxL ret n) (hli : Cond.methodLink own index y ∈ WS) (hstt : Cond.static y ∈ WS) (hAs : (As (X_ad X)).length = n) (hst : st = (As (X_ad X)).reverse ++ st1) (hcat : (st1.map fun v => v.category).sum ≤ 8) (hdg : decode cc pc = .ok (.invokestatic index, 3))
    {H : Heap} {locs : List Loc} {la : Array Slot} (hP : va_P (X_D X) vwCl (wsOf (X_cI X) (X_cS X) (X_ad X) σ (X_Dl X)) H) (hS : va_S (X_A X) (X_H0 X) H locs) (h : lv_has la (X_nL X) ls) :
    ∀ (v : Int32) (σ1 : St), f = some (v, σ1) → va_Run (X_p X) (X_l X) (X_e X) (X_R X) (X_s X) (X_m X) (X_args X) (X_below X) (X_meth X) (X_c X) H locs x (6 * x) 0 0 (F0 (X_m X) pc la st) st1 (qcN ret v (postU (X_D X) (X_cI X) (X_cS X) (X_ad X) σ1 Dl) (va_A (wsOf (X_cI X) (X_cS X) (X_ad X) (fun _ _ => 0) Dl) H.size) (As (X_ad X)).toArray) (va_A (wsOf (X_cI X) (X_cS X) (X_ad X) (fun _ _ => 0) Dl) H.size) := by
  intro v σ1 hf
  exact va_runS (As := As (X_ad X)) (rest := st1) (Ts := WS) ⟨hC.1, hC.2.1, hC.2.2.1, hC.2.2.2.1, hC.2.2.2.2.1⟩ (hM v σ1 hf (X_D X) (X_cI X) (X_cS X) (X_ad X) H.size) ⟨callB_of n hC.2.2.2.2.1 (WS_good hmc.1) rfl rfl rfl (hC.2.2.2.2.1 _ hmc.2.1) (hC.2.2.2.2.1 _ hli) hmc.2.2.2 (room_of hC hd' hmc.2.2.1), hC.2.2.2.2.1 _ hstt⟩ ⟨pre_blind, fun U hU hW => ⟨rfl, pre_of hC hP hS hU hW⟩⟩ rfl hAs h.1 hst (lv_room hcat) hdg ⟨by rw [hC.2.2.2.2.2.2.1]; simp only [rmK]; omega, by rw [hC.2.2.2.2.2.2.1]; simp only [rmK]; omega⟩
theorem zr_callO {y : MethodName} {bytes : ByteArray} {maxL d' n index : Nat} {ty : FieldType} {As : (Nat → Nat) → List Value} {f : Option (Int32 × St)} {k : Int32 → St → Option (α × St)} (hC : Ctx X own cc Dl d xm) (hxm : x ≤ xm) (hM : CN (X_l X) y bytes maxL (some ty) d' Dl As σ f) (hd' : d' + 1 ≤ d) (hmc : MC y bytes maxL (some ty) n) (hli : Cond.methodLink own index y ∈ WS) (hstt : Cond.static y ∈ WS) (hAs : (As (X_ad X)).length = n) (hst : st = (As (X_ad X)).reverse ++ st1) (hcat : (st1.map fun v => v.category).sum ≤ 8) (hdg : decode cc pc = .ok (.invokestatic index, 3))
    (kk : ∀ (v : Int32) (σ1 : St), Zr X QF x σ1 (pc + 3) ls (.int v :: st1) (k v σ1)) : Zr X QF x σ pc ls st (bd f k) := fun o σ' e H locs la hP hS h =>
  zr_afteri hC hS h e (zr_runO hC hxm hM hd' hmc hli hstt hAs hst hcat hdg hP hS h) kk
theorem zr_callOv {y : MethodName} {bytes : ByteArray} {maxL d' n index : Nat} {As : (Nat → Nat) → List Value} {f : Option (Int32 × St)} {k : Int32 → St → Option (α × St)} (hC : Ctx X own cc Dl d xm) (hxm : x ≤ xm) (hM : CN (X_l X) y bytes maxL none d' Dl As σ f) (hd' : d' + 1 ≤ d) (hmc : MC y bytes maxL none n) (hli : Cond.methodLink own index y ∈ WS) (hstt : Cond.static y ∈ WS) (hAs : (As (X_ad X)).length = n) (hst : st = (As (X_ad X)).reverse ++ st1) (hcat : (st1.map fun v => v.category).sum ≤ 8) (hdg : decode cc pc = .ok (.invokestatic index, 3))
    (kk : ∀ (v : Int32) (σ1 : St), Zr X QF x σ1 (pc + 3) ls st1 (k v σ1)) : Zr X QF x σ pc ls st (bd f k) := fun o σ' e H locs la hP hS h =>
  zr_afterv hC hS h e (zr_runO hC hxm hM hd' hmc hli hstt hAs hst hcat hdg hP hS h) kk
end STRS
