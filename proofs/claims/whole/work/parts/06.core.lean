/-! ===== the abstract machine: layout, state, contexts ===== -/
abbrev St : Type := Nat → Nat → Int32
abbrev Ob : Type := (Nat × List (Option Nat)) ⊕ (Nat ⊕ (List Nat ⊕ Nat))
def LAYL : List Ob := [.inl (11, [some 1, none, none, some 2, some 21, some 32, some 39, none, some 46, some 48, some 51, some 57, some 62, some 65, some 68]),
  .inr (.inl 700),
  .inl (6, [some 3, some 14, none, some 16, none, none, none, none, none]),
  .inl (4, [none, some 4, some 5, some 6, none, some 7, none, some 8, some 9, some 10, none, some 11]),
  .inr (.inl 12),
  .inr (.inl 12),
  .inr (.inl 12),
  .inr (.inl 144),
  .inr (.inl 6),
  .inr (.inl 6),
  .inr (.inl 6),
  .inl (5, [some 12, some 13, none, none]),
  .inr (.inl 700),
  .inr (.inl 64),
  .inl (10, [some 15]),
  .inr (.inl 94),
  .inl (9, [some 17, some 18, some 19, some 20, none]),
  .inr (.inl 701),
  .inr (.inl 701),
  .inr (.inl 701),
  .inr (.inl 701),
  .inl (4, [none, some 22, some 23, some 24, none, some 25, none, some 26, some 27, some 28, none, some 29]),
  .inr (.inl 12),
  .inr (.inl 12),
  .inr (.inl 12),
  .inr (.inl 144),
  .inr (.inl 6),
  .inr (.inl 6),
  .inr (.inl 6),
  .inl (5, [some 30, some 31, none, none]),
  .inr (.inl 700),
  .inr (.inl 64),
  .inl (8, [some 33, some 35, none, none, some 36, some 37, none, some 38]),
  .inl (10, [some 34]),
  .inr (.inl 94),
  .inr (.inl 3760),
  .inr (.inl 4),
  .inr (.inl 4),
  .inr (.inl 3),
  .inl (8, [some 40, some 42, none, none, some 43, some 44, none, some 45]),
  .inl (10, [some 41]),
  .inr (.inl 94),
  .inr (.inl 3760),
  .inr (.inl 4),
  .inr (.inl 4),
  .inr (.inl 3),
  .inl (10, [some 47]),
  .inr (.inl 94),
  .inl (2, [some 49, some 50, none, none, none]),
  .inr (.inl 144),
  .inr (.inl 12),
  .inl (1, [some 52, some 54, some 55, some 56, none, none, none, none]),
  .inl (10, [some 53]),
  .inr (.inl 94),
  .inr (.inl 282),
  .inr (.inl 3),
  .inr (.inl 3),
  .inl (0, [some 58, some 59, none, some 60, some 61, none]),
  .inr (.inl 12),
  .inr (.inl 12),
  .inr (.inl 6),
  .inr (.inl 6),
  .inl (7, [some 63, some 64, none, none, none]),
  .inr (.inl 7),
  .inr (.inl 7),
  .inl (3, [some 66, some 67, none, none, none]),
  .inr (.inl 4),
  .inr (.inl 12),
  .inr (.inl 6),
  .inl (12, [some 70, none, some 71, some 72, some 73, some 74, some 75, some 76, some 77, some 78, some 79, some 80, some 81, some 82, some 83, some 84, some 85, none, some 86, none, none, none, none, none, none, none, none, none, none, some 87, some 88, some 89, none, none, some 90, some 91, some 92, none, none, some 93, some 94, some 95, some 96, some 97, none, some 98, some 99, none, none, some 100, some 101, none, none, some 102, some 103, some 104, some 105, none, none, none, none, some 106, some 107, some 108, some 109, some 110]),
  .inr (.inr (.inl [1000, 1001, 1002, 1003, 1004, 1005, 1006])),
  .inr (.inl 10),
  .inr (.inl 96),
  .inr (.inl 24),
  .inr (.inl 24),
  .inr (.inl 24),
  .inr (.inl 24),
  .inr (.inl 24),
  .inr (.inl 24),
  .inr (.inl 24),
  .inr (.inl 24),
  .inr (.inl 12),
  .inr (.inl 12),
  .inr (.inl 12),
  .inr (.inl 1400),
  .inr (.inl 3),
  .inr (.inl 700),
  .inr (.inl 12),
  .inr (.inl 10),
  .inr (.inl 3800),
  .inr (.inl 7),
  .inr (.inl 64),
  .inr (.inl 12),
  .inr (.inl 12),
  .inr (.inl 12),
  .inr (.inl 380),
  .inr (.inl 3),
  .inr (.inl 3),
  .inr (.inl 12),
  .inr (.inl 12),
  .inr (.inl 7),
  .inr (.inl 7),
  .inr (.inl 4),
  .inr (.inl 4),
  .inr (.inl 12),
  .inr (.inl 95),
  .inr (.inl 95),
  .inr (.inl 3800),
  .inr (.inl 4),
  .inr (.inl 4),
  .inr (.inl 3),
  .inr (.inr (.inr 1))]
def LAY (k : Nat) : Ob := LAYL.getD k (.inr (.inl 0))
def FULL : List Nat := List.range 112
/-- a write of one place -/
def wr (σ : St) (k j : Nat) (v : Int32) : St := fun a b => if a = k ∧ b = j then v else σ a b
/-- a copy of n places -/
def cpy (σ : St) (src sp dst dp n : Nat) : St := fun a b => if a = dst ∧ dp ≤ b ∧ b < dp + n then σ src (sp + (b - dp)) else σ a b
/-- the length of an array of whole numbers -/
def LN (k : Nat) : Nat := match LAY k with
  | .inr (.inl n) => n
  | _ => 0
def bd {α β : Type} (f : Option (α × St)) (k : α → St → Option β) : Option β := match f with
  | none => none
  | some (a, σ) => k a σ
theorem bd_some {α β : Type} (a : α) (σ : St) (k : α → St → Option β) : bd (some (a, σ)) k = k a σ := rfl
theorem bd_none {α β : Type} (k : α → St → Option β) : bd (none : Option (α × St)) k = none := rfl
def fvals (ad : Nat → Nat) (f : Nat → Int32) (fs : List (Option Nat)) : List Value := (List.range fs.length).map (fun j => match fs[j]? with
  | some (some q) => Value.ref (ad q)
  | _ => .int (f j))
def cellOf (cI : ClassId) (cS : ClassId × ClassId) (ad : Nat → Nat) (σ : St) (k : Nat) : va_E := match LAY k with
  | .inl (ci, fs) => .inr (ci, fvals ad (σ k) fs)
  | .inr (.inl n) => .inl (cI, (n, .inl (σ k)))
  | .inr (.inr (.inl rs)) => .inl (cS.1, (rs.length, .inr (.inr (.inr (.inr (fun i => (rs[i]?).map ad))))))
  | .inr (.inr (.inr n)) => .inl (cS.2, (n, .inr (.inl (fun i => (σ k i).toInt64))))
def wsOf (cI : ClassId) (cS : ClassId × ClassId) (ad : Nat → Nat) (σ : St) (Dl : List Nat) : va_W := Dl.map (fun k => (ad k, cellOf cI cS ad σ k))
theorem fvals_len (ad : Nat → Nat) (f : Nat → Int32) (fs : List (Option Nat)) : (fvals ad f fs).length = fs.length := by simp [fvals]
theorem fvals_int {ad : Nat → Nat} {f : Nat → Int32} {fs : List (Option Nat)} {j : Nat} (h : fs[j]? = some none) : (fvals ad f fs)[j]? = some (.int (f j)) := by
  have hj : j < fs.length := (List.getElem?_eq_some_iff.mp h).1
  simp [fvals, List.getElem?_map, List.getElem?_range hj, h]
theorem fvals_ref {ad : Nat → Nat} {f : Nat → Int32} {fs : List (Option Nat)} {j q : Nat} (h : fs[j]? = some (some q)) : (fvals ad f fs)[j]? = some (.ref (ad q)) := by
  have hj : j < fs.length := (List.getElem?_eq_some_iff.mp h).1
  simp [fvals, List.getElem?_map, List.getElem?_range hj, h]
theorem fvals_set {ad : Nat → Nat} {f : Nat → Int32} {fs : List (Option Nat)} {j : Nat} {v : Int32} (h : fs[j]? = some none) : (fvals ad f fs).set j (.int v) = fvals ad (fun b => if b = j then v else f b) fs := by
  have hj : j < fs.length := (List.getElem?_eq_some_iff.mp h).1
  apply List.ext_getElem?
  intro i
  rw [List.getElem?_set]
  by_cases hi : j = i
  · subst hi
    rw [if_pos rfl, if_pos (by rw [fvals_len]; exact hj), fvals_int h]
    simp
  · simp only [hi, if_false]
    by_cases hl : i < fs.length
    · simp only [fvals, List.getElem?_map, List.getElem?_range hl, Option.map_some]
      have hne : ¬ i = j := fun e => hi e.symm
      simp only [hne, if_false]
    · have h1 : (fvals ad f fs)[i]? = none := List.getElem?_eq_none (by rw [fvals_len]; omega)
      have h2 : (fvals ad (fun b => if b = j then v else f b) fs)[i]? = none := List.getElem?_eq_none (by rw [fvals_len]; omega)
      rw [h1, h2]
theorem wsOf_get {cI : ClassId} {cS : ClassId × ClassId} {ad : Nat → Nat} {σ : St} {Dl : List Nat} {k : Nat} (h : k ∈ Dl) : ∃ q0 : Nat, Dl[q0]? = some k ∧ (wsOf cI cS ad σ Dl)[q0]? = some (ad k, cellOf cI cS ad σ k) := by
  obtain ⟨q0, hq⟩ := List.getElem?_of_mem h
  exact ⟨q0, hq, by simp [wsOf, List.getElem?_map, hq]⟩
theorem wsOf_D {A : Nat → Prop} {cI : ClassId} {cS : ClassId × ClassId} {ad : Nat → Nat} {σ σ' : St} {Dl : List Nat} (h : va_D A (wsOf cI cS ad σ Dl)) : va_D A (wsOf cI cS ad σ' Dl) := by
  have key : ∀ (τ : St) (i : Nat) (p : Nat × va_E), (wsOf cI cS ad τ Dl)[i]? = some p → ∃ k, Dl[i]? = some k ∧ p.1 = ad k := by
    intro τ i p hp
    simp only [wsOf, List.getElem?_map, Option.map_eq_some_iff] at hp
    obtain ⟨k, hk, rfl⟩ := hp
    exact ⟨k, hk, rfl⟩
  have back : ∀ (i k : Nat), Dl[i]? = some k → (wsOf cI cS ad σ Dl)[i]? = some (ad k, cellOf cI cS ad σ k) := by
    intro i k hk
    simp [wsOf, List.getElem?_map, hk]
  refine ⟨fun i j p q hi hj e => ?_, fun i p hi => ?_⟩
  · obtain ⟨k1, h1, e1⟩ := key _ _ _ hi
    obtain ⟨k2, h2, e2⟩ := key _ _ _ hj
    exact h.1 i j _ _ (back _ _ h1) (back _ _ h2) (by show ad k1 = ad k2; rw [← e1, ← e2]; exact e)
  · obtain ⟨k1, h1, e1⟩ := key _ _ _ hi
    rw [e1]
    exact h.2 i _ (back _ _ h1)
theorem wsOf_inj {A : Nat → Prop} {cI : ClassId} {cS : ClassId × ClassId} {ad : Nat → Nat} {σ : St} {Dl : List Nat} (h : va_D A (wsOf cI cS ad σ Dl)) {i j k : Nat} (hi : Dl[i]? = some k) (hj : Dl[j]? = some k) : i = j :=
  h.1 i j (ad k, cellOf cI cS ad σ k) (ad k, cellOf cI cS ad σ k) (by simp [wsOf, List.getElem?_map, hi]) (by simp [wsOf, List.getElem?_map, hj]) rfl
/-- a state that differs at one slot -/
theorem wsOf_set {A : Nat → Prop} {cI : ClassId} {cS : ClassId × ClassId} {ad : Nat → Nat} {σ σ' : St} {Dl : List Nat} {k q0 : Nat} (hD : va_D A (wsOf cI cS ad σ Dl)) (hq : Dl[q0]? = some k) (e : ∀ a, a ≠ k → σ' a = σ a) : (wsOf cI cS ad σ Dl).set q0 (ad k, cellOf cI cS ad σ' k) = wsOf cI cS ad σ' Dl := by
  have hl : q0 < Dl.length := (List.getElem?_eq_some_iff.mp hq).1
  apply List.ext_getElem?
  intro i
  rw [List.getElem?_set]
  by_cases hi : q0 = i
  · subst hi
    have h1 : (wsOf cI cS ad σ' Dl)[q0]? = some (ad k, cellOf cI cS ad σ' k) := by simp [wsOf, List.getElem?_map, hq]
    rw [if_pos rfl, if_pos (by simpa [wsOf] using hl), h1]
  · simp only [hi, if_false, wsOf, List.getElem?_map]
    cases hdi : Dl[i]? with
    | none => rfl
    | some a =>
      have hne : a ≠ k := fun e2 => hi (wsOf_inj hD hq (by rw [hdi, e2]))
      have : cellOf cI cS ad σ' a = cellOf cI cS ad σ a := by
        unfold cellOf
        rw [e a hne]
      simp [this]
/-! ===== the judgement ===== -/
abbrev KX : Type := (Program × Launch × Env × Room × State) × (MethodId × Array Value × List Frame × Method × Code) × ((Nat → Prop) × Heap × Nat × va_G × ClassId × (ClassId × ClassId) × (Nat → Nat) × List Nat)
abbrev X_p (X : KX) : Program := X.1.1
abbrev X_l (X : KX) : Launch := X.1.2.1
abbrev X_e (X : KX) : Env := X.1.2.2.1
abbrev X_R (X : KX) : Room := X.1.2.2.2.1
abbrev X_s (X : KX) : State := X.1.2.2.2.2
abbrev X_m (X : KX) : MethodId := X.2.1.1
abbrev X_args (X : KX) : Array Value := X.2.1.2.1
abbrev X_below (X : KX) : List Frame := X.2.1.2.2.1
abbrev X_meth (X : KX) : Method := X.2.1.2.2.2.1
abbrev X_c (X : KX) : Code := X.2.1.2.2.2.2
abbrev X_A (X : KX) : Nat → Prop := X.2.2.1
abbrev X_H0 (X : KX) : Heap := X.2.2.2.1
abbrev X_nL (X : KX) : Nat := X.2.2.2.2.1
abbrev X_D (X : KX) : va_G := X.2.2.2.2.2.1
abbrev X_cI (X : KX) : ClassId := X.2.2.2.2.2.2.1
abbrev X_cS (X : KX) : ClassId × ClassId := X.2.2.2.2.2.2.2.1
abbrev X_ad (X : KX) : Nat → Nat := X.2.2.2.2.2.2.2.2.1
abbrev X_Dl (X : KX) : List Nat := X.2.2.2.2.2.2.2.2.2
abbrev X_W (X : KX) (H : Heap) (locs : List Loc) (x : Nat) (Q : State → Prop) (g : JFrame) : Prop := W (X_p X) (X_l X) (X_e X) (X_R X) (X_s X) (X_m X) (X_args X) (X_below X) (X_meth X) (X_c X) H locs x (6 * x) Q g
/-- from here the machine comes to what the outcome asks, if the program term has one -/
def Zr {α : Type} (X : KX) (QF : α → St → State → Prop) (x : Nat) (σ : St) (pc : Nat) (ls : List (Nat × Value)) (st : List Value) (r : Option (α × St)) : Prop :=
  ∀ (o : α) (σ' : St), r = some (o, σ') → ∀ (H : Heap) (locs : List Loc) (la : Array Slot), va_P (X_D X) vwCl (wsOf (X_cI X) (X_cS X) (X_ad X) σ (X_Dl X)) H → va_S (X_A X) (X_H0 X) H locs → lv_has la (X_nL X) ls → X_W X H locs x (QF o σ') (F0 (X_m X) pc la st)
def rmK (d x : Nat) : Room := { frames := d, cells := x, slots := 6 * x, locals := 48 * d }
/-- the strings: the constants' texts, by their slots 1000 and on -/
def STRT : List String := ["child", "adopted", "spouse", "parent", "sibling", "number", "here", "person", "wed", "will", "field", "front", "law", "or", "and", "not"]
def STRL : List Nat := [5, 7, 6, 6, 7, 6, 4, 6, 3, 4, 5, 5, 3, 2, 3, 3]
def STRB : List (List Int32) := [[99, 104, 105, 108, 100], [97, 100, 111, 112, 116, 101, 100], [115, 112, 111, 117, 115, 101], [112, 97, 114, 101, 110, 116], [115, 105, 98, 108, 105, 110, 103], [110, 117, 109, 98, 101, 114], [104, 101, 114, 101], [112, 101, 114, 115, 111, 110], [119, 101, 100], [119, 105, 108, 108], [102, 105, 101, 108, 100], [102, 114, 111, 110, 116], [108, 97, 119], [111, 114], [97, 110, 100], [110, 111, 116]]
def STRW : List (String × Nat × Nat) := [(RX9, 78, 7), (RX9, 80, 0), (RX9, 82, 1), (RX9, 84, 8), (RX9, 86, 9), (RX9, 88, 10), (RX9, 90, 11), (RX9, 92, 12), (RX9, 58, 13), (RX9, 64, 14), (RX9, 66, 15), (RX9, 68, 2), (RX9, 70, 3), (RX9, 72, 4), (RX9, 74, 5), (RX9, 76, 6), (RX12, 11, 0), (RX12, 13, 1), (RX12, 15, 2), (RX12, 17, 3), (RX12, 19, 4), (RX12, 21, 5), (RX12, 23, 6), (RX12, 288, 11), (RX12, 290, 12), (RX12, 292, 7), (RX12, 267, 15), (RX12, 275, 14), (RX12, 280, 13), (RX12, 297, 8), (RX12, 302, 9), (RX12, 307, 10)]
/-- what the tables say, wherever the heap stands -/
def KU (D : va_G) (cI : ClassId) (cS : ClassId × ClassId) (ad : Nat → Nat) (U : State) : Prop := va_K D vwCl [(cI, .int), (cS.1, .object "java/lang/String"), (cS.2, .long)] U ∧ (∀ q ∈ STRW, vk_R q.1 q.2.1 (STRT.getD q.2.2 "") (ad (1000 + q.2.2)) U) ∧ (∀ w ∈ NW, va_Nw w U) ∧ va_Nc "java/lang/IllegalArgumentException" "java/util/NoSuchElementException" U
/-- what stands in the heap outside the worlds: constants, statics -/
def EF (ad : Nat → Nat) (A : Nat → Prop) (U : State) (H : Heap) : Prop := vk_S STRT.length STRL STRB (fun i => ad (1000 + i)) (fun i => ad (2000 + i)) A U H ∧ vx_Zq Bundle.tN "UNASSIGNED_STACK" Bundle.steD A U H ∧ vx_Zq Bundle.tN "SUPPRESSED_SENTINEL" Bundle.listD A U H ∧ va_Z "java/lang/String" "COMPACT_STRINGS" "Z" (.int 1) A U H ∧ va_Zq "jdk/internal/util/Preconditions" "SIOOBE_FORMATTER" "Ljava/util/function/BiFunction;" A U H
theorem EF.moved {ad : Nat → Nat} {A : Nat → Prop} {u U : State} {H : Heap} (hv : u.vm.Alike U.vm) (h : EF ad A u H) : EF ad A U H := ⟨vk_S.moved hv h.1, vx_Zq.moved hv h.2.1, vx_Zq.moved hv h.2.2.1, va_Z.moved hv h.2.2.2.1, va_Zq.moved hv h.2.2.2.2⟩
theorem EF.kept {ad : Nat → Nat} {A : Nat → Prop} {U : State} {H H1 : Heap} (h : EF ad A U H) (hq : ∀ a : Nat, a < H.size → ¬ A a → H1[a]? = H[a]?) : EF ad A U H1 := ⟨h.1.kept hq, h.2.1.kept hq, h.2.2.1.kept hq, h.2.2.2.1.kept hq, h.2.2.2.2.kept hq⟩
theorem EF.narrow {ad : Nat → Nat} {A B : Nat → Prop} {U : State} {H : Heap} (h : EF ad A U H) (hAB : ∀ q, B q → A q) : EF ad B U H := ⟨h.1.narrow hAB, h.2.1.narrow hAB, h.2.2.1.narrow hAB, h.2.2.2.1.narrow hAB, h.2.2.2.2.narrow hAB⟩
theorem KU.moved {D : va_G} {cI : ClassId} {cS : ClassId × ClassId} {ad : Nat → Nat} {s U : State} (hW : s.WarmedH U.vm) (h : KU D cI cS ad s) : KU D cI cS ad U := ⟨va_K.moved hW.alike h.1, fun q hq => (h.2.1 q hq).warm hW, fun w hw => nw_warm (List.mem_filter.mp hw).2 hW (h.2.2.1 w hw), va_Nc.moved hW.alike h.2.2.2⟩
theorem KU.same {D : va_G} {cI : ClassId} {cS : ClassId × ClassId} {ad : Nat → Nat} {u U : State} (hv : U.vm = u.vm) (h : KU D cI cS ad u) : KU D cI cS ad U := ⟨va_K.moved (by rw [hv]; exact Vm.Alike.refl _) h.1, fun q hq => (h.2.1 q hq).same hv, fun w hw => va_Nw.same (nw_tab (List.mem_filter.mp hw).2) hv.symm (h.2.2.1 w hw), va_Nc.moved (by rw [hv]; exact Vm.Alike.refl _) h.2.2.2⟩
/-- a method's standing -/
def Ctx (X : KX) (own : String) (cc : ByteArray) (Dl : List Nat) (d xm : Nat) : Prop :=
  (X_p X).tables.exec = Jvm.exec ∧ (X_c X).code = cc ∧ (X_c X).maxLocals = X_nL X ∧ (X_s X).vm.findClass own = some (X_m X).cls ∧ (∀ w ∈ WS, w.before (X_args X) (X_s X) = true) ∧ X_Dl X = Dl ∧ X_R X = rmK d xm ∧ KU (X_D X) (X_cI X) (X_cS X) (X_ad X) (X_s X) ∧ va_D (X_A X) (wsOf (X_cI X) (X_cS X) (X_ad X) (fun _ _ => 0) Dl) ∧ (∀ q : Nat, (X_H0 X).size ≤ q → X_A X q) ∧ EF (X_ad X) (X_A X) (X_s X) (X_H0 X) ∧ X_H0 X = (X_s X).heap
section RULES
variable {α : Type} {X : KX} {QF : α → St → State → Prop} {x : Nat} {σ : St} {pc : Nat} {ls : List (Nat × Value)} {st : List Value} {r r1 r2 : Option (α × St)} {own : String} {cc : ByteArray} {Dl : List Nat} {d xm : Nat}
/-- the program term may be changed to one that is the same -/
theorem zr_eq (e : r = r1) (k : Zr X QF x σ pc ls st r1) : Zr X QF x σ pc ls st r := e ▸ k
theorem zr_none : Zr X QF x σ pc ls st (none : Option (α × St)) := fun _ _ h => by cases h
theorem zr_sub {ls' : List (Nat × Value)} (ks : List Nat) (hl : lv_pick ls ks = ls') (k : Zr X QF x σ pc ls' st r) : Zr X QF x σ pc ls st r := fun o σ' e H locs la hP hS h => k o σ' e H locs la hP hS (lv_sub h ks hl)
theorem zr_iconst {n : Int} {v : Int32} (hC : Ctx X own cc Dl d xm) (hd : decode cc pc = .ok (.iconst n, 1)) (hv : Int32.ofInt n = v) (k : Zr X QF x σ (pc + 1) ls (.int v :: st) r) : Zr X QF x σ pc ls st r := fun o σ' e H locs la hP hS h => lv_iconst hC.1 hC.2.1 hd hv (k o σ' e H locs la hP hS h)
theorem zr_bipush {n : Int} {v : Int32} (hC : Ctx X own cc Dl d xm) (hd : decode cc pc = .ok (.bipush n, 2)) (hv : (Int8.ofInt n).toInt32 = v) (k : Zr X QF x σ (pc + 2) ls (.int v :: st) r) : Zr X QF x σ pc ls st r := fun o σ' e H locs la hP hS h => lv_bipush hC.1 hC.2.1 hd hv (k o σ' e H locs la hP hS h)
theorem zr_sipush {n : Int} {v : Int32} (hC : Ctx X own cc Dl d xm) (hd : decode cc pc = .ok (.sipush n, 3)) (hv : (Int16.ofInt n).toInt32 = v) (k : Zr X QF x σ (pc + 3) ls (.int v :: st) r) : Zr X QF x σ pc ls st r := fun o σ' e H locs la hP hS h => lv_sipush hC.1 hC.2.1 hd hv (k o σ' e H locs la hP hS h)
theorem zr_ldc {index : Nat} {v : Int32} (hC : Ctx X own cc Dl d xm) (hd : decode cc pc = .ok (.ldc index, 2)) (hw : Jvm.Cond.constant own index v ∈ WS) (k : Zr X QF x σ (pc + 2) ls (.int v :: st) r) : Zr X QF x σ pc ls st r := fun o σ' e H locs la hP hS h => lv_ldc hC.1 hC.2.1 hC.2.2.2.1 (hC.2.2.2.2.1 _ hw) hd (k o σ' e H locs la hP hS h)
theorem zr_lconst {n : Fin 2} {v : Int64} (hC : Ctx X own cc Dl d xm) (hd : decode cc pc = .ok (.lconst n, 1)) (hv : Int64.ofNat (n : Nat) = v) (k : Zr X QF x σ (pc + 1) ls (.long v :: st) r) : Zr X QF x σ pc ls st r := fun o σ' e H locs la hP hS h => lv_lconst hC.1 hC.2.1 hd hv (k o σ' e H locs la hP hS h)
theorem zr_ldc2 {index : Nat} {v : Int64} (hC : Ctx X own cc Dl d xm) (hd : decode cc pc = .ok (.ldc2_w index, 3)) (hw : Jvm.Cond.constantLong own index v ∈ WS) (k : Zr X QF x σ (pc + 3) ls (.long v :: st) r) : Zr X QF x σ pc ls st r := fun o σ' e H locs la hP hS h => lv_ldc2 hC.1 hC.2.1 hC.2.2.2.1 (hC.2.2.2.2.1 _ hw) hd (k o σ' e H locs la hP hS h)
theorem zr_i2l {v : Int32} (hC : Ctx X own cc Dl d xm) (hd : decode cc pc = .ok (.i2l, 1)) (k : Zr X QF x σ (pc + 1) ls (.long v.toInt64 :: st) r) : Zr X QF x σ pc ls (.int v :: st) r := fun o σ' e H locs la hP hS h => lv_i2l hC.1 hC.2.1 hd rfl (k o σ' e H locs la hP hS h)
theorem zr_iload_n {k0 : Fin 4} {i : Nat} {v : Int32} (q : Nat) (hC : Ctx X own cc Dl d xm) (hd : decode cc pc = .ok (.iload_n k0, 1)) (hi : (k0 : Nat) = i) (hl : ls[q]? = some (i, .int v)) (k : Zr X QF x σ (pc + 1) ls (.int v :: st) r) : Zr X QF x σ pc ls st r := fun o σ' e H locs la hP hS h => lv_iload_n hC.1 hC.2.1 hd hi (lv_at h q hl) (k o σ' e H locs la hP hS h)
theorem zr_iload {i : Nat} {v : Int32} (q : Nat) (hC : Ctx X own cc Dl d xm) (hd : decode cc pc = .ok (.iload i, 2)) (hl : ls[q]? = some (i, .int v)) (k : Zr X QF x σ (pc + 2) ls (.int v :: st) r) : Zr X QF x σ pc ls st r := fun o σ' e H locs la hP hS h => lv_iload hC.1 hC.2.1 hd (lv_at h q hl) (k o σ' e H locs la hP hS h)
theorem zr_lload_n {k0 : Fin 4} {i : Nat} {v : Int64} (q : Nat) (hC : Ctx X own cc Dl d xm) (hd : decode cc pc = .ok (.lload_n k0, 1)) (hi : (k0 : Nat) = i) (hl : ls[q]? = some (i, .long v)) (k : Zr X QF x σ (pc + 1) ls (.long v :: st) r) : Zr X QF x σ pc ls st r := fun o σ' e H locs la hP hS h => lv_lload_n hC.1 hC.2.1 hd hi (lv_at h q hl) (k o σ' e H locs la hP hS h)
theorem zr_lload {i : Nat} {v : Int64} (q : Nat) (hC : Ctx X own cc Dl d xm) (hd : decode cc pc = .ok (.lload i, 2)) (hl : ls[q]? = some (i, .long v)) (k : Zr X QF x σ (pc + 2) ls (.long v :: st) r) : Zr X QF x σ pc ls st r := fun o σ' e H locs la hP hS h => lv_lload hC.1 hC.2.1 hd (lv_at h q hl) (k o σ' e H locs la hP hS h)
theorem zr_aload_n {k0 : Fin 4} {i a : Nat} (q : Nat) (hC : Ctx X own cc Dl d xm) (hd : decode cc pc = .ok (.aload_n k0, 1)) (hi : (k0 : Nat) = i) (hl : ls[q]? = some (i, .ref a)) (k : Zr X QF x σ (pc + 1) ls (.ref a :: st) r) : Zr X QF x σ pc ls st r := fun o σ' e H locs la hP hS h => lv_aload_n hC.1 hC.2.1 hd hi (lv_at h q hl) (k o σ' e H locs la hP hS h)
theorem zr_aload {i a : Nat} (q : Nat) (hC : Ctx X own cc Dl d xm) (hd : decode cc pc = .ok (.aload i, 2)) (hl : ls[q]? = some (i, .ref a)) (k : Zr X QF x σ (pc + 2) ls (.ref a :: st) r) : Zr X QF x σ pc ls st r := fun o σ' e H locs la hP hS h => lv_aload hC.1 hC.2.1 hd (lv_at h q hl) (k o σ' e H locs la hP hS h)
/-- the list of locals behind a store -/
def stL (i : Nat) (v : Value) (ls : List (Nat × Value)) : List (Nat × Value) := (i, v) :: ls.filter (fun q => !(q.1 == i) && !(q.1 + 1 == i && q.2.category == 2))
theorem zr_istore_n {k0 : Fin 4} {i : Nat} {v : Int32} {ls' : List (Nat × Value)} (hC : Ctx X own cc Dl d xm) (hd : decode cc pc = .ok (.istore_n k0, 1)) (hi : (k0 : Nat) = i) (hn : i < X_nL X) (hl : stL i (.int v) ls = ls') (k : Zr X QF x σ (pc + 1) ls' st r) : Zr X QF x σ pc ls (.int v :: st) r := fun o σ' e H locs la hP hS h => lv_istore_n hC.1 hC.2.1 hd hi h hn hl (fun la' h' => k o σ' e H locs la' hP hS h')
theorem zr_istore {i : Nat} {v : Int32} {ls' : List (Nat × Value)} (hC : Ctx X own cc Dl d xm) (hd : decode cc pc = .ok (.istore i, 2)) (hn : i < X_nL X) (hl : stL i (.int v) ls = ls') (k : Zr X QF x σ (pc + 2) ls' st r) : Zr X QF x σ pc ls (.int v :: st) r := fun o σ' e H locs la hP hS h => lv_istore hC.1 hC.2.1 hd h hn hl (fun la' h' => k o σ' e H locs la' hP hS h')
theorem zr_astore_n {k0 : Fin 4} {i a : Nat} {ls' : List (Nat × Value)} (hC : Ctx X own cc Dl d xm) (hd : decode cc pc = .ok (.astore_n k0, 1)) (hi : (k0 : Nat) = i) (hn : i < X_nL X) (hl : stL i (.ref a) ls = ls') (k : Zr X QF x σ (pc + 1) ls' st r) : Zr X QF x σ pc ls (.ref a :: st) r := fun o σ' e H locs la hP hS h => lv_astore_n hC.1 hC.2.1 hd hi h hn hl (fun la' h' => k o σ' e H locs la' hP hS h')
theorem zr_astore {i a : Nat} {ls' : List (Nat × Value)} (hC : Ctx X own cc Dl d xm) (hd : decode cc pc = .ok (.astore i, 2)) (hn : i < X_nL X) (hl : stL i (.ref a) ls = ls') (k : Zr X QF x σ (pc + 2) ls' st r) : Zr X QF x σ pc ls (.ref a :: st) r := fun o σ' e H locs la hP hS h => lv_astore hC.1 hC.2.1 hd h hn hl (fun la' h' => k o σ' e H locs la' hP hS h')
theorem zr_iinc {i q : Nat} {n : Int} {v u : Int32} {ls' : List (Nat × Value)} (hC : Ctx X own cc Dl d xm) (hd : decode cc pc = .ok (.iinc i n, 3)) (hq : ls[q]? = some (i, .int v)) (hv : v + Int32.ofInt n = u) (hn : i < X_nL X) (hl : stL i (.int u) ls = ls') (k : Zr X QF x σ (pc + 3) ls' st r) : Zr X QF x σ pc ls st r := fun o σ' e H locs la hP hS h => lv_iinc hC.1 hC.2.1 hd h hq hv hn hl (fun la' h' => k o σ' e H locs la' hP hS h')
theorem zr_iadd {a b : Int32} (hC : Ctx X own cc Dl d xm) (hd : decode cc pc = .ok (.iadd, 1)) (k : Zr X QF x σ (pc + 1) ls (.int (a + b) :: st) r) : Zr X QF x σ pc ls (.int b :: .int a :: st) r := fun o σ' e H locs la hP hS h => lv_iadd hC.1 hC.2.1 hd (k o σ' e H locs la hP hS h)
theorem zr_isub {a b : Int32} (hC : Ctx X own cc Dl d xm) (hd : decode cc pc = .ok (.isub, 1)) (k : Zr X QF x σ (pc + 1) ls (.int (a - b) :: st) r) : Zr X QF x σ pc ls (.int b :: .int a :: st) r := fun o σ' e H locs la hP hS h => lv_isub hC.1 hC.2.1 hd (k o σ' e H locs la hP hS h)
theorem zr_imul {a b : Int32} (hC : Ctx X own cc Dl d xm) (hd : decode cc pc = .ok (.imul, 1)) (k : Zr X QF x σ (pc + 1) ls (.int (a * b) :: st) r) : Zr X QF x σ pc ls (.int b :: .int a :: st) r := fun o σ' e H locs la hP hS h => lv_imul hC.1 hC.2.1 hd (k o σ' e H locs la hP hS h)
theorem zr_iand {a b : Int32} (hC : Ctx X own cc Dl d xm) (hd : decode cc pc = .ok (.iand, 1)) (k : Zr X QF x σ (pc + 1) ls (.int (a &&& b) :: st) r) : Zr X QF x σ pc ls (.int b :: .int a :: st) r := fun o σ' e H locs la hP hS h => lv_iand hC.1 hC.2.1 hd (k o σ' e H locs la hP hS h)
theorem zr_ior {a b : Int32} (hC : Ctx X own cc Dl d xm) (hd : decode cc pc = .ok (.ior, 1)) (k : Zr X QF x σ (pc + 1) ls (.int (a ||| b) :: st) r) : Zr X QF x σ pc ls (.int b :: .int a :: st) r := fun o σ' e H locs la hP hS h => lv_ior hC.1 hC.2.1 hd (k o σ' e H locs la hP hS h)
theorem zr_ixor {a b : Int32} (hC : Ctx X own cc Dl d xm) (hd : decode cc pc = .ok (.ixor, 1)) (k : Zr X QF x σ (pc + 1) ls (.int (a ^^^ b) :: st) r) : Zr X QF x σ pc ls (.int b :: .int a :: st) r := fun o σ' e H locs la hP hS h => lv_ixor hC.1 hC.2.1 hd (k o σ' e H locs la hP hS h)
theorem zr_ineg {a : Int32} (hC : Ctx X own cc Dl d xm) (hd : decode cc pc = .ok (.ineg, 1)) (k : Zr X QF x σ (pc + 1) ls (.int (-a) :: st) r) : Zr X QF x σ pc ls (.int a :: st) r := fun o σ' e H locs la hP hS h => lv_ineg hC.1 hC.2.1 hd (k o σ' e H locs la hP hS h)
/-- shifts as Java has them -/
def jshl (a b : Int32) : Int32 := a <<< (b &&& 31)
def jshr (a b : Int32) : Int32 := a >>> (b &&& 31)
def jushr (a b : Int32) : Int32 := (a.toUInt32 >>> (b.toUInt32 &&& Int32.toUInt32 31)).toInt32
def jrem (a b : Int32) : Int32 := a - a / b * b
theorem zr_ishl {a b : Int32} (hC : Ctx X own cc Dl d xm) (hd : decode cc pc = .ok (.ishl, 1)) (k : Zr X QF x σ (pc + 1) ls (.int (jshl a b) :: st) r) : Zr X QF x σ pc ls (.int b :: .int a :: st) r := fun o σ' e H locs la hP hS h => lv_ishl hC.1 hC.2.1 hd (k o σ' e H locs la hP hS h)
theorem zr_ishr {a b : Int32} (hC : Ctx X own cc Dl d xm) (hd : decode cc pc = .ok (.ishr, 1)) (k : Zr X QF x σ (pc + 1) ls (.int (jshr a b) :: st) r) : Zr X QF x σ pc ls (.int b :: .int a :: st) r := fun o σ' e H locs la hP hS h => lv_ishr hC.1 hC.2.1 hd (k o σ' e H locs la hP hS h)
theorem zr_iushr {a b : Int32} (hC : Ctx X own cc Dl d xm) (hd : decode cc pc = .ok (.iushr, 1)) (k : Zr X QF x σ (pc + 1) ls (.int (jushr a b) :: st) r) : Zr X QF x σ pc ls (.int b :: .int a :: st) r := fun o σ' e H locs la hP hS h => lv_iushr hC.1 hC.2.1 hd rfl (k o σ' e H locs la hP hS h)
/-- a division: the program term asks that the divisor isn't 0 -/
theorem zr_idiv {a b : Int32} (hC : Ctx X own cc Dl d xm) (hd : decode cc pc = .ok (.idiv, 1)) (k : Zr X QF x σ (pc + 1) ls (.int (a / b) :: st) r) : Zr X QF x σ pc ls (.int b :: .int a :: st) (if b = 0 then none else r) := fun o σ' e H locs la hP hS h => by
  by_cases hb : b = 0
  · rw [if_pos hb] at e; cases e
  · rw [if_neg hb] at e
    exact lv_idiv hC.1 hC.2.1 hd hb (k o σ' e H locs la hP hS h)
theorem zr_irem {a b : Int32} (hC : Ctx X own cc Dl d xm) (hd : decode cc pc = .ok (.irem, 1)) (k : Zr X QF x σ (pc + 1) ls (.int (jrem a b) :: st) r) : Zr X QF x σ pc ls (.int b :: .int a :: st) (if b = 0 then none else r) := fun o σ' e H locs la hP hS h => by
  by_cases hb : b = 0
  · rw [if_pos hb] at e; cases e
  · rw [if_neg hb] at e
    exact lv_irem hC.1 hC.2.1 hd hb (k o σ' e H locs la hP hS h)
theorem zr_dup {v : Value} (hC : Ctx X own cc Dl d xm) (hd : decode cc pc = .ok (.dup, 1)) (hv : v.category = 1) (k : Zr X QF x σ (pc + 1) ls (v :: v :: st) r) : Zr X QF x σ pc ls (v :: st) r := fun o σ' e H locs la hP hS h => lv_dup hC.1 hC.2.1 hd hv (k o σ' e H locs la hP hS h)
theorem zr_dup2 {v u : Value} (hC : Ctx X own cc Dl d xm) (hd : decode cc pc = .ok (.dup2, 1)) (hv : v.category = 1) (hu : u.category = 1) (k : Zr X QF x σ (pc + 1) ls (v :: u :: v :: u :: st) r) : Zr X QF x σ pc ls (v :: u :: st) r := fun o σ' e H locs la hP hS h => lv_dup2_11 hC.1 hC.2.1 hd hv hu (k o σ' e H locs la hP hS h)
theorem zr_pop {v : Value} (hC : Ctx X own cc Dl d xm) (hd : decode cc pc = .ok (.pop, 1)) (hv : v.category = 1) (k : Zr X QF x σ (pc + 1) ls st r) : Zr X QF x σ pc ls (v :: st) r := fun o σ' e H locs la hP hS h => lv_pop hC.1 hC.2.1 hd hv (k o σ' e H locs la hP hS h)
theorem zr_goto {off : Int} {tgt : Nat} (hC : Ctx X own cc Dl d xm) (hd : decode cc pc = .ok (.goto off, 3)) (ht : (pc : Int) + off = (tgt : Int)) (k : Zr X QF x σ tgt ls st r) : Zr X QF x σ pc ls st r := fun o σ' e H locs la hP hS h => lv_goto hC.1 hC.2.1 hd ht (k o σ' e H locs la hP hS h)
theorem zr_icmp_eq {a b : Int32} {off : Int} {tgt : Nat} {i : Decidable (a = b)} (hC : Ctx X own cc Dl d xm) (hd : decode cc pc = .ok (.if_icmp .eq off, 3)) (ht : (pc : Int) + off = (tgt : Int)) (k1 : a = b → Zr X QF x σ tgt ls st r1) (k2 : ¬ (a = b) → Zr X QF x σ (pc + 3) ls st r2) : Zr X QF x σ pc ls (.int b :: .int a :: st) (@ite _ (a = b) i r1 r2) := fun o σ' e H locs la hP hS h => by
  refine lv_icmp_eq hC.1 hC.2.1 hd ht (fun c => ?_) (fun c => ?_)
  · exact k1 c o σ' (by rw [← e, if_pos c]) H locs la hP hS h
  · exact k2 c o σ' (by rw [← e, if_neg c]) H locs la hP hS h
theorem zr_if_eq {a : Int32} {off : Int} {tgt : Nat} {i : Decidable (a = 0)} (hC : Ctx X own cc Dl d xm) (hd : decode cc pc = .ok (.ifCond .eq off, 3)) (ht : (pc : Int) + off = (tgt : Int)) (k1 : a = 0 → Zr X QF x σ tgt ls st r1) (k2 : ¬ (a = 0) → Zr X QF x σ (pc + 3) ls st r2) : Zr X QF x σ pc ls (.int a :: st) (@ite _ (a = 0) i r1 r2) := fun o σ' e H locs la hP hS h => by
  refine lv_if_eq hC.1 hC.2.1 hd ht (fun c => ?_) (fun c => ?_)
  · exact k1 c o σ' (by rw [← e, if_pos c]) H locs la hP hS h
  · exact k2 c o σ' (by rw [← e, if_neg c]) H locs la hP hS h
theorem zr_icmp_ne {a b : Int32} {off : Int} {tgt : Nat} {i : Decidable (a = b)} (hC : Ctx X own cc Dl d xm) (hd : decode cc pc = .ok (.if_icmp .ne off, 3)) (ht : (pc : Int) + off = (tgt : Int)) (k1 : a = b → Zr X QF x σ (pc + 3) ls st r1) (k2 : ¬ (a = b) → Zr X QF x σ tgt ls st r2) : Zr X QF x σ pc ls (.int b :: .int a :: st) (@ite _ (a = b) i r1 r2) := fun o σ' e H locs la hP hS h => by
  refine lv_icmp_ne hC.1 hC.2.1 hd ht (fun c => ?_) (fun c => ?_)
  · exact k2 c o σ' (by rw [← e, if_neg c]) H locs la hP hS h
  · exact k1 c o σ' (by rw [← e, if_pos c]) H locs la hP hS h
theorem zr_if_ne {a : Int32} {off : Int} {tgt : Nat} {i : Decidable (a = 0)} (hC : Ctx X own cc Dl d xm) (hd : decode cc pc = .ok (.ifCond .ne off, 3)) (ht : (pc : Int) + off = (tgt : Int)) (k1 : a = 0 → Zr X QF x σ (pc + 3) ls st r1) (k2 : ¬ (a = 0) → Zr X QF x σ tgt ls st r2) : Zr X QF x σ pc ls (.int a :: st) (@ite _ (a = 0) i r1 r2) := fun o σ' e H locs la hP hS h => by
  refine lv_if_ne hC.1 hC.2.1 hd ht (fun c => ?_) (fun c => ?_)
  · exact k2 c o σ' (by rw [← e, if_neg c]) H locs la hP hS h
  · exact k1 c o σ' (by rw [← e, if_pos c]) H locs la hP hS h
theorem zr_icmp_lt {a b : Int32} {off : Int} {tgt : Nat} {i : Decidable (a < b)} (hC : Ctx X own cc Dl d xm) (hd : decode cc pc = .ok (.if_icmp .lt off, 3)) (ht : (pc : Int) + off = (tgt : Int)) (k1 : a < b → Zr X QF x σ tgt ls st r1) (k2 : ¬ (a < b) → Zr X QF x σ (pc + 3) ls st r2) : Zr X QF x σ pc ls (.int b :: .int a :: st) (@ite _ (a < b) i r1 r2) := fun o σ' e H locs la hP hS h => by
  refine lv_icmp_lt hC.1 hC.2.1 hd ht (fun c => ?_) (fun c => ?_)
  · exact k1 c o σ' (by rw [← e, if_pos c]) H locs la hP hS h
  · exact k2 c o σ' (by rw [← e, if_neg c]) H locs la hP hS h
theorem zr_if_lt {a : Int32} {off : Int} {tgt : Nat} {i : Decidable (a < 0)} (hC : Ctx X own cc Dl d xm) (hd : decode cc pc = .ok (.ifCond .lt off, 3)) (ht : (pc : Int) + off = (tgt : Int)) (k1 : a < 0 → Zr X QF x σ tgt ls st r1) (k2 : ¬ (a < 0) → Zr X QF x σ (pc + 3) ls st r2) : Zr X QF x σ pc ls (.int a :: st) (@ite _ (a < 0) i r1 r2) := fun o σ' e H locs la hP hS h => by
  refine lv_if_lt hC.1 hC.2.1 hd ht (fun c => ?_) (fun c => ?_)
  · exact k1 c o σ' (by rw [← e, if_pos c]) H locs la hP hS h
  · exact k2 c o σ' (by rw [← e, if_neg c]) H locs la hP hS h
theorem zr_icmp_ge {a b : Int32} {off : Int} {tgt : Nat} {i : Decidable (b ≤ a)} (hC : Ctx X own cc Dl d xm) (hd : decode cc pc = .ok (.if_icmp .ge off, 3)) (ht : (pc : Int) + off = (tgt : Int)) (k1 : b ≤ a → Zr X QF x σ tgt ls st r1) (k2 : ¬ (b ≤ a) → Zr X QF x σ (pc + 3) ls st r2) : Zr X QF x σ pc ls (.int b :: .int a :: st) (@ite _ (b ≤ a) i r1 r2) := fun o σ' e H locs la hP hS h => by
  refine lv_icmp_ge hC.1 hC.2.1 hd ht (fun c => ?_) (fun c => ?_)
  · exact k1 c o σ' (by rw [← e, if_pos c]) H locs la hP hS h
  · exact k2 c o σ' (by rw [← e, if_neg c]) H locs la hP hS h
theorem zr_if_ge {a : Int32} {off : Int} {tgt : Nat} {i : Decidable (0 ≤ a)} (hC : Ctx X own cc Dl d xm) (hd : decode cc pc = .ok (.ifCond .ge off, 3)) (ht : (pc : Int) + off = (tgt : Int)) (k1 : 0 ≤ a → Zr X QF x σ tgt ls st r1) (k2 : ¬ (0 ≤ a) → Zr X QF x σ (pc + 3) ls st r2) : Zr X QF x σ pc ls (.int a :: st) (@ite _ (0 ≤ a) i r1 r2) := fun o σ' e H locs la hP hS h => by
  refine lv_if_ge hC.1 hC.2.1 hd ht (fun c => ?_) (fun c => ?_)
  · exact k1 c o σ' (by rw [← e, if_pos c]) H locs la hP hS h
  · exact k2 c o σ' (by rw [← e, if_neg c]) H locs la hP hS h
theorem zr_icmp_gt {a b : Int32} {off : Int} {tgt : Nat} {i : Decidable (b < a)} (hC : Ctx X own cc Dl d xm) (hd : decode cc pc = .ok (.if_icmp .gt off, 3)) (ht : (pc : Int) + off = (tgt : Int)) (k1 : b < a → Zr X QF x σ tgt ls st r1) (k2 : ¬ (b < a) → Zr X QF x σ (pc + 3) ls st r2) : Zr X QF x σ pc ls (.int b :: .int a :: st) (@ite _ (b < a) i r1 r2) := fun o σ' e H locs la hP hS h => by
  refine lv_icmp_gt hC.1 hC.2.1 hd ht (fun c => ?_) (fun c => ?_)
  · exact k1 c o σ' (by rw [← e, if_pos c]) H locs la hP hS h
  · exact k2 c o σ' (by rw [← e, if_neg c]) H locs la hP hS h
theorem zr_if_gt {a : Int32} {off : Int} {tgt : Nat} {i : Decidable (0 < a)} (hC : Ctx X own cc Dl d xm) (hd : decode cc pc = .ok (.ifCond .gt off, 3)) (ht : (pc : Int) + off = (tgt : Int)) (k1 : 0 < a → Zr X QF x σ tgt ls st r1) (k2 : ¬ (0 < a) → Zr X QF x σ (pc + 3) ls st r2) : Zr X QF x σ pc ls (.int a :: st) (@ite _ (0 < a) i r1 r2) := fun o σ' e H locs la hP hS h => by
  refine lv_if_gt hC.1 hC.2.1 hd ht (fun c => ?_) (fun c => ?_)
  · exact k1 c o σ' (by rw [← e, if_pos c]) H locs la hP hS h
  · exact k2 c o σ' (by rw [← e, if_neg c]) H locs la hP hS h
theorem zr_icmp_le {a b : Int32} {off : Int} {tgt : Nat} {i : Decidable (a ≤ b)} (hC : Ctx X own cc Dl d xm) (hd : decode cc pc = .ok (.if_icmp .le off, 3)) (ht : (pc : Int) + off = (tgt : Int)) (k1 : a ≤ b → Zr X QF x σ tgt ls st r1) (k2 : ¬ (a ≤ b) → Zr X QF x σ (pc + 3) ls st r2) : Zr X QF x σ pc ls (.int b :: .int a :: st) (@ite _ (a ≤ b) i r1 r2) := fun o σ' e H locs la hP hS h => by
  refine lv_icmp_le hC.1 hC.2.1 hd ht (fun c => ?_) (fun c => ?_)
  · exact k1 c o σ' (by rw [← e, if_pos c]) H locs la hP hS h
  · exact k2 c o σ' (by rw [← e, if_neg c]) H locs la hP hS h
theorem zr_if_le {a : Int32} {off : Int} {tgt : Nat} {i : Decidable (a ≤ 0)} (hC : Ctx X own cc Dl d xm) (hd : decode cc pc = .ok (.ifCond .le off, 3)) (ht : (pc : Int) + off = (tgt : Int)) (k1 : a ≤ 0 → Zr X QF x σ tgt ls st r1) (k2 : ¬ (a ≤ 0) → Zr X QF x σ (pc + 3) ls st r2) : Zr X QF x σ pc ls (.int a :: st) (@ite _ (a ≤ 0) i r1 r2) := fun o σ' e H locs la hP hS h => by
  refine lv_if_le hC.1 hC.2.1 hd ht (fun c => ?_) (fun c => ?_)
  · exact k1 c o σ' (by rw [← e, if_pos c]) H locs la hP hS h
  · exact k2 c o σ' (by rw [← e, if_neg c]) H locs la hP hS h
theorem zr_getI {cl : String} {T : u_T} {N ci j index k0 : Nat} {fs : List (Option Nat)} (hC : Ctx X own cc Dl d xm) (hk : k0 ∈ Dl) (hL : LAY k0 = .inl (ci, fs)) (hj : fs[j]? = some none) (hcl : vwCl[ci]? = some (cl, T, N)) (hjN : j < N) (hin : ∀ w ∈ u_ws cl T N, w ∈ WS) (hw : Cond.fieldLink own index (T j).1 (T j).2.1 (T j).2.2.1 ∈ WS) (hd : decode cc pc = .ok (.getfield index, 3))
    (k : Zr X QF x σ (pc + 3) ls (.int (σ k0 j) :: st) r) : Zr X QF x σ pc ls (.ref (X_ad X k0) :: st) r := fun o σ' e H locs la hP hS h => by
  obtain ⟨q0, hq, hg⟩ := wsOf_get (cI := X_cI X) (cS := X_cS X) (ad := X_ad X) (σ := σ) hk
  have hce : cellOf (X_cI X) (X_cS X) (X_ad X) σ k0 = .inr (ci, fvals (X_ad X) (σ k0) fs) := by unfold cellOf; rw [hL]
  rw [hce] at hg
  have hP' := hP
  rw [hC.2.2.2.2.2.1] at hP'
  exact va_get (D := X_D X) (cl := vwCl) hC.1 hC.2.1 hC.2.2.2.2.1 hin hC.2.2.2.1 hC.2.2.2.2.2.2.2.1.1 hP' q0 hg hcl j hjN (hC.2.2.2.2.1 _ hw) (fun _ h9 => h9) (fvals_int hj) hd (k o σ' e H locs la hP hS h)
theorem zr_getR {cl : String} {T : u_T} {N ci j index k0 k1 : Nat} {fs : List (Option Nat)} (hC : Ctx X own cc Dl d xm) (hk : k0 ∈ Dl) (hL : LAY k0 = .inl (ci, fs)) (hj : fs[j]? = some (some k1)) (hcl : vwCl[ci]? = some (cl, T, N)) (hjN : j < N) (hin : ∀ w ∈ u_ws cl T N, w ∈ WS) (hw : Cond.fieldLink own index (T j).1 (T j).2.1 (T j).2.2.1 ∈ WS) (hd : decode cc pc = .ok (.getfield index, 3))
    (k : Zr X QF x σ (pc + 3) ls (.ref (X_ad X k1) :: st) r) : Zr X QF x σ pc ls (.ref (X_ad X k0) :: st) r := fun o σ' e H locs la hP hS h => by
  obtain ⟨q0, hq, hg⟩ := wsOf_get (cI := X_cI X) (cS := X_cS X) (ad := X_ad X) (σ := σ) hk
  have hce : cellOf (X_cI X) (X_cS X) (X_ad X) σ k0 = .inr (ci, fvals (X_ad X) (σ k0) fs) := by unfold cellOf; rw [hL]
  rw [hce] at hg
  have hP' := hP
  rw [hC.2.2.2.2.2.1] at hP'
  exact va_get (D := X_D X) (cl := vwCl) hC.1 hC.2.1 hC.2.2.2.2.1 hin hC.2.2.2.1 hC.2.2.2.2.2.2.2.1.1 hP' q0 hg hcl j hjN (hC.2.2.2.2.1 _ hw) (fun _ h9 => h9) (fvals_ref hj) hd (k o σ' e H locs la hP hS h)
theorem cellOf_wr {cI : ClassId} {cS : ClassId × ClassId} {ad : Nat → Nat} {k0 j ci : Nat} {v : Int32} {fs : List (Option Nat)} (hL : LAY k0 = .inl (ci, fs)) (hj : fs[j]? = some none) : (Sum.inr (ci, (fvals ad (σ k0) fs).set j (.int v)) : va_E) = cellOf cI cS ad (wr σ k0 j v) k0 := by
  unfold cellOf
  rw [hL, fvals_set hj]
  have : (fun b => if b = j then v else σ k0 b) = wr σ k0 j v k0 := by
    funext b
    simp [wr]
  rw [this]
theorem wr_ne {k0 j a : Nat} {v : Int32} (h : a ≠ k0) : wr σ k0 j v a = σ a := by
  funext b
  simp [wr, h]
theorem zr_putI {cl : String} {T : u_T} {N ci j index k0 : Nat} {fs : List (Option Nat)} {v : Int32} {ty : FieldType} {ty0 : Nat → FieldType} (hC : Ctx X own cc Dl d xm) (hk : k0 ∈ Dl) (hL : LAY k0 = .inl (ci, fs)) (hj : fs[j]? = some none) (hcl : vwCl[ci]? = some (cl, T, N)) (hjN : j < N) (hin : ∀ w ∈ u_ws cl T N, w ∈ WS) (hty : ∀ k, k < N → parseFieldDescriptor (T k).2.2.1 = some (ty0 k)) (hnm : ∀ a, a < N → ∀ b, b < N → a ≠ b → (T a).2.1 ≠ (T b).2.1) (hw : Cond.fieldLink own index (T j).1 (T j).2.1 (T j).2.2.1 ∈ WS) (hfin : (T j).2.2.2 = false) (hpd : parseFieldDescriptor (T j).2.2.1 = some ty) (hd : decode cc pc = .ok (.putfield index, 3))
    (k : Zr X QF x (wr σ k0 j v) (pc + 3) ls st r) : Zr X QF x σ pc ls (.int v :: .ref (X_ad X k0) :: st) (if narrow ty (.int v) = .int v ∧ fits ty (.int v) = true then r else none) := fun o σ' e H locs la hP hS h => by
  by_cases hc : narrow ty (.int v) = .int v ∧ fits ty (.int v) = true
  · rw [if_pos hc] at e
    obtain ⟨q0, hq, hg⟩ := wsOf_get (cI := X_cI X) (cS := X_cS X) (ad := X_ad X) (σ := σ) hk
    have hce : cellOf (X_cI X) (X_cS X) (X_ad X) σ k0 = .inr (ci, fvals (X_ad X) (σ k0) fs) := by unfold cellOf; rw [hL]
    rw [hce] at hg
    have hD := wsOf_D (σ' := σ) hC.2.2.2.2.2.2.2.2.1
    have hDl := hC.2.2.2.2.2.1
    have hP' := hP
    rw [hDl] at hP'
    have hlen : j < (fvals (X_ad X) (σ k0) fs).length := by rw [fvals_len]; exact (List.getElem?_eq_some_iff.mp hj).1
    refine va_put (D := X_D X) (cl := vwCl) (ty := ty) hC.1 hC.2.1 hC.2.2.2.2.1 hin ty0 hty hnm hC.2.2.2.1 hC.2.2.2.2.2.2.2.1.1 hP' hD hS q0 hg hcl j hjN (hC.2.2.2.2.1 _ hw) (fun _ h9 => h9) hfin hpd hc.1 hc.2 hlen hd (fun H1 locs1 hP1 hD1 hS1 => ?_)
    rw [cellOf_wr (cI := X_cI X) (cS := X_cS X) hL hj, wsOf_set hD hq (fun a ha => wr_ne ha), ← hDl] at hP1
    exact k o σ' e H1 locs1 la hP1 hS1 h
  · rw [if_neg hc] at e; cases e
/-- a store into a field of whole numbers -/
theorem zr_putInt {cl : String} {T : u_T} {N ci j index k0 : Nat} {fs : List (Option Nat)} {v : Int32} {ty0 : Nat → FieldType} (hC : Ctx X own cc Dl d xm) (hk : k0 ∈ Dl) (hL : LAY k0 = .inl (ci, fs)) (hj : fs[j]? = some none) (hcl : vwCl[ci]? = some (cl, T, N)) (hjN : j < N) (hin : ∀ w ∈ u_ws cl T N, w ∈ WS) (hty : ∀ k, k < N → parseFieldDescriptor (T k).2.2.1 = some (ty0 k)) (hnm : ∀ a, a < N → ∀ b, b < N → a ≠ b → (T a).2.1 ≠ (T b).2.1) (hw : Cond.fieldLink own index (T j).1 (T j).2.1 (T j).2.2.1 ∈ WS) (hfin : (T j).2.2.2 = false) (hpd : parseFieldDescriptor (T j).2.2.1 = some .int) (hd : decode cc pc = .ok (.putfield index, 3))
    (k : Zr X QF x (wr σ k0 j v) (pc + 3) ls st r) : Zr X QF x σ pc ls (.int v :: .ref (X_ad X k0) :: st) r := fun o σ' e =>
  zr_putI hC hk hL hj hcl hjN hin hty hnm hw hfin hpd hd k o σ' (by rw [if_pos ⟨rfl, rfl⟩]; exact e)
/-- a store into a boolean field: the program term asks for 0 or 1 -/
theorem zr_putZ {cl : String} {T : u_T} {N ci j index k0 : Nat} {fs : List (Option Nat)} {v : Int32} {ty0 : Nat → FieldType} (hC : Ctx X own cc Dl d xm) (hk : k0 ∈ Dl) (hL : LAY k0 = .inl (ci, fs)) (hj : fs[j]? = some none) (hcl : vwCl[ci]? = some (cl, T, N)) (hjN : j < N) (hin : ∀ w ∈ u_ws cl T N, w ∈ WS) (hty : ∀ k, k < N → parseFieldDescriptor (T k).2.2.1 = some (ty0 k)) (hnm : ∀ a, a < N → ∀ b, b < N → a ≠ b → (T a).2.1 ≠ (T b).2.1) (hw : Cond.fieldLink own index (T j).1 (T j).2.1 (T j).2.2.1 ∈ WS) (hfin : (T j).2.2.2 = false) (hpd : parseFieldDescriptor (T j).2.2.1 = some .boolean) (hd : decode cc pc = .ok (.putfield index, 3))
    (k : Zr X QF x (wr σ k0 j v) (pc + 3) ls st r) : Zr X QF x σ pc ls (.int v :: .ref (X_ad X k0) :: st) (if v = 0 ∨ v = 1 then r else none) := fun o σ' e => by
  by_cases hv : v = 0 ∨ v = 1
  · rw [if_pos hv] at e
    refine zr_putI hC hk hL hj hcl hjN hin hty hnm hw hfin hpd hd k o σ' ?_
    rw [if_pos (by rcases hv with rfl | rfl <;> decide)]
    exact e
  · rw [if_neg hv] at e; cases e
theorem LN_of {k0 n : Nat} (hL : LAY k0 = .inr (.inl n)) : LN k0 = n := by unfold LN; rw [hL]
/-- a load from an array: the program term asks that the place is in range -/
theorem zr_iald {k0 n : Nat} {i : Int32} (hC : Ctx X own cc Dl d xm) (hk : k0 ∈ Dl) (hL : LAY k0 = .inr (.inl n)) (hd : decode cc pc = .ok (.iaload, 1))
    (k : Zr X QF x σ (pc + 1) ls (.int (σ k0 i.toNatClampNeg) :: st) r) : Zr X QF x σ pc ls (.int i :: .ref (X_ad X k0) :: st) (if 0 ≤ i.toInt ∧ i.toInt < n then r else none) := fun o σ' e H locs la hP hS h => by
  by_cases hc : 0 ≤ i.toInt ∧ i.toInt < n
  · rw [if_pos hc] at e
    obtain ⟨q0, hq, hg⟩ := wsOf_get (cI := X_cI X) (cS := X_cS X) (ad := X_ad X) (σ := σ) hk
    have hce : cellOf (X_cI X) (X_cS X) (X_ad X) σ k0 = .inl (X_cI X, (n, .inl (σ k0))) := by unfold cellOf; rw [hL]
    rw [hce] at hg
    have hP' := hP
    rw [hC.2.2.2.2.2.1] at hP'
    exact va_iald (D := X_D X) (cl := vwCl) hC.1 hC.2.1 hC.2.2.2.2.2.2.2.1.1 hP' q0 0 hg rfl (vp_in_iff.mpr hc) hd (k o σ' e H locs la hP hS h)
  · rw [if_neg hc] at e; cases e
theorem cellOf_st {cI : ClassId} {cS : ClassId × ClassId} {ad : Nat → Nat} {k0 n j : Nat} {v : Int32} (hL : LAY k0 = .inr (.inl n)) : (Sum.inl (cI, (n, .inl (upd (σ k0) j v))) : va_E) = cellOf cI cS ad (wr σ k0 j v) k0 := by
  unfold cellOf
  rw [hL]
  have : upd (σ k0) j v = wr σ k0 j v k0 := by
    funext b
    simp [wr, upd]
  rw [this]
theorem zr_iast {k0 n : Nat} {i v : Int32} (hC : Ctx X own cc Dl d xm) (hk : k0 ∈ Dl) (hL : LAY k0 = .inr (.inl n)) (hd : decode cc pc = .ok (.iastore, 1))
    (k : Zr X QF x (wr σ k0 i.toNatClampNeg v) (pc + 1) ls st r) : Zr X QF x σ pc ls (.int v :: .int i :: .ref (X_ad X k0) :: st) (if 0 ≤ i.toInt ∧ i.toInt < n then r else none) := fun o σ' e H locs la hP hS h => by
  by_cases hc : 0 ≤ i.toInt ∧ i.toInt < n
  · rw [if_pos hc] at e
    obtain ⟨q0, hq, hg⟩ := wsOf_get (cI := X_cI X) (cS := X_cS X) (ad := X_ad X) (σ := σ) hk
    have hce : cellOf (X_cI X) (X_cS X) (X_ad X) σ k0 = .inl (X_cI X, (n, .inl (σ k0))) := by unfold cellOf; rw [hL]
    rw [hce] at hg
    have hD := wsOf_D (σ' := σ) hC.2.2.2.2.2.2.2.2.1
    have hDl := hC.2.2.2.2.2.1
    have hP' := hP
    rw [hDl] at hP'
    refine va_iast (D := X_D X) (cl := vwCl) hC.1 hC.2.1 hC.2.2.2.2.2.2.2.1.1 hP' hD hS q0 0 hg rfl (vp_in_iff.mpr hc) hd (fun H1 locs1 hP1 hD1 hS1 => ?_)
    rw [cellOf_st (cS := X_cS X) (ad := X_ad X) hL, wsOf_set hD hq (fun a ha => wr_ne ha), ← hDl] at hP1
    exact k o σ' e H1 locs1 la hP1 hS1 h
  · rw [if_neg hc] at e; cases e
theorem zr_alen {k0 n : Nat} (hC : Ctx X own cc Dl d xm) (hk : k0 ∈ Dl) (hL : LAY k0 = .inr (.inl n)) (hd : decode cc pc = .ok (.arraylength, 1))
    (k : Zr X QF x σ (pc + 1) ls (.int (Int32.ofNat n) :: st) r) : Zr X QF x σ pc ls (.ref (X_ad X k0) :: st) r := fun o σ' e H locs la hP hS h => by
  obtain ⟨q0, hq, hg⟩ := wsOf_get (cI := X_cI X) (cS := X_cS X) (ad := X_ad X) (σ := σ) hk
  have hce : cellOf (X_cI X) (X_cS X) (X_ad X) σ k0 = .inl (X_cI X, (n, .inl (σ k0))) := by unfold cellOf; rw [hL]
  rw [hce] at hg
  have hP' := hP
  rw [hC.2.2.2.2.2.1] at hP'
  exact va_alen (D := X_D X) (cl := vwCl) hC.1 hC.2.1 hC.2.2.2.2.2.2.2.1.1 hP' q0 0 hg rfl rfl hd (k o σ' e H locs la hP hS h)
theorem zr_ifnull {a : Nat} {off : Int} (hC : Ctx X own cc Dl d xm) (hd : decode cc pc = .ok (.ifnull off, 3)) (k : Zr X QF x σ (pc + 3) ls st r) : Zr X QF x σ pc ls (.ref a :: st) r := fun o σ' e H locs la hP hS h => lv_ifnull hC.1 hC.2.1 hd (k o σ' e H locs la hP hS h)
theorem zr_ifnonnull {a : Nat} {off : Int} {tgt : Nat} (hC : Ctx X own cc Dl d xm) (hd : decode cc pc = .ok (.ifnonnull off, 3)) (ht : (pc : Int) + off = (tgt : Int)) (k : Zr X QF x σ tgt ls st r) : Zr X QF x σ pc ls (.ref a :: st) r := fun o σ' e H locs la hP hS h => lv_ifnonnull hC.1 hC.2.1 hd ht (k o σ' e H locs la hP hS h)
end RULES
/-! ===== contracts ===== -/
/-- how a method that doesn't throw ends -/
def qcN (ret : Option FieldType) (v : Int32) (B : State → Prop) (A : Nat → Prop) : Array Value → State → Outcome → State → Prop := match ret with
  | none => va_Qv (fun _ : Unit => True) (fun _ t => B t) A
  | some _ => va_Qi (fun r (_ : Unit) => r = v) (fun _ t => B t) A
def preU (D : va_G) (cI : ClassId) (cS : ClassId × ClassId) (ad : Nat → Nat) (σ : St) (Dl : List Nat) (sz : Nat) (U : State) : Prop :=
  U.heap.size = sz ∧ va_P D vwCl (wsOf cI cS ad σ Dl) U.heap ∧ KU D cI cS ad U ∧ va_D (fun _ => True) (wsOf cI cS ad (fun _ _ => 0) Dl) ∧ EF ad (va_A (wsOf cI cS ad (fun _ _ => 0) Dl) sz) U U.heap
def postU (D : va_G) (cI : ClassId) (cS : ClassId × ClassId) (ad : Nat → Nat) (σ : St) (Dl : List Nat) (t : State) : Prop := va_P D vwCl (wsOf cI cS ad σ Dl) t.heap
abbrev wsC (y : MethodName) (bytes : ByteArray) (maxL : Nat) (ret : Option FieldType) : List Cond := Cond.code y bytes maxL ret :: WS
/-- a method that doesn't throw: if its program term has a value, it comes to it -/
def CN (l : Launch) (y : MethodName) (bytes : ByteArray) (maxL : Nat) (ret : Option FieldType) (d : Nat) (Dl : List Nat) (As : (Nat → Nat) → List Value) (σ : St) (f : Option (Int32 × St)) : Prop :=
  ∀ (v : Int32) (σ' : St), f = some (v, σ') → ∀ (D : va_G) (cI : ClassId) (cS : ClassId × ClassId) (ad : Nat → Nat) (sz : Nat),
    Met l y (wsC y bytes maxL ret) (rmK d 0) (va_Pc (As ad) (preU D cI cS ad σ Dl sz)) (qcN ret v (postU D cI cS ad σ' Dl) (va_A (wsOf cI cS ad (fun _ _ => 0) Dl) sz)) 0 0 (va_A (wsOf cI cS ad (fun _ _ => 0) Dl) sz)
theorem wsC_good {y y' : MethodName} {b b' : ByteArray} {n n' : Nat} {rt rt' : Option FieldType} (h : Cond.code y' b' n' rt' ∈ WS) : GoodIn (wsC y b n rt) (wsC y' b' n' rt') := by
  intro w hw
  have : w ∈ WS := by
    rcases List.mem_cons.mp hw with e | e
    · rw [e]; exact h
    · exact e
  exact ⟨List.mem_cons_of_mem _ this, good_of_word (List.mem_filter.mp this).2⟩
theorem WS_good {y' : MethodName} {b' : ByteArray} {n' : Nat} {rt' : Option FieldType} (h : Cond.code y' b' n' rt' ∈ WS) : GoodIn WS (wsC y' b' n' rt') := by
  intro w hw
  have : w ∈ WS := by
    rcases List.mem_cons.mp hw with e | e
    · rw [e]; exact h
    · exact e
  exact ⟨this, good_of_word (List.mem_filter.mp this).2⟩
section CALLS
variable {α : Type} {X : KX} {QF : α → St → State → Prop} {x : Nat} {σ : St} {pc : Nat} {ls : List (Nat × Value)} {st : List Value} {r r1 r2 : Option (α × St)} {own : String} {cc : ByteArray} {Dl : List Nat} {d xm : Nat}
/-- what the caller lays before a callee -/
theorem pre_of (hC : Ctx X own cc Dl d xm) {H : Heap} {locs : List Loc} (hP : va_P (X_D X) vwCl (wsOf (X_cI X) (X_cS X) (X_ad X) σ (X_Dl X)) H) (hS : va_S (X_A X) (X_H0 X) H locs) {U : State} (hU : U.heap = H) (hW : (X_s X).WarmedH U.vm) :
    preU (X_D X) (X_cI X) (X_cS X) (X_ad X) σ Dl H.size U := by
  obtain ⟨-, -, -, -, -, hDl, -, hK, hD, hA, hE, -⟩ := hC
  rw [hDl] at hP
  refine ⟨by rw [hU], by rw [hU]; exact hP, hK.moved hW, hD.weaken (fun _ _ _ _ => trivial), ?_⟩
  rw [hU]
  refine EF.narrow (EF.moved hW.alike (hE.kept (fun a h1 h2 => hS.2.1 a h1 h2))) (fun q hq => ?_)
  rcases hq with ⟨k, e, hk⟩ | hq
  · exact hD.2 k _ hk
  · exact hA q (Nat.le_trans hS.1 hq)
theorem free_of (hC : Ctx X own cc Dl d xm) {H : Heap} {locs : List Loc} (hS : va_S (X_A X) (X_H0 X) H locs) : ∀ q, va_A (wsOf (X_cI X) (X_cS X) (X_ad X) (fun _ _ => 0) Dl) H.size q → X_A X q := by
  obtain ⟨-, -, -, -, -, hDl, -, hK, hD, hA, hE, -⟩ := hC
  intro q hq
  rcases hq with ⟨k, e, hk⟩ | hq
  · exact hD.2 k _ hk
  · exact hA q (Nat.le_trans hS.1 hq)
theorem pre_blind {D : va_G} {cI : ClassId} {cS : ClassId × ClassId} {ad : Nat → Nat} {As : List Value} {Dl : List Nat} {sz : Nat} : FrameBlind (va_Pc As (preU D cI cS ad σ Dl sz)) := by
  intro a U g mk h
  obtain ⟨h0, h1, h2, h3, h4, h5⟩ := h
  exact ⟨h0, h1, h2, KU.same (u := U) (U := U.calling g mk a) rfl h3, h4, EF.moved (u := U) (Vm.Alike.refl U.vm) h5⟩
/-- what comes behind a call's run, for either kind of run -/
theorem zr_afteri {f : Option (Int32 × St)} {k : Int32 → St → Option (α × St)} {H : Heap} {locs : List Loc} {la : Array Slot} {st0 st1 : List Value} {a : Array Value} {ty : FieldType} {o : α} {σ' : St} (hC : Ctx X own cc Dl d xm) (hS : va_S (X_A X) (X_H0 X) H locs) (h : lv_has la (X_nL X) ls) (e : bd f k = some (o, σ'))
    (hr : ∀ (v : Int32) (σ1 : St), f = some (v, σ1) → va_Run (X_p X) (X_l X) (X_e X) (X_R X) (X_s X) (X_m X) (X_args X) (X_below X) (X_meth X) (X_c X) H locs x (6 * x) 0 0 (F0 (X_m X) pc la st0) st1 (qcN (some ty) v (postU (X_D X) (X_cI X) (X_cS X) (X_ad X) σ1 Dl) (va_A (wsOf (X_cI X) (X_cS X) (X_ad X) (fun _ _ => 0) Dl) H.size) a) (va_A (wsOf (X_cI X) (X_cS X) (X_ad X) (fun _ _ => 0) Dl) H.size))
    (kk : ∀ (v : Int32) (σ1 : St), Zr X QF x σ1 (pc + 3) ls (.int v :: st1) (k v σ1)) : X_W X H locs x (QF o σ') (F0 (X_m X) pc la st0) := by
  cases hf : f with
  | none => rw [hf] at e; cases e
  | some q =>
    obtain ⟨v, σ1⟩ := q
    rw [hf] at e
    have hA := free_of hC hS
    refine va_calli (a := a) (hr v σ1 hf) hS (fun q _ hq => hA q hq) hA (fun r0 u t H1 locs1 ht hvm hw hB hz1 hk1 hS1 => ?_)
    subst hw
    have hB' : va_P (X_D X) vwCl (wsOf (X_cI X) (X_cS X) (X_ad X) σ1 Dl) t.heap := hB
    rw [ht, ← hC.2.2.2.2.2.1] at hB'
    exact kk r0 σ1 o σ' e H1 locs1 la hB' hS1 h
theorem zr_afterv {f : Option (Int32 × St)} {k : Int32 → St → Option (α × St)} {H : Heap} {locs : List Loc} {la : Array Slot} {st0 st1 : List Value} {a : Array Value} {o : α} {σ' : St} (hC : Ctx X own cc Dl d xm) (hS : va_S (X_A X) (X_H0 X) H locs) (h : lv_has la (X_nL X) ls) (e : bd f k = some (o, σ'))
    (hr : ∀ (v : Int32) (σ1 : St), f = some (v, σ1) → va_Run (X_p X) (X_l X) (X_e X) (X_R X) (X_s X) (X_m X) (X_args X) (X_below X) (X_meth X) (X_c X) H locs x (6 * x) 0 0 (F0 (X_m X) pc la st0) st1 (qcN none v (postU (X_D X) (X_cI X) (X_cS X) (X_ad X) σ1 Dl) (va_A (wsOf (X_cI X) (X_cS X) (X_ad X) (fun _ _ => 0) Dl) H.size) a) (va_A (wsOf (X_cI X) (X_cS X) (X_ad X) (fun _ _ => 0) Dl) H.size))
    (kk : ∀ (v : Int32) (σ1 : St), Zr X QF x σ1 (pc + 3) ls st1 (k v σ1)) : X_W X H locs x (QF o σ') (F0 (X_m X) pc la st0) := by
  cases hf : f with
  | none => rw [hf] at e; cases e
  | some q =>
    obtain ⟨v, σ1⟩ := q
    rw [hf] at e
    have hA := free_of hC hS
    refine va_callv (a := a) (hr v σ1 hf) hS (fun q _ hq => hA q hq) hA (fun u t H1 locs1 ht hvm hw hB hz1 hk1 hS1 => ?_)
    have hB' : va_P (X_D X) vwCl (wsOf (X_cI X) (X_cS X) (X_ad X) σ1 Dl) t.heap := hB
    rw [ht, ← hC.2.2.2.2.2.1] at hB'
    exact kk v σ1 o σ' e H1 locs1 la hB' hS1 h
/-- the room of a call -/
theorem room_of (hC : Ctx X own cc Dl d xm) {d' maxL : Nat} (hd : d' + 1 ≤ d) (hm : maxL ≤ 29) : (rmK d' 0).frames + 1 ≤ (X_R X).frames ∧ 8 + (maxL + 11) + (rmK d' 0).locals ≤ (X_R X).locals := by
  rw [hC.2.2.2.2.2.2.1]
  simp only [rmK]
  omega
theorem zr_recv (hC : Ctx X own cc Dl d xm) {H : Heap} (hP : va_P (X_D X) vwCl (wsOf (X_cI X) (X_cS X) (X_ad X) σ (X_Dl X)) H) {b ci N : Nat} {fs : List (Option Nat)} {cl : String} {T : u_T} (hb : b ∈ Dl) (hL : LAY b = .inl (ci, fs)) (hcl : vwCl[ci]? = some (cl, T, N)) : ∃ cell : Cell, H[X_ad X b]? = some cell ∧ cell.vm.isStatics = false ∧ (X_s X).vm.findClass cl = some cell.cls := by
  obtain ⟨q0, hq, hg⟩ := wsOf_get (cI := X_cI X) (cS := X_cS X) (ad := X_ad X) (σ := σ) hb
  have hce : cellOf (X_cI X) (X_cS X) (X_ad X) σ b = .inr (ci, fvals (X_ad X) (σ b) fs) := by unfold cellOf; rw [hL]
  rw [hce] at hg
  rw [hC.2.2.2.2.2.1] at hP
  exact va_recv (q := (cl, T, N)) hC.2.2.2.2.2.2.2.1.1 hP hcl hg
/-- the words of a virtual call -/
def vW (own : String) (index : Nat) (y : MethodName) : List Cond := [.methodLink own index y, .instanceMethod y, .selects y.cls y y, .initialized y.cls]
theorem zr_runV {y : MethodName} {bytes : ByteArray} {maxL d' b ci N n index : Nat} {ret : Option FieldType} {As : (Nat → Nat) → List Value} {fs : List (Option Nat)} {cl : String} {T : u_T} {f : Option (Int32 × St)} {st1 : List Value} (hC : Ctx X own cc Dl d xm) (hM : CN (X_l X) y bytes maxL ret d' Dl (fun ad => .ref (ad b) :: As ad) σ f) (hd' : d' + 1 ≤ d) (hcode : Cond.code y bytes maxL ret ∈ WS) (hw : ∀ w ∈ vW own index y, w ∈ WS) (hb : b ∈ Dl) (hL : LAY b = .inl (ci, fs)) (hcl : vwCl[ci]? = some (cl, T, N)) (hdt : cl = y.cls ∧ maxL ≤ 29 ∧ y.cls ≠ "java/lang/invoke/MethodHandle" ∧ y.cls ≠ "java/lang/invoke/VarHandle" ∧ (parseMethodDescriptor y.desc).map (fun d => d.parameters.length) = some n) (hAs : (As (X_ad X)).length = n) (hst : st = (As (X_ad X)).reverse ++ .ref (X_ad X b) :: st1) (hcat : (st1.map fun v => v.category).sum ≤ 8) (hdg : decode cc pc = .ok (.invokevirtual index, 3))
    {H : Heap} {locs : List Loc} {la : Array Slot} (hP : va_P (X_D X) vwCl (wsOf (X_cI X) (X_cS X) (X_ad X) σ (X_Dl X)) H) (hS : va_S (X_A X) (X_H0 X) H locs) (h : lv_has la (X_nL X) ls) (hxm : x ≤ xm) :
    ∀ (v : Int32) (σ1 : St), f = some (v, σ1) → va_Run (X_p X) (X_l X) (X_e X) (X_R X) (X_s X) (X_m X) (X_args X) (X_below X) (X_meth X) (X_c X) H locs x (6 * x) 0 0 (F0 (X_m X) pc la st) st1 (qcN ret v (postU (X_D X) (X_cI X) (X_cS X) (X_ad X) σ1 Dl) (va_A (wsOf (X_cI X) (X_cS X) (X_ad X) (fun _ _ => 0) Dl) H.size) (Value.ref (X_ad X b) :: As (X_ad X)).toArray) (va_A (wsOf (X_cI X) (X_cS X) (X_ad X) (fun _ _ => 0) Dl) H.size) := by
  intro v σ1 hf
  have hrec := zr_recv (σ := σ) hC hP hb hL hcl
  obtain ⟨rfl, hm29, hd⟩ := hdt
  have hT : GoodIn WS (wsV own index y.cls y (wsC y bytes maxL ret)) := by
    intro w hwm
    rcases List.mem_append.mp hwm with e | e
    · have := hw w e
      exact ⟨this, good_of_word (List.mem_filter.mp this).2⟩
    · exact WS_good hcode w e
  refine va_runV (As := As (X_ad X)) (rest := st1) (Ts := WS) ⟨hC.1, hC.2.1, hC.2.2.1, hC.2.2.2.1, hC.2.2.2.2.1⟩ (hM v σ1 hf (X_D X) (X_cI X) (X_cS X) (X_ad X) H.size) (cwV n hC.2.2.2.2.1 hT rfl rfl rfl ⟨rfl, hd⟩ (room_of hC hd' hm29)) ⟨pre_blind, hrec, fun U hU hW => ⟨rfl, pre_of hC hP hS hU hW⟩⟩ rfl hAs h.1 hst (lv_room hcat) hdg ⟨by rw [hC.2.2.2.2.2.2.1]; simp only [rmK]; omega, by rw [hC.2.2.2.2.2.2.1]; simp only [rmK]; omega⟩
end CALLS
/-! ===== calls, math, copies, ends ===== -/
/-- a method's card: its code is a word, what it is called with -/
def MC (y : MethodName) (bytes : ByteArray) (maxL : Nat) (ret : Option FieldType) (n : Nat) : Prop :=
  Cond.code y bytes maxL ret ∈ WS ∧ Cond.initialized y.cls ∈ WS ∧ maxL ≤ 29 ∧ y.cls ≠ "java/lang/invoke/MethodHandle" ∧ y.cls ≠ "java/lang/invoke/VarHandle" ∧ (parseMethodDescriptor y.desc).map (fun d => d.parameters.length) = some n
theorem vWi {own : String} {index : Nat} {y : MethodName} (h1 : Cond.methodLink own index y ∈ WS) (h2 : Cond.instanceMethod y ∈ WS) (h3 : Cond.selects y.cls y y ∈ WS) (h4 : Cond.initialized y.cls ∈ WS) : ∀ w ∈ vW own index y, w ∈ WS := by
  intro w hw
  simp only [vW, List.mem_cons, List.not_mem_nil, or_false] at hw
  rcases hw with e | e | e | e <;> (rw [e]; assumption)
section CALLS2
variable {α : Type} {X : KX} {QF : α → St → State → Prop} {x : Nat} {σ : St} {pc : Nat} {ls : List (Nat × Value)} {st st1 : List Value} {r r1 r2 : Option (α × St)} {own : String} {cc : ByteArray} {Dl : List Nat} {d xm : Nat}
variable {y : MethodName} {bytes : ByteArray} {maxL d' b ci N n index : Nat} {As : (Nat → Nat) → List Value} {fs : List (Option Nat)} {cl : String} {T : u_T} {f : Option (Int32 × St)} {k : Int32 → St → Option (α × St)}
theorem zr_callV {ty : FieldType} (hC : Ctx X own cc Dl d xm) (hxm : x ≤ xm) (hM : CN (X_l X) y bytes maxL (some ty) d' Dl (fun ad => .ref (ad b) :: As ad) σ f) (hd' : d' + 1 ≤ d) (hmc : MC y bytes maxL (some ty) n) (hli : Cond.methodLink own index y ∈ WS) (hin : Cond.instanceMethod y ∈ WS) (hse : Cond.selects y.cls y y ∈ WS) (hb : b ∈ Dl) (hL : LAY b = .inl (ci, fs)) (hcl : vwCl[ci]? = some (cl, T, N)) (hcy : cl = y.cls) (hAs : (As (X_ad X)).length = n) (hst : st = (As (X_ad X)).reverse ++ .ref (X_ad X b) :: st1) (hcat : (st1.map fun v => v.category).sum ≤ 8) (hdg : decode cc pc = .ok (.invokevirtual index, 3))
    (kk : ∀ (v : Int32) (σ1 : St), Zr X QF x σ1 (pc + 3) ls (.int v :: st1) (k v σ1)) : Zr X QF x σ pc ls st (bd f k) := fun o σ' e H locs la hP hS h =>
  zr_afteri hC hS h e (zr_runV hC hM hd' hmc.1 (vWi hli hin hse hmc.2.1) hb hL hcl ⟨hcy, hmc.2.2⟩ hAs hst hcat hdg hP hS h hxm) kk
theorem zr_callVv (hC : Ctx X own cc Dl d xm) (hxm : x ≤ xm) (hM : CN (X_l X) y bytes maxL none d' Dl (fun ad => .ref (ad b) :: As ad) σ f) (hd' : d' + 1 ≤ d) (hmc : MC y bytes maxL none n) (hli : Cond.methodLink own index y ∈ WS) (hin : Cond.instanceMethod y ∈ WS) (hse : Cond.selects y.cls y y ∈ WS) (hb : b ∈ Dl) (hL : LAY b = .inl (ci, fs)) (hcl : vwCl[ci]? = some (cl, T, N)) (hcy : cl = y.cls) (hAs : (As (X_ad X)).length = n) (hst : st = (As (X_ad X)).reverse ++ .ref (X_ad X b) :: st1) (hcat : (st1.map fun v => v.category).sum ≤ 8) (hdg : decode cc pc = .ok (.invokevirtual index, 3))
    (kk : ∀ (v : Int32) (σ1 : St), Zr X QF x σ1 (pc + 3) ls st1 (k v σ1)) : Zr X QF x σ pc ls st (bd f k) := fun o σ' e H locs la hP hS h =>
  zr_afterv hC hS h e (zr_runV hC hM hd' hmc.1 (vWi hli hin hse hmc.2.1) hb hL hcl ⟨hcy, hmc.2.2⟩ hAs hst hcat hdg hP hS h hxm) kk
/-- a static method of the own class -/
theorem zr_runS {ret : Option FieldType} (hC : Ctx X own cc Dl d xm) (hxm : x ≤ xm) (hM : CN (X_l X) y bytes maxL ret d' Dl As σ f) (hd' : d' + 1 ≤ d) (hmc : MC y bytes maxL ret n) (hli : Cond.methodLink own index y ∈ WS) (hstt : Cond.static y ∈ WS) (hcy : y.cls = own) (hAs : (As (X_ad X)).length = n) (hst : st = (As (X_ad X)).reverse ++ st1) (hcat : (st1.map fun v => v.category).sum ≤ 8) (hdg : decode cc pc = .ok (.invokestatic index, 3))
    {H : Heap} {locs : List Loc} {la : Array Slot} (hP : va_P (X_D X) vwCl (wsOf (X_cI X) (X_cS X) (X_ad X) σ (X_Dl X)) H) (hS : va_S (X_A X) (X_H0 X) H locs) (h : lv_has la (X_nL X) ls) :
    ∀ (v : Int32) (σ1 : St), f = some (v, σ1) → va_Run (X_p X) (X_l X) (X_e X) (X_R X) (X_s X) (X_m X) (X_args X) (X_below X) (X_meth X) (X_c X) H locs x (6 * x) 0 0 (F0 (X_m X) pc la st) st1 (qcN ret v (postU (X_D X) (X_cI X) (X_cS X) (X_ad X) σ1 Dl) (va_A (wsOf (X_cI X) (X_cS X) (X_ad X) (fun _ _ => 0) Dl) H.size) (As (X_ad X)).toArray) (va_A (wsOf (X_cI X) (X_cS X) (X_ad X) (fun _ _ => 0) Dl) H.size) := by
  intro v σ1 hf
  subst hcy
  have hT : GoodIn WS (wsS y.cls index y (wsC y bytes maxL ret)) := by
    intro w hwm
    rcases List.mem_append.mp hwm with e | e
    · have : w ∈ WS := by
        simp only [List.mem_cons, List.not_mem_nil, or_false] at e
        rcases e with e | e | e
        · rw [e]; exact hli
        · rw [e]; exact hstt
        · rw [e]; exact hmc.2.1
      exact ⟨this, good_of_word (List.mem_filter.mp this).2⟩
    · exact WS_good hmc.1 w e
  exact va_runS (As := As (X_ad X)) (rest := st1) (Ts := WS) ⟨hC.1, hC.2.1, hC.2.2.1, hC.2.2.2.1, hC.2.2.2.2.1⟩ (hM v σ1 hf (X_D X) (X_cI X) (X_cS X) (X_ad X) H.size) (cwS n hC.2.2.2.2.1 hT rfl rfl rfl ⟨rfl, hmc.2.2.2⟩ (room_of hC hd' hmc.2.2.1)) ⟨pre_blind, fun U hU hW => ⟨rfl, pre_of hC hP hS hU hW⟩⟩ rfl hAs h.1 hst (lv_room hcat) hdg ⟨by rw [hC.2.2.2.2.2.2.1]; simp only [rmK]; omega, by rw [hC.2.2.2.2.2.2.1]; simp only [rmK]; omega⟩
theorem zr_callS {ty : FieldType} (hC : Ctx X own cc Dl d xm) (hxm : x ≤ xm) (hM : CN (X_l X) y bytes maxL (some ty) d' Dl As σ f) (hd' : d' + 1 ≤ d) (hmc : MC y bytes maxL (some ty) n) (hli : Cond.methodLink own index y ∈ WS) (hstt : Cond.static y ∈ WS) (hcy : y.cls = own) (hAs : (As (X_ad X)).length = n) (hst : st = (As (X_ad X)).reverse ++ st1) (hcat : (st1.map fun v => v.category).sum ≤ 8) (hdg : decode cc pc = .ok (.invokestatic index, 3))
    (kk : ∀ (v : Int32) (σ1 : St), Zr X QF x σ1 (pc + 3) ls (.int v :: st1) (k v σ1)) : Zr X QF x σ pc ls st (bd f k) := fun o σ' e H locs la hP hS h =>
  zr_afteri hC hS h e (zr_runS hC hxm hM hd' hmc hli hstt hcy hAs hst hcat hdg hP hS h) kk
theorem zr_callSv (hC : Ctx X own cc Dl d xm) (hxm : x ≤ xm) (hM : CN (X_l X) y bytes maxL none d' Dl As σ f) (hd' : d' + 1 ≤ d) (hmc : MC y bytes maxL none n) (hli : Cond.methodLink own index y ∈ WS) (hstt : Cond.static y ∈ WS) (hcy : y.cls = own) (hAs : (As (X_ad X)).length = n) (hst : st = (As (X_ad X)).reverse ++ st1) (hcat : (st1.map fun v => v.category).sum ≤ 8) (hdg : decode cc pc = .ok (.invokestatic index, 3))
    (kk : ∀ (v : Int32) (σ1 : St), Zr X QF x σ1 (pc + 3) ls st1 (k v σ1)) : Zr X QF x σ pc ls st (bd f k) := fun o σ' e H locs la hP hS h =>
  zr_afterv hC hS h e (zr_runS hC hxm hM hd' hmc hli hstt hcy hAs hst hcat hdg hP hS h) kk
/-- a private static method of a nest mate -/
theorem zr_runSN {host : String} {ret : Option FieldType} (hC : Ctx X own cc Dl d xm) (hxm : x ≤ xm) (hM : CN (X_l X) y bytes maxL ret d' Dl As σ f) (hd' : d' + 1 ≤ d) (hmc : MC y bytes maxL ret n) (hli : Cond.methodLinkNest own index y host ∈ NW) (hstt : Cond.static y ∈ WS) (hAs : (As (X_ad X)).length = n) (hst : st = (As (X_ad X)).reverse ++ st1) (hcat : (st1.map fun v => v.category).sum ≤ 8) (hdg : decode cc pc = .ok (.invokestatic index, 3))
    {H : Heap} {locs : List Loc} {la : Array Slot} (hP : va_P (X_D X) vwCl (wsOf (X_cI X) (X_cS X) (X_ad X) σ (X_Dl X)) H) (hS : va_S (X_A X) (X_H0 X) H locs) (h : lv_has la (X_nL X) ls) :
    ∀ (v : Int32) (σ1 : St), f = some (v, σ1) → va_Run (X_p X) (X_l X) (X_e X) (X_R X) (X_s X) (X_m X) (X_args X) (X_below X) (X_meth X) (X_c X) H locs x (6 * x) 0 0 (F0 (X_m X) pc la st) st1 (qcN ret v (postU (X_D X) (X_cI X) (X_cS X) (X_ad X) σ1 Dl) (va_A (wsOf (X_cI X) (X_cS X) (X_ad X) (fun _ _ => 0) Dl) H.size) (As (X_ad X)).toArray) (va_A (wsOf (X_cI X) (X_cS X) (X_ad X) (fun _ _ => 0) Dl) H.size) := by
  intro v σ1 hf
  exact va_runSN (As := As (X_ad X)) (rest := st1) (Ts := WS) ⟨hC.1, hC.2.1, hC.2.2.1, hC.2.2.2.1, hC.2.2.2.2.1⟩ (hM v σ1 hf (X_D X) (X_cI X) (X_cS X) (X_ad X) H.size) ⟨va_cnB n hC.2.2.2.2.1 (WS_good hmc.1) rfl rfl rfl (hC.2.2.2.2.2.2.2.1.2.2.1 _ hli) (hC.2.2.2.2.1 _ hmc.2.1) hmc.2.2.2 (room_of hC hd' hmc.2.2.1), hC.2.2.2.2.1 _ hstt, trivial⟩ ⟨pre_blind, fun U hU hW => ⟨rfl, pre_of hC hP hS hU hW⟩⟩ rfl hAs h.1 hst (lv_room hcat) hdg ⟨by rw [hC.2.2.2.2.2.2.1]; simp only [rmK]; omega, by rw [hC.2.2.2.2.2.2.1]; simp only [rmK]; omega⟩
theorem zr_callSN {host : String} {ty : FieldType} (hC : Ctx X own cc Dl d xm) (hxm : x ≤ xm) (hM : CN (X_l X) y bytes maxL (some ty) d' Dl As σ f) (hd' : d' + 1 ≤ d) (hmc : MC y bytes maxL (some ty) n) (hli : Cond.methodLinkNest own index y host ∈ NW) (hstt : Cond.static y ∈ WS) (hAs : (As (X_ad X)).length = n) (hst : st = (As (X_ad X)).reverse ++ st1) (hcat : (st1.map fun v => v.category).sum ≤ 8) (hdg : decode cc pc = .ok (.invokestatic index, 3))
    (kk : ∀ (v : Int32) (σ1 : St), Zr X QF x σ1 (pc + 3) ls (.int v :: st1) (k v σ1)) : Zr X QF x σ pc ls st (bd f k) := fun o σ' e H locs la hP hS h =>
  zr_afteri hC hS h e (zr_runSN hC hxm hM hd' hmc hli hstt hAs hst hcat hdg hP hS h) kk
theorem zr_callSNv {host : String} (hC : Ctx X own cc Dl d xm) (hxm : x ≤ xm) (hM : CN (X_l X) y bytes maxL none d' Dl As σ f) (hd' : d' + 1 ≤ d) (hmc : MC y bytes maxL none n) (hli : Cond.methodLinkNest own index y host ∈ NW) (hstt : Cond.static y ∈ WS) (hAs : (As (X_ad X)).length = n) (hst : st = (As (X_ad X)).reverse ++ st1) (hcat : (st1.map fun v => v.category).sum ≤ 8) (hdg : decode cc pc = .ok (.invokestatic index, 3))
    (kk : ∀ (v : Int32) (σ1 : St), Zr X QF x σ1 (pc + 3) ls st1 (k v σ1)) : Zr X QF x σ pc ls st (bd f k) := fun o σ' e H locs la hP hS h =>
  zr_afterv hC hS h e (zr_runSN hC hxm hM hd' hmc hli hstt hAs hst hcat hdg hP hS h) kk
def jmax (a b : Int32) : Int32 := if a < b then b else a
def jmin (a b : Int32) : Int32 := if b < a then b else a
def jabs (a : Int32) : Int32 := if 0 ≤ a then a else 0 - a
theorem zr_mmax {a b : Int32} (hC : Ctx X own cc Dl d xm) (hxm : x ≤ xm) (hd0 : 1 ≤ d) (hli : Cond.methodLink own index Lib.Math.max.name ∈ WS) (hstt : Cond.static Lib.Math.max.name ∈ WS) (hini : Cond.initialized "java/lang/Math" ∈ WS) (hcode : Cond.code Lib.Math.max.name Lib.Math.max.code 2 (some .int) ∈ WS) (hcat : (st1.map fun v => v.category).sum ≤ 8) (hdg : decode cc pc = .ok (.invokestatic index, 3))
    (kk : Zr X QF x σ (pc + 3) ls (.int (jmax a b) :: st1) r) : Zr X QF x σ pc ls (.int b :: .int a :: st1) r := fun o σ' e H locs la hP hS h => by
  have hR := hC.2.2.2.2.2.2.1
  exact va_mmax hC.1 hC.2.1 (by rw [hC.2.2.1]; exact h.1.symm) hC.2.2.2.1 (hC.2.2.2.2.1 _ hli) (hC.2.2.2.2.1 _ hstt) (hC.2.2.2.2.1 _ hini) (hC.2.2.2.2.1 _ hcode) (by rw [hR]; exact hd0) (by rw [hR]; simp only [rmK]; omega) (by rw [hR]; simp only [rmK]; omega) (by rw [hR]; simp only [rmK]; omega) hdg (kk o σ' e H locs la hP hS h)
theorem zr_mmin {a b : Int32} (hC : Ctx X own cc Dl d xm) (hxm : x ≤ xm) (hd0 : 1 ≤ d) (hli : Cond.methodLink own index Lib.Math.min.name ∈ WS) (hstt : Cond.static Lib.Math.min.name ∈ WS) (hini : Cond.initialized "java/lang/Math" ∈ WS) (hcode : Cond.code Lib.Math.min.name Lib.Math.min.code 2 (some .int) ∈ WS) (hcat : (st1.map fun v => v.category).sum ≤ 8) (hdg : decode cc pc = .ok (.invokestatic index, 3))
    (kk : Zr X QF x σ (pc + 3) ls (.int (jmin a b) :: st1) r) : Zr X QF x σ pc ls (.int b :: .int a :: st1) r := fun o σ' e H locs la hP hS h => by
  have hR := hC.2.2.2.2.2.2.1
  exact va_mmin hC.1 hC.2.1 (by rw [hC.2.2.1]; exact h.1.symm) hC.2.2.2.1 (hC.2.2.2.2.1 _ hli) (hC.2.2.2.2.1 _ hstt) (hC.2.2.2.2.1 _ hini) (hC.2.2.2.2.1 _ hcode) (by rw [hR]; exact hd0) (by rw [hR]; simp only [rmK]; omega) (by rw [hR]; simp only [rmK]; omega) (by rw [hR]; simp only [rmK]; omega) hdg (kk o σ' e H locs la hP hS h)
theorem zr_mabs {a : Int32} (hC : Ctx X own cc Dl d xm) (hxm : x ≤ xm) (hd0 : 1 ≤ d) (hli : Cond.methodLink own index Lib.Math.abs.name ∈ WS) (hstt : Cond.static Lib.Math.abs.name ∈ WS) (hini : Cond.initialized "java/lang/Math" ∈ WS) (hcode : Cond.code Lib.Math.abs.name Lib.Math.abs.code 1 (some .int) ∈ WS) (hcat : (st1.map fun v => v.category).sum ≤ 8) (hdg : decode cc pc = .ok (.invokestatic index, 3))
    (kk : Zr X QF x σ (pc + 3) ls (.int (jabs a) :: st1) r) : Zr X QF x σ pc ls (.int a :: st1) r := fun o σ' e H locs la hP hS h => by
  have hR := hC.2.2.2.2.2.2.1
  exact va_mabs hC.1 hC.2.1 (by rw [hC.2.2.1]; exact h.1.symm) hC.2.2.2.1 (hC.2.2.2.2.1 _ hli) (hC.2.2.2.2.1 _ hstt) (hC.2.2.2.2.1 _ hini) (hC.2.2.2.2.1 _ hcode) (by rw [hR]; exact hd0) (by rw [hR]; simp only [rmK]; omega) (by rw [hR]; simp only [rmK]; omega) (by rw [hR]; simp only [rmK]; omega) hdg (kk o σ' e H locs la hP hS h)
theorem cpy_ne {k0 k1 sp dp n a : Nat} (h : a ≠ k1) : cpy σ k0 sp k1 dp n a = σ a := by
  funext b
  simp [cpy, h]
/-- System.arraycopy of whole numbers: the program term asks for its ranges -/
theorem zr_copy {k0 k1 n0 n1 : Nat} {sp dp m : Int32} (hC : Ctx X own cc Dl d xm) (hd0 : 2 ≤ d) (hli : Cond.methodLink own index arraycopyName ∈ WS) (hnat : Cond.native arraycopyName ∈ WS) (hstt : Cond.static arraycopyName ∈ WS) (hini : Cond.initialized "java/lang/System" ∈ WS) (hk0 : k0 ∈ Dl) (hk1 : k1 ∈ Dl) (hL0 : LAY k0 = .inr (.inl n0)) (hL1 : LAY k1 = .inr (.inl n1)) (hcat : (st1.map fun v => v.category).sum ≤ 8) (hdg : decode cc pc = .ok (.invokestatic index, 3))
    (kk : Zr X QF x (cpy σ k0 sp.toNatClampNeg k1 dp.toNatClampNeg m.toNatClampNeg) (pc + 3) ls st1 r) : Zr X QF x σ pc ls (.int m :: .int dp :: .ref (X_ad X k1) :: .int sp :: .ref (X_ad X k0) :: st1) (if ¬ sp < 0 ∧ ¬ dp < 0 ∧ ¬ m < 0 ∧ sp.toNatClampNeg + m.toNatClampNeg ≤ n0 ∧ dp.toNatClampNeg + m.toNatClampNeg ≤ n1 then r else none) := fun o σ' e H locs la hP hS h => by
  by_cases hc : ¬ sp < 0 ∧ ¬ dp < 0 ∧ ¬ m < 0 ∧ sp.toNatClampNeg + m.toNatClampNeg ≤ n0 ∧ dp.toNatClampNeg + m.toNatClampNeg ≤ n1
  · rw [if_pos hc] at e
    obtain ⟨h1, h2, h3, h4, h5⟩ := hc
    obtain ⟨q0, hq0, hg0⟩ := wsOf_get (cI := X_cI X) (cS := X_cS X) (ad := X_ad X) (σ := σ) hk0
    obtain ⟨q1, hq1, hg1⟩ := wsOf_get (cI := X_cI X) (cS := X_cS X) (ad := X_ad X) (σ := σ) hk1
    have hce0 : cellOf (X_cI X) (X_cS X) (X_ad X) σ k0 = .inl (X_cI X, (n0, .inl (σ k0))) := by unfold cellOf; rw [hL0]
    have hce1 : cellOf (X_cI X) (X_cS X) (X_ad X) σ k1 = .inl (X_cI X, (n1, .inl (σ k1))) := by unfold cellOf; rw [hL1]
    rw [hce0] at hg0
    rw [hce1] at hg1
    have hD := wsOf_D (σ' := σ) hC.2.2.2.2.2.2.2.2.1
    have hDl := hC.2.2.2.2.2.1
    have hP' := hP
    rw [hDl] at hP'
    have hR := hC.2.2.2.2.2.2.1
    have hnw : nativeFrameWords "java/lang/System" "arraycopy" 5 ≤ 60 := by decide +kernel
    have hfr : 1 ≤ (X_R X).frames := by rw [hR]; simp only [rmK]; omega
    have hlo : (st1.map fun v => v.category).sum + (nativeFrameWords "java/lang/System" "arraycopy" 5 + 11) ≤ (X_R X).locals := by rw [hR]; simp only [rmK]; omega
    refine va_copyi (D := X_D X) (cl := vwCl) (ty := .int) hC.1 hC.2.1 (by rw [hC.2.2.1]; exact h.1.symm) hC.2.2.2.1 (hC.2.2.2.2.1 _ hli) (hC.2.2.2.2.1 _ hnat) (hC.2.2.2.2.1 _ hstt) (hC.2.2.2.2.1 _ hini) hC.2.2.2.2.2.2.2.1.1 hP' hD hS q0 q1 0 0 hg0 hg1 rfl rfl rfl h1 h2 h3 h4 h5 (fun _ _ => rfl) hfr hlo hdg (fun H1 locs1 hP1 hD1 hS1 => ?_)
    have e1 : (Sum.inl (X_cI X, (n1, .inl (va_cpy (σ k0) (σ k1) sp.toNatClampNeg dp.toNatClampNeg m.toNatClampNeg))) : va_E) = cellOf (X_cI X) (X_cS X) (X_ad X) (cpy σ k0 sp.toNatClampNeg k1 dp.toNatClampNeg m.toNatClampNeg) k1 := by
      unfold cellOf
      rw [hL1]
      have : va_cpy (σ k0) (σ k1) sp.toNatClampNeg dp.toNatClampNeg m.toNatClampNeg = cpy σ k0 sp.toNatClampNeg k1 dp.toNatClampNeg m.toNatClampNeg k1 := by
        funext b
        simp [cpy, va_cpy]
      rw [this]
    rw [e1, wsOf_set hD hq1 (fun a ha => cpy_ne ha), ← hDl] at hP1
    exact kk o σ' e H1 locs1 la hP1 hS1 h
  · rw [if_neg hc] at e; cases e
end CALLS2
/-! ===== ends and beginnings of methods that don't throw ===== -/
def QFN (X : KX) (ret : Option FieldType) : Int32 → St → State → Prop := fun v σ' => MQ (X_below X) (qcN ret v (postU (X_D X) (X_cI X) (X_cS X) (X_ad X) σ' (X_Dl X)) (X_A X)) (X_args X) (X_s X) 0 0 (X_A X)
def RC (X : KX) (ret : Option FieldType) : Prop := (X_meth X).sig.returnType = ret ∧ (X_meth X).locks = false
section ENDS
variable {X : KX} {σ : St} {pc : Nat} {ls : List (Nat × Value)} {own : String} {cc : ByteArray} {Dl : List Nat} {d : Nat}
theorem zr_iret {v : Int32} (hC : Ctx X own cc Dl d 0) (hR : RC X (some .int)) (hd : decode cc pc = .ok (.ireturn, 1)) : Zr X (QFN X (some .int)) 0 σ pc ls [.int v] (some (v, σ)) := fun o σ' e H locs la hP hS h => by
  cases e
  have hS' := hS
  rw [hC.2.2.2.2.2.2.2.2.2.2.2] at hS'
  exact W.iret hC.1 hC.2.1 hR.1 (fun t ht hW => ⟨⟨v, (), rfl, rfl, (by show va_P _ _ _ t.heap; rw [ht]; exact hP)⟩, hS'.F ht⟩) hS.2.2 hd hR.2
theorem zr_zret {v : Int32} (hv : v = 0 ∨ v = 1) (hC : Ctx X own cc Dl d 0) (hR : RC X (some .boolean)) (hd : decode cc pc = .ok (.ireturn, 1)) : Zr X (QFN X (some .boolean)) 0 σ pc ls [.int v] (some (v, σ)) := fun o σ' e H locs la hP hS h => by
  cases e
  have hS' := hS
  rw [hC.2.2.2.2.2.2.2.2.2.2.2] at hS'
  exact W.zret hC.1 hC.2.1 hR.1 (by rcases hv with rfl | rfl <;> rfl) (fun t ht hW => ⟨⟨v, (), rfl, rfl, (by show va_P _ _ _ t.heap; rw [ht]; exact hP)⟩, hS'.F ht⟩) hS.2.2 hd hR.2
theorem zr_zretG {v : Int32} (hC : Ctx X own cc Dl d 0) (hR : RC X (some .boolean)) (hd : decode cc pc = .ok (.ireturn, 1)) : Zr X (QFN X (some .boolean)) 0 σ pc ls [.int v] (if v = 0 ∨ v = 1 then some (v, σ) else none) := fun o σ' e => by
  by_cases hv : v = 0 ∨ v = 1
  · rw [if_pos hv] at e
    exact zr_zret hv hC hR hd o σ' e
  · rw [if_neg hv] at e; cases e
theorem zr_vret (hC : Ctx X own cc Dl d 0) (hR : RC X none) (hd : decode cc pc = .ok (.return_, 1)) : Zr X (QFN X none) 0 σ pc ls [] (some (0, σ)) := fun o σ' e H locs la hP hS h => by
  cases e
  have hS' := hS
  rw [hC.2.2.2.2.2.2.2.2.2.2.2] at hS'
  exact W.vret hC.1 hC.2.1 hR.1 (fun t ht hW => ⟨⟨(), rfl, trivial, (by show va_P _ _ _ t.heap; rw [ht]; exact hP)⟩, hS'.F ht⟩) hS.2.2 hd hR.2
end ENDS
theorem cn_of {l : Launch} {y : MethodName} {cc : ByteArray} {maxL : Nat} {ret : Option FieldType} {d : Nat} {Dl : List Nat} {As : (Nat → Nat) → List Value} {σ : St} {f : Option (Int32 × St)} (hy : plainName y.cls = true) (hsz : ∀ ad, (lg_sl (As ad)).length ≤ maxL)
    (body : ∀ X : KX, Ctx X y.cls cc Dl d 0 → RC X ret → X_l X = l → X_nL X = maxL → Zr X (QFN X ret) 0 σ 0 (lv_args 0 (As (X_ad X))) [] f) : CN l y cc maxL ret d Dl As σ f := by
  intro v σ' hf D cI cS ad sz
  refine Met.ofW (cc := cc) (maxL := maxL) (ret := ret) hy rfl ?_
  intro p e s m args below meth c s₁ B hml hv
  obtain ⟨rfl, hsz', hP, hK, hD0, hE⟩ := hv
  subst hsz'
  have hts := atoms_spec (ws := wsC y cc maxL ret) B.pre
  have hl := lv_entry (As ad) (n := maxL) (hsz ad)
  rw [lg_entry_eq]
  generalize (lg_sl (As ad) ++ List.replicate (maxL - (lg_sl (As ad)).length) Slot.unset).toArray = la at hl ⊢
  have hDs : va_D (va_A (wsOf cI cS ad (fun _ _ => 0) Dl) s.heap.size) (wsOf cI cS ad (fun _ _ => 0) Dl) := hD0.self
  have key := body ((p, l, e, rmK d 0, s), (m, (As ad).toArray, below, meth, c), (va_A (wsOf cI cS ad (fun _ _ => 0) Dl) s.heap.size, s.heap, maxL, D, cI, cS, ad, Dl))
    ⟨B.exec, B.bytes, hml, findClass_of_methodNamed B.named, fun w hw => hts w (List.mem_cons_of_mem _ hw), rfl, rfl, hK, hDs, fun q hq => Or.inr hq, hE, rfl⟩ ⟨B.returns, B.notSynchronized⟩ rfl rfl
  exact key v σ' hf s.heap [] la hP va_S.rf hl
