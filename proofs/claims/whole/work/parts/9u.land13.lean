/-! ===== land: the law, tests and nots ===== -/
theorem bd_assoc {α β γ : Type} (o : Option (α × St)) (f : α → St → Option (β × St)) (g : β → St → Option γ) : bd (bd o f) g = bd o (fun y s => bd (f y s) g) := by
  cases o with
  | none => rfl
  | some a => rfl
theorem bd_ite {β γ : Type} {c : Prop} [Decidable c] (x y : Option (β × St)) (g : β → St → Option γ) : bd (if c then x else y) g = if c then bd x g else bd y g := by
  by_cases h : c
  · rw [if_pos h, if_pos h]
  · rw [if_neg h, if_neg h]
def mOp2 (rc : Int32 → St → Option (Int32 × St)) (x q : Int32) (s : St) : Option (Int32 × St) :=
  bd (fX12_stepOn s) (fun _ s_8 => bd (fX12_readSum rc x s_8) (fun _ s_9 => bd (fX12_lay q s_9) (fun _ s_10 => some (0, s_10))))
def mOp (rc : Int32 → St → Option (Int32 × St)) (x : Int32) (s : St) : Option (Int32 × St) :=
  bd (fX12_isMarked (60 : Int32) s) (fun y_7 s_7 => if y_7 = 0 then mOp2 rc x (-25) s_7 else mOp2 rc x (-24) s_7)
/-- the reference's test, that stands behind its nots -/
def mTest (rc : Int32 → St → Option (Int32 × St)) (x : Int32) (s : St) : Option (Int32 × St) :=
  bd (fX12_readSum rc x s) (fun _ s_5 => bd (fX12_isMarked (60 : Int32) s_5) (fun y_6 s_6 => if y_6 = 0 then bd (fX12_isMarked (61 : Int32) s_6) (fun y_12 s_12 => if y_12 = 0 then some (0, s_12) else mOp rc x s_12) else mOp rc x s_6))
def mK40 (rc : Int32 → St → Option (Int32 × St)) (x v : Int32) (s : St) : Option (Int32 × St) := bd (mTest rc x s) (fun _ s_1 => fX12_readNot_J94 rc v s_1)
theorem j63_eq (rc : Int32 → St → Option (Int32 × St)) (x v : Int32) (s : St) : fX12_readNot_J63 rc x v s = bd (mOp rc x s) (fun _ s_1 => fX12_readNot_J94 rc v s_1) := by
  rw [mOp, bd_assoc, fX12_readNot_J63]
  refine congrArg _ ?_
  funext y s7
  rw [bd_ite, fX12_readNot_J79, fX12_readNot_J79, mOp2, mOp2, bd_assoc, bd_assoc]
  have z : ∀ q : Int32, (fun (y : Int32) (s : St) => bd (bd (fX12_readSum rc x s) (fun _ s_9 => bd (fX12_lay q s_9) (fun _ s_10 => some ((0 : Int32), s_10)))) (fun _ s_1 => fX12_readNot_J94 rc v s_1)) = fun _ s_8 => bd (fX12_readSum rc x s_8) (fun _ s_9 => bd (fX12_lay q s_9) (fun _ s_10 => fX12_readNot_J94 rc v s_10)) := fun q => by
    funext y s
    rw [bd_assoc]
    refine congrArg _ ?_
    funext y2 s2
    rw [bd_assoc]
    rfl
  rw [z, z]
theorem readNot_eq (rc : Int32 → St → Option (Int32 × St)) (x : Int32) (s : St) : fX12_readNot rc x s = fX12_readNot_L2 (mK40 rc x) rc x FU 0 s := by
  rw [fX12_readNot]
  refine congrArg (fun k => fX12_readNot_L2 k rc x FU 0 s) ?_
  funext v t
  rw [mK40, mTest, bd_assoc]
  refine congrArg _ ?_
  funext y s5
  rw [bd_assoc]
  refine congrArg _ ?_
  funext y6 s6
  rw [bd_ite, bd_assoc, j63_eq]
  have z : (fun (y_12 : Int32) (s_12 : St) => if y_12 = 0 then fX12_readNot_J94 rc v s_12 else fX12_readNot_J63 rc x v s_12) = fun (y_12 : Int32) (s_12 : St) => bd (if y_12 = 0 then some ((0 : Int32), s_12) else mOp rc x s_12) (fun _ s_1 => fX12_readNot_J94 rc v s_1) := by
    funext y s
    rw [bd_ite, j63_eq]
    rfl
  rw [z]
theorem m60 : mkB 60 := by unfold mkB; decide
theorem m61 : mkB 61 := by unfold mkB; decide
theorem j22_60 (rc : Int32 → St → Option (Int32 × St)) (x : Int32) (s : St) : fX6_readTest_J22 rc x 60 s = bd (fX6_advance s) (fun _ s_2 => bd (fX6_readSum rc x s_2) (fun _ s_3 => bd (fX5_add 11 (-14 : Int32) s_3) (fun _ s_4 => some (0, s_4)))) := by
  simp only [fX6_readTest_J22, if_true]
theorem j22_61 (rc : Int32 → St → Option (Int32 × St)) (x : Int32) (s : St) : fX6_readTest_J22 rc x 61 s = bd (fX6_advance s) (fun _ s_2 => bd (fX6_readSum rc x s_2) (fun _ s_3 => bd (fX5_add 11 (-15 : Int32) s_3) (fun _ s_4 => some (0, s_4)))) := by
  have h : ¬ (61 : Int32) = 60 := by decide
  simp only [fX6_readTest_J22, h, if_false]
section LAWV
variable {b : Nat → Int32} {m K : Nat} {pl ln : Nat → Nat}
theorem POut.after {e : Nat} {f g : Option (Int32 × St)} {i i' len len' d d' : Nat} {σ t σ2 t2 : St} (h : POut b m K pl ln e f g i' len' d' σ2 t2) (h1 : i ≤ i') (h2 : len' + i ≤ len + i') (h3 : d' = d) (h4 : LwC σ σ2) (h5 : LwM t t2) : POut b m K pl ln e f g i len d σ t := by
  rcases h with ⟨i3, len3, dep3, σ3, t3, k1, k2, k3, k4, k5, k6, k7, k8, k9⟩ | ⟨σ3, t3, i3, c3, len3, k1, k2, k3, k4, k5, k6, k7, k8⟩
  · exact Or.inl ⟨i3, len3, dep3, σ3, t3, k1, k2, k3, by omega, k5, by omega, by omega, h4.tr k8, h5.tr k9⟩
  · exact Or.inr ⟨σ3, t3, i3, c3, len3, k1, k2, k3, by omega, k5, by omega, h4.tr k7, h5.tr k8⟩
theorem POut.mono {e e' : Nat} {f g : Option (Int32 × St)} {i len d : Nat} {σ t : St} (h : POut b m K pl ln e f g i len d σ t) (he : e ≤ e') : POut b m K pl ln e' f g i len d σ t := by
  rcases h with h | ⟨σ3, t3, i3, c3, len3, k1, k2, k3, k4, k5, k6, k7, k8⟩
  · exact Or.inl h
  · exact Or.inr ⟨σ3, t3, i3, c3, len3, k1, k2, k3, k4, k5, by omega, k7, k8⟩
theorem test_idle {rc : Int32 → St → Option (Int32 × St)} (x : Int32) {σ : St} (h : ¬ σ 2 4 = 0) (h1 : ¬ σ 2 6 = 60) (h2 : ¬ σ 2 6 = 61) : fX6_readTest rc x σ = some (0, σ) := by
  rw [fX6_readTest, (sum_idle (rc := rc) (rc' := rc) x).1 σ h, bd_some, if_neg h1, if_neg h2]
theorem mTest_idle {rc : Int32 → St → Option (Int32 × St)} (x : Int32) {t : St} (h : ¬ t 69 26 = 0) : mTest rc x t = some (0, t) := by
  rw [mTest, (sum_idle (rc := rc) (rc' := rc) x).2 t h, bd_some, fz_isMarked h, bd_some, if_pos rfl, fz_isMarked h, bd_some, if_pos rfl]
theorem p_test (hm : m ≤ 700) (hK : K ≤ m) (hT : TokB b m K pl ln) (hB : Bytes b) (hK8 : K ≤ 698) {rc rc' : Int32 → St → Option (Int32 × St)} {x : Int32} {need : Nat} (HP : Rdr b m K pl ln 1 need (fX6_readSum rc x) (fX12_readSum rc' x)) : Rdr b m K pl ln 2 (need + 1) (fX6_readTest rc x) (mTest rc' x) := by
  intro i len dep σ t h hL hi hd
  rcases HP i len dep σ t h hL hi (by omega) with ⟨i', len', dep', σ2, t2, g1, g2, g3, g4, g5, g6, g7, g8, g9⟩ | ⟨σ2, t2, i', c', len', g1, g2, g3, g4, g5, g6, g7, g8⟩
  · have q60 := p_isMarked hm hT g3 m60
    have q61 := p_isMarked hm hT g3 m61
    rw [fX6_readTest, mTest, g1, g2, bd_some, bd_some]
    by_cases e : σ2 2 6 = 60
    · have hO := p_oper hm hK hT hB hK8 (by decide) HP (c := -14) (mm := -24) (fun d hd => Or.inr (Or.inr ⟨hd, rfl, by decide⟩)) g3 (at_lt g3 (by rw [e]; decide)) g5 (by omega) (by omega) (by omega)
      rw [decide_eq_true e] at q60
      rw [q60, bd_some, if_neg (show ¬ kflag true = 0 by decide), mOp, q60, bd_some, if_neg (show ¬ kflag true = 0 by decide), mOp2, if_pos e, e, j22_60]
      exact (hO.mono (by decide)).after (by omega) g6 (by omega) g8 g9
    · rw [decide_eq_false e] at q60
      rw [q60, bd_some, if_pos kf_f, if_neg e]
      by_cases e2 : σ2 2 6 = 61
      · have hO := p_oper hm hK hT hB hK8 (by decide) HP (c := -15) (mm := -25) (fun d hd => Or.inr (Or.inr ⟨hd, rfl, by decide⟩)) g3 (at_lt g3 (by rw [e2]; decide)) g5 (by omega) (by omega) (by omega)
        rw [decide_eq_true e2] at q61
        rw [q61, bd_some, if_neg (show ¬ kflag true = 0 by decide), mOp, q60, bd_some, if_pos kf_f, mOp2, if_pos e2, e2, j22_61]
        exact (hO.mono (by decide)).after (by omega) g6 (by omega) g8 g9
      · rw [decide_eq_false e2] at q61
        rw [q61, bd_some, if_pos kf_f, if_neg e2]
        exact Or.inl ⟨i', len', dep', σ2, t2, rfl, rfl, g3, g4, g5, g6, g7, g8, g9⟩
  · have hi' := g3.1
    have hr : mTest rc' x t = some (0, t2) := by rw [mTest, g2, bd_some, fz_isMarked g3.ne.2, bd_some, if_pos rfl, fz_isMarked g3.ne.2, bd_some, if_pos rfl]
    rw [hr, fX6_readTest, g1, bd_some]
    by_cases e : σ2 2 6 = 60
    · obtain ⟨σ3, s1, s2, s3⟩ := c_addStep (-14) g5 (by omega)
      rw [if_pos e, e, j22_60, fz_advance g3.ne.1, bd_some, (sum_idle (rc := rc) (rc' := rc) x).1 σ2 g3.ne.1, bd_some, s1, bd_some]
      exact Or.inr ⟨σ3, t2, i', c', len' + 1, rfl, rfl, by rw [s2]; exact g3.push, g4, by rw [s2, wr_hit], by omega, g7.tr s3, g8⟩
    · rw [if_neg e]
      by_cases e2 : σ2 2 6 = 61
      · obtain ⟨σ3, s1, s2, s3⟩ := c_addStep (-15) g5 (by omega)
        rw [if_pos e2, e2, j22_61, fz_advance g3.ne.1, bd_some, (sum_idle (rc := rc) (rc' := rc) x).1 σ2 g3.ne.1, bd_some, s1, bd_some]
        exact Or.inr ⟨σ3, t2, i', c', len' + 1, rfl, rfl, by rw [s2]; exact g3.push, g4, by rw [s2, wr_hit], by omega, g7.tr s3, g8⟩
      · rw [if_neg e2]
        exact Or.inr ⟨σ2, t2, i', c', len', rfl, rfl, g3, g4, g5, by omega, g7, g8⟩
theorem p_nots (rc rc' : Int32 → St → Option (Int32 × St)) {v i : Nat} (hv : v ≤ 9) : ∀ k j fu fu' len dep (σ t : St), j + k = v → k < fu → k < fu' → At b m K pl ln i σ t → LawI len dep σ t → 1 ≤ dep len → len + k ≤ 700 →
    ∃ dep' σ' t', fX6_readNot_L50 rc (nI v) fu (nI j) σ = some (0, σ') ∧ fX12_readNot_L96 rc' (nI v) fu' (nI j) t = some (0, t') ∧ At b m K pl ln i σ' t' ∧ LawI (len + k) dep' σ' t' ∧ dep' (len + k) = dep len ∧ LwC σ σ' ∧ LwM t t' := by
  intro k
  induction k with
  | zero =>
    intro j fu fu' len dep σ t hj hfu hfu' h hL h1 hl
    obtain ⟨fu, rfl⟩ : ∃ z, fu = z + 1 := ⟨fu - 1, by omega⟩
    obtain ⟨fu', rfl⟩ : ∃ z, fu' = z + 1 := ⟨fu' - 1, by omega⟩
    obtain rfl : j = v := by omega
    exact ⟨dep, σ, t, by rw [fX6_readNot_L50, if_pos (Int32.le_refl _)], by rw [fX12_readNot_L96, if_pos (Int32.le_refl _)], h, hL, rfl, LwC.refl σ, LwM.refl t⟩
  | succ k ih =>
    intro j fu fu' len dep σ t hj hfu hfu' h hL h1 hl
    obtain ⟨fu, rfl⟩ : ∃ z, fu = z + 1 := ⟨fu - 1, by omega⟩
    obtain ⟨fu', rfl⟩ : ∃ z, fu' = z + 1 := ⟨fu' - 1, by omega⟩
    obtain ⟨σ2, s1, s2, s3⟩ := c_addStep (-11) hL.1 (by omega)
    obtain ⟨t2, u1, u2, u3⟩ := m_addStep (-28) h.2.2.2.2.1 hL.2.1 (by omega)
    obtain ⟨dep2, p1, p2⟩ := law_push hL (c := -11) (mm := -28) (d' := dep len) (Or.inr (Or.inl ⟨h1, rfl, rfl, rfl⟩)) (hL.2.2.2.1 len (Nat.le_refl _)) s2 u2
    have hA : At b m K pl ln i σ2 t2 := by rw [s2, u2]; exact h.push
    obtain ⟨dep3, σ3, t3, k1, k2, k3, k4, k5, k6, k7⟩ := ih (j + 1) fu fu' (len + 1) dep2 σ2 t2 (by omega) (by omega) (by omega) hA p1 (by omega) (by omega)
    rw [show len + 1 + k = len + (k + 1) by omega] at k4 k5
    refine ⟨dep3, σ3, t3, ?_, ?_, k3, k4, by omega, s3.tr k6, u3.tr k7⟩
    · rw [fX6_readNot_L50, if_neg (by rw [nI_leI (by omega) (by omega)]; omega), s1, bd_some, zra_1, k1]
    · rw [fX12_readNot_L96, if_neg (by rw [nI_leI (by omega) (by omega)]; omega), u1, bd_some, zra_1, k2]
theorem f_nots (rc : Int32 → St → Option (Int32 × St)) {v i : Nat} {t : St} {c : Int32} (hv : v ≤ 9) : ∀ k j fu len (σ : St), j + k = v → k < fu → Flt m K pl i c σ t → σ 11 2 = nI len → len + k ≤ 700 →
    ∃ σ', fX6_readNot_L50 rc (nI v) fu (nI j) σ = some (0, σ') ∧ Flt m K pl i c σ' t ∧ σ' 11 2 = nI (len + k) ∧ LwC σ σ' := by
  intro k
  induction k with
  | zero =>
    intro j fu len σ hj hfu h hL hl
    obtain ⟨fu, rfl⟩ : ∃ z, fu = z + 1 := ⟨fu - 1, by omega⟩
    obtain rfl : j = v := by omega
    exact ⟨σ, by rw [fX6_readNot_L50, if_pos (Int32.le_refl _)], h, hL, LwC.refl σ⟩
  | succ k ih =>
    intro j fu len σ hj hfu h hL hl
    obtain ⟨fu, rfl⟩ : ∃ z, fu = z + 1 := ⟨fu - 1, by omega⟩
    obtain ⟨σ2, s1, s2, s3⟩ := c_addStep (-11) hL (by omega)
    obtain ⟨σ3, k1, k2, k3, k4⟩ := ih (j + 1) fu (len + 1) σ2 (by omega) (by omega) (by rw [s2]; exact h.push) (by rw [s2, wr_hit]) (by omega)
    refine ⟨σ3, ?_, k2, by rw [k3]; exact congrArg nI (by omega), s3.tr k4⟩
    rw [fX6_readNot_L50, if_neg (by rw [nI_leI (by omega) (by omega)]; omega), s1, bd_some, zra_1, k1]
theorem fm_nots (rc : Int32 → St → Option (Int32 × St)) {v : Nat} {t : St} (hv : v ≤ 9) (h : ¬ t 69 26 = 0) : ∀ k j fu, j + k = v → k < fu → fX12_readNot_L96 rc (nI v) fu (nI j) t = some (0, t) := by
  intro k
  induction k with
  | zero =>
    intro j fu hj hfu
    obtain ⟨fu, rfl⟩ : ∃ z, fu = z + 1 := ⟨fu - 1, by omega⟩
    obtain rfl : j = v := by omega
    rw [fX12_readNot_L96, if_pos (Int32.le_refl _)]
  | succ k ih =>
    intro j fu hj hfu
    obtain ⟨fu, rfl⟩ : ∃ z, fu = z + 1 := ⟨fu - 1, by omega⟩
    rw [fX12_readNot_L96, if_neg (by rw [nI_leI (by omega) (by omega)]; omega), fz_lay h, bd_some, zra_1, ih (j + 1) fu (by omega) (by omega)]
theorem mK40_idle {rc : Int32 → St → Option (Int32 × St)} (x : Int32) {t : St} (h : ¬ t 69 26 = 0) {v : Nat} (hv : v ≤ 9) : mK40 rc x (nI v) t = some (0, t) := by
  rw [mK40, mTest_idle x h, bd_some, fX12_readNot_J94]
  exact fm_nots rc hv h v 0 FU (by omega) (by show _ < 20000; omega)
/-- behind the nots -/
theorem p_notT (hm : m ≤ 700) (hK : K ≤ m) (hT : TokB b m K pl ln) (hB : Bytes b) (hK8 : K ≤ 698) {rc rc' : Int32 → St → Option (Int32 × St)} {x : Int32} {need : Nat} (HP : Rdr b m K pl ln 2 need (fX6_readTest rc x) (mTest rc' x)) {i i0 v len : Nat} {dep : Nat → Nat} {σ t : St} (hv : v ≤ 6) (h : At b m K pl ln i σ t) (hi : i = i0 + v) (hk : ¬ σ 2 6 = 311) (hL : LawI len dep σ t) (hl : len + 1 ≤ i0) (hd : dep len + need ≤ 64) :
    POut b m K pl ln 2 (fX6_readNot_J28 rc x (nI v) σ) (mK40 rc' x (nI v) t) i0 len (dep len) σ t := by
  rw [fX6_readNot_J28, if_neg hk, fX6_readNot_J43, mK40]
  rcases HP i len dep σ t h hL (by omega) hd with ⟨i', len', dep', σ2, t2, g1, g2, g3, g4, g5, g6, g7, g8, g9⟩ | ⟨σ2, t2, i', c', len', g1, g2, g3, g4, g5, g6, g7, g8⟩
  · have hi' := g3.1
    obtain ⟨dep3, σ3, t3, k1, k2, k3, k4, k5, k6, k7⟩ := p_nots rc rc' (v := v) (by omega) v 0 FU FU len' dep' σ2 t2 (by omega) (by show _ < 20000; omega) (by show _ < 20000; omega) g3 g5 (by omega) (by omega)
    have k1 : fX6_readNot_L50 rc (nI v) FU (0 : Int32) σ2 = some (0, σ3) := k1
    have k2 : fX12_readNot_L96 rc' (nI v) FU (0 : Int32) t2 = some (0, t3) := k2
    rw [g1, g2, bd_some, bd_some, k1, fX12_readNot_J94, k2]
    exact Or.inl ⟨i', len' + v, dep3, σ3, t3, rfl, rfl, k3, by omega, k4, by omega, by omega, g8.tr k6, g9.tr k7⟩
  · have hi' := g3.1
    obtain ⟨σ3, k1, k2, k3, k4⟩ := f_nots rc (v := v) (by omega) v 0 FU len' σ2 (by omega) (by show _ < 20000; omega) g3 g5 (by omega)
    have k1 : fX6_readNot_L50 rc (nI v) FU (0 : Int32) σ2 = some (0, σ3) := k1
    have k5 : fX12_readNot_L96 rc' (nI v) FU (0 : Int32) t2 = some (0, t2) := fm_nots rc' (v := v) (by omega) g3.ne.2 v 0 FU (by omega) (by show _ < 20000; omega)
    rw [g1, g2, bd_some, bd_some, k1, fX12_readNot_J94, k5]
    exact Or.inr ⟨σ3, t2, i', c', len' + v, rfl, rfl, k2, by omega, k3, by omega, g7.tr k4, g8⟩
theorem p_notL (hm : m ≤ 700) (hK : K ≤ m) (hT : TokB b m K pl ln) (hB : Bytes b) (hK8 : K ≤ 698) {rc rc' : Int32 → St → Option (Int32 × St)} {x : Int32} {need : Nat} (HP : Rdr b m K pl ln 2 need (fX6_readTest rc x) (mTest rc' x)) : ∀ k v fu fu' i i0 len dep (σ t : St), v + k = 6 → k < fu → k + 1 < fu' → At b m K pl ln i σ t → i = i0 + v → LawI len dep σ t → len + 1 ≤ i0 → dep len + need ≤ 64 →
    POut b m K pl ln 2 (fX6_readNot_L2 (fun v2 s2 => fX6_readNot_J28 rc x v2 s2) rc x fu (nI v) σ) (fX12_readNot_L2 (mK40 rc' x) rc' x fu' (nI v) t) i0 len (dep len) σ t := by
  intro k
  induction k with
  | zero =>
    intro v fu fu' i i0 len dep σ t hv hfu hfu' h hi hL hl hd
    obtain ⟨fu, rfl⟩ : ∃ z, fu = z + 1 := ⟨fu - 1, by omega⟩
    obtain ⟨fu', rfl⟩ : ∃ z, fu' = z + 2 := ⟨fu' - 2, by omega⟩
    obtain rfl : v = 6 := by omega
    have q := p_is hm hT h (x := (1015, 311)) (by decide)
    dsimp only at q
    have hiK := h.1
    rw [fX6_readNot_L2, if_pos (show (6 : Int32) ≤ nI 6 by decide)]
    by_cases e : σ 2 6 = 311
    · rw [decide_eq_true e] at q
      obtain ⟨f1, f2, f3⟩ := p_fault h (c := 2) (by decide)
      obtain ⟨r1, r2⟩ := flt_rd (m := m) (K := K) (pl := pl) (i := i) (σ := σ) (t := t) 2
      have e6 : (wr σ 2 4 2) 2 6 = 311 := by rw [wr_place (by decide)]; exact e
      have hr : fX12_readNot_L2 (mK40 rc' x) rc' x (fu' + 2) (nI 6) t = some (0, wr (wr t 69 26 2) 69 27 (nI (pAt m K pl i))) := by
        rw [fX12_readNot_L2, q, bd_some, if_neg (show ¬ kflag true = 0 by decide), if_pos (show nI 6 = (6 : Int32) from rfl), f2, bd_some, fX12_readNot_J23, if_neg f3.ne.2, zra_1, fX12_readNot_L2, fz_is f3.ne.2, bd_some, if_pos rfl]
        exact mK40_idle x f3.ne.2 (by decide)
      obtain ⟨σ3, k1, k2, k3, k4⟩ := f_nots rc (v := 6) (by decide) 6 0 FU len (wr σ 2 4 2) (by omega) (by decide) f3 (by rw [wr_slot (by decide)]; exact hL.1) (by omega)
      have k1 : fX6_readNot_L50 rc (nI 6) FU (0 : Int32) (wr σ 2 4 2) = some (0, σ3) := k1
      rw [hr, fX6_readNot_J28, if_pos e, f1, bd_some, fX6_readNot_J43, test_idle x f3.ne.1 (by rw [e6]; decide) (by rw [e6]; decide), bd_some, k1]
      exact Or.inr ⟨σ3, _, i, 2, len + 6, rfl, rfl, k2, by omega, k3, by omega, r1.lw.tr k4, r2.lw⟩
    · rw [decide_eq_false e] at q
      rw [fX12_readNot_L2, q, bd_some, if_pos kf_f]
      exact p_notT hm hK hT hB hK8 HP (by decide) h hi e hL hl hd
  | succ k ih =>
    intro v fu fu' i i0 len dep σ t hv hfu hfu' h hi hL hl hd
    obtain ⟨fu, rfl⟩ : ∃ z, fu = z + 1 := ⟨fu - 1, by omega⟩
    obtain ⟨fu', rfl⟩ : ∃ z, fu' = z + 1 := ⟨fu' - 1, by omega⟩
    have q := p_is hm hT h (x := (1015, 311)) (by decide)
    dsimp only at q
    rw [fX6_readNot_L2, if_neg (show ¬ (6 : Int32) ≤ nI v by rw [zll_6 _ (by omega)]; omega)]
    by_cases e : σ 2 6 = 311
    · rw [decide_eq_true e] at q
      obtain ⟨σ1, t1, n1, n2, n3, n4, n5⟩ := p_next hm hK hT hB h (at_lt h (by rw [e]; decide))
      have hI := ih (v + 1) fu fu' (i + 1) i0 len dep σ1 t1 (by omega) (by omega) (by omega) n3 (by omega) (hL.rd n4.rd n5.rd) hl hd
      rw [if_pos e, n1, bd_some, zra_1, fX12_readNot_L2, q, bd_some, if_neg (show ¬ kflag true = 0 by decide), if_neg (show ¬ nI v = (6 : Int32) by rw [zle_6 _ (by omega)]; omega), fX12_readNot_J23, if_pos h.2.2.2.2.1, n2, bd_some, zra_1]
      exact hI.after (Nat.le_refl _) (Nat.le_refl _) rfl n4.rd.lw n5.rd.lw
    · rw [decide_eq_false e] at q
      rw [if_neg e, fX12_readNot_L2, q, bd_some, if_pos kf_f]
      exact p_notT hm hK hT hB hK8 HP (by omega) h hi e hL hl hd
theorem p_not (hm : m ≤ 700) (hK : K ≤ m) (hT : TokB b m K pl ln) (hB : Bytes b) (hK8 : K ≤ 698) {rc rc' : Int32 → St → Option (Int32 × St)} {x : Int32} {need : Nat} (HP : Rdr b m K pl ln 2 need (fX6_readTest rc x) (mTest rc' x)) : Rdr b m K pl ln 2 need (fX6_readNot rc x) (fX12_readNot rc' x) := by
  intro i len dep σ t h hL hi hd
  rw [readNot_eq, fX6_readNot]
  exact p_notL hm hK hT hB hK8 HP 6 0 FU FU i i len dep σ t (by omega) (by decide) (by decide) h (by omega) hL hi hd
theorem p_or (hm : m ≤ 700) (hK : K ≤ m) (hT : TokB b m K pl ln) (hB : Bytes b) (hK8 : K ≤ 698) {rc rc' : Int32 → St → Option (Int32 × St)} {x : Int32} {need : Nat} (HP : Rdr b m K pl ln 1 need (fX6_readPart rc x) (fX12_readPart rc' x)) : Rdr b m K pl ln 2 (need + 5) (fun σ => bd (fX6_readAnd rc x σ) (fun _ s_1 => fX6_readExpr_L62 rc x FU (nI 0) s_1)) (fX12_readExpression_J62 rc' x) := by
  have h1 := p_sum hm hK hT hB hK8 HP
  have h2 := p_not hm hK hT hB hK8 (p_test hm hK hT hB hK8 h1)
  have h3 : Rdr b m K pl ln 2 (need + 4) (fX6_readAnd rc x) (fX12_readAnd rc' x) := p_chain hm hK hT hB hK8 (by decide) h2 (loop_and hm hT rc rc' x)
  exact p_chain hm hK hT hB hK8 (by decide) h3 (loop_or hm hT rc rc' x)
end LAWV
