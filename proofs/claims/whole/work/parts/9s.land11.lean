/-! ===== land: the law, products and sums ===== -/
section LAWS
variable {b : Nat → Int32} {m K : Nat} {pl ln : Nat → Nat}
/-- what a reader of the law, class and reference, keeps to -/
def Rdr (b : Nat → Int32) (m K : Nat) (pl ln : Nat → Nat) (e need : Nat) (f g : St → Option (Int32 × St)) : Prop := ∀ i len dep (σ t : St), At b m K pl ln i σ t → LawI len dep σ t → len + 1 ≤ i → dep len + need ≤ 64 → POut b m K pl ln e (f σ) (g t) i len (dep len) σ t
/-- idle after a fault -/
def Idle (f g : St → Option (Int32 × St)) : Prop := (∀ σ, ¬ σ 2 4 = 0 → f σ = some (0, σ)) ∧ ∀ t, ¬ t 69 26 = 0 → g t = some (0, t)
theorem part_idle {rc rc' : Int32 → St → Option (Int32 × St)} (x y : Int32) : Idle (fX6_readPart rc x) (fX12_readPart rc' y) := ⟨fun σ h => by rw [fX6_readPart, if_neg h], fun t h => by rw [fX12_readPart, if_neg h]⟩
/-- an operator eaten, its right side read, its step laid: e is kept -/
theorem p_oper (hm : m ≤ 700) (hK : K ≤ m) (hT : TokB b m K pl ln) (hB : Bytes b) (hK8 : K ≤ 698) {e need : Nat} (he : e ≤ 2) {f g : St → Option (Int32 × St)} (HP : Rdr b m K pl ln e need f g) {c mm : Int32} (hop : ∀ d, 2 ≤ d + 1 → RStep c mm (d + 1) d) {i len : Nat} {dep : Nat → Nat} {σ t : St} (h : At b m K pl ln i σ t) (hlt : i < K) (hL : LawI len dep σ t) (hi : len + 1 ≤ i) (hd1 : 1 ≤ dep len) (hd : dep len + need ≤ 64) :
    POut b m K pl ln e (bd (fX6_advance σ) (fun _ s_2 => bd (f s_2) (fun _ s_3 => bd (fX5_add 11 c s_3) (fun _ s_4 => some (0, s_4))))) (bd (fX12_stepOn t) (fun _ s_4 => bd (g s_4) (fun _ s_5 => bd (fX12_lay mm s_5) (fun _ s_6 => some (0, s_6))))) i len (dep len - 1) σ t := by
  have hiK := h.1
  obtain ⟨σ1, t1, n1, n2, n3, n4, n5⟩ := p_next hm hK hT hB h hlt
  rw [n1, n2, bd_some, bd_some]
  rcases HP (i + 1) len dep σ1 t1 n3 (hL.rd n4.rd n5.rd) (by omega) hd with ⟨i', len', dep', σ2, t2, g1, g2, g3, g4, g5, g6, g7, g8, g9⟩ | ⟨σ2, t2, i', c', len', g1, g2, g3, g4, g5, g6, g7, g8⟩
  · rw [g1, g2, bd_some, bd_some]
    have := g3.1
    obtain ⟨σ3, s1, s2, s3⟩ := c_addStep c g5.1 (by omega)
    obtain ⟨t3, u1, u2, u3⟩ := m_addStep mm g3.2.2.2.2.1 g5.2.1 (by omega)
    have hop2 : RStep c mm (dep' len') (dep len) := by
      rw [g7]
      exact hop (dep len) (by omega)
    have hle := hL.2.2.2.1 len (Nat.le_refl _)
    obtain ⟨dep3, p1, p2⟩ := law_push g5 hop2 hle s2 u2
    left
    refine ⟨i', len' + 1, dep3, σ3, t3, by rw [s1, bd_some], by rw [u1, bd_some], ?_, by omega, p1, by omega, by omega, n4.rd.lw.tr (g8.tr s3), n5.rd.lw.tr (g9.tr u3)⟩
    rw [s2, u2]
    exact g3.push
  · rw [g1, g2, bd_some, bd_some]
    have := g3.1
    obtain ⟨σ3, s1, s2, s3⟩ := c_addStep c g5 (by omega)
    right
    refine ⟨σ3, t2, i', c', len' + 1, by rw [s1, bd_some], by rw [fz_lay g3.ne.2, bd_some], ?_, by omega, by rw [s2, wr_hit], by omega, n4.rd.lw.tr (g7.tr s3), n5.rd.lw.tr g8⟩
    rw [s2]
    exact g3.push
end LAWS
section LAWT
variable {b : Nat → Int32} {m K : Nat} {pl ln : Nat → Nat}
theorem bd3 {A : Option (Int32 × St)} {f h : St → Option (Int32 × St)} {σ' : St} (k : St → Option (Int32 × St)) (e : bd A (fun _ s_2 => bd (f s_2) (fun _ s_3 => bd (h s_3) (fun _ s_4 => some ((0 : Int32), s_4)))) = some (0, σ')) : bd A (fun _ s_2 => bd (f s_2) (fun _ s_3 => bd (h s_3) (fun _ s_4 => k s_4))) = k σ' := by
  match A, e with
  | none, e => cases e
  | some (a, s2), e =>
    rw [bd_some] at e ⊢
    generalize f s2 = F at e ⊢
    match F, e with
    | none, e => cases e
    | some (a2, s3), e =>
      rw [bd_some] at e ⊢
      generalize h s3 = H at e ⊢
      match H, e with
      | none, e => cases e
      | some (a3, s4), e =>
        rw [bd_some] at e ⊢
        cases e
        rfl
/-- the outcome of a loop over operators -/
def LOut (b : Nat → Int32) (m K : Nat) (pl ln : Nat → Nat) (e : Nat) (f g : Option (Int32 × St)) (i len d : Nat) (σ t : St) : Prop :=
  (∃ i' len' dep' σ' t', f = some (0, σ') ∧ g = some (0, t') ∧ At b m K pl ln i' σ' t' ∧ i ≤ i' ∧ LawI len' dep' σ' t' ∧ len' + i ≤ len + i' ∧ dep' len' = d + 1 ∧ LwC σ σ' ∧ LwM t t') ∨
  ∃ σ' t' i' c len', f = some (0, σ') ∧ g = some (0, t') ∧ Flt m K pl i' c σ' t' ∧ i ≤ i' ∧ σ' 11 2 = nI len' ∧ len' + i ≤ len + i' + e ∧ LwC σ σ' ∧ LwM t t'
theorem LwC.refl (σ : St) : LwC σ σ := (RdC.refl σ).lw
theorem LwM.refl (t : St) : LwM t t := (RdM.refl t).lw
/-- a loop: idle after a fault, stopped by another token, or one operator further -/
def Loop (b : Nat → Int32) (m K : Nat) (pl ln : Nat → Nat) (f g : St → Option (Int32 × St)) (LC : Nat → Int32 → St → Option (Int32 × St)) (LR : Nat → St → Option (Int32 × St)) : Prop :=
  (∀ σ, ¬ σ 2 4 = 0 → ∀ fu v2, v2 < 700 → LC (fu + 1) (nI v2) σ = some (0, σ)) ∧ (∀ t, ¬ t 69 26 = 0 → ∀ fu, LR (fu + 1) t = some (0, t)) ∧
  ∀ i σ t, At b m K pl ln i σ t → ((∀ fu v2, v2 < 700 → LC (fu + 1) (nI v2) σ = some (0, σ)) ∧ ∀ fu, LR (fu + 1) t = some (0, t)) ∨
    (i < K ∧ ∃ c mm, (∀ d, 2 ≤ d + 1 → RStep c mm (d + 1) d) ∧ (∀ fu v2, v2 < 700 → LC (fu + 1) (nI v2) σ = bd (fX6_advance σ) (fun _ s_2 => bd (f s_2) (fun _ s_3 => bd (fX5_add 11 c s_3) (fun _ s_4 => LC fu (nI (v2 + 1)) s_4)))) ∧ ∀ fu, LR (fu + 1) t = bd (fX12_stepOn t) (fun _ s_4 => bd (g s_4) (fun _ s_5 => bd (fX12_lay mm s_5) (fun _ s_6 => LR fu s_6))))
theorem p_loop (hm : m ≤ 700) (hK : K ≤ m) (hT : TokB b m K pl ln) (hB : Bytes b) (hK8 : K ≤ 698) {e need : Nat} (he : e ≤ 2) {f g : St → Option (Int32 × St)} (HP : Rdr b m K pl ln e need f g) {LC : Nat → Int32 → St → Option (Int32 × St)} {LR : Nat → St → Option (Int32 × St)} (HL : Loop b m K pl ln f g LC LR) {d : Nat} (hd : d + 1 + need ≤ 64) :
    ∀ r i v2 fu fu' len dep (σ t : St), K ≤ i + r → v2 + r ≤ 698 → r < fu → r < fu' → At b m K pl ln i σ t → LawI len dep σ t → len + 1 ≤ i → dep len = d + 1 → LOut b m K pl ln e (LC fu (nI v2) σ) (LR fu' t) i len d σ t := by
  intro r
  induction r with
  | zero =>
    intro i v2 fu fu' len dep σ t hr hv hfu hfu' h hL hi hdl
    obtain ⟨fu, rfl⟩ : ∃ z, fu = z + 1 := ⟨fu - 1, by omega⟩
    obtain ⟨fu', rfl⟩ : ∃ z, fu' = z + 1 := ⟨fu' - 1, by omega⟩
    rcases HL.2.2 i σ t h with ⟨a1, a2⟩ | ⟨a1, -⟩
    · left
      exact ⟨i, len, dep, σ, t, a1 fu v2 (by omega), a2 fu', h, Nat.le_refl _, hL, Nat.le_refl _, hdl, LwC.refl σ, LwM.refl t⟩
    · omega
  | succ r ih =>
    intro i v2 fu fu' len dep σ t hr hv hfu hfu' h hL hi hdl
    obtain ⟨fu, rfl⟩ : ∃ z, fu = z + 1 := ⟨fu - 1, by omega⟩
    obtain ⟨fu', rfl⟩ : ∃ z, fu' = z + 1 := ⟨fu' - 1, by omega⟩
    rcases HL.2.2 i σ t h with ⟨a1, a2⟩ | ⟨a1, c, mm, hop, a2, a3⟩
    · left
      exact ⟨i, len, dep, σ, t, a1 fu v2 (by omega), a2 fu', h, Nat.le_refl _, hL, Nat.le_refl _, hdl, LwC.refl σ, LwM.refl t⟩
    · have hO := p_oper hm hK hT hB hK8 he HP hop h a1 hL hi (by omega) (by omega)
      rw [a2 fu v2 (by omega), a3 fu']
      rcases hO with ⟨i', len', dep', σ2, t2, g1, g2, g3, g4, g5, g6, g7, g8, g9⟩ | ⟨σ2, t2, i', c', len', g1, g2, g3, g4, g5, g6, g7, g8⟩
      · rw [bd3 (fun s => LC fu (nI (v2 + 1)) s) g1, bd3 (fun s => LR fu' s) g2]
        rcases ih i' (v2 + 1) fu fu' len' dep' σ2 t2 (by omega) (by omega) (by omega) (by omega) g3 g5 (by omega) (by omega) with ⟨i3, len3, dep3, σ3, t3, k1, k2, k3, k4, k5, k6, k7, k8, k9⟩ | ⟨σ3, t3, i3, c3, len3, k1, k2, k3, k4, k5, k6, k7, k8⟩
        · left
          exact ⟨i3, len3, dep3, σ3, t3, k1, k2, k3, by omega, k5, by omega, k7, g8.tr k8, g9.tr k9⟩
        · right
          exact ⟨σ3, t3, i3, c3, len3, k1, k2, k3, by omega, k5, by omega, g8.tr k7, g9.tr k8⟩
      · rw [bd3 (fun s => LC fu (nI (v2 + 1)) s) g1, bd3 (fun s => LR fu' s) g2]
        right
        obtain ⟨fu, rfl⟩ : ∃ z, fu = z + 1 := ⟨fu - 1, by omega⟩
        obtain ⟨fu', rfl⟩ : ∃ z, fu' = z + 1 := ⟨fu' - 1, by omega⟩
        exact ⟨σ2, t2, i', c', len', HL.1 σ2 g3.ne.1 fu (v2 + 1) (by omega), HL.2.1 t2 g3.ne.2 fu', g3, g4, g5, g6, g7, g8⟩
/-- first one, then the loop -/
theorem p_chain (hm : m ≤ 700) (hK : K ≤ m) (hT : TokB b m K pl ln) (hB : Bytes b) (hK8 : K ≤ 698) {e need : Nat} (he : e ≤ 2) {f g : St → Option (Int32 × St)} (HP : Rdr b m K pl ln e need f g) {LC : Nat → Int32 → St → Option (Int32 × St)} {LR : Nat → St → Option (Int32 × St)} (HL : Loop b m K pl ln f g LC LR) : Rdr b m K pl ln e (need + 1) (fun σ => bd (f σ) (fun _ s_1 => LC FU (nI 0) s_1)) (fun t => bd (g t) (fun _ s_1 => LR FU s_1)) := by
  intro i len dep σ t h hL hi hd
  dsimp only
  rcases HP i len dep σ t h hL hi (by omega) with ⟨i', len', dep', σ2, t2, g1, g2, g3, g4, g5, g6, g7, g8, g9⟩ | ⟨σ2, t2, i', c', len', g1, g2, g3, g4, g5, g6, g7, g8⟩
  · rw [g1, g2, bd_some, bd_some]
    rcases p_loop hm hK hT hB hK8 he HP HL (d := dep len) (by omega) (K - i') i' 0 FU FU len' dep' σ2 t2 (by omega) (by omega) (by show _ < 20000; omega) (by show _ < 20000; omega) g3 g5 (by omega) g7 with ⟨i3, len3, dep3, σ3, t3, k1, k2, k3, k4, k5, k6, k7, k8, k9⟩ | ⟨σ3, t3, i3, c3, len3, k1, k2, k3, k4, k5, k6, k7, k8⟩
    · left
      exact ⟨i3, len3, dep3, σ3, t3, k1, k2, k3, by omega, k5, by omega, k7, g8.tr k8, g9.tr k9⟩
    · right
      exact ⟨σ3, t3, i3, c3, len3, k1, k2, k3, by omega, k5, by omega, g8.tr k7, g9.tr k8⟩
  · rw [g1, g2, bd_some, bd_some]
    right
    exact ⟨σ2, t2, i', c', len', HL.1 σ2 g3.ne.1 19999 0 (by decide), HL.2.1 t2 g3.ne.2 19999, g3, g4, g5, g6, g7, g8⟩
end LAWT
