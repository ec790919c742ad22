/-! ===== land: the law, products and sums ===== -/
section LAWS
variable {b : Nat → Int32} {m K : Nat} {pl ln : Nat → Nat}
/-- what a reader of the law, class and reference, keeps to -/
def Rdr (b : Nat → Int32) (m K : Nat) (pl ln : Nat → Nat) (e need : Nat) (f g : St → Option (Int32 × St)) : Prop := ∀ i len dep (σ t : St), At b m K pl ln i σ t → LawI len dep σ t → len + 1 ≤ i → dep len + need ≤ 64 → POut b m K pl ln e (f σ) (g t) i len (dep len) σ t
/-- idle after a fault -/
def Idle (f g : St → Option (Int32 × St)) : Prop := (∀ σ, ¬ σ 2 4 = 0 → f σ = some (0, σ)) ∧ ∀ t, ¬ t 69 26 = 0 → g t = some (0, t)
theorem part_idle {rc rc' : Int32 → St → Option (Int32 × St)} (x y : Int32) : Idle (fX6_readPart rc x) (fX12_readPart rc' y) := ⟨fun σ h => by rw [fX6_readPart, if_neg h], fun t h => by rw [fX12_readPart, if_neg h]⟩
/-- an operator eaten, its right side read, its step laid: e is kept -/
theorem p_oper (hm : m ≤ 700) (hK : K ≤ m) (hT : TokB b m K pl ln) (hB : Bytes b) (hK8 : K ≤ 698) {e need : Nat} (he : e ≤ 2) {f g : St → Option (Int32 × St)} (HP : Rdr b m K pl ln e need f g) {c mm : Int32} (hop : ∀ d, 2 ≤ d + 1 → RStep c mm (d + 1) d) {i len : Nat} {dep : Nat → Nat} {σ t : St} (h : At b m K pl ln i σ t) (hlt : i < K) (hL : LawI len dep σ t) (hi : len + 1 ≤ i) (hd1 : 1 ≤ dep len) (hd : dep len + need ≤ 64) :
    POut b m K pl ln e (bd (fX6_advance σ) (fun _ s_2 => bd (f s_2) (fun _ s_3 => bd (fX5_add 11 c s_3) (fun _ s_4 => some (0, s_4))))) (bd (fX12_stepOn t) (fun _ s_4 => bd (g s_4) (fun _ s_5 => bd (fX12_lay mm s_5) (fun _ s_6 => some (0, s_6))))) i len (dep len - 1) σ t := by
  have hiK := h.1
  obtain ⟨σ1, t1, n1, n2, n3, n4, n5⟩ := p_next hm hK hT hB h hlt
  rw [n1, n2, bd_some, bd_some]
  rcases HP (i + 1) len dep σ1 t1 n3 (hL.rd n4.rd n5.rd) (by omega) hd with ⟨i', len', dep', σ2, t2, g1, g2, g3, g4, g5, g6, g7, g8, g9⟩ | ⟨σ2, t2, i', c', len', g1, g2, g3, g4, g5, g6, g7, g8⟩
  · rw [g1, g2, bd_some, bd_some]
    have := g3.1
    obtain ⟨σ3, s1, s2, s3⟩ := c_addStep c g5.1 (by omega)
    obtain ⟨t3, u1, u2, u3⟩ := m_addStep mm g3.2.2.2.2.1 g5.2.1 (by omega)
    have hop2 : RStep c mm (dep' len') (dep len) := by
      rw [g7]
      exact hop (dep len) (by omega)
    have hle := hL.2.2.2.1 len (Nat.le_refl _)
    obtain ⟨dep3, p1, p2⟩ := law_push g5 hop2 hle s2 u2
    left
    refine ⟨i', len' + 1, dep3, σ3, t3, by rw [s1, bd_some], by rw [u1, bd_some], ?_, by omega, p1, by omega, by omega, n4.rd.lw.tr (g8.tr s3), n5.rd.lw.tr (g9.tr u3)⟩
    rw [s2, u2]
    exact g3.push
  · rw [g1, g2, bd_some, bd_some]
    have := g3.1
    obtain ⟨σ3, s1, s2, s3⟩ := c_addStep c g5 (by omega)
    right
    refine ⟨σ3, t2, i', c', len' + 1, by rw [s1, bd_some], by rw [fz_lay g3.ne.2, bd_some], ?_, by omega, by rw [s2, wr_hit], by omega, n4.rd.lw.tr (g7.tr s3), n5.rd.lw.tr g8⟩
    rw [s2]
    exact g3.push
end LAWS
