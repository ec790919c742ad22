/-! ===== land: the lines of a front and of a law ===== -/
theorem i8 : inA (8 : Int32) 10 := by decide
theorem zcl_8' : (8 : Int32).toNatClampNeg = 8 := rfl
def mF98 (s : St) : Option (Int32 × St) := bd (fX12_readNumber (1 : Int32) (3996 : Int32) s) (fun y s_21 => some ((0 : Int32), wr s_21 71 8 y))
def mFront (ft : Bool) (s : St) : Option (Int32 × St) := if ft = true then bd (fX12_wrong (5 : Int32) s) (fun _ s_1 => mF98 s_1) else bd (fX12_stepOn s) (fun _ s_1 => mF98 s_1)
def mLaw (lt : Bool) (s : St) : Option (Int32 × St) := if lt = true then bd (fX12_wrong (5 : Int32) s) (fun _ s_1 => fX12_readExpression 9 (0 : Int32) s_1) else bd (fX12_stepOn s) (fun _ s_1 => fX12_readExpression 9 (0 : Int32) s_1)
theorem expr_idle {σ : St} (h : ¬ σ 2 4 = 0) (hk : σ 2 6 = 308) : fX6_readExpr 9 (0 : Int32) σ = some (0, σ) := by
  show gX6_readExpr (fX6_readExpr 8) (0 : Int32) σ = _
  have e311 : ¬ σ 2 6 = 311 := by rw [hk]; decide
  have hnot : ∀ rc, fX6_readNot rc (0 : Int32) σ = some (0, σ) := fun rc => by
    rw [fX6_readNot]
    show fX6_readNot_L2 _ rc (0 : Int32) (19999 + 1) (0 : Int32) σ = _
    rw [fX6_readNot_L2, if_neg (by decide), if_neg e311, fX6_readNot_J28, if_neg e311, fX6_readNot_J43, test_idle _ h (by rw [hk]; decide) (by rw [hk]; decide), bd_some]
    show fX6_readNot_L50 rc (0 : Int32) (19999 + 1) (0 : Int32) σ = _
    rw [fX6_readNot_L50, if_pos (by decide)]
  have hand : ∀ rc, fX6_readAnd rc (0 : Int32) σ = some (0, σ) := fun rc => by
    rw [fX6_readAnd, hnot, bd_some]
    show fX6_readAnd_L7 rc (0 : Int32) (19999 + 1) (0 : Int32) σ = _
    rw [fX6_readAnd_L7, if_neg (by decide), if_neg h]
  rw [gX6_readExpr, if_neg (by rw [hk]; decide), if_pos (by rw [hk]; decide), fX6_readExpr_J29, fX6_readExpr_J34, if_pos (by decide), hand, bd_some]
  show fX6_readExpr_L62 _ (0 : Int32) (19999 + 1) (0 : Int32) σ = _
  rw [fX6_readExpr_L62, if_neg (by decide), if_neg h]
theorem mexpr_idle {t : St} (h : ¬ t 69 26 = 0) : fX12_readExpression 9 (0 : Int32) t = some (0, t) := by
  show gX12_readExpression (fX12_readExpression 8) (0 : Int32) t = _
  rw [gX12_readExpression, if_neg h]
section FRNT
variable {b : Nat → Int32} {m K : Nat} {pl ln : Nat → Nat}
theorem p_front (hm : m ≤ 700) (hK : K ≤ m) (hT : TokB b m K pl ln) (hB : Bytes b) {n nw nf i : Nat} {ft lt : Bool} {σ t : St} (h : At b m K pl ln i σ t) (hiK : i < K) (hD : DatI n nw nf ft lt σ t) :
    BOut b m K pl ln (fX6_readFront σ) (mFront ft t) true lt i σ t := by
  have h28 := hD.2.2.2.2.1
  cases ft with
  | false =>
    obtain ⟨σ1, t1, n1, n2, n3, n4, n5⟩ := p_next hm hK hT hB h hiK
    have hD1 := hD.rd n4.rd n5.rd
    have h28 : σ 2 8 = 0 := h28
    have c1 : fX6_readFront σ = bd (fX6_takeNumber (1 : Int32) (3996 : Int32) σ1) (fun y_2 s_2 => if (s_2 2 4) = 0 then (let s_3 := wr s_2 3 10 y_2; let s_4 := wr s_3 2 8 (1 : Int32); some (0, s_4)) else (some (0, s_2))) := by
      rw [fX6_readFront, h28, fX6_takeFirst, if_pos rfl, n1, bd_some, bd_some]
    have m1 : mFront false t = bd (fX12_readNumber (1 : Int32) (3996 : Int32) t1) (fun y s_21 => some ((0 : Int32), wr s_21 71 8 y)) := by
      rw [mFront, if_neg (by decide), n2, bd_some, mF98]
    rw [c1, m1]
    rcases p_takeNumber hm hK hT hB n3 (lo := 1) (hi := 3996) (by decide) (by decide) with ⟨v, σ2, t2, v1, v2, e1, e2, hi2, h2, r1, r2⟩ | ⟨y, σ2, t2, e1, e2, cc, f3, r1, r2⟩
    · have e1 : fX6_takeNumber (1 : Int32) (3996 : Int32) σ1 = some (nI v, σ2) := e1
      have e2 : fX12_readNumber (1 : Int32) (3996 : Int32) t1 = some (nI v, t2) := e2
      rw [e1, e2, bd_some, bd_some, if_pos h2.2.2.2.1]
      dsimp only
      left
      refine ⟨i + 1 + 1, n, nw, nf, _, _, rfl, rfl, h2.cong (fun x q1 q2 => by rw [wr_slot (by omega), wr_slot (by omega)]) (fun y q1 q2 => by rw [wr_place (by omega), wr_slot (by decide)]) (fun y _ _ => by rw [wr_slot (by decide)]) (wr_slot (by decide)), by omega, ?_, ((n4.rd.ln.tr r1.ln).tr (LnC.w1 (by decide) (by decide))).tr (LnC.w1 (by decide) (by decide)), (n5.rd.ln.tr r2.ln).tr (LnM.w1 (by decide) (by decide) (by decide))⟩
      have hD2 := hD1.rd r1 r2
      have cx : ∀ x, x ≠ 2 → x ≠ 3 → (wr (wr σ2 3 10 (nI v)) 2 8 1) x = σ2 x := fun x q1 q2 => by rw [wr_slot q1, wr_slot q2]
      have c3 : ∀ j, j ≠ 10 → (wr (wr σ2 3 10 (nI v)) 2 8 1) 3 j = σ2 3 j := fun j q => by rw [wr_slot (by decide), wr_place q]
      have mx : ∀ x, x ≠ 71 → (wr t2 71 8 (nI v)) x = t2 x := fun x q => wr_slot q
      have m7 : ∀ j, j ≠ 8 → (wr t2 71 8 (nI v)) 71 j = t2 71 j := fun j q => wr_place q
      unfold DatI at hD2 ⊢
      rw [c3 0 (by decide), c3 4 (by decide), c3 6 (by decide), m7 5 (by decide), m7 6 (by decide), m7 7 (by decide), m7 9 (by decide), cx 4 (by decide) (by decide), cx 5 (by decide) (by decide), cx 6 (by decide) (by decide), cx 7 (by decide) (by decide), cx 8 (by decide) (by decide), cx 9 (by decide) (by decide), cx 10 (by decide) (by decide), cx 11 (by decide) (by decide), cx 12 (by decide) (by decide), cx 15 (by decide) (by decide), mx 72 (by decide), mx 73 (by decide), mx 74 (by decide), mx 75 (by decide), mx 76 (by decide), mx 77 (by decide), mx 78 (by decide), mx 79 (by decide), mx 80 (by decide), mx 81 (by decide), mx 82 (by decide), mx 83 (by decide), mx 84 (by decide)]
      obtain ⟨d1, d2, d3, d4, d5, d6⟩ := hD2
      exact ⟨d1, d2, d3, by rw [wr_hit, wr_slot (by decide), wr_hit], by rw [wr_hit, if_pos rfl], d6⟩
    · have e1 : fX6_takeNumber (1 : Int32) (3996 : Int32) σ1 = some (y, σ2) := e1
      have e2 : fX12_readNumber (1 : Int32) (3996 : Int32) t1 = some (0, t2) := e2
      rw [e1, e2, bd_some, bd_some, if_neg f3.ne.1]
      right
      exact ⟨σ2, _, _, cc, rfl, rfl, f3.cong rfl (wr_slot (by decide)), n4.rd.ln.tr r1.ln, (n5.rd.ln.tr r2.ln).tr (LnM.w1 (by decide) (by decide) (by decide))⟩
  | true =>
    have h28 : σ 2 8 = 1 := h28
    obtain ⟨σ1, t1, f1, f2, ⟨cc, f3, r1, r2⟩, -⟩ := p_flt h (c := 5) (by decide)
    have c1 : fX6_readFront σ = some (0, σ1) := by
      rw [fX6_readFront, h28, fX6_takeFirst, if_neg (by decide), f1, bd_some, fz_advance f3.ne.1, bd_some, bd_some, fz_takeNumber f3.ne.1, bd_some, if_neg f3.ne.1]
    have m1 : mFront true t = some (0, wr t1 71 8 0) := by
      rw [mFront, if_pos rfl, f2, bd_some, mF98, fz_readNumber f3.ne.2, bd_some]
    right
    exact ⟨σ1, _, _, cc, c1, m1, f3.cong rfl (wr_slot (by decide)), r1.ln, r2.ln.tr (LnM.w1 (by decide) (by decide) (by decide))⟩
theorem p_law (hm : m ≤ 700) (hK : K ≤ m) (hT : TokB b m K pl ln) (hB : Bytes b) {n nw nf i : Nat} {ft lt : Bool} {σ t : St} (h : At b m K pl ln i σ t) (hk : σ 2 6 = 308) (hD : DatI n nw nf ft lt σ t) :
    BOut b m K pl ln (fX6_readLaw σ) (mLaw lt t) ft true i σ t := by
  have hiK := at_lt h (by rw [hk]; decide)
  have hK8 := law_698 hm hT h hk
  obtain ⟨len, l1, l2, l3, l4, l5⟩ := hD.2.2.2.2.2.2.2.2.2.2.2
  cases lt with
  | false =>
    obtain rfl : len = 0 := l4.mp rfl
    obtain ⟨σ1, t1, n1, n2, n3, n4, n5⟩ := p_next hm hK hT hB h hiK
    have hD1 := hD.rd n4.rd n5.rd
    have l3 : σ 11 3 = 0 := l3
    have hL : LawI 0 (fun _ => 0) σ1 t1 := ⟨by rw [n4.1 11 (by decide)]; exact l1, by rw [n5.1 71 (by decide)]; exact l2, rfl, fun _ _ => Nat.zero_le _, fun j hj => absurd hj (by omega)⟩
    have c1 : fX6_readLaw σ = bd (fX6_readExpr 9 (0 : Int32) σ1) (fun y_2 s_2 => let s_3 := wr s_2 11 3 (1 : Int32); some (0, s_3)) := by
      rw [fX6_readLaw, l3, fX6_takeFirst, if_pos rfl, n1, bd_some, bd_some]
    have m1 : mLaw false t = fX12_readExpression 9 (0 : Int32) t1 := by
      rw [mLaw, if_neg (by decide), n2, bd_some]
    rw [c1, m1]
    rcases p_expr hm hK hT hB hK8 (i + 1) 0 (fun _ => 0) σ1 t1 n3 hL (by omega) (by omega) with ⟨i', len', dep', σ2, t2, g1, g2, g3, g4, g5, g6, g7, g8, g9⟩ | ⟨σ2, t2, i', c', len', g1, g2, g3, g4, g5, g6, g7, g8⟩
    · have g1 : fX6_readExpr 9 (0 : Int32) σ1 = some (0, σ2) := g1
      have g2 : fX12_readExpression 9 (0 : Int32) t1 = some (0, t2) := g2
      have hi' := g3.1
      rw [g1, g2, bd_some]
      dsimp only
      left
      refine ⟨i', n, nw, nf, _, t2, rfl, rfl, g3.cong (fun x q1 q2 => wr_slot (by omega)) (fun y _ _ => by rw [wr_slot (by decide)]) (fun _ _ _ => rfl) rfl, by omega, ?_, (n4.rd.ln.tr g8.ln).tr (LnC.w1 (by decide) (by decide)), n5.rd.ln.tr g9.ln⟩
      have cx : ∀ x, x ≠ 2 → x ≠ 11 → x ≠ 12 → (wr σ2 11 3 1) x = σ1 x := fun x q1 q2 q3 => by rw [wr_slot q2, g8.1 x q1 q2 q3]
      have mx : ∀ x, x ≠ 69 → x ≠ 71 → x ≠ 84 → t2 x = t1 x := fun x q1 q2 q3 => g9.1 x q1 q2 q3
      unfold DatI at hD1 ⊢
      rw [cx 3 (by decide) (by decide) (by decide), cx 4 (by decide) (by decide) (by decide), cx 5 (by decide) (by decide) (by decide), cx 6 (by decide) (by decide) (by decide), cx 7 (by decide) (by decide) (by decide), cx 8 (by decide) (by decide) (by decide), cx 9 (by decide) (by decide) (by decide), cx 10 (by decide) (by decide) (by decide), cx 15 (by decide) (by decide) (by decide), mx 72 (by decide) (by decide) (by decide), mx 73 (by decide) (by decide) (by decide), mx 74 (by decide) (by decide) (by decide), mx 75 (by decide) (by decide) (by decide), mx 76 (by decide) (by decide) (by decide), mx 77 (by decide) (by decide) (by decide), mx 78 (by decide) (by decide) (by decide), mx 79 (by decide) (by decide) (by decide), mx 80 (by decide) (by decide) (by decide), mx 81 (by decide) (by decide) (by decide), mx 82 (by decide) (by decide) (by decide), mx 83 (by decide) (by decide) (by decide), g9.2.2.1 5 (by decide), g9.2.2.1 6 (by decide), g9.2.2.1 7 (by decide), g9.2.2.1 8 (by decide)]
      obtain ⟨d1, d2, d3, d4, d5, d6, d7, d8, d9, d10, d11, -⟩ := hD1
      obtain ⟨k1, k2, k3, k4, k5⟩ := g5
      refine ⟨d1, d2, d3, d4, ?_, d6, d7, d8, d9, d10, d11, len', ?_, k2, by rw [wr_hit, if_pos rfl], ⟨fun q => absurd q (by decide), fun q => ?_⟩, by omega, Or.inr ⟨dep', k3, by rw [g7], fun j hj => k4 j hj, fun j hj => ?_⟩⟩
      · rw [wr_slot (by decide), g8.2.1 8 (by decide) (by decide) (by decide) (by decide)]
        exact d5
      · rw [wr_place (by decide)]; exact k1
      · rw [q, k3] at g7
        exact absurd g7 (by omega)
      · rw [wr_slot (by decide)]
        exact k5 j hj
    · have g1 : fX6_readExpr 9 (0 : Int32) σ1 = some (0, σ2) := g1
      have g2 : fX12_readExpression 9 (0 : Int32) t1 = some (0, t2) := g2
      rw [g1, g2, bd_some]
      right
      exact ⟨_, t2, i', c', rfl, rfl, g3.cong (wr_slot (by decide)) rfl, (n4.rd.ln.tr g7.ln).tr (LnC.w1 (by decide) (by decide)), n5.rd.ln.tr g8.ln⟩
  | true =>
    have l3 : σ 11 3 = 1 := l3
    obtain ⟨f1, f2, f3⟩ := p_fault h (c := 5) (by decide)
    obtain ⟨r1, r2⟩ := flt_rd (m := m) (K := K) (pl := pl) (i := i) (σ := σ) (t := t) 5
    have e8 : (wr σ 2 4 5) 2 6 = 308 := by rw [wr_place (by decide)]; exact hk
    have c1 : fX6_readLaw σ = some (0, wr (wr σ 2 4 5) 11 3 1) := by
      rw [fX6_readLaw, l3, fX6_takeFirst, if_neg (by decide), f1, bd_some, fz_advance f3.ne.1, bd_some, bd_some, expr_idle f3.ne.1 e8, bd_some]
    have m1 : mLaw true t = some (0, wr (wr t 69 26 5) 69 27 (nI (pAt m K pl i))) := by
      rw [mLaw, if_pos rfl, f2, bd_some, mexpr_idle f3.ne.2]
    right
    exact ⟨_, _, _, 5, c1, m1, f3.cong (wr_slot (by decide)) rfl, r1.ln.tr (LnC.w1 (by decide) (by decide)), r2.ln⟩
end FRNT
