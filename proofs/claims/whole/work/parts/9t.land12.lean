/-! ===== land: the four loops of the law ===== -/
theorem v700 {v : Nat} (h : v < 700) : ¬ (700 : Int32) ≤ nI v := by rw [zll_700 _ (by omega)]; omega
section LAWU
variable {b : Nat → Int32} {m K : Nat} {pl ln : Nat → Nat}
theorem at_lt {i : Nat} {σ t : St} (h : At b m K pl ln i σ t) (hk : ¬ σ 2 6 = -1) : i < K := by
  rcases Nat.lt_or_ge i K with q | q
  · exact q
  · have := h.2.2.2.2.2.1.2.1
    rw [kAt, if_neg (by omega)] at this
    exact absurd this hk
theorem loop_product (hm : m ≤ 700) (hT : TokB b m K pl ln) (rc rc' : Int32 → St → Option (Int32 × St)) (c1 : Int32) : Loop b m K pl ln (fX6_readPart rc c1) (fX12_readPart rc' c1) (fX6_readProduct_L7 rc c1) (fX12_readProduct_L5 rc' c1) := by
  refine ⟨fun σ h fu v2 hv => by rw [fX6_readProduct_L7, if_neg (v700 hv), if_neg h], fun t h fu => by rw [fX12_readProduct_L5, fz_isMarked h, bd_some, if_pos rfl, fz_isMarked h, bd_some, if_pos rfl], fun i σ t h => ?_⟩
  have a5 := h.2.2.2.1
  have m42 : mkB 42 := by unfold mkB; decide
  have m47 : mkB 47 := by unfold mkB; decide
  have q42 := p_isMarked hm hT h m42
  have q47 := p_isMarked hm hT h m47
  by_cases e : σ 2 6 = 42
  · right
    rw [decide_eq_true e] at q42
    refine ⟨at_lt h (by rw [e]; decide), -18, -22, fun d hd => Or.inr (Or.inr ⟨hd, rfl, by decide⟩), fun fu v2 hv => ?_, fun fu => ?_⟩
    · rw [fX6_readProduct_L7, if_neg (v700 hv), if_pos a5, if_pos e, fX6_readProduct_J39, if_pos e, fX6_readProduct_J55, zra_1]
    · rw [fX12_readProduct_L5, q42, bd_some, if_neg (by decide), fX12_readProduct_J23, q42, bd_some, if_neg (by decide), fX12_readProduct_J39]
  · rw [decide_eq_false e] at q42
    by_cases e2 : σ 2 6 = 47
    · right
      rw [decide_eq_true e2] at q47
      refine ⟨at_lt h (by rw [e2]; decide), -19, -23, fun d hd => Or.inr (Or.inr ⟨hd, rfl, by decide⟩), fun fu v2 hv => ?_, fun fu => ?_⟩
      · rw [fX6_readProduct_L7, if_neg (v700 hv), if_pos a5, if_neg e, if_pos e2, fX6_readProduct_J39, if_neg e, fX6_readProduct_J55, zra_1]
      · rw [fX12_readProduct_L5, q42, bd_some, if_pos kf_f, q47, bd_some, if_neg (by decide), fX12_readProduct_J23, q42, bd_some, if_pos kf_f, fX12_readProduct_J39]
    · left
      rw [decide_eq_false e2] at q47
      refine ⟨fun fu v2 hv => by rw [fX6_readProduct_L7, if_neg (v700 hv), if_pos a5, if_neg e, if_neg e2], fun fu => by rw [fX12_readProduct_L5, q42, bd_some, if_pos kf_f, q47, bd_some, if_pos kf_f]⟩
theorem loop_sum (hm : m ≤ 700) (hT : TokB b m K pl ln) (rc rc' : Int32 → St → Option (Int32 × St)) (c1 : Int32) : Loop b m K pl ln (fX6_readProduct rc c1) (fX12_readProduct rc' c1) (fX6_readSum_L7 rc c1) (fX12_readSum_L5 rc' c1) := by
  refine ⟨fun σ h fu v2 hv => by rw [fX6_readSum_L7, if_neg (v700 hv), if_neg h], fun t h fu => by rw [fX12_readSum_L5, fz_isMarked h, bd_some, if_pos rfl, fz_isMarked h, bd_some, if_pos rfl], fun i σ t h => ?_⟩
  have a5 := h.2.2.2.1
  have m43 : mkB 43 := by unfold mkB; decide
  have m45 : mkB 45 := by unfold mkB; decide
  have q43 := p_isMarked hm hT h m43
  have q45 := p_isMarked hm hT h m45
  by_cases e : σ 2 6 = 43
  · right
    rw [decide_eq_true e] at q43
    refine ⟨at_lt h (by rw [e]; decide), -16, -20, fun d hd => Or.inr (Or.inr ⟨hd, rfl, by decide⟩), fun fu v2 hv => ?_, fun fu => ?_⟩
    · rw [fX6_readSum_L7, if_neg (v700 hv), if_pos a5, if_pos e, fX6_readSum_J39, if_pos e, fX6_readSum_J55, zra_1]
    · rw [fX12_readSum_L5, q43, bd_some, if_neg (by decide), fX12_readSum_J23, q43, bd_some, if_neg (by decide), fX12_readSum_J39]
  · rw [decide_eq_false e] at q43
    by_cases e2 : σ 2 6 = 45
    · right
      rw [decide_eq_true e2] at q45
      refine ⟨at_lt h (by rw [e2]; decide), -17, -21, fun d hd => Or.inr (Or.inr ⟨hd, rfl, by decide⟩), fun fu v2 hv => ?_, fun fu => ?_⟩
      · rw [fX6_readSum_L7, if_neg (v700 hv), if_pos a5, if_neg e, if_pos e2, fX6_readSum_J39, if_neg e, fX6_readSum_J55, zra_1]
      · rw [fX12_readSum_L5, q43, bd_some, if_pos kf_f, q45, bd_some, if_neg (by decide), fX12_readSum_J23, q43, bd_some, if_pos kf_f, fX12_readSum_J39]
    · left
      rw [decide_eq_false e2] at q45
      refine ⟨fun fu v2 hv => by rw [fX6_readSum_L7, if_neg (v700 hv), if_pos a5, if_neg e, if_neg e2], fun fu => by rw [fX12_readSum_L5, q43, bd_some, if_pos kf_f, q45, bd_some, if_pos kf_f]⟩
theorem loop_and (hm : m ≤ 700) (hT : TokB b m K pl ln) (rc rc' : Int32 → St → Option (Int32 × St)) (c1 : Int32) : Loop b m K pl ln (fX6_readNot rc c1) (fX12_readNot rc' c1) (fX6_readAnd_L7 rc c1) (fX12_readAnd_L5 rc' c1) := by
  refine ⟨fun σ h fu v2 hv => by rw [fX6_readAnd_L7, if_neg (v700 hv), if_neg h], fun t h fu => by rw [fX12_readAnd_L5, fz_is h, bd_some, if_pos rfl], fun i σ t h => ?_⟩
  have a5 := h.2.2.2.1
  have q := p_is hm hT h (x := (1014, 310)) (by decide)
  dsimp only at q
  by_cases e : σ 2 6 = 310
  · right
    rw [decide_eq_true e] at q
    refine ⟨at_lt h (by rw [e]; decide), -13, -26, fun d hd => Or.inr (Or.inr ⟨hd, rfl, by decide⟩), fun fu v2 hv => ?_, fun fu => ?_⟩
    · rw [fX6_readAnd_L7, if_neg (v700 hv), if_pos a5, if_pos e, zra_1]
    · rw [fX12_readAnd_L5, q, bd_some, if_neg (by decide)]
  · left
    rw [decide_eq_false e] at q
    exact ⟨fun fu v2 hv => by rw [fX6_readAnd_L7, if_neg (v700 hv), if_pos a5, if_neg e], fun fu => by rw [fX12_readAnd_L5, q, bd_some, if_pos kf_f]⟩
theorem loop_or (hm : m ≤ 700) (hT : TokB b m K pl ln) (rc rc' : Int32 → St → Option (Int32 × St)) (c1 : Int32) : Loop b m K pl ln (fX6_readAnd rc c1) (fX12_readAnd rc' c1) (fX6_readExpr_L62 rc c1) (fX12_readExpression_L67 rc' c1) := by
  refine ⟨fun σ h fu v2 hv => by rw [fX6_readExpr_L62, if_neg (v700 hv), if_neg h], fun t h fu => by rw [fX12_readExpression_L67, fz_is h, bd_some, if_pos rfl], fun i σ t h => ?_⟩
  have a5 := h.2.2.2.1
  have q := p_is hm hT h (x := (1013, 309)) (by decide)
  dsimp only at q
  by_cases e : σ 2 6 = 309
  · right
    rw [decide_eq_true e] at q
    refine ⟨at_lt h (by rw [e]; decide), -12, -27, fun d hd => Or.inr (Or.inr ⟨hd, rfl, by decide⟩), fun fu v2 hv => ?_, fun fu => ?_⟩
    · rw [fX6_readExpr_L62, if_neg (v700 hv), if_pos a5, if_pos e, zra_1]
    · rw [fX12_readExpression_L67, q, bd_some, if_neg (by decide)]
  · left
    rw [decide_eq_false e] at q
    exact ⟨fun fu v2 hv => by rw [fX6_readExpr_L62, if_neg (v700 hv), if_pos a5, if_neg e], fun fu => by rw [fX12_readExpression_L67, q, bd_some, if_pos kf_f]⟩
/-- products and sums are idle after a fault -/
theorem product_idle {rc rc' : Int32 → St → Option (Int32 × St)} (x : Int32) : Idle (fX6_readProduct rc x) (fX12_readProduct rc' x) := by
  obtain ⟨h1, h2⟩ := part_idle (rc := rc) (rc' := rc') x x
  refine ⟨fun σ h => ?_, fun t h => ?_⟩
  · rw [fX6_readProduct, h1 σ h, bd_some]
    show fX6_readProduct_L7 rc x (19999 + 1) 0 σ = _
    rw [fX6_readProduct_L7, if_neg (by decide), if_neg h]
  · rw [fX12_readProduct, h2 t h, bd_some]
    show fX12_readProduct_L5 rc' x (19999 + 1) t = _
    rw [fX12_readProduct_L5, fz_isMarked h, bd_some, if_pos rfl, fz_isMarked h, bd_some, if_pos rfl]
theorem sum_idle {rc rc' : Int32 → St → Option (Int32 × St)} (x : Int32) : Idle (fX6_readSum rc x) (fX12_readSum rc' x) := by
  obtain ⟨h1, h2⟩ := product_idle (rc := rc) (rc' := rc') x
  refine ⟨fun σ h => ?_, fun t h => ?_⟩
  · rw [fX6_readSum, h1 σ h, bd_some]
    show fX6_readSum_L7 rc x (19999 + 1) 0 σ = _
    rw [fX6_readSum_L7, if_neg (by decide), if_neg h]
  · rw [fX12_readSum, h2 t h, bd_some]
    show fX12_readSum_L5 rc' x (19999 + 1) t = _
    rw [fX12_readSum_L5, fz_isMarked h, bd_some, if_pos rfl, fz_isMarked h, bd_some, if_pos rfl]
theorem p_sum (hm : m ≤ 700) (hK : K ≤ m) (hT : TokB b m K pl ln) (hB : Bytes b) (hK8 : K ≤ 698) {rc rc' : Int32 → St → Option (Int32 × St)} {x : Int32} {need : Nat} (HP : Rdr b m K pl ln 1 need (fX6_readPart rc x) (fX12_readPart rc' x)) : Rdr b m K pl ln 1 (need + 2) (fX6_readSum rc x) (fX12_readSum rc' x) := by
  have h1 : Rdr b m K pl ln 1 (need + 1) (fX6_readProduct rc x) (fX12_readProduct rc' x) := p_chain hm hK hT hB hK8 (by decide) HP (loop_product hm hT rc rc' x)
  exact p_chain hm hK hT hB hK8 (by decide) h1 (loop_sum hm hT rc rc' x)
end LAWU
