/-! ===== land: the four loops of the law ===== -/
theorem v700 {v : Nat} (h : v < 700) : ¬ (700 : Int32) ≤ nI v := by rw [zll_700 _ (by omega)]; omega
section LAWU
variable {b : Nat → Int32} {m K : Nat} {pl ln : Nat → Nat}
theorem at_lt {i : Nat} {σ t : St} (h : At b m K pl ln i σ t) (hk : ¬ σ 2 6 = -1) : i < K := by
  rcases Nat.lt_or_ge i K with q | q
  · exact q
  · have := h.2.2.2.2.2.1.2.1
    rw [kAt, if_neg (by omega)] at this
    exact absurd this hk
theorem loop_product (hm : m ≤ 700) (hT : TokB b m K pl ln) (rc rc' : Int32 → St → Option (Int32 × St)) (c1 : Int32) : Loop b m K pl ln (fX6_readPart rc c1) (fX12_readPart rc' c1) (fX6_readProduct_L7 rc c1) (fX12_readProduct_L5 rc' c1) := by
  refine ⟨fun σ h fu v2 hv => by rw [fX6_readProduct_L7, if_neg (v700 hv), if_neg h], fun t h fu => by rw [fX12_readProduct_L5, fz_isMarked h, bd_some, if_pos rfl, fz_isMarked h, bd_some, if_pos rfl], fun i σ t h => ?_⟩
  have a5 := h.2.2.2.1
  have m42 : mkB 42 := by unfold mkB; decide
  have m47 : mkB 47 := by unfold mkB; decide
  have q42 := p_isMarked hm hT h m42
  have q47 := p_isMarked hm hT h m47
  by_cases e : σ 2 6 = 42
  · right
    rw [decide_eq_true e] at q42
    refine ⟨at_lt h (by rw [e]; decide), -18, -22, fun d hd => Or.inr (Or.inr ⟨hd, rfl, by decide⟩), fun fu v2 hv => ?_, fun fu => ?_⟩
    · rw [fX6_readProduct_L7, if_neg (v700 hv), if_pos a5, if_pos e, fX6_readProduct_J39, if_pos e, fX6_readProduct_J55, zra_1]
    · rw [fX12_readProduct_L5, q42, bd_some, if_neg (by decide), fX12_readProduct_J23, q42, bd_some, if_neg (by decide), fX12_readProduct_J39]
  · rw [decide_eq_false e] at q42
    by_cases e2 : σ 2 6 = 47
    · right
      rw [decide_eq_true e2] at q47
      refine ⟨at_lt h (by rw [e2]; decide), -19, -23, fun d hd => Or.inr (Or.inr ⟨hd, rfl, by decide⟩), fun fu v2 hv => ?_, fun fu => ?_⟩
      · rw [fX6_readProduct_L7, if_neg (v700 hv), if_pos a5, if_neg e, if_pos e2, fX6_readProduct_J39, if_neg e, fX6_readProduct_J55, zra_1]
      · rw [fX12_readProduct_L5, q42, bd_some, if_pos kf_f, q47, bd_some, if_neg (by decide), fX12_readProduct_J23, q42, bd_some, if_pos kf_f, fX12_readProduct_J39]
    · left
      rw [decide_eq_false e2] at q47
      refine ⟨fun fu v2 hv => by rw [fX6_readProduct_L7, if_neg (v700 hv), if_pos a5, if_neg e, if_neg e2], fun fu => by rw [fX12_readProduct_L5, q42, bd_some, if_pos kf_f, q47, bd_some, if_pos kf_f]⟩
end LAWU
