/-! ===== land: the law, exprs ===== -/
theorem not_idle {rc : Int32 → St → Option (Int32 × St)} (x : Int32) {t : St} (h : ¬ t 69 26 = 0) : fX12_readNot rc x t = some (0, t) := by
  rw [readNot_eq]
  show fX12_readNot_L2 (mK40 rc x) rc x (19999 + 1) (nI 0) t = _
  rw [fX12_readNot_L2, fz_is h, bd_some, if_pos rfl]
  exact mK40_idle x h (by decide)
theorem j62_idle {rc : Int32 → St → Option (Int32 × St)} (x : Int32) {t : St} (h : ¬ t 69 26 = 0) : fX12_readExpression_J62 rc x t = some (0, t) := by
  have h1 : fX12_readAnd rc x t = some (0, t) := by
    rw [fX12_readAnd, not_idle x h, bd_some]
    show fX12_readAnd_L5 rc x (19999 + 1) t = _
    rw [fX12_readAnd_L5, fz_is h, bd_some, if_pos rfl]
  rw [fX12_readExpression_J62, h1, bd_some]
  show fX12_readExpression_L67 rc x (19999 + 1) t = _
  rw [fX12_readExpression_L67, fz_is h, bd_some, if_pos rfl]
section LAWX
variable {b : Nat → Int32} {m K : Nat} {pl ln : Nat → Nat}
theorem m_badExpr (hm : m ≤ 700) (hT : TokB b m K pl ln) {rc : Int32 → St → Option (Int32 × St)} (HF : ∀ x t, ¬ t 69 26 = 0 → rc x t = some (0, t)) (x : Int32) {i : Nat} {σ t : St} (h : At b m K pl ln i σ t) (h1 : ¬ σ 2 6 = 200) (h2 : ¬ 300 ≤ σ 2 6) (h3 : ¬ σ 2 6 = 40) : fX12_readExpression_J62 rc x t = some (0, wr (wr t 69 26 1) 69 27 (nI (pAt m K pl i))) := by
  obtain ⟨ty2, ty1, -⟩ := p_type h
  obtain ⟨f1, f2, f3⟩ := p_fault h (c := 1) (by decide)
  have n2 := f3.ne.2
  have q := p_is hm hT h (x := (1015, 311)) (by decide)
  dsimp only at q
  have e311 : ¬ σ 2 6 = 311 := fun e => h2 (by rw [e]; decide)
  rw [decide_eq_false e311] at q
  have e40 := p_badMark hm hT h (c := 40) (Or.inl rfl) h3
  generalize wr (wr t 69 26 1) 69 27 (nI (pAt m K pl i)) = t1 at e40 n2 ⊢
  have part : fX12_readPart rc x t = some (0, t1) := by
    rw [fX12_readPart, if_pos h.2.2.2.2.1, if_neg (fun z => h1 (ty2.mp z)), if_neg (fun z => h2 (ty1.mp z)), e40, bd_some, HF _ _ n2, bd_some, fz_mark n2, bd_some]
  have prod : fX12_readProduct rc x t = some (0, t1) := by
    rw [fX12_readProduct, part, bd_some]
    show fX12_readProduct_L5 rc x (19999 + 1) t1 = _
    rw [fX12_readProduct_L5, fz_isMarked n2, bd_some, if_pos rfl, fz_isMarked n2, bd_some, if_pos rfl]
  have sum : fX12_readSum rc x t = some (0, t1) := by
    rw [fX12_readSum, prod, bd_some]
    show fX12_readSum_L5 rc x (19999 + 1) t1 = _
    rw [fX12_readSum_L5, fz_isMarked n2, bd_some, if_pos rfl, fz_isMarked n2, bd_some, if_pos rfl]
  have test : mTest rc x t = some (0, t1) := by
    rw [mTest, sum, bd_some, fz_isMarked n2, bd_some, if_pos rfl, fz_isMarked n2, bd_some, if_pos rfl]
  have hnot : fX12_readNot rc x t = some (0, t1) := by
    rw [readNot_eq]
    show fX12_readNot_L2 (mK40 rc x) rc x (19999 + 1) (nI 0) t = _
    rw [fX12_readNot_L2, q, bd_some, if_pos kf_f, mK40, test, bd_some, fX12_readNot_J94]
    exact fm_nots rc (v := 0) (by decide) n2 0 0 FU (by omega) (by decide)
  have hand : fX12_readAnd rc x t = some (0, t1) := by
    rw [fX12_readAnd, hnot, bd_some]
    show fX12_readAnd_L5 rc x (19999 + 1) t1 = _
    rw [fX12_readAnd_L5, fz_is n2, bd_some, if_pos rfl]
  rw [fX12_readExpression_J62, hand, bd_some]
  show fX12_readExpression_L67 rc x (19999 + 1) t1 = _
  rw [fX12_readExpression_L67, fz_is n2, bd_some, if_pos rfl]
theorem p_exprS (hm : m ≤ 700) (hK : K ≤ m) (hT : TokB b m K pl ln) (hB : Bytes b) (hK8 : K ≤ 698) {rc rc' : Int32 → St → Option (Int32 × St)} {lv : Nat} (hlv : lv ≤ 5) (HR : Rdr b m K pl ln 2 (5 * (5 - lv) + 1) (rc (nI (lv + 1))) (rc' (nI (lv + 1)))) (HF : ∀ x t, ¬ t 69 26 = 0 → rc' x t = some (0, t)) :
    Rdr b m K pl ln 2 (5 * (6 - lv) + 1) (gX6_readExpr rc (nI lv)) (gX12_readExpression rc' (nI lv)) := by
  have HO := p_or hm hK hT hB hK8 (p_part hm hK hT hB hK8 hlv (fun i len dep σ t => HR i len dep σ t) HF)
  intro i len dep σ t h hL hi hd
  have hO := HO i len dep σ t h hL hi (by omega)
  have hc : gX6_readExpr rc (nI lv) σ = bd (fX6_readAnd rc (nI lv) σ) (fun _ s_1 => fX6_readExpr_L62 rc (nI lv) FU (nI 0) s_1) := by
    have hJ : ∀ q, fX6_readExpr_J34 rc (nI lv) q σ = bd (fX6_readAnd rc (nI lv) σ) (fun _ s_1 => fX6_readExpr_L62 rc (nI lv) FU (nI 0) s_1) := fun q => by
      rw [fX6_readExpr_J34, if_pos (by rw [zrt_6 _ (by omega)]; omega)]
      rfl
    rw [gX6_readExpr, fX6_readExpr_J29, hJ, hJ]
    simp only [ite_self]
  have e6 : ¬ nI lv = (6 : Int32) := by rw [zle_6 _ (by omega)]; omega
  have h33 : fX12_readExpression_J33 rc' (nI lv) t = fX12_readExpression_J62 rc' (nI lv) t := by
    rw [fX12_readExpression_J33, fX12_readExpression_J38, if_neg (by decide), if_neg e6]
  obtain ⟨ty2, ty1, -⟩ := p_type h
  have q40 := p_isMarked hm hT h (c := 40) (Or.inl rfl)
  have hr : gX12_readExpression rc' (nI lv) t = fX12_readExpression_J62 rc' (nI lv) t := by
    rw [gX12_readExpression, if_pos h.2.2.2.2.1, h33]
    by_cases k200 : σ 2 6 = 200
    · rw [if_pos (ty2.mpr k200)]
    · rw [if_neg (fun z => k200 (ty2.mp z))]
      by_cases k300 : 300 ≤ σ 2 6
      · rw [if_pos (ty1.mpr k300)]
      · rw [if_neg (fun z => k300 (ty1.mp z)), q40, bd_some]
        by_cases k40 : σ 2 6 = 40
        · rw [decide_eq_true k40, if_neg (by decide), h33]
        · rw [decide_eq_false k40, if_pos kf_f, fX12_readExpression_J38, if_pos rfl]
          obtain ⟨f1, f2, f3⟩ := p_fault h (c := 1) (by decide)
          rw [f2, bd_some, m_badExpr hm hT HF _ h k200 k300 k40, j62_idle _ f3.ne.2]
  rw [hc, hr]
  exact hO
theorem p_expr6 (hm : m ≤ 700) (hT : TokB b m K pl ln) {rc rc' : Int32 → St → Option (Int32 × St)} : Rdr b m K pl ln 2 1 (gX6_readExpr rc (nI 6)) (gX12_readExpression rc' (nI 6)) := by
  intro i len dep σ t h hL hi hd
  obtain ⟨ty2, ty1, -⟩ := p_type h
  have q40 := p_isMarked hm hT h (c := 40) (Or.inl rfl)
  have n6 : ¬ nI 6 < (6 : Int32) := by decide
  have key : ∀ c : Int32, ¬ c = 0 → gX6_readExpr rc (nI 6) σ = bd (fX6_refuse c σ) (fun _ s => some ((0 : Int32), s)) → gX12_readExpression rc' (nI 6) t = bd (fX12_wrong c t) (fun _ s => fX12_readExpression_J62 rc' (nI 6) s) → POut b m K pl ln 2 (gX6_readExpr rc (nI 6) σ) (gX12_readExpression rc' (nI 6) t) i len (dep len) σ t := fun c hc e1 e2 => by
    obtain ⟨f1, f2, f3⟩ := p_fault h hc
    obtain ⟨r1, r2⟩ := flt_rd (m := m) (K := K) (pl := pl) (i := i) (σ := σ) (t := t) c
    rw [e1, e2, f1, f2, bd_some, bd_some, j62_idle _ f3.ne.2]
    exact Or.inr ⟨_, _, i, c, len, rfl, rfl, f3, Nat.le_refl _, by rw [wr_slot (by decide)]; exact hL.1, by omega, r1.lw, r2.lw⟩
  have c1 : fX6_readExpr_J29 rc (nI 6) σ = bd (fX6_refuse 2 σ) (fun _ s => some ((0 : Int32), s)) := by
    rw [fX6_readExpr_J29, fX6_readExpr_J34, if_neg n6, if_neg (by decide)]
  have r1 : fX12_readExpression_J33 rc' (nI 6) t = bd (fX12_wrong 2 t) (fun _ s => fX12_readExpression_J62 rc' (nI 6) s) := by
    rw [fX12_readExpression_J33, fX12_readExpression_J38, if_neg (by decide), if_pos (show nI 6 = (6 : Int32) from rfl)]
  have a6 := h.2.2.2.2.1
  by_cases k200 : σ 2 6 = 200
  · exact key 2 (by decide) (by rw [gX6_readExpr, if_pos k200, c1]) (by rw [gX12_readExpression, if_pos a6, if_pos (ty2.mpr k200), r1])
  · have k2 : ¬ t 69 22 = 2 := fun z => k200 (ty2.mp z)
    by_cases k300 : 300 ≤ σ 2 6
    · exact key 2 (by decide) (by rw [gX6_readExpr, if_neg k200, if_pos k300, c1]) (by rw [gX12_readExpression, if_pos a6, if_neg k2, if_pos (ty1.mpr k300), r1])
    · have k1 : ¬ t 69 22 = 1 := fun z => k300 (ty1.mp z)
      by_cases k40 : σ 2 6 = 40
      · rw [decide_eq_true k40] at q40
        exact key 2 (by decide) (by rw [gX6_readExpr, if_neg k200, if_neg k300, if_pos k40, c1]) (by rw [gX12_readExpression, if_pos a6, if_neg k2, if_neg k1, q40, bd_some, if_neg (by decide), r1])
      · rw [decide_eq_false k40] at q40
        exact key 1 (by decide) (by rw [gX6_readExpr, if_neg k200, if_neg k300, if_neg k40, fX6_readExpr_J34, if_neg n6, if_pos rfl]) (by rw [gX12_readExpression, if_pos a6, if_neg k2, if_neg k1, q40, bd_some, if_pos kf_f, fX12_readExpression_J38, if_pos rfl])
theorem p_exprN (hm : m ≤ 700) (hK : K ≤ m) (hT : TokB b m K pl ln) (hB : Bytes b) (hK8 : K ≤ 698) : ∀ k lv n, lv + k = 6 → k < n → Rdr b m K pl ln 2 (5 * (6 - lv) + 1) (fX6_readExpr n (nI lv)) (fX12_readExpression n (nI lv)) := by
  intro k
  induction k with
  | zero =>
    intro lv n hlv hn
    obtain ⟨n, rfl⟩ : ∃ z, n = z + 1 := ⟨n - 1, by omega⟩
    obtain rfl : lv = 6 := by omega
    intro i len dep σ t h hL hi hd
    exact p_expr6 hm hT i len dep σ t h hL hi hd
  | succ k ih =>
    intro lv n hlv hn
    obtain ⟨n, rfl⟩ : ∃ z, n = z + 2 := ⟨n - 2, by omega⟩
    have hI := ih (lv + 1) (n + 1) (by omega) (by omega)
    rw [show 6 - (lv + 1) = 5 - lv by omega] at hI
    have HS := p_exprS hm hK hT hB hK8 (rc := fX6_readExpr (n + 1)) (rc' := fX12_readExpression (n + 1)) (lv := lv) (by omega) hI (fun x t ht => by
      show gX12_readExpression (fX12_readExpression n) x t = some (0, t)
      rw [gX12_readExpression, if_neg ht])
    intro i len dep σ t h hL hi hd
    exact HS i len dep σ t h hL hi hd
theorem p_expr (hm : m ≤ 700) (hK : K ≤ m) (hT : TokB b m K pl ln) (hB : Bytes b) (hK8 : K ≤ 698) : Rdr b m K pl ln 2 31 (fX6_readExpr 9 (nI 0)) (fX12_readExpression 9 (nI 0)) := p_exprN hm hK hT hB hK8 6 0 9 (by omega) (by omega)
theorem tok_le3 (hT : TokB b m K pl ln) {i : Nat} (hi : i < K) (h3 : 3 ≤ ln i) : K + 2 ≤ m := by
  have h : ∀ d, i + 1 + d ≤ K → i + 1 + d + 2 ≤ enS pl ln (i + 1 + d) := by
    intro d
    induction d with
    | zero =>
      intro _
      have h1 := tok_le hT.1 i (by omega)
      have h2 := (hT.1 i hi).1
      show i + 1 + 2 ≤ pl i + ln i
      omega
    | succ d ih =>
      intro hd
      have h1 := ih (by omega)
      obtain ⟨h2, -, h4, -⟩ := hT.1 (i + 1 + d) (by omega)
      show i + 1 + (d + 1) + 2 ≤ pl (i + 1 + d) + ln (i + 1 + d)
      omega
  have := h (K - (i + 1)) (by omega)
  rw [show i + 1 + (K - (i + 1)) = K by omega] at this
  exact Nat.le_trans this hT.2.1
theorem law_698 (hm : m ≤ 700) (hT : TokB b m K pl ln) {i : Nat} {σ t : St} (h : At b m K pl ln i σ t) (hk : σ 2 6 = 308) : K ≤ 698 := by
  have hi := at_lt h (by rw [hk]; decide)
  have e := h.2.2.2.2.2.1.2.1
  rw [hk, kAt, if_pos hi] at e
  by_cases c : chK (b (pl i)) = 300
  · rw [kindT, if_pos c] at e
    have hs := (word_iff (b := b) (p := pl i) (l := ln i) (x := (1012, 308)) (by decide)).mp e.symm
    simp only [spellsS, Bool.and_eq_true, decide_eq_true_eq] at hs
    have : SL 1012 = 3 := by decide
    have := tok_le3 hT hi (by omega)
    omega
  · rw [kindT, if_neg c] at e
    exfalso
    rcases chK_spec (b (pl i)) with ⟨-, -, h3⟩ | ⟨-, -, -, h3⟩ | ⟨-, -, h3⟩
    · exact c h3
    · rw [h3] at e; exact absurd e (by decide)
    · rw [h3] at e
      rcases chB_spec (b (pl i)) with ⟨-, h'⟩ | ⟨h'', h'⟩ | ⟨-, -, h'⟩
      · rw [h'] at e; exact absurd e (by decide)
      · rw [h'] at e
        have := (mk_facts _ h'').2.2.2.1
        rw [← e] at this
        exact absurd this (by decide)
      · rw [h'] at e; exact absurd e (by decide)
end LAWX
