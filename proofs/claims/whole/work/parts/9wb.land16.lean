/-! ===== land: reading somebody ===== -/
def cPer (v1 f1 f2 p y : Int32) (s_5 : St) : Option (Int32 × St) :=
  if (s_5 2 4) = 0 then
    (bd (fX10_setPlace 14 p y s_5) (fun y_6 s_6 =>
    if v1 = (1 : Int32) then
    (bd (fX4_addPerson 3 f1 f2 (1 : Int32) s_6) (fun y_8 s_8 =>
    some (0, s_8)))
  else
    (bd (fX4_addPerson 3 f1 f2 (0 : Int32) s_6) (fun y_7 s_7 =>
    some (0, s_7)))))
  else
    (some (0, s_5))
theorem j50_eq (v1 f1 f2 : Int32) (s : St) : fX6_readPerson_J50 v1 f1 f2 s = bd (fX6_takeNumber (0 : Int32) (9 : Int32) s) (fun y_2 s_2 => fX6_readPerson_L72 (cPer v1 f1 f2 (s_2 3 0) y_2) v1 f1 f2 y_2 (s_2 3 0) FU (0 : Int32) s_2) := rfl
theorem fz_L72 (k103 : St → Option (Int32 × St)) (c1 c2 c3 c4 c5 : Int32) : ∀ k v6 fu (σ : St), v6 + k = 4 → k < fu → ¬ σ 2 4 = 0 → ∃ σ', fX6_readPerson_L72 k103 c1 c2 c3 c4 c5 fu (nI v6) σ = k103 σ' ∧ ∀ x, x ≠ 15 → σ' x = σ x := by
  intro k
  induction k with
  | zero =>
    intro v6 fu σ hv hfu h
    obtain ⟨fu, rfl⟩ : ∃ z, fu = z + 1 := ⟨fu - 1, by omega⟩
    obtain rfl : v6 = 4 := by omega
    exact ⟨σ, by rw [fX6_readPerson_L72, if_pos (by decide)], fun _ _ => rfl⟩
  | succ k ih =>
    intro v6 fu σ hv hfu h
    obtain ⟨fu, rfl⟩ : ∃ z, fu = z + 1 := ⟨fu - 1, by omega⟩
    obtain ⟨σ1, a1, a2⟩ := put_any (r := 15) (a := c5 * 4 + nI v6) (v := σ 2 7) (s := σ) (by decide)
    obtain ⟨σ', b1, b2⟩ := ih (v6 + 1) fu σ1 (by omega) (by omega) (by rw [a2 2 (by decide)]; exact h)
    refine ⟨σ', ?_, fun x hx => (b2 x hx).trans (a2 x hx)⟩
    have a1 : fX11_put (14 + 1) (c5 * 4 + nI v6) (σ 2 7) σ = some (0, σ1) := a1
    rw [fX6_readPerson_L72, if_neg (by rw [zll_4 _ (by omega)]; omega), fz_takeNumber h, bd_some, fX10_setPart, a1, bd_some, bd_some, zra_1, b1]
theorem fz_J50 {σ : St} (h : ¬ σ 2 4 = 0) (v1 f1 f2 : Int32) : ∃ σ', fX6_readPerson_J50 v1 f1 f2 σ = some (0, σ') ∧ ∀ x, x ≠ 15 → σ' x = σ x := by
  rw [j50_eq, fz_takeNumber h, bd_some]
  obtain ⟨σ', e1, e2⟩ := fz_L72 (cPer v1 f1 f2 (σ 3 0) (σ 2 7)) v1 f1 f2 (σ 2 7) (σ 3 0) 4 0 FU σ (by omega) (by decide) h
  refine ⟨σ', Eq.trans e1 ?_, e2⟩
  rw [cPer, if_neg (by rw [e2 2 (by decide)]; exact h)]
theorem fz_J35 {σ : St} (h : ¬ σ 2 4 = 0) (v1 f1 : Int32) : ∃ σ', fX6_readPerson_J35 v1 f1 σ = some (0, σ') ∧ ∀ x, x ≠ 15 → σ' x = σ x := by
  rw [fX6_readPerson_J35]
  by_cases e : v1 ≤ 1
  · rw [if_pos e]
    exact fz_J50 h v1 f1 (-1)
  · rw [if_neg e, fz_takePerson h, bd_some]
    exact fz_J50 h v1 f1 (σ 2 7)
theorem i5 : inA (5 : Int32) 10 := by decide
theorem fzm_L133 {n : Nat} (hn : n < 12) : ∀ k v3 fu (t : St), v3 + k = 4 → k < fu → ¬ t 69 26 = 0 → ∃ t', fX12_readSomebody_L133 (nI (12 + n)) fu (nI v3) t = some (0, t') ∧ t' 69 = t 69 ∧ LnM t t' := by
  intro k
  induction k with
  | zero =>
    intro v3 fu t hv hfu h
    obtain ⟨fu, rfl⟩ : ∃ z, fu = z + 1 := ⟨fu - 1, by omega⟩
    obtain rfl : v3 = 4 := by omega
    refine ⟨wr t 71 5 (t 71 5 + 1), ?_, wr_slot (by decide), LnM.w1 (by decide) (by decide) (by decide)⟩
    rw [fX12_readSomebody_L133, if_pos (by decide), if_pos i5, if_pos i5, zcl_5]
  | succ k ih =>
    intro v3 fu t hv hfu h
    obtain ⟨fu, rfl⟩ : ∃ z, fu = z + 1 := ⟨fu - 1, by omega⟩
    obtain ⟨t', b1, b2, b3⟩ := ih (v3 + 1) fu (wr t 72 (4 * (12 + n) + v3) 0) (by omega) (by omega) (by rw [wr_slot (by decide)]; exact h)
    refine ⟨t', ?_, b2.trans (wr_slot (by decide)), (LnM.w1 (by decide) (by decide) (by show 48 ≤ _; omega)).tr b3⟩
    rw [fX12_readSomebody_L133, if_neg (by rw [zll_4 _ (by omega)]; omega), fz_readNumber h, bd_some, zlm_4, nI_add, if_pos (inA_lt (by decide) (by omega)), nI_clamp (by omega), zra_1, b1]
theorem fzm_J110 {n : Nat} (hn : n < 12) {t : St} (h : ¬ t 69 26 = 0) (ad : Int32) : ∃ t', fX12_readSomebody_J110 (nI (12 + n)) ad (nI (12 + n)) t = some (0, t') ∧ t' 69 = t 69 ∧ LnM t t' := by
  have hi : inA (nI (12 + n)) 24 := inA_lt (by decide) (by omega)
  obtain ⟨t', b1, b2, b3⟩ := fzm_L133 hn 4 0 FU (wr (wr (wr t 76 (12 + n) ad) 77 (12 + n) (-1)) 73 (12 + n) 0) (by omega) (by decide) (by rw [wr_slot (by decide), wr_slot (by decide), wr_slot (by decide)]; exact h)
  have b1 : fX12_readSomebody_L133 (nI (12 + n)) FU (0 : Int32) (wr (wr (wr t 76 (12 + n) ad) 77 (12 + n) (-1)) 73 (12 + n) 0) = some (0, t') := b1
  refine ⟨t', ?_, b2.trans (by rw [wr_slot (by decide), wr_slot (by decide), wr_slot (by decide)]), (((LnM.w1 (by decide) (by decide) (by show 12 ≤ _; omega)).tr (LnM.w1 (by decide) (by decide) (by show 12 ≤ _; omega))).tr (LnM.w1 (by decide) (by decide) (by show 12 ≤ _; omega))).tr b3⟩
  rw [fX12_readSomebody_J110, if_pos hi, nI_clamp (by omega)]
  dsimp only
  rw [if_pos hi, fz_readNumber (by rw [wr_slot (by decide), wr_slot (by decide)]; exact h), bd_some, if_pos hi, b1]
theorem fzm_J95 {n : Nat} (hn : n < 12) {t : St} (h : ¬ t 69 26 = 0) (v1 : Int32) : ∃ t', fX12_readSomebody_J95 v1 (nI (12 + n)) t = some (0, t') ∧ t' 69 = t 69 ∧ LnM t t' := by
  rw [fX12_readSomebody_J95]
  by_cases e : v1 = 2
  · rw [if_pos e]; exact fzm_J110 hn h 1
  · rw [if_neg e]; exact fzm_J110 hn h 0
theorem fzm_J55 {n : Nat} (hn : n < 12) {t : St} (h : ¬ t 69 26 = 0) (v1 f1 : Int32) : ∃ t', fX12_readSomebody_J55 v1 (nI (12 + n)) f1 (nI (12 + n)) t = some (0, t') ∧ t' 69 = t 69 ∧ LnM t t' := by
  have hi : inA (nI (12 + n)) 24 := inA_lt (by decide) (by omega)
  have hL : ∀ v x : Int32, LnM t (wr (wr t 74 (12 + n) v) 75 (12 + n) x) := fun v x => (LnM.w1 (by decide) (by decide) (by show 12 ≤ _; omega)).tr (LnM.w1 (by decide) (by decide) (by show 12 ≤ _; omega))
  have h69 : ∀ v x : Int32, (wr (wr t 74 (12 + n) v) 75 (12 + n) x) 69 = t 69 := fun v x => by rw [wr_slot (by decide), wr_slot (by decide)]
  rw [fX12_readSomebody_J55, if_pos hi, nI_clamp (by omega)]
  dsimp only
  rw [if_pos hi]
  by_cases e : v1 = 1
  · rw [if_pos e, if_pos hi, fz_otherNow (by rw [h69]; exact h), bd_some, if_pos hi]
    have h2 : (wr (wr (wr t 74 (12 + n) f1) 75 (12 + n) (-1)) 75 (12 + n) 0) 69 = t 69 := by rw [wr_slot (by decide), h69]
    rw [if_neg (by rw [h2]; exact h)]
    obtain ⟨t', b1, b2, b3⟩ := fzm_J95 hn (t := wr (wr (wr t 74 (12 + n) f1) 75 (12 + n) (-1)) 75 (12 + n) 0) (by rw [h2]; exact h) v1
    exact ⟨t', b1, b2.trans h2, ((hL f1 (-1)).tr (LnM.w1 (by decide) (by decide) (by show 12 ≤ _; omega))).tr b3⟩
  · rw [if_neg e]
    obtain ⟨t', b1, b2, b3⟩ := fzm_J95 hn (t := wr (wr t 74 (12 + n) f1) 75 (12 + n) (-1)) (by rw [h69]; exact h) v1
    exact ⟨t', b1, b2.trans (h69 _ _), (hL f1 (-1)).tr b3⟩
section PERS
variable {b : Nat → Int32} {m K : Nat} {pl ln : Nat → Nat}
theorem p_skies (hm : m ≤ 700) (hK : K ≤ m) (hT : TokB b m K pl ln) (hB : Bytes b) {n : Nat} (hn : n < 12) (k103 : St → Option (Int32 × St)) (c1 c2 c3 c4 : Int32) : ∀ k j fu fu' i (σ t : St), j + k = 4 → k < fu → k < fu' → At b m K pl ln i σ t →
    (∃ (σ' t' : St) (S : Nat → Nat), fX6_readPerson_L72 k103 c1 c2 c3 c4 (nI n) fu (nI j) σ = k103 σ' ∧ fX12_readSomebody_L133 (nI (12 + n)) fu' (nI j) t = some (0, wr t' 71 5 (t' 71 5 + 1)) ∧ At b m K pl ln (i + k) σ' t' ∧ (∀ x, x ≠ 2 → x ≠ 15 → σ' x = σ x) ∧ (∀ y, y < 4 ∨ 7 < y → σ' 2 y = σ 2 y) ∧ (∀ x, x ≠ 69 → x ≠ 72 → t' x = t x) ∧ LnM t t' ∧
      (∀ y, ¬ (4 * n + j ≤ y ∧ y < 4 * n + 4) → σ' 15 y = σ 15 y) ∧ (∀ y, ¬ (48 + (4 * n + j) ≤ y ∧ y < 48 + (4 * n + 4)) → t' 72 y = t 72 y) ∧ ∀ z, j ≤ z → z < 4 → S z ≤ 999 ∧ σ' 15 (4 * n + z) = nI (S z) ∧ t' 72 (48 + (4 * n + z)) = nI (S z)) ∨
    ∃ σ' t' i' c, fX6_readPerson_L72 k103 c1 c2 c3 c4 (nI n) fu (nI j) σ = k103 σ' ∧ fX12_readSomebody_L133 (nI (12 + n)) fu' (nI j) t = some (0, t') ∧ Flt m K pl i' c σ' t' ∧ LnC σ σ' ∧ LnM t t' := by
  intro k
  induction k with
  | zero =>
    intro j fu fu' i σ t hj hfu hfu' h
    obtain ⟨fu, rfl⟩ : ∃ z, fu = z + 1 := ⟨fu - 1, by omega⟩
    obtain ⟨fu', rfl⟩ : ∃ z, fu' = z + 1 := ⟨fu' - 1, by omega⟩
    obtain rfl : j = 4 := by omega
    left
    refine ⟨σ, t, fun _ => 0, by rw [fX6_readPerson_L72, if_pos (by decide)], by rw [fX12_readSomebody_L133, if_pos (by decide), if_pos i5, if_pos i5, zcl_5], h, fun _ _ _ => rfl, fun _ _ => rfl, fun _ _ _ => rfl, LnM.refl t, fun _ _ => rfl, fun _ _ => rfl, fun z h1 h2 => absurd h2 (by omega)⟩
  | succ k ih =>
    intro j fu fu' i σ t hj hfu hfu' h
    obtain ⟨fu, rfl⟩ : ∃ z, fu = z + 1 := ⟨fu - 1, by omega⟩
    obtain ⟨fu', rfl⟩ : ∃ z, fu' = z + 1 := ⟨fu' - 1, by omega⟩
    have hidx : nI n * 4 + nI j = nI (4 * n + j) := by rw [zrm_4, nI_add, Nat.mul_comm]
    have hidm : 4 * nI (12 + n) + nI j = nI (48 + (4 * n + j)) := by rw [zlm_4, nI_add]; exact congrArg nI (by omega)
    have hcl : ∀ (y : Int32) (σ1 : St), fX6_takeNumber (0 : Int32) (999 : Int32) σ = some (y, σ1) → fX6_readPerson_L72 k103 c1 c2 c3 c4 (nI n) (fu + 1) (nI j) σ = fX6_readPerson_L72 k103 c1 c2 c3 c4 (nI n) fu (nI (j + 1)) (wr σ1 15 (4 * n + j) y) := fun y σ1 e => by
      rw [fX6_readPerson_L72, if_neg (by rw [zll_4 _ (by omega)]; omega), e, bd_some, fX10_setPart, hidx, put_nI (r := 15) (by decide) (by show _ < 94; omega), bd_some, bd_some, zra_1]
    have hmd : ∀ (y : Int32) (t1 : St), fX12_readNumber (0 : Int32) (999 : Int32) t = some (y, t1) → fX12_readSomebody_L133 (nI (12 + n)) (fu' + 1) (nI j) t = fX12_readSomebody_L133 (nI (12 + n)) fu' (nI (j + 1)) (wr t1 72 (48 + (4 * n + j)) y) := fun y t1 e => by
      rw [fX12_readSomebody_L133, if_neg (by rw [zll_4 _ (by omega)]; omega), e, bd_some, hidm, if_pos (inA_lt (by decide) (by omega)), nI_clamp (by omega), zra_1]
    rcases p_takeNumber hm hK hT hB h (lo := 0) (hi := 999) (by decide) (by decide) with ⟨v, σ1, t1, -, v2, e1, e2, hiK, h1, r1, r2⟩ | ⟨y, σ1, t1, e1, e2, c, f3, r1, r2⟩
    · have hA : At b m K pl ln (i + 1) (wr σ1 15 (4 * n + j) (nI v)) (wr t1 72 (48 + (4 * n + j)) (nI v)) := h1.cong (fun x q1 q2 => wr_slot (by omega)) (fun y _ _ => by rw [wr_slot (by decide)]) (fun y _ _ => by rw [wr_slot (by decide)]) (wr_slot (by decide))
      have hL1 : LnC σ (wr σ1 15 (4 * n + j) (nI v)) := r1.ln.tr (LnC.w1 (by decide) (by decide))
      have hM1 : LnM t (wr t1 72 (48 + (4 * n + j)) (nI v)) := r2.ln.tr (LnM.w1 (by decide) (by decide) (by show 48 ≤ _; omega))
      rw [hcl _ _ e1, hmd _ _ e2]
      rcases ih (j + 1) fu fu' (i + 1) _ _ (by omega) (by omega) (by omega) hA with ⟨σ', t', S, g1, g2, g3, g4, g5, g6, g7, g8, g9, g10⟩ | ⟨σ', t', i', c, g1, g2, g3, g4, g5⟩
      · left
        refine ⟨σ', t', fun z => if z = j then v else S z, g1, g2, by rw [show i + (k + 1) = i + 1 + k by omega]; exact g3, fun x q1 q2 => by rw [g4 x q1 q2, wr_slot q2, r1.1 x q1], fun y q => by rw [g5 y q, wr_slot (by decide), r1.2 y (by omega) (by omega) (by omega) (by omega)], fun x q1 q2 => by rw [g6 x q1 q2, wr_slot q2, r2.1 x q1], hM1.tr g7, fun y q => ?_, fun y q => ?_, fun z q1 q2 => ?_⟩
        · rw [g8 y (by omega), wr_place (by omega), r1.1 15 (by decide)]
        · rw [g9 y (by omega), wr_place (by omega), r2.1 72 (by decide)]
        · by_cases e : z = j
          · subst e
            rw [g8 _ (by omega), g9 _ (by omega), wr_hit, wr_hit]
            dsimp only
            rw [if_pos rfl]
            exact ⟨v2, rfl, rfl⟩
          · dsimp only
            rw [if_neg e]
            exact g10 z (by omega) q2
      · right
        exact ⟨σ', t', i', c, g1, g2, g3, hL1.tr g4, hM1.tr g5⟩
    · have hn1 : ¬ (wr σ1 15 (4 * n + j) y) 2 4 = 0 := by rw [wr_slot (by decide)]; exact f3.ne.1
      have hn2 : ¬ (wr t1 72 (48 + (4 * n + j)) 0) 69 26 = 0 := by rw [wr_slot (by decide)]; exact f3.ne.2
      rw [hcl _ _ e1, hmd _ _ e2]
      obtain ⟨σ', a1, a2⟩ := fz_L72 k103 c1 c2 c3 c4 (nI n) k (j + 1) fu _ (by omega) (by omega) hn1
      obtain ⟨t', b1, b2, b3⟩ := fzm_L133 hn k (j + 1) fu' _ (by omega) (by omega) hn2
      right
      refine ⟨σ', t', i, c, a1, b1, f3.cong ?_ ?_, r1.ln.tr ((LnC.w1 (by decide) (by decide)).tr (fun x q => a2 x (by omega))), r2.ln.tr ((LnM.w1 (by decide) (by decide) (by show 48 ≤ _; omega)).tr b3)⟩
      · rw [a2 2 (by decide), wr_slot (by decide)]
      · rw [b2, wr_slot (by decide)]
theorem c_addPerson {s : St} {n : Nat} {f1 f2 a3 : Int32} (h : s 3 0 = nI n) (hn : n < 12) (ha : a3 = 0 ∨ a3 = 1) : fX4_addPerson 3 f1 f2 a3 s = some (0, wr (wr (wr (wr s 4 n f1) 5 n f2) 6 n a3) 3 0 (nI (n + 1))) := by
  rw [fX4_addPerson, h, put_nI (r := 4) (by decide) (by show n < 12; exact hn), bd_some, wr_slot (show (3 : Nat) ≠ 4 by decide), h, put_nI (r := 5) (by decide) (by show n < 12; exact hn), bd_some]
  have h2 : (wr (wr s 4 n f1) 5 n f2) 3 0 = nI n := by rw [wr_slot (by decide), wr_slot (by decide), h]
  rcases ha with ha | ha
  · subst ha
    rw [if_pos rfl, h2, put_nI (r := 6) (by decide) (by show n < 12; exact hn), bd_some]
    dsimp only
    rw [wr_slot (show (3 : Nat) ≠ 6 by decide), h2, zra_1]
  · subst ha
    rw [if_neg (by decide), h2, put_nI (r := 6) (by decide) (by show n < 12; exact hn), bd_some]
    dsimp only
    rw [wr_slot (show (3 : Nat) ≠ 6 by decide), h2, zra_1]
/-- place and sky, both persons being read -/
theorem p_personB (hm : m ≤ 700) (hK : K ≤ m) (hT : TokB b m K pl ln) (hB : Bytes b) {n nw nf i : Nat} {ft lt : Bool} {σ t : St} {v1 sort f1 f2 ad : Int32} (hn : n < 12) (hv : (v1 = 1 ∧ sort = 2 ∧ ad = 1) ∨ (¬ v1 = 1 ∧ ¬ sort = 2 ∧ ad = 0)) (h : At b m K pl ln i σ t) (hD : DatI n nw nf ft lt σ t) (hf1 : Cell0 f1 n) (hf2 : Cell0 f2 n) (h74 : t 74 (12 + n) = f1) (h75 : t 75 (12 + n) = f2) :
    BOut b m K pl ln (fX6_readPerson_J50 v1 f1 f2 σ) (fX12_readSomebody_J95 sort (nI (12 + n)) t) ft lt i σ t := by
  have hi : inA (nI (12 + n)) 24 := inA_lt (by decide) (by omega)
  have had : ad = 0 ∨ ad = 1 := hv.elim (fun q => Or.inr q.2.2) (fun q => Or.inl q.2.2)
  have hj : fX12_readSomebody_J95 sort (nI (12 + n)) t = fX12_readSomebody_J110 (nI (12 + n)) ad (nI (12 + n)) t := by
    rw [fX12_readSomebody_J95]
    rcases hv with ⟨-, q, q2⟩ | ⟨-, q, q2⟩
    · rw [if_pos q, q2]
    · rw [if_neg q, q2]
  obtain ⟨u, hu⟩ : ∃ u, u = wr (wr t 76 (12 + n) ad) 77 (12 + n) (-1) := ⟨_, rfl⟩
  have u69 : u 69 = t 69 := by rw [hu, wr_slot (by decide), wr_slot (by decide)]
  have hLu : LnM t u := by rw [hu]; exact (LnM.w1 (by decide) (by decide) (by show 12 ≤ _; omega)).tr (LnM.w1 (by decide) (by decide) (by show 12 ≤ _; omega))
  have hmd : ∀ (y : Int32) (t1 : St), fX12_readNumber (0 : Int32) (9 : Int32) u = some (y, t1) → fX12_readSomebody_J95 sort (nI (12 + n)) t = fX12_readSomebody_L133 (nI (12 + n)) FU (nI 0) (wr t1 73 (12 + n) y) := fun y t1 e => by
    rw [hj, fX12_readSomebody_J110, if_pos hi, nI_clamp (by omega)]
    dsimp only
    rw [if_pos hi, ← hu, e, bd_some, if_pos hi]
    rfl
  have hAu : At b m K pl ln i σ u := h.cong (fun _ _ _ => rfl) (fun _ _ _ => rfl) (fun y _ _ => by rw [u69]) (by rw [hu, wr_slot (by decide), wr_slot (by decide)])
  rcases p_takeNumber hm hK hT hB hAu (lo := 0) (hi := 9) (by decide) (by decide) with ⟨q, σ1, t1, -, q2, e1, e2, hiK, h1, r1, r2⟩ | ⟨y, σ1, t1, e1, e2, c, f3, r1, r2⟩
  · have e1 : fX6_takeNumber (0 : Int32) (9 : Int32) σ = some (nI q, σ1) := e1
    have c0 : σ1 3 0 = nI n := by rw [r1.1 3 (by decide)]; exact hD.1.1
    have hA : At b m K pl ln (i + 1) σ1 (wr t1 73 (12 + n) (nI q)) := h1.cong (fun _ _ _ => rfl) (fun _ _ _ => rfl) (fun y _ _ => by rw [wr_slot (by decide)]) (wr_slot (by decide))
    have hM1 : LnM t (wr t1 73 (12 + n) (nI q)) := hLu.tr (r2.ln.tr (LnM.w1 (by decide) (by decide) (by show 12 ≤ _; omega)))
    have hc : fX6_readPerson_J50 v1 f1 f2 σ = fX6_readPerson_L72 (cPer v1 f1 f2 (nI n) (nI q)) v1 f1 f2 (nI q) (nI n) FU (nI 0) σ1 := by
      rw [j50_eq, e1, bd_some, c0]
      rfl
    rw [hc, hmd _ _ e2]
    rcases p_skies hm hK hT hB hn (cPer v1 f1 f2 (nI n) (nI q)) v1 f1 f2 (nI q) 4 0 FU FU (i + 1) σ1 _ (by omega) (by decide) (by decide) hA with ⟨σ2, t2, S, g1, g2, g3, g4, g5, g6, g7, g8, g9, g10⟩ | ⟨σ2, t2, i', c, g1, g2, g3, g4, g5⟩
    · have c02 : (wr σ2 15 (48 + n) (nI q)) 3 0 = nI n := by rw [wr_slot (by decide), g4 3 (by decide) (by decide), c0]
      have hk : cPer v1 f1 f2 (nI n) (nI q) σ2 = some (0, wr (wr (wr (wr (wr σ2 15 (48 + n) (nI q)) 4 n f1) 5 n f2) 6 n ad) 3 0 (nI (n + 1))) := by
        rw [cPer, if_pos g3.2.2.2.1, fX10_setPlace, zla_48, put_nI (r := 15) (by decide) (by show _ < 94; omega), bd_some, bd_some]
        rcases hv with ⟨q1, -, q3⟩ | ⟨q1, -, q3⟩
        · rw [if_pos q1, c_addPerson c02 hn (Or.inr rfl), bd_some, q3]
        · rw [if_neg q1, c_addPerson c02 hn (Or.inl rfl), bd_some, q3]
      left
      refine ⟨i + 1 + 4, n + 1, nw, nf, _, _, g1.trans hk, g2, g3.cong (fun x q1 q2 => by rw [wr_slot (by omega), wr_slot (by omega), wr_slot (by omega), wr_slot (by omega), wr_slot (by omega)]) (fun y _ _ => by rw [wr_slot (by decide), wr_slot (by decide), wr_slot (by decide), wr_slot (by decide), wr_slot (by decide)]) (fun y _ _ => by rw [wr_slot (by decide)]) (wr_slot (by decide)), by omega, ?_, fun x hx => ?_, hM1.tr (g7.tr (LnM.w1 (by decide) (by decide) (by decide)))⟩
      · have k5 : t2 71 5 = nI n := by rw [g6 71 (by decide) (by decide), wr_slot (by decide), r2.1 71 (by decide), hu, wr_slot (by decide), wr_slot (by decide)]; exact hD.1.2.1
        have tk : ∀ x, x ≠ 69 → x ≠ 71 → x ≠ 72 → x ≠ 73 → (wr t2 71 5 (t2 71 5 + 1)) x = u x := fun x a1 a2 a3 a4 => by rw [wr_slot a2, g6 x a1 a3, wr_slot a4, r2.1 x a1]
        have tu : ∀ x, x ≠ 76 → x ≠ 77 → u x = t x := fun x a1 a2 => by rw [hu, wr_slot a2, wr_slot a1]
        have ck : ∀ x, x ≠ 2 → x ≠ 3 → x ≠ 4 → x ≠ 5 → x ≠ 6 → x ≠ 15 → (wr (wr (wr (wr (wr σ2 15 (48 + n) (nI q)) 4 n f1) 5 n f2) 6 n ad) 3 0 (nI (n + 1))) x = σ x := fun x a1 a2 a3 a4 a5 a6 => by rw [wr_slot a2, wr_slot a5, wr_slot a4, wr_slot a3, wr_slot a6, g4 x a1 a6, r1.1 x a1]
        refine dat_person hD hn hf1 hf2 had (q := q) (S := S) (by omega) (fun k hk => (g10 k (by omega) hk).1) ?_ wr_hit (fun j hj => ?_) (fun p => ?_) (fun p => ?_) (fun p => ?_) (fun x a1 a2 => ck x (by omega) (by omega) (by omega) (by omega) (by omega) (by omega)) ?_ (fun k hk => ?_) (fun y a1 a2 => ?_) (by rw [wr_hit, k5, zra_1]) (fun j hj => ?_) (fun p => ?_) (fun p => ?_) (fun p => ?_) (fun p => ?_) (fun p => ?_) (fun k hk => ?_) (fun y hy => ?_) (fun x a1 a2 => ?_)
        · rw [wr_slot (by decide), wr_slot (by decide), wr_slot (by decide), wr_slot (by decide), wr_slot (by decide), g5 8 (by omega), r1.2 8 (by decide) (by decide) (by decide) (by decide)]
        · rw [wr_place hj, wr_slot (by decide), wr_slot (by decide), wr_slot (by decide), wr_slot (by decide), g4 3 (by decide) (by decide), r1.1 3 (by decide)]
        · rw [wr_slot (show (4 : Nat) ≠ 3 by decide), wr_slot (show (4 : Nat) ≠ 6 by decide), wr_slot (show (4 : Nat) ≠ 5 by decide)]
          by_cases e : p = n
          · rw [if_pos e, e, wr_hit]
          · rw [if_neg e, wr_place e, wr_slot (by decide), g4 4 (by decide) (by decide), r1.1 4 (by decide)]
        · rw [wr_slot (show (5 : Nat) ≠ 3 by decide), wr_slot (show (5 : Nat) ≠ 6 by decide)]
          by_cases e : p = n
          · rw [if_pos e, e, wr_hit]
          · rw [if_neg e, wr_place e, wr_slot (by decide), wr_slot (by decide), g4 5 (by decide) (by decide), r1.1 5 (by decide)]
        · rw [wr_slot (show (6 : Nat) ≠ 3 by decide)]
          by_cases e : p = n
          · rw [if_pos e, e, wr_hit]
          · rw [if_neg e, wr_place e, wr_slot (by decide), wr_slot (by decide), wr_slot (by decide), g4 6 (by decide) (by decide), r1.1 6 (by decide)]
        · rw [wr_slot (by decide), wr_slot (by decide), wr_slot (by decide), wr_slot (by decide), wr_hit]
        · rw [wr_slot (by decide), wr_slot (by decide), wr_slot (by decide), wr_slot (by decide), wr_place (by omega)]
          exact (g10 k (by omega) hk).2.1
        · rw [wr_slot (by decide), wr_slot (by decide), wr_slot (by decide), wr_slot (by decide), wr_place a1, g8 y (by omega), r1.1 15 (by decide)]
        · rw [wr_place hj, g6 71 (by decide) (by decide), wr_slot (by decide), r2.1 71 (by decide), tu 71 (by decide) (by decide)]
        · rw [tk 74 (by decide) (by decide) (by decide) (by decide), tu 74 (by decide) (by decide)]
          by_cases e : p = n
          · rw [if_pos e, e, h74]
          · rw [if_neg e]
        · rw [tk 75 (by decide) (by decide) (by decide) (by decide), tu 75 (by decide) (by decide)]
          by_cases e : p = n
          · rw [if_pos e, e, h75]
          · rw [if_neg e]
        · rw [tk 76 (by decide) (by decide) (by decide) (by decide), hu, wr_slot (by decide)]
          by_cases e : p = n
          · rw [if_pos e, e, wr_hit]
          · rw [if_neg e, wr_place (by omega)]
        · rw [tk 77 (by decide) (by decide) (by decide) (by decide), hu]
          by_cases e : p = n
          · rw [if_pos e, e, wr_hit]
          · rw [if_neg e, wr_place (by omega), wr_slot (by decide)]
        · rw [wr_slot (by decide), g6 73 (by decide) (by decide)]
          by_cases e : p = n
          · rw [if_pos e, e, wr_hit]
          · rw [if_neg e, wr_place (by omega), r2.1 73 (by decide), tu 73 (by decide) (by decide)]
        · rw [wr_slot (by decide)]
          exact (g10 k (by omega) hk).2.2
        · rw [wr_slot (by decide), g9 y (by omega), wr_slot (by decide), r2.1 72 (by decide), tu 72 (by decide) (by decide)]
        · rw [tk x (by omega) (by omega) (by omega) (by omega), tu x (by omega) (by omega)]
      · rw [wr_slot (by omega), wr_slot (by omega), wr_slot (by omega), wr_slot (by omega), wr_slot (by omega), g4 x (by omega) (by omega), r1.1 x (by omega)]
    · right
      refine ⟨σ2, t2, i', c, Eq.trans g1 ?_, g2, g3, r1.ln.tr g4, hM1.tr g5⟩
      rw [cPer, if_neg g3.ne.1]
  · have e1 : fX6_takeNumber (0 : Int32) (9 : Int32) σ = some (y, σ1) := e1
    have hn2 : ¬ (wr t1 73 (12 + n) 0) 69 26 = 0 := by rw [wr_slot (by decide)]; exact f3.ne.2
    obtain ⟨σ', a1, a2⟩ := fz_L72 (cPer v1 f1 f2 (σ1 3 0) y) v1 f1 f2 y (σ1 3 0) 4 0 FU σ1 (by omega) (by decide) f3.ne.1
    obtain ⟨t', b1, b2, b3⟩ := fzm_L133 hn 4 0 FU _ (by omega) (by decide) hn2
    right
    refine ⟨σ', t', i, c, ?_, (hmd _ _ e2).trans b1, f3.cong (a2 2 (by decide)) (b2.trans (wr_slot (by decide))), r1.ln.tr (fun x q => a2 x (by omega)), hLu.tr (r2.ln.tr ((LnM.w1 (by decide) (by decide) (by show 12 ≤ _; omega)).tr b3))⟩
    rw [j50_eq, e1, bd_some]
    refine Eq.trans a1 ?_
    rw [cPer, if_neg (by rw [a2 2 (by decide)]; exact f3.ne.1)]
end PERS
