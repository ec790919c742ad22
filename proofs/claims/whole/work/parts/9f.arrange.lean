/-! ===== arrange ===== -/
/-- what a row brings to a field, person by person -/
def heapF (c ρ : Nat → Int32) (j f : Nat) (p : Nat) (v : Int32) : Int32 := if c (48 + p) = -1 then v else if ρ p = nI f then v + c (4 * p + j) else v
def heapS (c ρ : Nat → Int32) (j f q : Nat) (v : Int32) : Int32 := accN (heapF c ρ j f) q 0 v
def ripeF (a b na nb : Nat → Int32) (f m : Nat) : Nat := if a f < na f then m else if b f < nb f then m else m + 1
def ripeN (a b na nb : Nat → Int32) (nf : Nat) : Nat := accN (ripeF a b na nb) nf 0 0
theorem ripeN_le {a b na nb : Nat → Int32} (nf : Nat) : ripeN a b na nb nf ≤ nf := by
  have := accN_inv (step := ripeF a b na nb) (fun i m => m ≤ i) nf 0 0 (Nat.le_refl _) (fun j m _ _ h => by
    rw [ripeF]
    split
    · omega
    · split <;> omega)
  rw [Nat.zero_add] at this
  exact this
theorem heapS_congr {c ρ ρ' : Nat → Int32} {j f q : Nat} {v : Int32} (h : ∀ p, p < q → ¬ c (48 + p) = -1 → ρ p = ρ' p) : heapS c ρ j f q v = heapS c ρ' j f q v :=
  accN_congr _ _ _ (fun p b _ hp => by
    rw [heapF, heapF]
    by_cases e : c (48 + p) = -1
    · rw [if_pos e, if_pos e]
    · rw [if_neg e, if_neg e, h p (by omega) e])
theorem ripeN_congr {a b a' b' na nb : Nat → Int32} {nf : Nat} (h : ∀ f, f < nf → a f = a' f ∧ b f = b' f) : ripeN a b na nb nf = ripeN a' b' na nb nf :=
  accN_congr _ _ _ (fun f m _ hf => by rw [ripeF, ripeF, (h f (by omega)).1, (h f (by omega)).2])
/-- how many of the last k persons live -/
def tailN (c : Nat → Int32) (n : Nat) : Nat → Nat
  | 0 => 0
  | k + 1 => tailN c n k + if c (48 + (n - (k + 1))) = -1 then 0 else 1
/-- where the row of number r puts person p -/
def postS (c : Nat → Int32) (n nf r p : Nat) : Int32 := nI (r / (nf + 1) ^ tailN c n (n - 1 - p) % (nf + 1)) - 1
/-- what the row of number r is worth -/
def worthS (c : Nat → Int32) (n nf : Nat) (pl na nb : Nat → Int32) (r : Nat) : Nat :=
  ripeN (fun f => heapS c (postS c n nf r) 0 f n (10 * c (84 + (pl f).toNatClampNeg))) (fun f => heapS c (postS c n nf r) 1 f n 0) na nb nf
def bestF (c : Nat → Int32) (n nf : Nat) (pl na nb : Nat → Int32) (r : Nat) (x : Int32 × Nat) : Int32 × Nat := if x.1 < nI (worthS c n nf pl na nb r) then (nI (worthS c n nf pl na nb r), r) else x
/-- best so far, and its row -/
def BestR (c : Nat → Int32) (n nf : Nat) (x : Int32 × Nat) (v : Int32) (row : Nat → Int32) : Prop := v = x.1 ∧ (x.1 = -1 ∨ ((∃ m, m ≤ nf ∧ x.1 = nI m) ∧ ∀ p, p < n → ¬ c (48 + p) = -1 → row p = postS c n nf x.2 p))
theorem post_nlt {m w : Nat} (hm : m ≤ 6) (hw : w ≤ m) : ¬ nI m < nI w := by rw [nI_ltI (by omega) (by omega)]; omega
theorem neg_lt_nI {w : Nat} (hw : w ≤ 6) : (-1 : Int32) < nI w := by
  rw [i_lt, nI_toInt (by omega)]
  show (-1 : Int) < _
  omega
section ARRANGE
variable {c : Nat → Int32} {n nf : Nat} {pl na nb : Nat → Int32}
theorem worth_le (r : Nat) : worthS c n nf pl na nb r ≤ nf := ripeN_le nf
theorem bestR_step (h6 : nf ≤ 6) {x : Int32 × Nat} {v : Int32} {row ρ : Nat → Int32} {r : Nat} (h : BestR c n nf x v row) (hρ : ∀ p, p < n → ¬ c (48 + p) = -1 → ρ p = postS c n nf r p) :
    BestR c n nf (bestF c n nf pl na nb r x) (if v < nI (worthS c n nf pl na nb r) then nI (worthS c n nf pl na nb r) else v) (if v < nI (worthS c n nf pl na nb r) then ρ else row) := by
  rw [bestF, h.1]
  by_cases e : x.1 < nI (worthS c n nf pl na nb r)
  · rw [if_pos e, if_pos e, if_pos e]
    exact ⟨rfl, Or.inr ⟨⟨_, worth_le r, rfl⟩, hρ⟩⟩
  · rw [if_neg e, if_neg e, if_neg e]
    exact ⟨rfl, h.2⟩
theorem best_idle (h6 : nf ≤ 6) {x : Int32 × Nat} {v : Int32} {row : Nat → Int32} (h : BestR c n nf x v row) (hv : ¬ v < nI nf) (k i : Nat) : accN (bestF c n nf pl na nb) k i x = x := by
  have hm : ∃ m, m ≤ nf ∧ x.1 = nI m := by
    rcases h.2 with e | e
    · rw [h.1, e] at hv
      exact absurd (neg_lt_nI h6) hv
    · exact e.1
  obtain ⟨m, hm1, hm2⟩ := hm
  rw [h.1, hm2, nI_ltI (by omega) (by omega)] at hv
  refine accN_inv (step := bestF c n nf pl na nb) (fun _ y => y = x) k i x rfl (fun r y _ _ e => ?_)
  have hw := worth_le (c := c) (n := n) (nf := nf) (pl := pl) (na := na) (nb := nb) r
  rw [e, bestF, hm2, if_neg (post_nlt (by omega) (by omega))]
/-- the class weighs what it has put -/
theorem c_weigh {σ : St} {x : Int32 × Nat} {r : Nat} (h6 : nf ≤ 6) (hf : σ 21 6 = nI nf) (hna : σ 27 = na) (hnb : σ 28 = nb) (ha : ∀ f, f < nf → σ 60 f = heapS c (postS c n nf r) 0 f n (10 * c (84 + (pl f).toNatClampNeg))) (hb : ∀ f, f < nf → σ 61 f = heapS c (postS c n nf r) 1 f n 0)
    (h : BestR c n nf x (σ 57 5) (σ 59)) (hρ : ∀ p, p < n → ¬ c (48 + p) = -1 → σ 58 p = postS c n nf r p) (h12 : n ≤ 12) : ∃ σ', fX0_weigh 21 σ = some (0, σ') ∧ BestR c n nf (bestF c n nf pl na nb r x) (σ' 57 5) (σ' 59) ∧ (∀ k, k ≠ 57 → k ≠ 59 → σ' k = σ k) ∧ ∀ j, j ≠ 5 → σ' 57 j = σ 57 j := by
  have hw6 : worthS c n nf pl na nb r ≤ 6 := Nat.le_trans (worth_le r) h6
  have L : ∀ (kk : Int32 → St → Option (Int32 × St)) k i m v, i + k = nf → k < m → v ≤ i → fX0_weigh_L4 kk 21 m (nI v) (nI i) σ = kk (nI (accN (ripeF (σ 60) (σ 61) na nb) k i v)) σ := by
    intro kk k
    induction k with
    | zero =>
      intro i m v hi hm hv
      obtain ⟨m, rfl⟩ : ∃ q, m = q + 1 := ⟨m - 1, by omega⟩
      obtain rfl : i = nf := by omega
      rw [fX0_weigh_L4, hf, if_pos (Int32.le_refl _)]
      rfl
    | succ k ih =>
      intro i m v hi hm hv
      obtain ⟨m, rfl⟩ : ∃ q, m = q + 1 := ⟨m - 1, by omega⟩
      rw [fX0_weigh_L4, hf, if_neg (by rw [nI_leI (by omega) (by omega)]; omega), at_nI (by decide) (by show i < 6; omega), bd_some, at_nI (r := 27) (by decide) (by show i < 6; omega), bd_some, hna, at_nI (by decide) (by show i < 6; omega), bd_some, at_nI (r := 28) (by decide) (by show i < 6; omega), bd_some, hnb, zra_1, zra_1]
      show _ = kk (nI (accN (ripeF (σ 60) (σ 61) na nb) k (i + 1) (ripeF (σ 60) (σ 61) na nb i v))) σ
      rw [ripeF]
      by_cases e1 : σ 60 i < na i
      · rw [if_pos e1, if_pos e1]
        exact ih (i + 1) m v (by omega) (by omega) (by omega)
      · rw [if_neg e1, if_neg e1]
        by_cases e2 : σ 61 i < nb i
        · rw [if_pos e2, if_pos e2]
          exact ih (i + 1) m v (by omega) (by omega) (by omega)
        · rw [if_neg e2, if_neg e2]
          exact ih (i + 1) m (v + 1) (by omega) (by omega) (by omega)
  have e : accN (ripeF (σ 60) (σ 61) na nb) nf 0 0 = worthS c n nf pl na nb r := ripeN_congr (fun f hf => ⟨ha f hf, hb f hf⟩)
  have L0 := fun kk => L kk nf 0 FU 0 (by omega) (by show nf < 20000; omega) (Nat.le_refl _)
  rw [e] at L0
  have hs := bestR_step (pl := pl) (na := na) (nb := nb) h6 h hρ
  have L1 : ∀ kk, fX0_weigh_L4 kk 21 FU (0 : Int32) (0 : Int32) σ = kk (nI (worthS c n nf pl na nb r)) σ := L0
  rw [fX0_weigh, L1]
  dsimp only
  by_cases e : σ 57 5 < nI (worthS c n nf pl na nb r)
  · rw [if_pos e, if_pos e] at hs
    refine ⟨_, by rw [if_neg (fun q => absurd e (i_nlt.mpr q)), c_copyRow (by decide) (by decide) (by decide), bd_some], ?_, fun k q1 q2 => by rw [ovl_slot q2, wr_slot q1], fun j hj => by rw [ovl_slot (by decide), wr_place hj]⟩
    rw [ovl_slot (by decide), wr_hit]
    refine ⟨hs.1, hs.2.imp id (fun q => ⟨q.1, fun p hp hl => ?_⟩)⟩
    rw [ovl_in (by omega) (by show p < 0 + 12; omega), Nat.sub_zero, wr_slot (by decide)]
    exact q.2 p hp hl
  · rw [if_neg e, if_neg e] at hs
    exact ⟨σ, by rw [if_pos (i_nlt.mp e)], hs, fun _ _ _ => rfl, fun _ _ => rfl⟩
/-- what holds while the class chooses -/
def ChoI (s : St) (c pl : Nat → Int32) (n nf k r0 : Nat) (σ : St) : Prop := (∀ x, x ≠ 57 → x ≠ 58 → x ≠ 59 → x ≠ 60 → x ≠ 61 → σ x = s x) ∧ (∀ j, j ≠ 5 → σ 57 j = s 57 j) ∧
  (∀ r, r / (nf + 1) ^ tailN c n k = r0 → ∀ p, p < n - k → ¬ c (48 + p) = -1 → σ 58 p = postS c n nf r p) ∧ ∀ f, f < nf → σ 60 f = heapS c (σ 58) 0 f (n - k) (10 * c (84 + (pl f).toNatClampNeg)) ∧ σ 61 f = heapS c (σ 58) 1 f (n - k) 0
/-- choosing for one person, and for those behind: the rows of one stretch, in their order -/
theorem c_choose {s : St} (h12 : n ≤ 12) (h6 : nf ≤ 6) (hn : s 21 0 = nI n) (hf : s 21 6 = nI nf) (hc : s 34 = c) (hna : s 27 = na) (hnb : s 28 = nb) : ∀ k r0 fu (σ : St) x, k ≤ n → k < fu → ChoI s c pl n nf k r0 σ → BestR c n nf x (σ 57 5) (σ 59) →
    ∃ σ', fX0_choose 21 33 fu (nI (n - k)) σ = some (0, σ') ∧ BestR c n nf (accN (bestF c n nf pl na nb) ((nf + 1) ^ tailN c n k) (r0 * (nf + 1) ^ tailN c n k) x) (σ' 57 5) (σ' 59) ∧ (∀ x, x ≠ 57 → x ≠ 58 → x ≠ 59 → x ≠ 60 → x ≠ 61 → σ' x = s x) ∧ (∀ j, j ≠ 5 → σ' 57 j = s 57 j) ∧ (∀ p, p < n - k → σ' 58 p = σ 58 p) ∧ ∀ f, f < nf → σ' 60 f = σ 60 f ∧ σ' 61 f = σ 61 f := by
  intro k
  induction k with
  | zero =>
    intro r0 fu σ x hk hfu hI hB
    obtain ⟨fu, rfl⟩ : ∃ q, fu = q + 1 := ⟨fu - 1, by omega⟩
    obtain ⟨i1, i2, i3, i4⟩ := id hI
    have hfs : σ 21 6 = nI nf := by rw [i1 21 (by decide) (by decide) (by decide) (by decide) (by decide)]; exact hf
    have hns : σ 21 0 = nI n := by rw [i1 21 (by decide) (by decide) (by decide) (by decide) (by decide)]; exact hn
    have ht : (nf + 1) ^ tailN c n 0 = 1 := rfl
    rw [ht, Nat.mul_one]
    rw [ht] at i3
    by_cases e : σ 57 5 < nI nf
    · have hr := i3 r0 (Nat.div_one _)
      obtain ⟨σ', w1, w2, w3, w4⟩ := c_weigh (c := c) (n := n) (pl := pl) (na := na) (nb := nb) (x := x) (r := r0) h6 hfs (by rw [i1 27 (by decide) (by decide) (by decide) (by decide) (by decide)]; exact hna) (by rw [i1 28 (by decide) (by decide) (by decide) (by decide) (by decide)]; exact hnb) (fun f hf => by rw [(i4 f hf).1]; exact heapS_congr (fun p hp hl => hr p hp hl)) (fun f hf => by rw [(i4 f hf).2]; exact heapS_congr (fun p hp hl => hr p hp hl)) hB hr h12
      refine ⟨σ', ?_, w2, fun z q1 q2 q3 q4 q5 => by rw [w3 z q1 q3, i1 z q1 q2 q3 q4 q5], fun j hj => by rw [w4 j hj, i2 j hj], fun p _ => by rw [w3 58 (by decide) (by decide)], fun f _ => by rw [w3 60 (by decide) (by decide), w3 61 (by decide) (by decide)]; exact ⟨rfl, rfl⟩⟩
      rw [fX0_choose, gX0_choose, hfs, if_pos e, hns, if_neg (by rw [nI_ltI (by omega) (by omega)]; omega), w1, bd_some]
    · refine ⟨σ, ?_, by rw [best_idle h6 hB e]; exact hB, i1, i2, fun _ _ => rfl, fun _ _ => ⟨rfl, rfl⟩⟩
      rw [fX0_choose, gX0_choose, hfs, if_neg e]
  | succ k ih =>
    intro r0 fu σ x hk hfu hI hB
    obtain ⟨fu, rfl⟩ : ∃ q, fu = q + 1 := ⟨fu - 1, by omega⟩
    obtain ⟨i1, i2, i3, i4⟩ := id hI
    have hfs : σ 21 6 = nI nf := by rw [i1 21 (by decide) (by decide) (by decide) (by decide) (by decide)]; exact hf
    have hns : σ 21 0 = nI n := by rw [i1 21 (by decide) (by decide) (by decide) (by decide) (by decide)]; exact hn
    by_cases e : σ 57 5 < nI nf
    · obtain ⟨p, hp⟩ : ∃ p, p = n - (k + 1) := ⟨_, rfl⟩
      have hp1 : n - k = p + 1 := by omega
      have hpn : p < n := by omega
      have hpk : n - 1 - p = k := by omega
      rw [← hp] at i3 i4 ⊢
      have hch : fX0_choose 21 33 (fu + 1) (nI p) σ = bd (fX0_choose 21 33 fu (nI (n - k)) (wr σ 58 p (-1))) (fun y_2 s_2 => fX0_choose_L47 (fX0_choose 21 33 fu) 21 33 (nI p) FU (0 : Int32) s_2) := by
        rw [fX0_choose, gX0_choose, hfs, if_pos e, hns, if_pos (by rw [nI_ltI (by omega) (by omega)]; omega), put_nI (by decide) (by show p < 12; omega), bd_some, zra_1, hp1]
      by_cases hl : c (48 + p) = -1
      · have htl : tailN c n (k + 1) = tailN c n k := by rw [tailN, ← hp, if_pos hl]; rfl
        rw [htl] at i3 ⊢
        obtain ⟨σ', a1, a2, a3, a4, a5, a6⟩ := ih r0 fu (wr σ 58 p (-1)) x (by omega) (by omega) ⟨fun z q1 q2 q3 q4 q5 => by rw [wr_slot q2, i1 z q1 q2 q3 q4 q5], fun j hj => by rw [wr_slot (by decide), i2 j hj], fun r hr z hz hlz => by
            have hzp : z ≠ p := fun q => hlz (by rw [q]; exact hl)
            rw [wr_place hzp]
            exact i3 r hr z (by omega) hlz, fun f hf => by
            have e2 : ∀ j v, heapS c ((wr σ 58 p (-1)) 58) j f (n - k) v = heapS c (σ 58) j f p v := fun j v => by
              rw [heapS, hp1, accN_succ, heapF, Nat.zero_add, if_pos hl]
              exact heapS_congr (fun z hz _ => by rw [wr_place (by omega)])
            rw [e2, e2, wr_slot (by decide), wr_slot (by decide)]
            exact i4 f hf⟩ (by rw [wr_slot (by decide), wr_slot (by decide)]; exact hB)
        refine ⟨σ', ?_, a2, a3, a4, fun z hz => by rw [a5 z (by omega), wr_place (by omega)], fun f hf => by rw [(a6 f hf).1, (a6 f hf).2, wr_slot (by decide), wr_slot (by decide)]; exact ⟨rfl, rfl⟩⟩
        rw [hch, a1, bd_some]
        show fX0_choose_L47 _ 21 33 (nI p) (19999 + 1) (nI 0) σ' = _
        rw [fX0_choose_L47, a3 21 (by decide) (by decide) (by decide) (by decide) (by decide), hf]
        by_cases h0 : nf ≤ 0
        · rw [if_pos (by rw [nI_leI (by omega) (by omega)]; exact h0)]
        · rw [if_neg (by rw [nI_leI (by omega) (by omega)]; exact h0), w_alive (w := 33) rfl (by omega), bd_some]
          show (if (if σ' 34 (48 + p) = -1 then (0 : Int32) else 1) = 0 then _ else _) = _
          rw [a3 34 (by decide) (by decide) (by decide) (by decide) (by decide), hc, if_pos hl, if_pos rfl]
      · have htl : tailN c n (k + 1) = tailN c n k + 1 := by rw [tailN, ← hp, if_neg hl]
        rw [htl] at i3 ⊢
        -- one place of the row, d being 0 for none
        have one : ∀ d (τ : St) y, d ≤ nf → (∀ z, z ≠ 57 → z ≠ 58 → z ≠ 59 → z ≠ 60 → z ≠ 61 → τ z = s z) → (∀ j, j ≠ 5 → τ 57 j = s 57 j) → (∀ z, z < p → τ 58 z = σ 58 z) → τ 58 p = nI d - 1 → (∀ f, f < nf → τ 60 f = (if nI d - 1 = nI f then σ 60 f + c (4 * p + 0) else σ 60 f) ∧ τ 61 f = (if nI d - 1 = nI f then σ 61 f + c (4 * p + 1) else σ 61 f)) → BestR c n nf y (τ 57 5) (τ 59) →
            ∃ σ', fX0_choose 21 33 fu (nI (n - k)) τ = some (0, σ') ∧ BestR c n nf (accN (bestF c n nf pl na nb) ((nf + 1) ^ tailN c n k) ((r0 * (nf + 1) + d) * (nf + 1) ^ tailN c n k) y) (σ' 57 5) (σ' 59) ∧ (∀ x, x ≠ 57 → x ≠ 58 → x ≠ 59 → x ≠ 60 → x ≠ 61 → σ' x = s x) ∧ (∀ j, j ≠ 5 → σ' 57 j = s 57 j) ∧ (∀ z, z < p + 1 → σ' 58 z = τ 58 z) ∧ ∀ f, f < nf → σ' 60 f = τ 60 f ∧ σ' 61 f = τ 61 f := by
          intro d τ y hd t1 t2 t3 t4 t5 t6
          obtain ⟨σ', a1, a2, a3, a4, a5, a6⟩ := ih (r0 * (nf + 1) + d) fu τ y (by omega) (by omega) ⟨t1, t2, fun r hr z hz hlz => by
              by_cases ez : z = p
              · subst ez
                rw [t4, postS, hpk, hr, Nat.add_comm, Nat.add_mul_mod_self_right, Nat.mod_eq_of_lt (by omega)]
              · rw [t3 z (by omega)]
                refine i3 r ?_ z (by omega) hlz
                rw [Nat.pow_succ, ← Nat.div_div_eq_div_mul, hr, Nat.add_comm, Nat.add_mul_div_right _ _ (by omega), Nat.div_eq_of_lt (by omega), Nat.zero_add], fun f hf => by
              have e2 : ∀ j v, heapS c (τ 58) j f (n - k) v = if nI d - 1 = nI f then heapS c (σ 58) j f p v + c (4 * p + j) else heapS c (σ 58) j f p v := fun j v => by
                rw [heapS, hp1, accN_succ, heapF, Nat.zero_add, if_neg hl, t4]
                have e3 : accN (heapF c (τ 58) j f) p 0 v = heapS c (σ 58) j f p v := heapS_congr (fun z hz _ => t3 z hz)
                rw [e3]
              rw [e2, e2, (t5 f hf).1, (t5 f hf).2, (i4 f hf).1, (i4 f hf).2]
              exact ⟨rfl, rfl⟩⟩ t6
          exact ⟨σ', a1, a2, a3, a4, fun z hz => a5 z (by omega), a6⟩
        have loop : ∀ q d m (τ : St) y, d + q = nf → q < m → (∀ z, z ≠ 57 → z ≠ 58 → z ≠ 59 → z ≠ 60 → z ≠ 61 → τ z = s z) → (∀ j, j ≠ 5 → τ 57 j = s 57 j) → (∀ z, z < p → τ 58 z = σ 58 z) → (∀ f, f < nf → τ 60 f = σ 60 f ∧ τ 61 f = σ 61 f) → BestR c n nf y (τ 57 5) (τ 59) →
            ∃ σ', fX0_choose_L47 (fX0_choose 21 33 fu) 21 33 (nI p) m (nI d) τ = some (0, σ') ∧ BestR c n nf (accN (bestF c n nf pl na nb) (q * (nf + 1) ^ tailN c n k) ((r0 * (nf + 1) + (d + 1)) * (nf + 1) ^ tailN c n k) y) (σ' 57 5) (σ' 59) ∧ (∀ x, x ≠ 57 → x ≠ 58 → x ≠ 59 → x ≠ 60 → x ≠ 61 → σ' x = s x) ∧ (∀ j, j ≠ 5 → σ' 57 j = s 57 j) ∧ (∀ z, z < p → σ' 58 z = σ 58 z) ∧ ∀ f, f < nf → σ' 60 f = σ 60 f ∧ σ' 61 f = σ 61 f := by
          intro q
          induction q with
          | zero =>
            intro d m τ y hd hm t1 t2 t3 t4 t5
            obtain ⟨m, rfl⟩ : ∃ q, m = q + 1 := ⟨m - 1, by omega⟩
            obtain rfl : d = nf := by omega
            refine ⟨τ, ?_, by rw [Nat.zero_mul]; exact t5, t1, t2, t3, t4⟩
            rw [fX0_choose_L47, t1 21 (by decide) (by decide) (by decide) (by decide) (by decide), hf, if_pos (Int32.le_refl _)]
          | succ q ihq =>
            intro d m τ y hd hm t1 t2 t3 t4 t5
            obtain ⟨m, rfl⟩ : ∃ q, m = q + 1 := ⟨m - 1, by omega⟩
            have hdn : d < nf := by omega
            have t34 : ∀ τ' : St, (∀ z, z ≠ 57 → z ≠ 58 → z ≠ 59 → z ≠ 60 → z ≠ 61 → τ' z = s z) → τ' 34 = c := fun τ' h => by rw [h 34 (by decide) (by decide) (by decide) (by decide) (by decide)]; exact hc
            have cadd : ∀ a b (τ' : St), fX0_add (nI d) a b τ' = some (0, wr (wr τ' 60 d (τ' 60 d + a)) 61 d (τ' 61 d + b)) := fun a b τ' => by
              rw [fX0_add, at_nI (by decide) (by show d < 6; omega), bd_some, put_nI (by decide) (by show d < 6; omega), bd_some, at_nI (by decide) (by show d < 6; omega), bd_some, put_nI (by decide) (by show d < 6; omega), bd_some, wr_slot (show (61 : Nat) ≠ 60 by decide)]
            have p0 : ∀ τ' : St, fX10_part 33 (nI p) (0 : Int32) τ' = some (τ' 34 (4 * p + 0), τ') := fun τ' => w_part (w := 33) (k := 0) rfl (by omega) (by decide)
            have p1 : ∀ τ' : St, fX10_part 33 (nI p) (1 : Int32) τ' = some (τ' 34 (4 * p + 1), τ') := fun τ' => w_part (w := 33) (k := 1) rfl (by omega) (by decide)
            obtain ⟨τ1, hτ1⟩ : ∃ τ1, τ1 = wr (wr (wr τ 58 p (nI d)) 60 d (τ 60 d + c (4 * p + 0))) 61 d (τ 61 d + c (4 * p + 1)) := ⟨_, rfl⟩
            have o1 : ∀ z, z ≠ 57 → z ≠ 58 → z ≠ 59 → z ≠ 60 → z ≠ 61 → τ1 z = s z := fun z q1 q2 q3 q4 q5 => by rw [hτ1, wr_slot q5, wr_slot q4, wr_slot q2, t1 z q1 q2 q3 q4 q5]
            have hpred : nI (d + 1) - 1 = nI d := nI_pred d
            obtain ⟨σ1, b1, b2, b3, b4, b5, b6⟩ := one (d + 1) τ1 y (by omega) o1 (fun j hj => by rw [hτ1, wr_slot (by decide), wr_slot (by decide), wr_slot (by decide), t2 j hj]) (fun z hz => by rw [hτ1, wr_slot (by decide), wr_slot (by decide), wr_place (by omega), t3 z hz]) (by rw [hτ1, wr_slot (by decide), wr_slot (by decide), wr_hit, hpred]) (fun f hf => by
                rw [hpred, hτ1, wr_slot (show (60 : Nat) ≠ 61 by decide)]
                by_cases ef : f = d
                · subst ef
                  rw [if_pos rfl, if_pos rfl, wr_hit, wr_hit, (t4 f hf).1, (t4 f hf).2]
                  exact ⟨rfl, rfl⟩
                · have ne : ¬ nI d = nI f := fun q => ef ((nI_eq (by omega) (by omega)).mp q).symm
                  rw [if_neg ne, if_neg ne, wr_place ef, wr_place ef, wr_slot (by decide), wr_slot (by decide), wr_slot (by decide), (t4 f hf).1, (t4 f hf).2]
                  exact ⟨rfl, rfl⟩) (by rw [hτ1, wr_slot (by decide), wr_slot (by decide), wr_slot (by decide), wr_slot (by decide), wr_slot (by decide), wr_slot (by decide)]; exact t5)
            obtain ⟨σ2, hσ2⟩ : ∃ σ2, σ2 = wr (wr σ1 60 d (σ1 60 d + -c (4 * p + 0))) 61 d (σ1 61 d + -c (4 * p + 1)) := ⟨_, rfl⟩
            have back : ∀ a b : Int32, a + b + -b = a := fun a b => by rw [Int32.add_assoc, Int32.add_right_neg, Int32.add_zero]
            obtain ⟨σ', g1, g2, g3, g4, g5, g6⟩ := ihq (d + 1) m σ2 _ (by omega) (by omega) (fun z q1 q2 q3 q4 q5 => by rw [hσ2, wr_slot q5, wr_slot q4, b3 z q1 q2 q3 q4 q5]) (fun j hj => by rw [hσ2, wr_slot (by decide), wr_slot (by decide), b4 j hj]) (fun z hz => by rw [hσ2, wr_slot (by decide), wr_slot (by decide), b5 z (by omega), hτ1, wr_slot (by decide), wr_slot (by decide), wr_place (by omega), t3 z hz]) (fun f hf => by
                rw [hσ2, wr_slot (show (60 : Nat) ≠ 61 by decide)]
                by_cases ef : f = d
                · subst ef
                  rw [wr_hit, wr_hit, (b6 f hf).1, (b6 f hf).2, hτ1, wr_slot (show (60 : Nat) ≠ 61 by decide), wr_hit, wr_hit, back, back]
                  exact t4 f hf
                · rw [wr_place ef, wr_place ef, wr_slot (by decide), (b6 f hf).1, (b6 f hf).2, hτ1, wr_slot (show (60 : Nat) ≠ 61 by decide), wr_place ef, wr_place ef, wr_slot (by decide), wr_slot (by decide), wr_slot (by decide)]
                  exact t4 f hf) (by rw [hσ2, wr_slot (by decide), wr_slot (by decide), wr_slot (by decide), wr_slot (by decide)]; exact b2)
            refine ⟨σ', ?_, ?_, g3, g4, g5, g6⟩
            · rw [fX0_choose_L47, t1 21 (by decide) (by decide) (by decide) (by decide) (by decide), hf, if_neg (by rw [nI_leI (by omega) (by omega)]; omega), w_alive (w := 33) rfl (by omega), bd_some]
              show (if (if τ 34 (48 + p) = -1 then (0 : Int32) else 1) = 0 then _ else _) = _
              rw [t34 τ t1, if_neg hl, if_neg (by decide), put_nI (by decide) (by show p < 12; omega), bd_some, p0, bd_some, p1, bd_some, cadd, bd_some, wr_slot (show (34 : Nat) ≠ 58 by decide), wr_slot (show (60 : Nat) ≠ 58 by decide), wr_slot (show (61 : Nat) ≠ 58 by decide), t34 τ t1, ← hτ1, zra_1, ← hp1, b1, bd_some, p0, bd_some, p1, bd_some, cadd, bd_some, t34 σ1 b3, ← hσ2, zra_1]
              exact g1
            · have e1 : (q + 1) * (nf + 1) ^ tailN c n k = (nf + 1) ^ tailN c n k + q * (nf + 1) ^ tailN c n k := by rw [Nat.add_mul, Nat.one_mul, Nat.add_comm]
              have e2 : (r0 * (nf + 1) + (d + 1)) * (nf + 1) ^ tailN c n k + (nf + 1) ^ tailN c n k = (r0 * (nf + 1) + (d + 1 + 1)) * (nf + 1) ^ tailN c n k := by
                rw [← Nat.add_assoc _ (d + 1) 1, Nat.add_mul _ 1, Nat.one_mul]
              rw [e1, accN_add, e2]
              exact g2
        have hm1 : (nI 0 - 1 : Int32) = -1 := rfl
        have nm : ∀ f, f < nf → ¬ (nI 0 - 1 : Int32) = nI f := fun f hf q => by
          have q1 : (-1 : Int32).toInt = (nI f).toInt := congrArg Int32.toInt (hm1.symm.trans q)
          rw [nI_toInt (by omega)] at q1
          have q2 : (-1 : Int32).toInt = -1 := rfl
          omega
        obtain ⟨σ1, b1, b2, b3, b4, b5, b6⟩ := one 0 (wr σ 58 p (-1)) x (by omega) (fun z q1 q2 q3 q4 q5 => by rw [wr_slot q2, i1 z q1 q2 q3 q4 q5]) (fun j hj => by rw [wr_slot (by decide), i2 j hj]) (fun z hz => by rw [wr_place (by omega)]) (by rw [wr_hit, hm1]) (fun f hf => by rw [if_neg (nm f hf), if_neg (nm f hf), wr_slot (by decide), wr_slot (by decide)]; exact ⟨rfl, rfl⟩) (by rw [wr_slot (by decide), wr_slot (by decide)]; exact hB)
        obtain ⟨σ', g1, g2, g3, g4, g5, g6⟩ := loop nf 0 FU σ1 _ (by omega) (by show nf < 20000; omega) b3 b4 (fun z hz => by rw [b5 z (by omega), wr_place (by omega)]) (fun f hf => by rw [(b6 f hf).1, (b6 f hf).2, wr_slot (by decide), wr_slot (by decide)]; exact ⟨rfl, rfl⟩) b2
        refine ⟨σ', ?_, ?_, g3, g4, g5, g6⟩
        · rw [hch, b1, bd_some]
          exact g1
        · have e1 : (nf + 1) ^ (tailN c n k + 1) = (nf + 1) ^ tailN c n k + nf * (nf + 1) ^ tailN c n k := by rw [Nat.pow_succ, Nat.mul_comm, Nat.add_mul, Nat.one_mul, Nat.add_comm]
          have e2 : r0 * (nf + 1) ^ (tailN c n k + 1) = (r0 * (nf + 1) + 0) * (nf + 1) ^ tailN c n k := by rw [Nat.pow_succ, Nat.add_zero (r0 * (nf + 1)), Nat.mul_comm ((nf + 1) ^ tailN c n k), Nat.mul_assoc]
          have e3 : (r0 * (nf + 1) + 0) * (nf + 1) ^ tailN c n k + (nf + 1) ^ tailN c n k = (r0 * (nf + 1) + (0 + 1)) * (nf + 1) ^ tailN c n k := by rw [Nat.zero_add, Nat.add_mul (r0 * (nf + 1)) 1, Nat.one_mul]; rfl
          rw [e2]
          have e4 := congrArg (fun w => accN (bestF c n nf pl na nb) w ((r0 * (nf + 1) + 0) * (nf + 1) ^ tailN c n k) x) e1
          refine Eq.mp ?_ g2
          rw [← e3, ← accN_add]
          exact congrArg (fun y => BestR c n nf y (σ' 57 5) (σ' 59)) e4.symm
    · refine ⟨σ, ?_, by rw [best_idle h6 hB e]; exact hB, i1, i2, fun _ _ => rfl, fun _ _ => ⟨rfl, rfl⟩⟩
      rw [fX0_choose, gX0_choose, hfs, if_neg e]
end ARRANGE
