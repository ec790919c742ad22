/-! ===== the law's loop ===== -/
def NoN (k : Nat) (p : Option (RT × St)) : Prop := ∀ s, ¬ p = some (.inr k, s)
theorem non_inl {k : Nat} {a : Int32} {s : St} : NoN k (some (.inl a, s)) := fun _ h => by cases h
theorem non_inr {k m : Nat} {s : St} (h : ¬ m = k) : NoN k (some (.inr m, s)) := fun _ e => by
  cases e
  exact h rfl
theorem non_none {k : Nat} : NoN k none := fun _ h => by cases h
theorem non_bd {k : Nat} {α : Type} {f : Option (α × St)} {g : α → St → Option (RT × St)} (h : ∀ a s, NoN k (g a s)) : NoN k (bd f g) := by
  match f with
  | none => exact non_none
  | some (a, s) => exact h a s
theorem non_bx {k : Nat} {f : Option (RT × St)} {g : Int32 → St → Option (RT × St)} (h0 : NoN k f) (h : ∀ a s, NoN k (g a s)) : NoN k (bx f g) := by
  match f with
  | none => exact non_none
  | some (.inl a, s) => exact h a s
  | some (.inr m, s) => exact h0
theorem non_ite {k : Nat} {c : Prop} [Decidable c] {a b : Option (RT × St)} (h1 : NoN k a) (h2 : NoN k b) : NoN k (if c then a else b) := by
  by_cases e : c
  · rw [if_pos e]; exact h1
  · rw [if_neg e]; exact h2
theorem nonN_person (a : Int32) (s : St) : NoN 1 (fX11_needPerson a s) := non_ite (non_inr (by decide)) (non_ite non_inl (non_inr (by decide)))
theorem nonN_part (a : Int32) (s : St) : NoN 1 (fX11_needPart a s) := non_ite (non_inr (by decide)) (non_ite non_inl (non_inr (by decide)))
theorem non_kinL (c : Int32) : ∀ n v w s, NoN 1 (fX11_kin_L17 c n v w s)
  | 0, _, _, _ => non_none
  | n + 1, _, _, _ => non_ite non_inl (non_ite non_inl (non_bd (fun _ _ => non_kinL c n _ _ _)))
theorem non_contestedL (c : Int32) : ∀ n v w s, NoN 1 (fX11_contested_L44 c n v w s)
  | 0, _, _, _ => non_none
  | n + 1, _, _, _ => non_ite non_inl (non_bd (fun _ _ => non_bd (fun _ _ => non_bd (fun _ _ => non_bd (fun _ _ => non_ite (non_contestedL c n _ _ _) (non_contestedL c n _ _ _))))))
theorem non_count (a : Int32) (s : St) : NoN 1 (fX11_count a s) := by
  unfold fX11_count
  repeat first | exact non_inl | exact non_inr (by decide) | exact nonN_person _ _ | exact nonN_part _ _ | exact non_kinL _ _ _ _ _ | exact non_contestedL _ _ _ _ _ | refine non_ite ?_ ?_ | refine non_bd (fun _ _ => ?_) | refine non_bx ?_ (fun _ _ => ?_)
theorem non_person (a b : Int32) (s : St) : NoN 1 (fX11_person a b s) := by
  unfold fX11_person
  repeat first | exact non_inl | exact non_inr (by decide) | exact nonN_person _ _ | exact nonN_part _ _ | exact non_kinL _ _ _ _ _ | exact non_contestedL _ _ _ _ _ | refine non_ite ?_ ?_ | refine non_bd (fun _ _ => ?_) | refine non_bx ?_ (fun _ _ => ?_)
theorem non_sky (a b : Int32) (s : St) : NoN 1 (fX11_sky a b s) := by
  unfold fX11_sky
  repeat first | exact non_inl | exact non_inr (by decide) | exact nonN_person _ _ | exact nonN_part _ _ | exact non_kinL _ _ _ _ _ | exact non_contestedL _ _ _ _ _ | refine non_ite ?_ ?_ | refine non_bd (fun _ _ => ?_) | refine non_bx ?_ (fun _ _ => ?_)
theorem non_weather (a b : Int32) (s : St) : NoN 1 (fX11_weather a b s) := by
  unfold fX11_weather
  repeat first | exact non_inl | exact non_inr (by decide) | exact nonN_person _ _ | exact nonN_part _ _ | exact non_kinL _ _ _ _ _ | exact non_contestedL _ _ _ _ _ | refine non_ite ?_ ?_ | refine non_bd (fun _ _ => ?_) | refine non_bx ?_ (fun _ _ => ?_)
theorem non_field (a b : Int32) (s : St) : NoN 1 (fX11_field a b s) := by
  unfold fX11_field
  repeat first | exact non_inl | exact non_inr (by decide) | exact nonN_person _ _ | exact nonN_part _ _ | exact non_kinL _ _ _ _ _ | exact non_contestedL _ _ _ _ _ | refine non_ite ?_ ?_ | refine non_bd (fun _ _ => ?_) | refine non_bx ?_ (fun _ _ => ?_)
theorem non_kin (a b : Int32) (s : St) : NoN 1 (fX11_kin a b s) := by
  unfold fX11_kin
  repeat first | exact non_inl | exact non_inr (by decide) | exact nonN_person _ _ | exact nonN_part _ _ | exact non_kinL _ _ _ _ _ | exact non_contestedL _ _ _ _ _ | refine non_ite ?_ ?_ | refine non_bd (fun _ _ => ?_) | refine non_bx ?_ (fun _ _ => ?_)
theorem non_go (a b : Int32) (s : St) : NoN 1 (fX11_go a b s) := by
  unfold fX11_go
  repeat first | exact non_inl | exact non_inr (by decide) | exact nonN_person _ _ | exact nonN_part _ _ | exact non_kinL _ _ _ _ _ | exact non_contestedL _ _ _ _ _ | refine non_ite ?_ ?_ | refine non_bd (fun _ _ => ?_) | refine non_bx ?_ (fun _ _ => ?_)
theorem non_die (a : Int32) (s : St) : NoN 1 (fX11_die a s) := by
  unfold fX11_die
  repeat first | exact non_inl | exact non_inr (by decide) | exact nonN_person _ _ | exact nonN_part _ _ | exact non_kinL _ _ _ _ _ | exact non_contestedL _ _ _ _ _ | refine non_ite ?_ ?_ | refine non_bd (fun _ _ => ?_) | refine non_bx ?_ (fun _ _ => ?_)
theorem non_pawn (a b c d : Int32) (s : St) : NoN 1 (fX11_pawn a b c d s) := by
  unfold fX11_pawn
  repeat first | exact non_inl | exact non_inr (by decide) | exact nonN_person _ _ | exact nonN_part _ _ | exact non_kinL _ _ _ _ _ | exact non_contestedL _ _ _ _ _ | refine non_ite ?_ ?_ | refine non_bd (fun _ _ => ?_) | refine non_bx ?_ (fun _ _ => ?_)
theorem non_contested (a : Int32) (s : St) : NoN 1 (fX11_contested a s) := by
  unfold fX11_contested
  repeat first | exact non_inl | exact non_inr (by decide) | exact nonN_person _ _ | exact nonN_part _ _ | exact non_kinL _ _ _ _ _ | exact non_contestedL _ _ _ _ _ | refine non_ite ?_ ?_ | refine non_bd (fun _ _ => ?_) | refine non_bx ?_ (fun _ _ => ?_)
theorem non_death (a : Int32) (s : St) : NoN 1 (fX11_death a s) := by
  unfold fX11_death
  repeat first | exact non_inl | exact non_inr (by decide) | exact nonN_person _ _ | exact nonN_part _ _ | exact non_kinL _ _ _ _ _ | exact non_contestedL _ _ _ _ _ | refine non_ite ?_ ?_ | refine non_bd (fun _ _ => ?_) | refine non_bx ?_ (fun _ _ => ?_)
theorem non_post (a : Int32) (s : St) : NoN 1 (fX11_post a s) := by
  unfold fX11_post
  repeat first | exact non_inl | exact non_inr (by decide) | exact nonN_person _ _ | exact nonN_part _ _ | exact non_kinL _ _ _ _ _ | exact non_contestedL _ _ _ _ _ | refine non_ite ?_ ?_ | refine non_bd (fun _ _ => ?_) | refine non_bx ?_ (fun _ _ => ?_)
theorem non_seat (a : Int32) (s : St) : NoN 1 (fX11_seat a s) := by
  unfold fX11_seat
  repeat first | exact non_inl | exact non_inr (by decide) | exact nonN_person _ _ | exact nonN_part _ _ | exact non_kinL _ _ _ _ _ | exact non_contestedL _ _ _ _ _ | refine non_ite ?_ ?_ | refine non_bd (fun _ _ => ?_) | refine non_bx ?_ (fun _ _ => ?_)
theorem non_see (a b : Int32) (s : St) : NoN 1 (fX11_see a b s) := by
  unfold fX11_see
  repeat first | exact non_inl | exact non_inr (by decide) | exact nonN_person _ _ | exact nonN_part _ _ | exact non_kinL _ _ _ _ _ | exact non_contestedL _ _ _ _ _ | refine non_ite ?_ ?_ | refine non_bd (fun _ _ => ?_) | refine non_bx ?_ (fun _ _ => ?_)
theorem non_fits (a : Int32) (s : St) : NoN 1 (fX11_fits a s) := by
  unfold fX11_fits
  repeat first | exact non_inl | exact non_inr (by decide) | exact nonN_person _ _ | exact nonN_part _ _ | exact non_kinL _ _ _ _ _ | exact non_contestedL _ _ _ _ _ | refine non_ite ?_ ?_ | refine non_bd (fun _ _ => ?_) | refine non_bx ?_ (fun _ _ => ?_)
theorem non_wed (a b : Int32) (s : St) : NoN 1 (fX11_wed a b s) := by
  unfold fX11_wed
  repeat first | exact non_inl | exact non_inr (by decide) | exact nonN_person _ _ | exact nonN_part _ _ | exact non_kinL _ _ _ _ _ | exact non_contestedL _ _ _ _ _ | refine non_ite ?_ ?_ | refine non_bd (fun _ _ => ?_) | refine non_bx ?_ (fun _ _ => ?_)
theorem non_land (a : Int32) (s : St) : NoN 0 (fX11_land a s) := by
  unfold fX11_land
  repeat first | exact non_inl | exact non_inr (by decide) | refine non_ite ?_ ?_ | refine non_bd (fun _ _ => ?_)
/-- one call of a throwing kind, as the law makes it -/
def StepT (w g : St → Option (Int32 × St)) : Prop := ∀ s, RS s → ∃ y3 s3 y4 s4, w s = some (y3, s3) ∧ g s3 = some (y4, s4) ∧ s4 69 1 = y3 ∧ RS s4 ∧ (y3 = 0 → s4 111 0 = y4)
theorem exc_10 : ¬ excN 1 = excN 0 := by decide
theorem exc_01 : ¬ excN 0 = excN 1 := by decide
theorem step_one {f : St → Option (RT × St)} {g : St → Option (Int32 × St)} (h : Good f g c12) (h1 : ∀ s, NoN 1 (f s)) : StepT (fun s => bw (f s) (fun y_1 s_1 => if inA (0 : Int32) 1 then (let s_2 := wr s_1 111 (0 : Int32).toNatClampNeg y_1; some ((0 : Int32), s_2)) else none) (fun n9 s9 => if excN n9 = excN 0 then (some ((1 : Int32), s9)) else none)) g := by
  intro s hs
  obtain ⟨r, s1, e1, H⟩ := h s hs
  match r, e1, H with
  | .inl a, e1, H =>
    obtain ⟨y, s4, q1, q2, q3, q4, q5⟩ := H (wr s1 111 0 a) (fun k hk => wr_slot hk)
    refine ⟨0, wr s1 111 0 a, y, s4, ?_, q1, q4, q2, fun _ => by rw [q3, wr_hit, q5]⟩
    show bw (f s) _ _ = _
    rw [e1]
    rfl
  | .inr n, e1, H =>
    obtain ⟨y, s4, q1, q2, q3, q4, q5, q6⟩ := H s1 (fun _ _ => rfl)
    have hn : n = 0 := by
      rcases q5 with e | e
      · exact e
      · subst e
        exact absurd e1 (h1 s s1)
    subst hn
    refine ⟨1, s1, y, s4, ?_, q1, q4, q2, fun e => absurd e (by decide)⟩
    show bw (f s) _ _ = _
    rw [e1]
    rfl
theorem step_two {f : St → Option (RT × St)} {g : St → Option (Int32 × St)} (h : Good f g c12) : StepT (fun s => bw (f s) (fun y_1 s_1 => if inA (0 : Int32) 1 then (let s_2 := wr s_1 111 (0 : Int32).toNatClampNeg y_1; some ((0 : Int32), s_2)) else none) (fun n9 s9 => if n9 = 0 then (some ((1 : Int32), s9)) else (some ((2 : Int32), s9)))) g := by
  intro s hs
  obtain ⟨r, s1, e1, H⟩ := h s hs
  match r, e1, H with
  | .inl a, e1, H =>
    obtain ⟨y, s4, q1, q2, q3, q4, q5⟩ := H (wr s1 111 0 a) (fun k hk => wr_slot hk)
    refine ⟨0, wr s1 111 0 a, y, s4, ?_, q1, q4, q2, fun _ => by rw [q3, wr_hit, q5]⟩
    show bw (f s) _ _ = _
    rw [e1]
    rfl
  | .inr n, e1, H =>
    obtain ⟨y, s4, q1, q2, q3, q4, q5, q6⟩ := H s1 (fun _ _ => rfl)
    refine ⟨c12 n, s1, y, s4, ?_, q1, q4, q2, fun e => absurd e q6⟩
    show bw (f s) _ _ = _
    rw [e1]
    rcases q5 with e | e <;> (subst e; rfl)
theorem step_land {f : St → Option (RT × St)} {g : St → Option (Int32 × St)} (h : Good f g (fun _ => 1)) (h1 : ∀ s, NoN 0 (f s)) : StepT (fun s => bw (f s) (fun y_1 s_1 => if inA (0 : Int32) 1 then (let s_2 := wr s_1 111 (0 : Int32).toNatClampNeg y_1; some ((0 : Int32), s_2)) else none) (fun n9 s9 => if excN n9 = excN 1 then (some ((1 : Int32), s9)) else none)) g := by
  intro s hs
  obtain ⟨r, s1, e1, H⟩ := h s hs
  match r, e1, H with
  | .inl a, e1, H =>
    obtain ⟨y, s4, q1, q2, q3, q4, q5⟩ := H (wr s1 111 0 a) (fun k hk => wr_slot hk)
    refine ⟨0, wr s1 111 0 a, y, s4, ?_, q1, q4, q2, fun _ => by rw [q3, wr_hit, q5]⟩
    show bw (f s) _ _ = _
    rw [e1]
    rfl
  | .inr n, e1, H =>
    obtain ⟨y, s4, q1, q2, q3, q4, q5, q6⟩ := H s1 (fun _ _ => rfl)
    have hn : n = 1 := by
      rcases q5 with e | e
      · subst e
        exact absurd e1 (h1 s s1)
      · exact e
    subst hn
    refine ⟨1, s1, y, s4, ?_, q1, q4, q2, fun e => absurd e (by decide)⟩
    show bw (f s) _ _ = _
    rw [e1]
    rfl
/-- the same of wed, whose answer is told as a truth -/
def StepW (w g : St → Option (Int32 × St)) : Prop := ∀ s, RS s → ∃ y3 s3 y4 s4, w s = some (y3, s3) ∧ g s3 = some (y4, s4) ∧ s4 69 1 = y3 ∧ RS s4 ∧ (y3 = 0 → s4 111 0 = if y4 = 0 then 0 else 1)
theorem step_wed (a b : Int32) : StepW (fL_wed a b) (fX12_wed a b) := by
  intro s hs
  obtain ⟨r, s1, e1, H⟩ := good_wed a b s hs
  match r, e1, H with
  | .inl y0, e1, H =>
    obtain ⟨y, s4, q1, q2, q3, q4, q5⟩ := H (wr s1 111 0 (if y0 = 0 then 0 else 1)) (fun k hk => wr_slot hk)
    refine ⟨0, wr s1 111 0 (if y0 = 0 then 0 else 1), y, s4, ?_, q1, q4, q2, fun _ => by rw [q3, wr_hit, q5]⟩
    unfold fL_wed
    rw [e1]
    show (if y0 = 0 then _ else _) = _
    by_cases e : y0 = 0
    · rw [if_pos e, if_pos e]
      rfl
    · rw [if_neg e, if_neg e]
      rfl
  | .inr n, e1, H =>
    obtain ⟨y, s4, q1, q2, q3, q4, q5, q6⟩ := H s1 (fun _ _ => rfl)
    have hn : n = 0 := by
      rcases q5 with e | e
      · exact e
      · subst e
        exact absurd e1 (non_wed a b s s1)
    subst hn
    refine ⟨1, s1, y, s4, ?_, q1, q4, q2, fun e => absurd e (by decide)⟩
    unfold fL_wed
    rw [e1]
    rfl
def LawOk (o : Option (Int32 × St)) : Prop := ∃ σ', o = some ((1 : Int32), σ')
theorem lp_if {c : Prop} [Decidable c] {a b : Option (Int32 × St)} (h1 : c → LawOk a) (h2 : ¬ c → LawOk b) : LawOk (if c then a else b) := by
  by_cases e : c
  · rw [if_pos e]; exact h1 e
  · rw [if_neg e]; exact h2 e
theorem lg_self (x : Int64) : lg_cmp x x = 0 := by
  unfold lg_cmp
  rw [if_neg (by rw [gt_iff_lt]; exact Int64.lt_irrefl), if_pos rfl]
theorem lp_step {w g : St → Option (Int32 × St)} {s : St} {next : St → Option (Int32 × St)} (H : StepT w g) (hs : RS s) (K : ∀ s', RS s' → LawOk (next s')) : LawOk (bd (w s) (fun y_3 s_3 => bd (g s_3) (fun y_4 s_4 => bd (fX12_thrown s_4) (fun y_5 s_5 =>
    if y_5 = y_3 then
    (if y_3 = 0 then
    (if inA (0 : Int32) 1 then
    (if (lg_cmp (Int32.toInt64 (s_5 111 (0 : Int32).toNatClampNeg)) (Int32.toInt64 y_4)) = 0 then
    (next s_5)
  else
    (none)) else none)
  else
    (next s_5))
  else
    (none))))) := by
  obtain ⟨y3, s3, y4, s4, e1, e2, e3, e4, e5⟩ := H s hs
  rw [e1, bd_some, e2, bd_some, fX12_thrown, bd_some, if_pos e3]
  by_cases e : y3 = 0
  · rw [if_pos e, if_pos (by decide), i00, e5 e, lg_self, if_pos rfl]
    exact K s4 e4
  · rw [if_neg e]
    exact K s4 e4
theorem lp_wed {w g : St → Option (Int32 × St)} {s : St} {next : St → Option (Int32 × St)} (H : StepW w g) (hs : RS s) (K : ∀ s', RS s' → LawOk (next s')) : LawOk (bd (w s) (fun y_3 s_3 => bd (g s_3) (fun y_4 s_4 => bd (fX12_thrown s_4) (fun y_5 s_5 =>
    if y_5 = y_3 then
    (if y_3 = 0 then
    (if inA (0 : Int32) 1 then
    (if y_4 = 0 then
    (if (lg_cmp (Int32.toInt64 (s_5 111 (0 : Int32).toNatClampNeg)) (0 : Int64)) = 0 then
    (next s_5)
  else
    (none))
  else
    (if (lg_cmp (Int32.toInt64 (s_5 111 (0 : Int32).toNatClampNeg)) (1 : Int64)) = 0 then
    (next s_5)
  else
    (none))) else none)
  else
    (next s_5))
  else
    (none))))) := by
  obtain ⟨y3, s3, y4, s4, e1, e2, e3, e4, e5⟩ := H s hs
  rw [e1, bd_some, e2, bd_some, fX12_thrown, bd_some, if_pos e3]
  by_cases e : y3 = 0
  · rw [if_pos e, if_pos (by decide), i00, e5 e]
    by_cases e0 : y4 = 0
    · rw [if_pos e0, if_pos e0, if_pos (by decide)]
      exact K s4 e4
    · rw [if_neg e0, if_neg e0, if_pos (by decide)]
      exact K s4 e4
  · rw [if_neg e]
    exact K s4 e4
theorem lp_same {f g : St → Option (Int32 × St)} {s : St} {next : St → Option (Int32 × St)} (H : Good0 f g) (hs : RS s) (K : ∀ s', RS s' → LawOk (next s')) : LawOk (bd (f s) (fun y_1 s_1 => bd (g s_1) (fun y_2 s_2 => if y_1 = y_2 then (next s_2) else (none)))) := by
  obtain ⟨y, s1, s2, e1, e2, e3⟩ := H s hs
  rw [e1, bd_some, e2, bd_some, if_pos rfl]
  exact K s2 e3
theorem lp_image {f g : St → Option (Int32 × St)} {s : St} {next : St → Option (Int32 × St)} (H : Good0 f g) (hs : RS s) (K : ∀ s', RS s' → LawOk (next s')) : LawOk (bd (f s) (fun _ s_1 => bd (g s_1) (fun _ s_2 => next s_2))) := by
  obtain ⟨y, s1, s2, e1, e2, e3⟩ := H s hs
  rw [e1, bd_some, e2, bd_some]
  exact K s2 e3
theorem law_loop {L : Nat} {xs : Nat → Int32} (hL : L ≤ 3072) (hland : ∀ n, Good (fX11_land n) (fX12_land n) (fun _ => 1)) : ∀ n i s, i ≤ L → L < i + n → RS s → LawOk (fL_law_L23 L xs n (nI i) s) := by
  intro n
  induction n with
  | zero => intro i s h1 h2; omega
  | succ n ih =>
    intro i s h1 h2 hs
    have K : i + 6 ≤ L → ∀ s', RS s' → LawOk (fL_law_L23 L xs n (nI i + (6 : Int32)) s') := fun h s' hs' => by
      rw [show nI i + (6 : Int32) = nI (i + 6) from nI_add i 6]
      exact ih (i + 6) s' h (by omega) hs'
    have hsub : (Int32.ofNat L - 6).toInt = (L : Int) - 6 := by
      show (nI L - nI 6).toInt = _
      rw [Int32.toInt_sub, nI_toInt (by omega), nI_toInt (by decide)]
      rw [Int.bmod_def]
      omega
    have hcond : (Int32.ofNat L - 6 < nI i) ↔ L < i + 6 := by
      rw [i_lt, hsub, nI_toInt (by omega)]
      omega
    rw [fL_law_L23]
    refine lp_if (fun _ => ⟨s, rfl⟩) (fun hc => ?_)
    have h6 : i + 6 ≤ L := by
      rw [hcond] at hc
      omega
    have a0 : inA (nI i) L := inA_lt (by omega) (by omega)
    have a1 : inA (nI i + 1) L := by rw [show nI i + (1 : Int32) = nI (i + 1) from nI_add i 1]; exact inA_lt (by omega) (by omega)
    have a2 : inA (nI i + 2) L := by rw [show nI i + (2 : Int32) = nI (i + 2) from nI_add i 2]; exact inA_lt (by omega) (by omega)
    have a3 : inA (nI i + 3) L := by rw [show nI i + (3 : Int32) = nI (i + 3) from nI_add i 3]; exact inA_lt (by omega) (by omega)
    have a4 : inA (nI i + 4) L := by rw [show nI i + (4 : Int32) = nI (i + 4) from nI_add i 4]; exact inA_lt (by omega) (by omega)
    have a5 : inA (nI i + 5) L := by rw [show nI i + (5 : Int32) = nI (i + 5) from nI_add i 5]; exact inA_lt (by omega) (by omega)
    simp only [if_pos a0, if_pos a1, if_pos a2, if_pos a3, if_pos a4, if_pos a5]
    refine lp_if (fun _ => ?_) (fun _ => ?_)
    · exact lp_same (good_feed _ _ _ _ _) hs (K h6)
    refine lp_if (fun _ => ?_) (fun _ => ?_)
    · exact lp_step (step_land (hland _) (fun s => non_land _ s)) hs (K h6)
    refine lp_if (fun _ => ?_) (fun _ => ?_)
    · exact lp_same good_fault hs (K h6)
    refine lp_if (fun _ => ?_) (fun _ => ?_)
    · exact lp_step (step_one (good_count _) (fun s => non_count _ s)) hs (K h6)
    refine lp_if (fun _ => ?_) (fun _ => ?_)
    · exact lp_step (step_one (good_person _ _) (fun s => non_person _ _ s)) hs (K h6)
    refine lp_if (fun _ => ?_) (fun _ => ?_)
    · exact lp_step (step_one (good_sky _ _) (fun s => non_sky _ _ s)) hs (K h6)
    refine lp_if (fun _ => ?_) (fun _ => ?_)
    · exact lp_step (step_one (good_weather _ _) (fun s => non_weather _ _ s)) hs (K h6)
    refine lp_if (fun _ => ?_) (fun _ => ?_)
    · exact lp_step (step_one (good_field _ _) (fun s => non_field _ _ s)) hs (K h6)
    refine lp_if (fun _ => ?_) (fun _ => ?_)
    · exact lp_step (step_two (good_front _ _)) hs (K h6)
    refine lp_if (fun _ => ?_) (fun _ => ?_)
    · exact lp_step (step_one (good_kin _ _) (fun s => non_kin _ _ s)) hs (K h6)
    refine lp_if (fun _ => ?_) (fun _ => ?_)
    · exact lp_step (step_one (good_go _ _) (fun s => non_go _ _ s)) hs (K h6)
    refine lp_if (fun _ => ?_) (fun _ => ?_)
    · exact lp_wed (step_wed _ _) hs (K h6)
    refine lp_if (fun _ => ?_) (fun _ => ?_)
    · exact lp_step (step_one (good_die _) (fun s => non_die _ s)) hs (K h6)
    refine lp_if (fun _ => ?_) (fun _ => ?_)
    · exact lp_step (step_one (good_pawn _ _ _ _) (fun s => non_pawn _ _ _ _ s)) hs (K h6)
    refine lp_if (fun _ => ?_) (fun _ => ?_)
    · exact lp_same (good_days _) hs (K h6)
    refine lp_if (fun _ => ?_) (fun _ => ?_)
    · exact lp_same good_undo hs (K h6)
    refine lp_if (fun _ => ?_) (fun _ => ?_)
    · exact lp_step (step_two (good_heir _ _ _)) hs (K h6)
    refine lp_if (fun _ => ?_) (fun _ => ?_)
    · exact lp_same good_failing hs (K h6)
    refine lp_if (fun _ => ?_) (fun _ => ?_)
    · exact lp_step (step_one (good_contested _) (fun s => non_contested _ s)) hs (K h6)
    refine lp_if (fun _ => ?_) (fun _ => ?_)
    · exact lp_step (step_two (good_deaths _ _ _)) hs (K h6)
    refine lp_if (fun _ => ?_) (fun _ => ?_)
    · exact lp_step (step_one (good_death _) (fun s => non_death _ s)) hs (K h6)
    refine lp_if (fun _ => ?_) (fun _ => ?_)
    · exact lp_same good_arrange hs (K h6)
    refine lp_if (fun _ => ?_) (fun _ => ?_)
    · exact lp_step (step_one (good_post _) (fun s => non_post _ s)) hs (K h6)
    refine lp_if (fun _ => ?_) (fun _ => ?_)
    · exact lp_same good_seatings hs (K h6)
    refine lp_if (fun _ => ?_) (fun _ => ?_)
    · exact lp_step (step_one (good_seat _) (fun s => non_seat _ s)) hs (K h6)
    refine lp_if (fun _ => ?_) (fun _ => ?_)
    · exact lp_step (step_one (good_see _ _) (fun s => non_see _ _ s)) hs (K h6)
    refine lp_if (fun _ => ?_) (fun _ => ?_)
    · exact lp_same good_forget hs (K h6)
    refine lp_if (fun _ => ?_) (fun _ => ?_)
    · exact lp_step (step_one (good_fits _) (fun s => non_fits _ s)) hs (K h6)
    refine lp_if (fun _ => ?_) (fun _ => ?_)
    · exact lp_step (step_two (good_suitors _ _ _)) hs (K h6)
    refine lp_if (fun _ => ?_) (fun _ => ?_)
    · exact lp_step (step_two (good_century _ _ _)) hs (K h6)
    refine lp_if (fun _ => ?_) (fun _ => ?_)
    · exact lp_image good_image hs (K h6)
    refine lp_if (fun _ => ?_) (fun _ => ?_)
    · exact lp_same good_restore hs (K h6)
    exact K h6 s hs
