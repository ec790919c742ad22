/-! ===== land: the law, products and sums ===== -/
section LAWS
variable {b : Nat → Int32} {m K : Nat} {pl ln : Nat → Nat}
/-- what a reader of the law, class and reference, keeps to -/
def Rdr (b : Nat → Int32) (m K : Nat) (pl ln : Nat → Nat) (e need : Nat) (f g : St → Option (Int32 × St)) : Prop := ∀ i len dep (σ t : St), At b m K pl ln i σ t → LawI len dep σ t → len + 1 ≤ i → dep len + need ≤ 64 → POut b m K pl ln e (f σ) (g t) i len (dep len) σ t
/-- idle after a fault -/
def Idle (f g : St → Option (Int32 × St)) : Prop := (∀ σ, ¬ σ 2 4 = 0 → f σ = some (0, σ)) ∧ ∀ t, ¬ t 69 26 = 0 → g t = some (0, t)
theorem part_idle {rc rc' : Int32 → St → Option (Int32 × St)} (x y : Int32) : Idle (fX6_readPart rc x) (fX12_readPart rc' y) := ⟨fun σ h => by rw [fX6_readPart, if_neg h], fun t h => by rw [fX12_readPart, if_neg h]⟩
end LAWS
