/-! ===== bits; people ===== -/
theorem b_split {P : Nat → Prop} (h : ∀ a : Nat, a < 64 → ∀ b : Nat, b < 64 → P (64 * a + b)) (A : Nat) (hA : A < 4096) : P A := by
  have := h (A / 64) (by omega) (A % 64) (by omega)
  rwa [Nat.div_add_mod] at this
theorem b_test (A : Nat) (hA : A < 4096) : ∀ p : Nat, p < 12 → (jshr (nI A) (nI p) &&& 1) = if A.testBit p then 1 else 0 :=
  b_split (P := fun A => ∀ p : Nat, p < 12 → (jshr (nI A) (nI p) &&& 1) = if A.testBit p then 1 else 0) (by decide +kernel) A hA
theorem b_shl : ∀ p : Nat, p < 12 → jshl 1 (nI p) = nI (2 ^ p) := by decide +kernel
theorem b_or (A B : Nat) (hA : A < 4096) (hB : B < 4096) : nI A ||| nI B = nI (A ||| B) := by
  rw [nI, nI, nI]
  apply Int32.toBitVec_inj.mp
  simp [Int32.toBitVec_ofNat', BitVec.ofNat_or]
theorem b_and (A B : Nat) : nI A &&& nI B = nI (A &&& B) := by
  rw [nI, nI, nI]
  apply Int32.toBitVec_inj.mp
  simp [Int32.toBitVec_ofNat', BitVec.ofNat_and]
theorem b_clear (A : Nat) (hA : A < 4096) : ∀ p : Nat, p < 12 → (nI A &&& (jshl 1 (nI p) ^^^ (-1 : Int32))) = nI (if A.testBit p then A - 2 ^ p else A) :=
  b_split (P := fun A => ∀ p : Nat, p < 12 → (nI A &&& (jshl 1 (nI p) ^^^ (-1 : Int32))) = nI (if A.testBit p then A - 2 ^ p else A)) (by decide +kernel) A hA
