def flo (p w : Nat) : Int32 := (fX7_floatOf (nI p) (nI w)).getD 0
theorem flo_all : ∀ w, w < 127 → ∀ p, p < w + 1 → fX6_floatBits (nI p) (nI w) = some (flo p w) ∧ fX7_floatOf (nI p) (nI w) = some (flo p w) := by decide +kernel
