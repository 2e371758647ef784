def cntN (f g : Nat) : Nat → Nat → Nat
  | _, 0 => 0
  | k, d + 1 => (if k &&& f = g then 1 else 0) + cntN f g (k + 1) d
theorem cnt_powB : ∀ N, N < 8 → ∀ f, f < 128 → f < 2 ^ N → ∀ g, g < 128 → g &&& f = g → ((List.range 8).any fun j => cntN f g 0 (2 ^ N) == 2 ^ j) = true := by decide +kernel
theorem cnt_pow : ∀ N, N < 8 → ∀ f, f < 128 → f < 2 ^ N → ∀ g, g < 128 → g &&& f = g → ∃ j, j < 8 ∧ cntN f g 0 (2 ^ N) = 2 ^ j := by
  intro N h1 f h2 h3 g h4 h5
  obtain ⟨j, hj, he⟩ := List.any_eq_true.mp (cnt_powB N h1 f h2 h3 g h4 h5)
  exact ⟨j, List.mem_range.mp hj, by simpa using he⟩
