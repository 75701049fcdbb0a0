/-! the loops' fuel: some number, never unfolded -/
theorem FV_e : ∃ n : Nat, 1000000 ≤ n := ⟨1000000, Nat.le_refl _⟩
noncomputable def FV : Nat := Classical.choose FV_e
theorem FV_ge : 1000000 ≤ FV := Classical.choose_spec FV_e
theorem FV_lt {n : Nat} (h : n < 1000000) : n < FV := Nat.lt_of_lt_of_le h FV_ge
