/-- the fuel of every loop -/
def fu : Nat := 4096
theorem kh_X0 : ∃ T N, vwCl[0]? = some (RX0, T, N) := ⟨_, _, rfl⟩
theorem kh_X2 : ∃ T N, vwCl[1]? = some (RX2, T, N) := ⟨_, _, rfl⟩
theorem kh_X3 : ∃ T N, vwCl[2]? = some (RX3, T, N) := ⟨_, _, rfl⟩
theorem kh_X4 : ∃ T N, vwCl[3]? = some (RX4, T, N) := ⟨_, _, rfl⟩
theorem kh_X5 : ∃ T N, vwCl[4]? = some (RX5, T, N) := ⟨_, _, rfl⟩
theorem kh_X6 : ∃ T N, vwCl[5]? = some (RX6, T, N) := ⟨_, _, rfl⟩
theorem kh_X7 : ∃ T N, vwCl[6]? = some (RX7, T, N) := ⟨_, _, rfl⟩
