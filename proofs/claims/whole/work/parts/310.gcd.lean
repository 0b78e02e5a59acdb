/-! The greatest common divisor, as both reckon it. -/
theorem lN_0 : lN 0 = 0 := rfl
theorem lN_ne0 {y : Nat} (h0 : 0 < y) (h : y < 2 ^ 63) : ¬ lN y = 0 := fun e => by
  have := (pk_lEQ (a := y) (b := 0) h (by decide)).mp (e.trans rfl)
  omega
theorem lrem_n {x y : Nat} (hx : x < 2 ^ 63) (h0 : 0 < y) (hy : y < 2 ^ 63) : o_lrem (lN x) (lN y) = some (lN (x % y)) := by
  unfold o_lrem
  rw [if_neg (lN_ne0 h0 hy), pk_lRem hx h0 hy]
theorem gcd_next (x y : Nat) : Nat.gcd x y = Nat.gcd y (x % y) := by
  rw [Nat.gcd_comm, Nat.gcd_rec, Nat.gcd_comm]
theorem mod_half {y r : Nat} (h0 : 0 < r) (h : r < y) : y % r < (y + 1) / 2 := by
  have h1 : y % r < r := Nat.mod_lt _ h0
  have h2 : y % r + r ≤ y := by
    have h3 := Nat.div_add_mod y r
    have h4 : 1 ≤ y / r := (Nat.one_le_div_iff h0).mpr (by omega)
    have h5 : r * 1 ≤ r * (y / r) := Nat.mul_le_mul_left r h4
    omega
  omega
theorem m_gcdL : ∀ (k x y n : Nat), y < 2 ^ k → k ≤ 63 → x < 2 ^ 63 → 2 * k + 1 ≤ n → TX7_divisor_L12 n (lN x) (lN y) = some (lN (Nat.gcd x y)) := by
  intro k
  induction k with
  | zero =>
    intro x y n hy _ hx hn
    obtain ⟨n, rfl⟩ : ∃ m, n = m + 1 := ⟨n - 1, by omega⟩
    have : y = 0 := by simpa using hy
    subst this
    unfold TX7_divisor_L12
    rw [if_pos lN_0, Nat.gcd_zero_right]
  | succ k ih =>
    intro x y n hy hk hx hn
    obtain ⟨n, rfl⟩ : ∃ m, n = m + 1 + 1 := ⟨n - 2, by omega⟩
    have hy63 : y < 2 ^ 63 := Nat.lt_of_lt_of_le hy (Nat.pow_le_pow_right (by decide) hk)
    by_cases y0 : y = 0
    · subst y0
      unfold TX7_divisor_L12
      rw [if_pos lN_0, Nat.gcd_zero_right]
    · unfold TX7_divisor_L12
      rw [if_neg (lN_ne0 (by omega) hy63), lrem_n hx (by omega) hy63, Option.bind_some, gcd_next x y]
      have hr : x % y < y := Nat.mod_lt _ (by omega)
      by_cases r0 : x % y = 0
      · rw [r0]
        unfold TX7_divisor_L12
        rw [if_pos lN_0, Nat.gcd_zero_right]
      · unfold TX7_divisor_L12
        rw [if_neg (lN_ne0 (by omega) (by omega)), lrem_n hy63 (by omega) (by omega), Option.bind_some, gcd_next y (x % y)]
        have h1 := mod_half (y := y) (r := x % y) (by omega) hr
        have h2 : 2 ^ (k + 1) = 2 * 2 ^ k := by rw [Nat.pow_succ]; omega
        exact ih (x % y) (y % (x % y)) n (by omega) (by omega) (by omega) (by omega)
theorem x_gcdL : ∀ (k x y n r : Nat), y < 2 ^ k → k ≤ 63 → x < 2 ^ 63 → 2 * k + 1 ≤ n → r + 2 * k + 1 ≤ 1000 → TX6_commonDivisor_L15 n (lN x) (lN y) (nI r) = some (lN (Nat.gcd x y)) := by
  have big : ∀ r : Nat, r < 1000 → ¬ (1000 : Int32) ≤ nI r := fun r hr => nI_ge (b := 1000) hr (by decide)
  intro k
  induction k with
  | zero =>
    intro x y n r hy _ hx hn hr9
    obtain ⟨n, rfl⟩ : ∃ m, n = m + 1 := ⟨n - 1, by omega⟩
    have : y = 0 := by simpa using hy
    subst this
    unfold TX6_commonDivisor_L15
    rw [if_neg (big r (by omega)), if_pos lN_0, Nat.gcd_zero_right]
  | succ k ih =>
    intro x y n r hy hk hx hn hr9
    obtain ⟨n, rfl⟩ : ∃ m, n = m + 1 + 1 := ⟨n - 2, by omega⟩
    have hy63 : y < 2 ^ 63 := Nat.lt_of_lt_of_le hy (Nat.pow_le_pow_right (by decide) hk)
    by_cases y0 : y = 0
    · subst y0
      unfold TX6_commonDivisor_L15
      rw [if_neg (big r (by omega)), if_pos lN_0, Nat.gcd_zero_right]
    · unfold TX6_commonDivisor_L15
      rw [if_neg (big r (by omega)), if_neg (lN_ne0 (by omega) hy63), lrem_n hx (by omega) hy63, Option.bind_some, gcd_next x y, nI_1]
      have hr : x % y < y := Nat.mod_lt _ (by omega)
      by_cases r0 : x % y = 0
      · rw [r0]
        unfold TX6_commonDivisor_L15
        rw [if_neg (big (r + 1) (by omega)), if_pos lN_0, Nat.gcd_zero_right]
      · unfold TX6_commonDivisor_L15
        rw [if_neg (big (r + 1) (by omega)), if_neg (lN_ne0 (by omega) (by omega)), lrem_n hy63 (by omega) (by omega), Option.bind_some, gcd_next y (x % y), nI_1]
        have h1 := mod_half (y := y) (r := x % y) (by omega) hr
        have h2 : 2 ^ (k + 1) = 2 * 2 ^ k := by rw [Nat.pow_succ]; omega
        exact ih (x % y) (y % (x % y)) n (r + 1 + 1) (by omega) (by omega) (by omega) (by omega) (by omega)
/-- longs that have a code without the least one -/
abbrev l63 (z : Int) : Prop := -9223372036854775808 < z ∧ z < 9223372036854775808
theorem abs_l {z : Int} (h : l63 z) : TJ9_abs_067f4 (lI z) = some (lN z.natAbs) := by
  unfold TJ9_abs_067f4
  have h0 : (0 : Int64) = lI 0 := rfl
  by_cases hz : 0 ≤ z
  · rw [if_pos (by rw [h0]; exact (lI_le (by omega) (by omega)).mpr hz), lI_n]
    congr 2
    omega
  · rw [if_neg (by rw [h0]; exact fun q => hz ((lI_le (by omega) (by omega)).mp q)), lI_neg, lI_n]
    congr 2
    omega
theorem m_gcd {a b : Int} (ha : l63 a) (hb : l63 b) : TX7_divisor (lI a) (lI b) = some (lN (Int.gcd a b)) := by
  unfold TX7_divisor
  rw [abs_l ha, Option.bind_some, abs_l hb, Option.bind_some]
  exact m_gcdL 63 _ _ fu (by omega) (Nat.le_refl _) (by omega) (by decide)
theorem x_gcd {a b : Int} (ha : l63 a) (hb : l63 b) : TX6_commonDivisor (lI a) (lI b) = some (lN (Int.gcd a b)) := by
  unfold TX6_commonDivisor
  rw [abs_l ha, Option.bind_some, abs_l hb, Option.bind_some]
  exact x_gcdL 63 _ _ fu 0 (by omega) (Nat.le_refl _) (by omega) (by decide) (by decide)
/-- an exact quotient -/
theorem l_div {a b : Int} (ha : l63 a) (hb : l63 b) (h0 : b ≠ 0) : lI a / lI b = lI (a.tdiv b) := by
  apply Int64.toInt_inj.mp
  have h1 : (lI a).toInt = a := lI_toInt (by omega) (by omega)
  have h2 : (lI b).toInt = b := lI_toInt (by omega) (by omega)
  have h3 : (a.tdiv b).natAbs ≤ a.natAbs := by
    rw [Int.natAbs_tdiv]
    exact Nat.div_le_self _ _
  rw [lI_toInt (by omega) (by omega), Int64.toInt_div_of_ne_left]
  · rw [h1, h2]
  · intro e
    have := congrArg Int64.toInt e
    rw [h1] at this
    have h4 : Int64.minValue.toInt = -9223372036854775808 := by decide
    omega
theorem x_quot {a b : Int} (ha : l63 a) (hb : l63 b) (h0 : b ≠ 0) : TX6_quotient (lI a) (lI b) = some (lI (a.tdiv b)) := by
  unfold TX6_quotient
  have hz : ¬ lI b = 0 := fun e => h0 ((lI_eq (by omega) (by omega)).mp (e.trans (rfl : (0 : Int64) = lI 0)))
  first
    | rw [if_neg hz]
    | skip
  unfold o_ldiv
  rw [if_neg hz, l_div ha hb h0]
  rfl
theorem m_quot {a b : Int} (ha : l63 a) (hb : l63 b) (h0 : b ≠ 0) : o_ldiv (lI a) (lI b) = some (lI (a.tdiv b)) := by
  have hz : ¬ lI b = 0 := fun e => h0 ((lI_eq (by omega) (by omega)).mp (e.trans (rfl : (0 : Int64) = lI 0)))
  unfold o_ldiv
  rw [if_neg hz, l_div ha hb h0]
