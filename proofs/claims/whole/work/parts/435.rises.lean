/-! Whole parts; which fraction is more; rises. -/
theorem xor_sign {a b : Int} (ha : i63 a) (hb : i63 b) (hb0 : 0 ≤ b) : 0 ≤ lI a ^^^ lI b ↔ 0 ≤ a := by
  rw [Int64.le_iff_toInt_le]
  have e0 : (0 : Int64).toInt = 0 := rfl
  rw [e0]
  have h1 : (lI a ^^^ lI b).toInt = ((lI a).toBitVec ^^^ (lI b).toBitVec).toInt := rfl
  have ha' : (lI a).toBitVec.toInt = a := lI_toInt ha.1 ha.2
  have hb' : (lI b).toBitVec.toInt = b := lI_toInt hb.1 hb.2
  have m1 := BitVec.msb_eq_toInt (x := (lI a).toBitVec)
  have m2 := BitVec.msb_eq_toInt (x := (lI b).toBitVec)
  have m3 := BitVec.msb_eq_toInt (x := (lI a).toBitVec ^^^ (lI b).toBitVec)
  rw [BitVec.msb_xor, m1, m2, ha', hb'] at m3
  rw [h1]
  by_cases h : 0 ≤ a
  · have : ¬ ((lI a).toBitVec ^^^ (lI b).toBitVec).toInt < 0 := by
      intro hn
      rw [show decide (((lI a).toBitVec ^^^ (lI b).toBitVec).toInt < 0) = true from decide_eq_true hn] at m3
      simp at m3
      omega
    constructor
    · intro _; exact h
    · intro _; omega
  · have : ((lI a).toBitVec ^^^ (lI b).toBitVec).toInt < 0 := by
      apply Decidable.byContradiction
      intro hn
      rw [show decide (((lI a).toBitVec ^^^ (lI b).toBitVec).toInt < 0) = false from decide_eq_false hn] at m3
      simp at m3
      omega
    constructor
    · intro hh; omega
    · intro hh; exact absurd hh h
theorem div_B {a b : Int} (hb : 0 < b) : (a / b).natAbs ≤ a.natAbs := by
  have h1 := Int.mul_ediv_add_emod a b
  have h2 := Int.emod_nonneg a (by omega : b ≠ 0)
  have h3 := Int.emod_lt_of_pos a hb
  by_cases h : 0 ≤ a
  · have h4 : 0 ≤ a / b := Int.ediv_nonneg h (by omega)
    have h5 : 1 * (a / b) ≤ b * (a / b) := Int.mul_le_mul_of_nonneg_right (by omega) h4
    omega
  · have h4 : a / b < 0 := Int.ediv_neg_of_neg_of_pos (by omega) hb
    have h6 : a / b ≥ a := by
      apply Int.le_ediv_of_mul_le hb
      have : (-a) * 1 ≤ (-a) * b := Int.mul_le_mul_of_nonneg_left (by omega) (by omega)
      rw [Int.mul_one, Int.neg_mul] at this
      omega
    omega
theorem fdiv_l {a b : Int} (ha : l63 a) (hb : 0 < b) (hb2 : b < 9223372036854775808) : TJ9_floorDiv_f86c9 (lI a) (lI b) = some (lI (a / b)) := by
  unfold TJ9_floorDiv_f86c9
  have hq : l63 (a.tdiv b) := by
    have h3 : (a.tdiv b).natAbs ≤ a.natAbs := by
      rw [Int.natAbs_tdiv]
      exact Nat.div_le_self _ _
    omega
  rw [m_quot ha (by omega) (by omega), Option.bind_some]
  have c1 := xor_sign (a := a) (b := b) (by omega) (by omega) (by omega)
  have e := Int.tdiv_eq_ediv (a := a) (b := b)
  by_cases h0 : 0 ≤ a
  · rw [if_pos (c1.mpr h0)]
    rw [if_pos (Or.inl h0)] at e
    congr 2
    omega
  · rw [if_neg (fun z => h0 (c1.mp z)), lI_mul]
    have c2 : lI (a.tdiv b * b) = lI a ↔ b ∣ a := by
      have hlt : (a.tdiv b * b).natAbs ≤ a.natAbs := by
        rw [Int.natAbs_mul, Int.natAbs_tdiv]
        exact Nat.div_mul_le_self _ _
      rw [lI_eq (by omega) (by omega)]
      constructor
      · intro hh; exact ⟨a.tdiv b, by rw [Int.mul_comm]; exact hh.symm⟩
      · intro hh; exact Int.tdiv_mul_cancel hh
    by_cases hd : b ∣ a
    · rw [if_pos (c2.mpr hd)]
      rw [if_pos (Or.inr hd)] at e
      congr 2
      omega
    · rw [if_neg (fun z => hd (c2.mp z)), show (1 : Int64) = lI 1 from rfl, lI_sub]
      rw [if_neg (by omega), Int.sign_eq_one_of_pos hb] at e
      congr 2
      omega
theorem x_whole {a b : Int} (ha : l63 a) (hb : 0 < b) (hb2 : b < 9223372036854775808) : TX6_wholePart (lI a) (lI b) = some (lI (a / b)) := by
  unfold TX6_wholePart
  rw [if_neg (by rw [show (0 : Int64) = lI 0 from rfl, lI_eq (by omega) (by omega)]; omega), fdiv_l ha hb hb2]
  rfl
theorem fdiv_l' {a b : Int} (ha : l63 a) (hb : 0 < b) (hb2 : b < 9223372036854775808) : J9_floorDiv_f86c9 (lI a) (lI b) = some (lI (a / b)) := fdiv_l ha hb hb2
theorem more_J {r : Int} (hr : l63 r) : X7_isMore_J70 (lI r) = some (b2i (0 < r)) := by
  unfold X7_isMore_J70
  have c : lI r ≤ 0 ↔ r ≤ 0 := by rw [show (0 : Int64) = lI 0 from rfl, lI_le (by omega) (by omega)]
  by_cases h : r ≤ 0
  · rw [if_pos (c.mpr h), b2i_f (by omega)]; rfl
  · rw [if_neg (fun z => h (c.mp z)), b2i_t (by omega)]; rfl
theorem more_lt {a b c d : Int} (hb : 0 < b) (hd : 0 < d) (h : c / d < a / b) : c * b < a * d := by
  have a1 := Int.mul_ediv_add_emod a b
  have a2 := Int.emod_nonneg a (by omega : b ≠ 0)
  have c1 := Int.mul_ediv_add_emod c d
  have c3 := Int.emod_lt_of_pos c hd
  have h1 : b * (a / b) ≤ a := by omega
  have h2 : c < d * (a / b) := by
    have : d * (c / d + 1) ≤ d * (a / b) := Int.mul_le_mul_of_nonneg_left (by omega) (by omega)
    rw [Int.mul_add, Int.mul_one] at this
    omega
  have h3 : b * (a / b) * d ≤ a * d := Int.mul_le_mul_of_nonneg_right h1 (by omega)
  have h4 : c * b < d * (a / b) * b := Int.mul_lt_mul_of_pos_right h2 hb
  have h5 : d * (a / b) * b = b * (a / b) * d := by
    rw [Int.mul_comm d, Int.mul_comm b, Int.mul_assoc, Int.mul_assoc, Int.mul_comm d b]
  omega
theorem more_eq {a b c d : Int} (h : a / b = c / d) : c * b < a * d ↔ (c % d) * b < (a % b) * d := by
  have a1 := Int.mul_ediv_add_emod a b
  have c1 := Int.mul_ediv_add_emod c d
  have e1 : c * b = d * (c / d) * b + (c % d) * b := by rw [← Int.add_mul, c1]
  have e2 : a * d = b * (a / b) * d + (a % b) * d := by rw [← Int.add_mul, a1]
  have h5 : d * (c / d) * b = b * (a / b) * d := by
    rw [h, Int.mul_comm d, Int.mul_comm b, Int.mul_assoc, Int.mul_assoc, Int.mul_comm d b]
  omega
theorem more_step {a b c d : Int} {n : Nat} (ha : l63 a) (hc : l63 c) (hb : 0 < b) (hb2 : b < 9223372036854775808) (hd : 0 < d) (hd2 : d < 9223372036854775808) :
    X7_isMore (n + 1) (lI a) (lI b) (lI c) (lI d) = if a / b = c / d ∧ a % b ≠ 0 ∧ c % d ≠ 0 then (X7_isMore n (lI d) (lI (c % d)) (lI b) (lI (a % b))).bind (fun v => (zb v).bind fun w => some w) else some (b2i (c * b < a * d)) := by
  have a1 := Int.mul_ediv_add_emod a b
  have a2 := Int.emod_nonneg a (by omega : b ≠ 0)
  have a3 := Int.emod_lt_of_pos a hb
  have c1 := Int.mul_ediv_add_emod c d
  have c2 := Int.emod_nonneg c (by omega : d ≠ 0)
  have c3 := Int.emod_lt_of_pos c hd
  have q1 := div_B (a := a) hb
  have q2 := div_B (a := c) hd
  have e1 : a - a / b * b = a % b := by rw [Int.mul_comm]; omega
  have e2 : c - c / d * d = c % d := by rw [Int.mul_comm]; omega
  rw [X7_isMore, fdiv_l' ha hb hb2, Option.bind_some, fdiv_l' hc hd hd2, Option.bind_some, lI_mul, lI_mul, lI_sub, lI_sub, e1, e2]
  have k1 : lI (a / b) = lI (c / d) ↔ a / b = c / d := lI_eq (by omega) (by omega)
  have k2 : lI (a % b) = 0 ↔ a % b = 0 := by rw [show (0 : Int64) = lI 0 from rfl, lI_eq (by omega) (by omega)]
  have k3 : lI (c % d) = 0 ↔ c % d = 0 := by rw [show (0 : Int64) = lI 0 from rfl, lI_eq (by omega) (by omega)]
  have k4 : lI (a / b) ≤ lI (c / d) ↔ a / b ≤ c / d := lI_le (by omega) (by omega)
  by_cases h1 : a / b = c / d
  · rw [if_pos (k1.mpr h1), more_J (by omega)]
    have me := more_eq h1
    by_cases h2 : a % b = 0
    · rw [if_pos (k2.mpr h2), if_neg (fun z => z.2.1 h2)]
      refine congrArg some (b2i_congr ?_)
      rw [me, h2, Int.zero_mul]
      have : 0 ≤ c % d * b := Int.mul_nonneg c2 (by omega)
      omega
    · rw [if_neg (fun z => h2 (k2.mp z))]
      by_cases h3 : c % d = 0
      · rw [if_pos (k3.mpr h3), if_neg (fun z => z.2.2 h3)]
        refine congrArg some (b2i_congr ?_)
        rw [me, h3, Int.zero_mul]
        have : 0 < a % b * d := Int.mul_pos (by omega) hd
        omega
      · rw [if_neg (fun z => h3 (k3.mp z)), if_pos ⟨h1, h2, h3⟩]
  · have hno : ¬ (a / b = c / d ∧ a % b ≠ 0 ∧ c % d ≠ 0) := fun z => h1 z.1
    rw [if_neg (fun z => h1 (k1.mp z)), if_neg hno]
    by_cases h2 : a / b ≤ c / d
    · rw [if_pos (k4.mpr h2), b2i_f]
      · rfl
      · have := more_lt (a := c) (b := d) (c := a) (d := b) hd hb (by omega)
        omega
    · rw [if_neg (fun z => h2 (k4.mp z)), b2i_t (more_lt hb hd (by omega))]
      rfl
theorem more : ∀ (k n : Nat) (a b c d : Int), l63 a → l63 c → 0 < b → b < (2 : Int) ^ k → k ≤ 62 → 0 < d → d < 9223372036854775808 → 2 * k + 1 ≤ n → X7_isMore n (lI a) (lI b) (lI c) (lI d) = some (b2i (c * b < a * d)) := by
  intro k
  induction k with
  | zero => intro n a b c d ha hc hb hbk; exact absurd hbk (by omega)
  | succ k ih =>
    intro n a b c d ha hc hb hbk hk hd hd2 hn
    obtain ⟨n, rfl⟩ : ∃ m, n = m + 1 + 1 := ⟨n - 2, by omega⟩
    have hp : (2 : Int) ^ (k + 1) ≤ 2 ^ 62 := by
      have : (2 : Nat) ^ (k + 1) ≤ 2 ^ 62 := Nat.pow_le_pow_right (by decide) hk
      exact_mod_cast this
    have hb2 : b < 9223372036854775808 := by omega
    have a2 := Int.emod_nonneg a (by omega : b ≠ 0)
    have a3 := Int.emod_lt_of_pos a hb
    have c2 := Int.emod_nonneg c (by omega : d ≠ 0)
    have c3 := Int.emod_lt_of_pos c hd
    rw [more_step ha hc hb hb2 hd hd2]
    by_cases h : a / b = c / d ∧ a % b ≠ 0 ∧ c % d ≠ 0
    · rw [if_pos h]
      obtain ⟨h1, h2, h3⟩ := h
      have me := more_eq h1
      have goal : X7_isMore (n + 1) (lI d) (lI (c % d)) (lI b) (lI (a % b)) = some (b2i (b * (c % d) < d * (a % b))) := by
        rw [more_step (by omega) (by omega) (by omega) (by omega) (by omega) (by omega)]
        by_cases h' : d / (c % d) = b / (a % b) ∧ d % (c % d) ≠ 0 ∧ b % (a % b) ≠ 0
        · rw [if_pos h']
          have m1 := more_eq h'.1
          have x2 := Int.emod_nonneg b (by omega : a % b ≠ 0)
          have x3 := Int.emod_lt_of_pos b (by omega : 0 < a % b)
          have y2 := Int.emod_nonneg d (by omega : c % d ≠ 0)
          have y3 := Int.emod_lt_of_pos d (by omega : 0 < c % d)
          have hhalf : b % (a % b) < (b + 1) / 2 := by
            have g1 := Int.mul_ediv_add_emod b (a % b)
            have g2 : 1 ≤ b / (a % b) := Int.le_ediv_of_mul_le (by omega) (by omega)
            have g3 : (a % b) * 1 ≤ (a % b) * (b / (a % b)) := Int.mul_le_mul_of_nonneg_left g2 (by omega)
            omega
          have hpow : (2 : Int) ^ (k + 1) = 2 * 2 ^ k := by rw [Int.pow_succ]; omega
          have r := ih n (a % b) (b % (a % b)) (c % d) (d % (c % d)) (by omega) (by omega) (by omega) (by omega) (by omega) (by omega) (by omega) (by omega)
          rw [r, Option.bind_some, zbb]
          refine congrArg some (b2i_congr ?_)
          rw [m1]
          rw [Int.mul_comm (c % d), Int.mul_comm (a % b)]
        · rw [if_neg h']
      rw [goal, Option.bind_some, zbb]
      refine congrArg some (b2i_congr ?_)
      rw [me, Int.mul_comm b, Int.mul_comm d]
    · rw [if_neg h]
section RISES
variable {S : SS} {A : AB} {b : Nat}
theorem step_g (hA : okA 1008000000000000 A) : (gcdN (nextA A) (lineA A) (qN A) : Int) * qL (stepA A) = qL A * (24 * qF A) ∧ 0 < gcdN (nextA A) (lineA A) (qN A) ∧ 0 < qL (stepA A) ∧ lineA A / qL (stepA A) = gcdN (nextA A) (lineA A) (qN A) := by
  have hl := line_B hA
  have g0 := gcdN_pos (T := nextA A) hl.1 (qN A)
  have gd := gcdN_dvd (T := nextA A) (l := lineA A) (qN A)
  have e : gcdN (nextA A) (lineA A) (qN A) * qL (stepA A) = lineA A := Nat.mul_div_cancel' gd
  have e1 : qL (stepA A) = lineA A / gcdN (nextA A) (lineA A) (qN A) := rfl
  have h2 : 0 < qL (stepA A) := redL_pos hl.1
  refine ⟨?_, g0, h2, ?_⟩
  · have := congrArg (fun n : Nat => (n : Int)) e
    simp only [Int.natCast_mul] at this
    rw [this]
    unfold lineA
    rw [Int.natCast_mul, Int.natCast_mul]
    rfl
  · exact Nat.div_eq_of_eq_mul_left h2 e.symm
def riseA (A : AB) : Prop := maxT (qS A 1) (qN A) * qL (stepA A) < maxT (qS (stepA A) 1) (qN A) * qL A
theorem rise_iff {x y g L' L f : Int} (hg : g * L' = L * f) (hf : 0 < f) (hL : 0 < L') : y * f < x * g ↔ y * L' < x * L := by
  have k1 : y * f * L' < x * g * L' ↔ y * f < x * g := Int.mul_lt_mul_right hL
  have k2 : y * L' * f < x * L * f ↔ y * L' < x * L := Int.mul_lt_mul_right hf
  have e1 : x * g * L' = x * L * f := by rw [Int.mul_assoc, hg, Int.mul_assoc]
  have e2 : y * f * L' = y * L' * f := by rw [Int.mul_assoc, Int.mul_comm f, Int.mul_assoc]
  rw [← k1, ← k2, e1, e2]
theorem x_risen (h : CB S b (stepA A)) (hA : okA 1008000000000000 A) (e : stepC A = -2) (hn : 1 ≤ qN A) : TX0_isRisenFrom b (lI (maxT (qS A 1) (qN A))) (lN (qL A)) S = some (if maxT (qS A 1) (qN A) * qL (stepA A) < maxT (qS (stepA A) 1) (qN A) * qL A then 1 else 0) := by
  obtain ⟨s1, s2, s3, s4⟩ := step_g hA
  have hok := ok_step hA (by omega) (by omega) e
  have hf := ok_f hA
  have hl := line_B hA
  have hl' := ok_l hok
  have b1 := maxT_neg_B (T := qS A 1) (M := 1008000000000000) (qN A) hn (fun i hi => by have := ok_c hA hi; omega)
  obtain ⟨t1, t2, t3⟩ := grt_B (qS (stepA A) 1) (qN A) hn
  obtain ⟨j, hj⟩ := i_nat t1
  rw [hj, Int.toNat_natCast] at t3
  have hnx := next_B hA (i := j) (by omega)
  have hgl := gcdN_le (T := nextA A) hl.1 (qN A)
  have ex : qS (stepA A) 1 j * gcdN (nextA A) (lineA A) (qN A) = nextA A j := Int.tdiv_mul_cancel (gcdN_T (by omega))
  rw [t3] at ex
  have e2 := mM (m := 24 * qF A) (x := maxT (qS A 1) (qN A)) (X := 1008000000000000) (Y := 480) (by omega) (by omega) (by omega)
  have e24 : ((24 * qF A : Nat) : Int) = 24 * (qF A : Int) := by omega
  unfold TX0_isRisenFrom
  have hg := x_greatest h hok hn
  rw [hg, Option.bind_some, h.2.2.2.1, h.2.2.1, show (24 : Int32) = nI 24 from rfl, pk_mul, nI_wideI (by show 24 * qF A < _; omega), lI_n (qL A), lI_mul, lI_n (qL (stepA A))]
  have eL : ((qL A : Int) * ((24 * qF (stepA A) : Nat) : Int)) = ((lineA A : Nat) : Int) := by
    unfold lineA
    rw [Int.natCast_mul]
    rfl
  rw [eL, x_quot (by omega) (by omega) (by omega), Option.bind_some, ← Int.ofNat_tdiv, s4, lI_mul, lI_mul]
  have hm : maxT (qS (stepA A) 1) (qN (stepA A)) = maxT (qS (stepA A) 1) (qN A) := rfl
  rw [hm, ex]
  have c : lI (nextA A j) ≤ lI (maxT (qS A 1) (qN A) * ((24 * qF (stepA A) : Nat) : Int)) ↔ nextA A j ≤ maxT (qS A 1) (qN A) * ((24 * qF A : Nat) : Int) := lI_le (by omega) (by show i63 (maxT (qS A 1) (qN A) * ((24 * qF A : Nat) : Int)); omega)
  have r := rise_iff (x := maxT (qS (stepA A) 1) (qN A)) (y := maxT (qS A 1) (qN A)) (g := (gcdN (nextA A) (lineA A) (qN A) : Int)) (L' := qL (stepA A)) (L := qL A) (f := 24 * qF A) s1 (by omega) (by omega)
  rw [ex, ← e24] at r
  by_cases h1 : nextA A j ≤ maxT (qS A 1) (qN A) * ((24 * qF A : Nat) : Int)
  · rw [if_pos (c.mpr h1), if_neg (fun z => by have := r.mpr z; omega)]
    rfl
  · rw [if_neg (fun z => h1 (c.mp z)), if_pos (r.mp (by omega))]
    rfl
/-- the first step by which the greatest rises -/
def rsA : Nat → Nat → AB → Int
  | 0, _, _ => -1
  | m + 1, d, A => if stepC A = -2 then (if maxT (qS A 1) (qN A) * qL (stepA A) < maxT (qS (stepA A) 1) (qN A) * qL A then d else rsA m (d + 1) (stepA A)) else -1
theorem x_rsL {N : Nat} (hN : N < 1000) : ∀ (m d n : Nat) (A : AB) (S : SS), d + m = N + 1 → m + 1 ≤ n → CB S 16 A → okA 1008000000000000 A → 1 ≤ qN A →
    WP (TX6_rises_L39 n (nI N) (nI d) S) (fun r => r.1 = iI (rsA m d A) ∧ FR (pB 16) S r.2) := by
  intro m
  induction m with
  | zero =>
    intro d n A S hd hn h hA h1
    obtain ⟨n, rfl⟩ : ∃ q, n = q + 1 := ⟨n - 1, by omega⟩
    rw [TX6_rises_L39, if_pos (by rw [nI_ltI (by omega) (by omega)]; omega)]
    exact wp_some ⟨km1, FR_refl⟩
  | succ m ih =>
    intro d n A S hd hn h hA h1
    obtain ⟨n, rfl⟩ : ∃ q, n = q + 1 := ⟨n - 1, by omega⟩
    rw [TX6_rises_L39, if_neg (by rw [nI_ltI (by omega) (by omega)]; omega), x_greatest h hA h1, Option.bind_some]
    refine wp_bind (x_adv h hA) fun r hr => ?_
    obtain ⟨r1, r2, r3⟩ := hr
    have hB := stepC_B A
    have h8 := ok_n hA
    have c : r.1 = -2 ↔ stepC A = -2 := by rw [r1, m2, iI_eq (by omega) (by omega)]
    unfold rsA
    by_cases e : stepC A = -2
    · rw [if_pos (c.mpr e), if_pos e, h.2.2.1]
      rw [if_pos e] at r3
      rw [x_risen r3 hA e h1, Option.bind_some]
      by_cases e2 : maxT (qS A 1) (qN A) * qL (stepA A) < maxT (qS (stepA A) 1) (qN A) * qL A
      · rw [if_pos e2, if_pos e2, if_neg (by decide)]
        exact wp_some ⟨nI_z d, r2⟩
      · rw [if_neg e2, if_neg e2, if_pos rfl, nI_1]
        refine wp_mono (ih (d + 1) n (stepA A) r.2 (by omega) (by omega) r3 (ok_step hA (by omega) (by omega) e) h1) fun q hq => ⟨hq.1, FR_trans r2 hq.2⟩
    · rw [if_neg (fun z => e (c.mp z)), if_neg e]
      exact wp_some ⟨km1, r2⟩
theorem m_rsL {N : Nat} (hN : N < 1000) : ∀ (m d n : Nat) (A : AB) (S : SS), d + m = N + 1 → m + 1 ≤ n → MM S A → okA 1008000000000000 A → 1 ≤ qN A →
    WP (TX7_rises_L31 n (nI N) (nI d) S) (fun r => r.1 = iI (rsA m d A) ∧ FR pMi S r.2) := by
  intro m
  induction m with
  | zero =>
    intro d n A S hd hn h hA h1
    obtain ⟨n, rfl⟩ : ∃ q, n = q + 1 := ⟨n - 1, by omega⟩
    rw [TX7_rises_L31, if_pos (by rw [nI_ltI (by omega) (by omega)]; omega)]
    exact wp_some ⟨km1, FR_refl⟩
  | succ m ih =>
    intro d n A S hd hn h hA h1
    obtain ⟨n, rfl⟩ : ∃ q, n = q + 1 := ⟨n - 1, by omega⟩
    rw [TX7_rises_L31, if_neg (by rw [nI_ltI (by omega) (by omega)]; omega), m_greatest h hA h1, Option.bind_some]
    refine wp_bind (m_goes h hA) fun r hr => ?_
    obtain ⟨r1, r2, -, r3⟩ := hr
    unfold rsA
    by_cases e : stepC A = -2
    · rw [if_neg (fun z => (b2i_z r1).mp z e), if_pos e, h.2.1]
      rw [if_pos e] at r3
      have hok := ok_step hA (by omega) (by omega) e
      have l1 := ok_l hA
      have l2 := ok_l hok
      have b1 := maxT_neg_B (T := qS A 1) (M := 1008000000000000) (qN A) h1 (fun i hi => by have := ok_c hA hi; omega)
      have b2 := maxT_neg_B (T := qS (stepA A) 1) (M := 1008000000000000) (qN A) h1 (fun i hi => by have := ok_c hok hi; omega)
      have hg := m_greatest r3 hok h1
      rw [hg, Option.bind_some, r3.2.1, lI_n, lI_n]
      have hm : maxT (qS (stepA A) 1) (qN (stepA A)) = maxT (qS (stepA A) 1) (qN A) := rfl
      rw [hm, more 40 200 _ _ _ _ (by omega) (by omega) (by omega) (by have : (2 : Int) ^ 40 = 1099511627776 := by { decide }; omega) (by omega) (by omega) (by omega) (by omega), Option.bind_some, ite_b]
      by_cases e2 : maxT (qS A 1) (qN A) * qL (stepA A) < maxT (qS (stepA A) 1) (qN A) * qL A
      · rw [if_pos e2, if_pos e2]
        exact wp_some ⟨nI_z d, r2⟩
      · rw [if_neg e2, if_neg e2, nI_1]
        refine wp_mono (ih (d + 1) n (stepA A) r.2 (by omega) (by omega) r3 hok h1) fun q hq => ⟨hq.1, FR_trans r2 hq.2⟩
    · rw [if_pos ((b2i_z r1).mpr e), if_neg e]
      exact wp_some ⟨km1, r2⟩
variable {s : ST}
theorem a_rises (hs : okS s) (a1 : Int32) : ∃ v, OX (TX6_rises a1) s v s ∧ OM (TX7_rises a1) s v s := by
  obtain ⟨z, hz, rfl⟩ := i_cases a1
  have h8 := ok_n hs.1
  have h12 := ok_p hs.1
  have hA := okS_8 hs
  have xb := x_rngN (z := z) (a' := 1) (b' := 40) (by decide : (1 : Int32) = iI 1) (by decide : (40 : Int32) = iI 40) (by omega) (by omega) hz
  rcases emn (1 ≤ z ∧ z ≤ 40) with c1 | c1
  · refine ⟨-2, OX_no fun S c => ?_, OM_no fun S c => ?_⟩
    · unfold TX6_rises
      rw [xb, Option.bind_some, ite_b, if_neg c1]
    · unfold TX7_rises
      rw [m_in140 hz, Option.bind_some, ite_b, if_neg c1]
  by_cases e : qN (tA s) = 0
  · refine ⟨-3, OX_no fun S c => ?_, OM_no fun S c => ?_⟩
    · unfold TX6_rises
      rw [xb, Option.bind_some, ite_b, if_pos c1, (CB1 c.1).1, if_pos (by rw [e]; rfl)]
    · unfold TX7_rises
      rw [m_in140 hz, Option.bind_some, ite_b, if_pos c1, c.1.1.1, if_pos (by rw [e]; rfl)]
  obtain ⟨N, rfl⟩ := i_nat (z := z) (by omega)
  refine ⟨iI (rsA N 1 (tA s)), fun S cx => ?_, fun S cm => ?_⟩
  · unfold TX6_rises
    rw [xb, Option.bind_some, ite_b, if_pos c1, (CB1 cx.1).1, if_neg (nI_ne0 (by omega) (by omega)), ← nI_z]
    refine wp_bind (x_become cx.1 h8 h12 (by omega)) fun r hr => ?_
    refine wp_mono (x_rsL (by omega) N 1 fu (tA s) r (by omega) (by rw [fu_eq]; omega) hr.2 hA (by omega)) fun q hq => ⟨hq.1, OX_th cx (FR_trans hr.1 hq.2)⟩
  · unfold TX7_rises
    rw [m_in140 hz, Option.bind_some, ite_b, if_pos c1, cm.1.1.1, if_neg (nI_ne0 (by omega) (by omega)), ← nI_z]
    refine wp_bind (m_think cm.1 h8 h12) fun r hr => ?_
    refine wp_mono (m_rsL (by omega) N 1 fu (tA s) r (by omega) (by rw [fu_eq]; omega) hr.2 hA (by omega)) fun q hq => ⟨hq.1, OM_th cm (FR_trans hr.1 hq.2)⟩
end RISES
