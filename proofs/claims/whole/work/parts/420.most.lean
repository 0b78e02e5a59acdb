/-! The greatest and the least; stable, need, sum, most. -/
/-- the first of the greatest among the first k -/
def grt (T : Nat → Int) : Nat → Int
  | 0 => -1
  | k + 1 => if grt T k = -1 ∨ T (grt T k).toNat < T k then k else grt T k
def maxT (T : Nat → Int) : Nat → Int
  | 0 => T 0
  | k + 1 => max (maxT T k) (T k)
theorem grt_B (T : Nat → Int) : ∀ k, 1 ≤ k → 0 ≤ grt T k ∧ grt T k < k ∧ T (grt T k).toNat = maxT T k
  | 0, h => by omega
  | 1, _ => by
    have e : grt T 1 = 0 := by simp [grt]
    rw [e]
    refine ⟨by omega, by omega, ?_⟩
    show T 0 = max (T 0) (T 0)
    omega
  | k + 2, _ => by
    obtain ⟨h1, h2, h3⟩ := grt_B T (k + 1) (by omega)
    rw [grt, maxT]
    by_cases e : grt T (k + 1) = -1 ∨ T (grt T (k + 1)).toNat < T (k + 1)
    · rw [if_pos e]
      refine ⟨by omega, by omega, ?_⟩
      rw [← h3]
      rw [Int.toNat_natCast]
      omega
    · rw [if_neg e]
      refine ⟨h1, by omega, ?_⟩
      rw [← h3]
      omega
theorem grt_m1 (T : Nat → Int) (k : Nat) : grt T k = -1 ↔ k = 0 := by
  by_cases h : k = 0
  · subst h; simp [grt]
  · have := grt_B T k (by omega)
    omega
theorem maxT_neg_B {T : Nat → Int} {M : Int} : ∀ k, 1 ≤ k → (∀ i, i < k → -M ≤ T i ∧ T i ≤ M) → -M ≤ maxT T k ∧ maxT T k ≤ M := fun k hk h => by
  obtain ⟨h1, h2, h3⟩ := grt_B T k hk
  rw [← h3]
  exact h _ (by omega)
section GRT
variable {S : SS} {T : Nat → Int}
theorem grt_lo (T : Nat → Int) (k : Nat) : -1 ≤ grt T k ∧ grt T k < k := by
  by_cases h : k = 0
  · subst h; simp [grt]
  · have := grt_B T k (by omega)
    omega
theorem x_grtL {a n0 N : Nat} (hN : N ≤ n0) (hn0 : n0 < 1000) (hT : ∀ i, i < N → S.2.2.2 a i = lI (T i)) (hb : ∀ i, i < N → l63 (T i)) : ∀ (m i n : Nat), i + m = N → m + 1 ≤ n → TX6_firstGreatest_L4 S a n0 n (nI N) (iI (grt T i)) (nI i) = some (iI (grt T N)) := by
  intro m
  induction m with
  | zero =>
    intro i n hi hn
    obtain ⟨n, rfl⟩ : ∃ q, n = q + 1 := ⟨n - 1, by omega⟩
    rw [TX6_firstGreatest_L4, if_pos (by rw [nI_cmp (by omega) (by omega)]; omega), show i = N by omega]
  | succ m ih =>
    intro i n hi hn
    obtain ⟨n, rfl⟩ : ∃ q, n = q + 1 := ⟨n - 1, by omega⟩
    have ih' := ih (i + 1) n (by omega) (by omega)
    have hg := grt_lo T i
    rw [TX6_firstGreatest_L4, if_neg (by rw [nI_cmp (by omega) (by omega)]; omega)]
    have c1 : iI (grt T i) = -1 ↔ grt T i = -1 := by rw [km1, iI_eq (by omega) (by omega)]
    rw [grt] at ih'
    by_cases e : grt T i = -1
    · rw [if_pos (c1.mpr e), nI_1, nI_z i]
      rw [if_pos (Or.inl e)] at ih'
      exact ih'
    · rw [if_neg (fun z => e (c1.mp z)), nI_1]
      obtain ⟨j, hj⟩ := i_nat (z := grt T i) (by omega)
      rw [hj] at ih' ⊢
      rw [Int.toNat_natCast] at ih'
      rw [← nI_z, aget_n (by omega) (by omega), Option.bind_some, aget_n (by omega) (by omega), Option.bind_some, hT i (by omega), hT j (by omega)]
      have hbi := hb i (by omega)
      have hbj := hb j (by omega)
      have c2 : lI (T i) ≤ lI (T j) ↔ T i ≤ T j := lI_le (by omega) (by omega)
      by_cases e2 : T i ≤ T j
      · rw [if_pos (c2.mpr e2), nI_z j]
        rw [if_neg (by omega)] at ih'
        exact ih'
      · rw [if_neg (fun z => e2 (c2.mp z)), nI_z i]
        rw [if_pos (by omega)] at ih'
        exact ih'
theorem x_grt {a n0 N : Nat} (hN : N ≤ n0) (hn0 : n0 < 1000) (hT : ∀ i, i < N → S.2.2.2 a i = lI (T i)) (hb : ∀ i, i < N → l63 (T i)) : TX6_firstGreatest a n0 (nI N) S = some (iI (grt T N)) := by
  unfold TX6_firstGreatest
  exact x_grtL hN hn0 hT hb N 0 fu (by omega) (by rw [fu_eq]; omega)
theorem x_coldL {b N : Nat} (h0 : S.1 b 0 = nI N) (hN : N ≤ 8) (hT : ∀ i, i < N → S.2.2.2 (b + 8) i = lI (T i)) (hb : ∀ i, i < N → l63 (T i)) : ∀ (m i n : Nat), i + m = N → m + 1 ≤ n → TX0_coldestCell_L4 S b n (iI (grt (fun i => - T i) i)) (nI i) = some (iI (grt (fun i => - T i) N)) := by
  intro m
  induction m with
  | zero =>
    intro i n hi hn
    obtain ⟨n, rfl⟩ : ∃ q, n = q + 1 := ⟨n - 1, by omega⟩
    rw [TX0_coldestCell_L4, h0, if_pos (by rw [nI_cmp (by omega) (by omega)]; omega), show i = N by omega]
  | succ m ih =>
    intro i n hi hn
    obtain ⟨n, rfl⟩ : ∃ q, n = q + 1 := ⟨n - 1, by omega⟩
    have ih' := ih (i + 1) n (by omega) (by omega)
    have hg := grt_lo (fun i => - T i) i
    rw [TX0_coldestCell_L4, h0, if_neg (by rw [nI_cmp (by omega) (by omega)]; omega)]
    have c1 : iI (grt (fun i => - T i) i) = -1 ↔ grt (fun i => - T i) i = -1 := by rw [km1, iI_eq (by omega) (by omega)]
    rw [grt] at ih'
    by_cases e : grt (fun i => - T i) i = -1
    · rw [if_pos (c1.mpr e), nI_1, nI_z i]
      rw [if_pos (Or.inl e)] at ih'
      exact ih'
    · rw [if_neg (fun z => e (c1.mp z)), nI_1]
      obtain ⟨j, hj⟩ := i_nat (z := grt (fun i => - T i) i) (by omega)
      rw [hj] at ih' ⊢
      rw [Int.toNat_natCast] at ih'
      rw [← nI_z, aget_n (by omega) (by omega), Option.bind_some, aget_n (by omega) (by omega), Option.bind_some, hT i (by omega), hT j (by omega)]
      have hbi := hb i (by omega)
      have hbj := hb j (by omega)
      have c2 : lI (T j) ≤ lI (T i) ↔ T j ≤ T i := lI_le (by omega) (by omega)
      by_cases e2 : T j ≤ T i
      · rw [if_pos (c2.mpr e2), nI_z j]
        rw [if_neg (by omega)] at ih'
        exact ih'
      · rw [if_neg (fun z => e2 (c2.mp z)), nI_z i]
        rw [if_pos (by omega)] at ih'
        exact ih'
theorem m_mostL {N : Nat} {l1 : Int32} (h0 : S.1 64 0 = nI N) (hN : N ≤ 8) (hT : ∀ i, i < N → S.2.2.2 69 i = lI (T i)) (hb : ∀ i, i < N → l63 (T i)) : ∀ (m i n : Nat), i + m = N → m + 1 ≤ n → TX7_most_L17 S n l1 (iI (grt (fun i => if l1 = 0 then T i else - T i) i)) (nI i) = some (iI (grt (fun i => if l1 = 0 then T i else - T i) N)) := by
  intro m
  induction m with
  | zero =>
    intro i n hi hn
    obtain ⟨n, rfl⟩ : ∃ q, n = q + 1 := ⟨n - 1, by omega⟩
    rw [TX7_most_L17, h0, if_pos (by rw [nI_cmp (by omega) (by omega)]; omega), show i = N by omega]
  | succ m ih =>
    intro i n hi hn
    obtain ⟨n, rfl⟩ : ∃ q, n = q + 1 := ⟨n - 1, by omega⟩
    have ih' := ih (i + 1) n (by omega) (by omega)
    have hg := grt_lo (fun i => if l1 = 0 then T i else - T i) i
    rw [TX7_most_L17, h0, if_neg (by rw [nI_cmp (by omega) (by omega)]; omega)]
    have c1 : iI (grt (fun i => if l1 = 0 then T i else - T i) i) = -1 ↔ grt (fun i => if l1 = 0 then T i else - T i) i = -1 := by rw [km1, iI_eq (by omega) (by omega)]
    unfold TX7_most_J74
    rw [grt] at ih'
    by_cases e : grt (fun i => if l1 = 0 then T i else - T i) i = -1
    · rw [if_pos (c1.mpr e), if_neg (by decide), nI_1, nI_z i]
      rw [if_pos (Or.inl e)] at ih'
      exact ih'
    · rw [if_neg (fun z => e (c1.mp z))]
      obtain ⟨j, hj⟩ := i_nat (z := grt (fun i => if l1 = 0 then T i else - T i) i) (by omega)
      rw [hj] at ih' ⊢
      rw [Int.toNat_natCast] at ih'
      have h10 : ((1 : Int32) = 0) = False := eq_false (by decide)
      simp only [← nI_z (n := j)]
      simp (disch := omega) only [aget_n, Option.bind_some, nI_1, h10, eq_self, if_true, if_false]
      rw [hT i (by omega), hT j (by omega)]
      have hbi := hb i (by omega)
      have hbj := hb j (by omega)
      have c2 : lI (T i) ≤ lI (T j) ↔ T i ≤ T j := lI_le (by omega) (by omega)
      have c3 : lI (T j) ≤ lI (T i) ↔ T j ≤ T i := lI_le (by omega) (by omega)
      by_cases el : l1 = 0
      · rw [if_pos el]
        simp only [if_pos el] at ih' ⊢
        by_cases e2 : T i ≤ T j
        · rw [if_pos (c2.mpr e2), nI_z j]
          rw [if_neg (by omega)] at ih'
          exact ih'
        · rw [if_neg (fun z => e2 (c2.mp z)), nI_z i]
          rw [if_pos (by omega)] at ih'
          exact ih'
      · rw [if_neg el]
        simp only [if_neg el] at ih' ⊢
        by_cases e2 : T j ≤ T i
        · rw [if_pos (c3.mpr e2), nI_z j]
          rw [if_neg (by omega)] at ih'
          exact ih'
        · rw [if_neg (fun z => e2 (c3.mp z)), nI_z i]
          rw [if_pos (by omega)] at ih'
          exact ih'
/-- the greatest of the class's bar -/
theorem x_greatest {A : AB} {b : Nat} (h : CB S b A) (hA : okA 1008000000000000 A) (hn : 1 ≤ qN A) : TX0_greatest b S = some (lI (maxT (qS A 1) (qN A))) := by
  have h8 := ok_n hA
  have hT : ∀ i, i < qN A → S.2.2.2 (b + 8) i = lI (qS A 1 i) := fun i hi => (h.2.2.2.2.2.2.2.1 i hi).2.2.2.2.2.2.2
  have hb : ∀ i, i < qN A → l63 (qS A 1 i) := fun i hi => by have := ok_c hA hi; omega
  obtain ⟨g1, g2, g3⟩ := grt_B (qS A 1) (qN A) hn
  unfold TX0_greatest TX0_hottestCell
  rw [h.1, x_grt h8 (by omega) hT hb, Option.bind_some, Option.bind_some, if_neg (by rw [km1, iI_eq (by omega) (by omega)]; omega)]
  obtain ⟨j, hj⟩ := i_nat g1
  rw [hj] at g3 ⊢
  rw [← nI_z, aget_n (by omega) (by omega), Option.bind_some, hT j (by omega), ← g3, Int.toNat_natCast]
theorem x_least {A : AB} {b : Nat} (h : CB S b A) (hA : okA 1008000000000000 A) (hn : 1 ≤ qN A) : TX0_least b S = some (lI (- maxT (fun i => - qS A 1 i) (qN A))) := by
  have h8 := ok_n hA
  have hT : ∀ i, i < qN A → S.2.2.2 (b + 8) i = lI (qS A 1 i) := fun i hi => (h.2.2.2.2.2.2.2.1 i hi).2.2.2.2.2.2.2
  have hb : ∀ i, i < qN A → l63 (qS A 1 i) := fun i hi => by have := ok_c hA hi; omega
  obtain ⟨g1, g2, g3⟩ := grt_B (fun i => - qS A 1 i) (qN A) hn
  unfold TX0_least TX0_coldestCell
  have e := x_coldL h.1 h8 hT hb (qN A) 0 fu (by omega) (by rw [fu_eq]; omega)
  rw [show (-1 : Int32) = iI (grt (fun i => - qS A 1 i) 0) from km1, show (0 : Int32) = nI 0 from rfl, e, Option.bind_some, show iI (grt (fun i => - qS A 1 i) 0) = iI (-1) from rfl, if_neg (by rw [iI_eq (by omega) (by omega)]; omega)]
  obtain ⟨j, hj⟩ := i_nat g1
  rw [hj] at g3 ⊢
  rw [← nI_z, aget_n (by omega) (by omega), Option.bind_some, hT j (by omega), ← g3, Int.toNat_natCast, Int.neg_neg]
/-- the reference's -/
theorem m_greatest {A : AB} (h : MM S A) (hA : okA 1008000000000000 A) (hn : 1 ≤ qN A) : TX7_greatest S = some (lI (maxT (qS A 1) (qN A))) := by
  have h8 := ok_n hA
  have hT : ∀ i, i < qN A → S.2.2.2 75 i = lI (qS A 1 i) := h.2.2.2.1
  have hB : ∀ i, i < qN A → -1008000000000000 ≤ qS A 1 i ∧ qS A 1 i ≤ 1008000000000000 := fun i hi => by have := ok_c hA hi; omega
  have L : ∀ (m i n : Nat), 1 ≤ i → i + m = qN A → m + 1 ≤ n → TX7_greatest_L9 S n (lI (maxT (qS A 1) i)) (nI i) = some (lI (maxT (qS A 1) (qN A))) := by
    intro m
    induction m with
    | zero =>
      intro i n h1 hi hn
      obtain ⟨n, rfl⟩ : ∃ q, n = q + 1 := ⟨n - 1, by omega⟩
      rw [TX7_greatest_L9, h.1.1, if_pos (by rw [nI_cmp (by omega) (by omega)]; omega), show i = qN A by omega]
    | succ m ih =>
      intro i n h1 hi hn
      obtain ⟨n, rfl⟩ : ∃ q, n = q + 1 := ⟨n - 1, by omega⟩
      have ih' := ih (i + 1) n (by omega) (by omega) (by omega)
      have b1 := maxT_neg_B (T := qS A 1) (M := 1008000000000000) i h1 (fun q hq => hB q (by omega))
      have b2 := hB i (by omega)
      rw [TX7_greatest_L9, h.1.1, if_neg (by rw [nI_cmp (by omega) (by omega)]; omega), aget_n (by omega) (by omega), Option.bind_some, hT i (by omega)]
      unfold TJ9_max_f86c9
      have c : lI (maxT (qS A 1) i) < lI (qS A 1 i) ↔ maxT (qS A 1) i < qS A 1 i := lI_lt (by omega) (by omega)
      rw [maxT] at ih'
      by_cases e : maxT (qS A 1) i < qS A 1 i
      · rw [if_pos (c.mpr e), Option.bind_some, nI_1]
        rw [show max (maxT (qS A 1) i) (qS A 1 i) = qS A 1 i by omega] at ih'
        exact ih'
      · rw [if_neg (fun z => e (c.mp z)), Option.bind_some, nI_1]
        rw [show max (maxT (qS A 1) i) (qS A 1 i) = maxT (qS A 1) i by omega] at ih'
        exact ih'
  unfold TX7_greatest
  rw [show (0 : Int32) = nI 0 from rfl, aget_n (by omega) (by omega), Option.bind_some, hT 0 (by omega)]
  have := L (qN A - 1) 1 fu (by omega) (by omega) (by rw [fu_eq]; omega)
  rw [show maxT (qS A 1) 1 = qS A 1 0 by show max (qS A 1 0) (qS A 1 0) = _; omega] at this
  exact this
theorem m_least {A : AB} (h : MM S A) (hA : okA 1008000000000000 A) (hn : 1 ≤ qN A) : TX7_least S = some (lI (- maxT (fun i => - qS A 1 i) (qN A))) := by
  have h8 := ok_n hA
  have hT : ∀ i, i < qN A → S.2.2.2 75 i = lI (qS A 1 i) := h.2.2.2.1
  have hB : ∀ i, i < qN A → -1008000000000000 ≤ - qS A 1 i ∧ - qS A 1 i ≤ 1008000000000000 := fun i hi => by have := ok_c hA hi; omega
  have L : ∀ (m i n : Nat), 1 ≤ i → i + m = qN A → m + 1 ≤ n → TX7_least_L9 S n (lI (- maxT (fun i => - qS A 1 i) i)) (nI i) = some (lI (- maxT (fun i => - qS A 1 i) (qN A))) := by
    intro m
    induction m with
    | zero =>
      intro i n h1 hi hn
      obtain ⟨n, rfl⟩ : ∃ q, n = q + 1 := ⟨n - 1, by omega⟩
      rw [TX7_least_L9, h.1.1, if_pos (by rw [nI_cmp (by omega) (by omega)]; omega), show i = qN A by omega]
    | succ m ih =>
      intro i n h1 hi hn
      obtain ⟨n, rfl⟩ : ∃ q, n = q + 1 := ⟨n - 1, by omega⟩
      have ih' := ih (i + 1) n (by omega) (by omega) (by omega)
      have b1 := maxT_neg_B (T := fun i => - qS A 1 i) (M := 1008000000000000) i h1 (fun q hq => hB q (by omega))
      have b2 := hB i (by omega)
      rw [TX7_least_L9, h.1.1, if_neg (by rw [nI_cmp (by omega) (by omega)]; omega), aget_n (by omega) (by omega), Option.bind_some, hT i (by omega)]
      unfold TX7_lesser
      have c : lI (qS A 1 i) ≤ lI (- maxT (fun i => - qS A 1 i) i) ↔ qS A 1 i ≤ - maxT (fun i => - qS A 1 i) i := lI_le (by omega) (by omega)
      rw [maxT] at ih'
      by_cases e : qS A 1 i ≤ - maxT (fun i => - qS A 1 i) i
      · rw [if_pos (c.mpr e), Option.bind_some, nI_1]
        rw [show - max (maxT (fun i => - qS A 1 i) i) (- qS A 1 i) = qS A 1 i by omega] at ih'
        exact ih'
      · rw [if_neg (fun z => e (c.mp z)), Option.bind_some, nI_1]
        rw [show - max (maxT (fun i => - qS A 1 i) i) (- qS A 1 i) = - maxT (fun i => - qS A 1 i) i by omega] at ih'
        exact ih'
  unfold TX7_least
  rw [show (0 : Int32) = nI 0 from rfl, aget_n (by omega) (by omega), Option.bind_some, hT 0 (by omega)]
  have := L (qN A - 1) 1 fu (by omega) (by omega) (by rw [fu_eq]; omega)
  rw [show - maxT (fun i => - qS A 1 i) 1 = qS A 1 0 by show - max (- qS A 1 0) (- qS A 1 0) = _; omega] at this
  exact this
end GRT
