/-! Calls: stable, need, sum, most. -/
def lossA (A : AB) (i : Nat) : Nat := leadA A i + leadA A (i + 1) + finA A i
/-- P of all of the m from i on -/
def allB (P : Nat → Bool) : Nat → Nat → Bool
  | 0, _ => true
  | m + 1, i => P i && allB P m (i + 1)
theorem allB_iff {P : Nat → Bool} : ∀ m i, allB P m i = true ↔ ∀ q, i ≤ q → q < i + m → P q = true
  | 0, i => by simp [allB]; omega
  | m + 1, i => by
    rw [allB, Bool.and_eq_true, allB_iff m (i + 1)]
    constructor
    · rintro ⟨h1, h2⟩ q hq1 hq2
      by_cases e : q = i
      · rw [e]; exact h1
      · exact h2 q (by omega) (by omega)
    · intro h
      exact ⟨h i (by omega) (by omega), fun q h1 h2 => h q (by omega) (by omega)⟩
def needA (A : AB) : Nat → Nat
  | 0 => 1
  | k + 1 => max (needA A k) ((lossA A k + holdsA A k - 1) / holdsA A k)
def sumA (A : AB) : Nat → Int
  | 0 => 0
  | k + 1 => sumA A k + holdsA A k * qS A 1 k
section PUB4
variable {S : SS} {A : AB} {b : Nat}
theorem x_loss {M : Int} (h : CB S b A) (hA : okA M A) {i : Nat} (hi : i < qN A) : TX0_loss b (nI i) S = some (nI (lossA A i)) := by
  have h8 := ok_n hA
  have f1 := x_lead h hA (j := i) (by omega) (by omega)
  have f2 := x_lead h hA (j := i + 1) (by omega) (by omega)
  rw [show ((i + 1 : Nat) : Int) - 1 = (i : Int) by omega, ← nI_z] at f2
  obtain ⟨-, -, -, -, -, -, e7, -⟩ := h.2.2.2.2.2.2.2.1 i hi
  unfold TX0_loss
  rw [show nI i - 1 = iI ((i : Int) - 1) by rw [nI_z, k1, iI_sub], f1, Option.bind_some, f2, Option.bind_some, aget_n (by omega) (by decide), Option.bind_some, e7, nI_add, nI_add]
  rfl
theorem m_tog {M : Int} (h : MC S A) (hA : okA M A) {i : Nat} (hi : i < qN A) : TX7_together (nI i) S = some (nI (lossA A i)) := by
  have h8 := ok_n hA
  have f1 := m_lead h hA (j := i) (by omega) (by omega)
  have f2 := m_lead h hA (j := i + 1) (by omega) (by omega)
  rw [show ((i + 1 : Nat) : Int) - 1 = (i : Int) by omega, ← nI_z] at f2
  unfold TX7_together
  rw [show nI i - 1 = iI ((i : Int) - 1) by rw [nI_z, k1, iI_sub], f1, Option.bind_some, f2, Option.bind_some, m_fin h hA hi, Option.bind_some, nI_add, nI_add]
  rfl
theorem loss_b {M : Int} (hA : okA M A) {i : Nat} (hi : i < qN A) : lossA A i ≤ 19 := by
  have := lead_b hA (j := i) (by omega) (by omega)
  have := lead_b hA (j := i + 1) (by omega) (by omega)
  have : finA A i ≤ 1 := fin_b _
  unfold lossA
  omega
def okB (A : AB) (i : Nat) : Bool := decide (lossA A i ≤ holdsA A i * qF A)
theorem hf_b {M : Int} (hA : okA M A) {i : Nat} (hi : i < qN A) : holdsA A i * qF A ≤ 160 := by
  have h1 := okA_holds hA hi
  have h2 := ok_f hA
  exact Nat.mul_le_mul h1.2.1 h2.2
theorem x_stabL (h : CB S 1 A) (hA : okA 1008000000000000 A) {N : Nat} (hN : N ≤ qN A) : ∀ (m i n : Nat), i + m = N → m + 1 ≤ n → TX6_stable_L52 S n (iI ((N : Int) - 1)) (nI i) = some (b2i (allB (okB A) m i = true)) := by
  have h8 := ok_n hA
  intro m
  induction m with
  | zero =>
    intro i n hi hn
    obtain ⟨n, rfl⟩ : ∃ q, n = q + 1 := ⟨n - 1, by omega⟩
    rw [TX6_stable_L52, if_pos (by rw [nI_z, iI_lt (by omega) (by omega)]; omega)]
    exact congrArg some (b2i_t rfl).symm
  | succ m ih =>
    intro i n hi hn
    obtain ⟨n, rfl⟩ : ∃ q, n = q + 1 := ⟨n - 1, by omega⟩
    have ih' := ih (i + 1) n (by omega) (by omega)
    have hl := loss_b hA (i := i) (by omega)
    have hh := hf_b hA (i := i) (by omega)
    obtain ⟨-, -, -, -, -, e6, -, -⟩ := (CB1 h).2.2.2.2.2.2.2.1 i (by omega)
    rw [TX6_stable_L52, if_neg (by rw [nI_z, iI_lt (by omega) (by omega)]; omega), x_loss h hA (by omega), Option.bind_some, aget_n (by omega) (by omega), Option.bind_some, e6, (CB1 h).2.2.2.1, pk_mul]
    have c : nI (lossA A i) ≤ nI (holdsA A i * qF A) ↔ lossA A i ≤ holdsA A i * qF A := nI_cmp (by omega) (by omega)
    rw [allB]
    by_cases e : lossA A i ≤ holdsA A i * qF A
    · rw [if_pos (c.mpr e), nI_1, ih']
      exact congrArg some (b2i_congr (by simp [okB, e]))
    · rw [if_neg (fun z => e (c.mp z)), b2i_f (by simp [okB, e])]
theorem m_stabL (h : MC S A) (hA : okA 1008000000000000 A) {z : Int} (hz : i31 z) : ∀ (m i n : Nat) (f : Bool), i + m = qN A → m + 1 ≤ n → TX7_stable_L20 S n (iI z) (b2i (f = true)) (nI i) = some (b2i ((f && allB (fun i => (decide (z ≠ -1) && decide (z ≠ i)) || okB A i) m i) = true)) := by
  have h8 := ok_n hA
  have z1 : iI z = -1 ↔ z = -1 := by rw [km1, iI_eq hz (by omega)]
  intro m
  induction m with
  | zero =>
    intro i n f hi hn
    obtain ⟨n, rfl⟩ : ∃ q, n = q + 1 := ⟨n - 1, by omega⟩
    rw [TX7_stable_L20, h.1, if_pos (by rw [nI_cmp (by omega) (by omega)]; omega), ite_b]
    cases f
    · rfl
    · rfl
  | succ m ih =>
    intro i n f hi hn
    obtain ⟨n, rfl⟩ : ∃ q, n = q + 1 := ⟨n - 1, by omega⟩
    have hl := loss_b hA (i := i) (by omega)
    have hh := hf_b hA (i := i) (by omega)
    have z2 : iI z = nI i ↔ z = i := by rw [nI_z, iI_eq hz (by omega)]
    rw [TX7_stable_L20, h.1, if_neg (by rw [nI_cmp (by omega) (by omega)]; omega), ite_b]
    have c : nI (holdsA A i * qF A) < nI (lossA A i) ↔ holdsA A i * qF A < lossA A i := nI_ltI (by omega) (by omega)
    have J : TX7_stable_J42 S (fun l1 l2 l3 => TX7_stable_L20 S n l1 l2 l3) (iI z) (nI i) = some (b2i ((okB A i && allB (fun i => (decide (z ≠ -1) && decide (z ≠ i)) || okB A i) m (i + 1)) = true)) := by
      unfold TX7_stable_J42
      rw [m_tog h hA (by omega), Option.bind_some, m_holds h hA (by omega), Option.bind_some, m_fine h, Option.bind_some, pk_mul, nI_1]
      by_cases e : holdsA A i * qF A < lossA A i
      · rw [if_pos (c.mpr e)]
        refine (ih (i + 1) n false (by omega) (by omega)).trans ?_
        exact congrArg some (b2i_congr (by simp [okB]; omega))
      · rw [if_neg (fun z => e (c.mp z))]
        refine (ih (i + 1) n true (by omega) (by omega)).trans ?_
        exact congrArg some (b2i_congr (by have : okB A i = true := by { simp [okB]; omega }; simp [this]))
    cases f with
    | false =>
      rw [if_neg (by decide), nI_1]
      refine (ih (i + 1) n false (by omega) (by omega)).trans ?_
      exact congrArg some (b2i_congr (by simp))
    | true =>
      rw [if_pos rfl, allB]
      by_cases e1 : z = -1
      · rw [if_pos (z1.mpr e1), J]
        exact congrArg some (b2i_congr (by simp [e1]))
      · rw [if_neg (fun q => e1 (z1.mp q))]
        by_cases e2 : z = i
        · rw [if_pos (z2.mpr e2), J]
          exact congrArg some (b2i_congr (by simp [e2]))
        · rw [if_neg (fun q => e2 (z2.mp q)), nI_1]
          refine (ih (i + 1) n true (by omega) (by omega)).trans ?_
          exact congrArg some (b2i_congr (by simp [e1, e2]))
variable {s : ST}
theorem a_stable (hs : okS s) (a1 : Int32) : ∃ v, PXo (TX6_stable a1) s v ∧ PMo (TX7_stable a1) s v := by
  obtain ⟨z, hz, rfl⟩ := i_cases a1
  have h8 := ok_n hs.1
  have hA := okS_8 hs
  by_cases f : iI z = -1
  · have d : z = -1 := by rw [km1, iI_eq hz (by omega)] at f; exact f
    refine ⟨b2i (allB (okB (tA s)) (qN (tA s)) 0 = true), fun S c => ?_, fun S c => ?_⟩
    · unfold TX6_stable TX6_stable_J19 TX6_stable_J29 TX6_stable_J48
      rw [if_pos f, if_pos f, if_pos f, (CB1 c.1).1, nI_z, k1, iI_sub]
      exact x_stabL c.1 hA (Nat.le_refl _) (qN (tA s)) 0 fu (by omega) (by rw [fu_eq]; omega)
    · unfold TX7_stable TX7_stable_J16
      rw [if_pos f]
      refine (m_stabL c.1.1 hA hz (qN (tA s)) 0 fu true (by omega) (by rw [fu_eq]; omega)).trans ?_
      exact congrArg some (b2i_congr (by rw [d]; simp))
  · have d : ¬ z = -1 := by rw [km1, iI_eq hz (by omega)] at f; exact f
    rcases emn (0 ≤ z ∧ z < qN (tA s)) with c1 | c1
    · refine ⟨-2, fun S c => ?_, fun S c => ?_⟩
      · unfold TX6_stable
        rw [if_neg f, x_has c.1 h8 hz, Option.bind_some, ite_b, if_neg c1]
      · unfold TX7_stable
        rw [if_neg f, m_isCell c.1.1 h8 hz, Option.bind_some, ite_b, if_neg c1]
    obtain ⟨i, rfl⟩ := i_nat c1.1
    refine ⟨b2i (okB (tA s) i = true), fun S c => ?_, fun S c => ?_⟩
    · unfold TX6_stable TX6_stable_J19 TX6_stable_J29 TX6_stable_J48
      rw [if_neg f, x_has c.1 h8 hz, Option.bind_some, ite_b, if_pos c1, if_neg f, if_neg f]
      have := x_stabL c.1 hA (N := i + 1) (by omega) 1 i fu (by omega) (by rw [fu_eq]; omega)
      rw [show ((i + 1 : Nat) : Int) - 1 = (i : Int) by omega] at this
      rw [← nI_z] at this ⊢
      refine this.trans (congrArg some (b2i_congr (by simp [allB])))
    · unfold TX7_stable TX7_stable_J16
      rw [if_neg f, m_isCell c.1.1 h8 hz, Option.bind_some, ite_b, if_pos c1]
      refine (m_stabL c.1.1 hA hz (qN (tA s)) 0 fu true (by omega) (by rw [fu_eq]; omega)).trans ?_
      refine congrArg some (b2i_congr ?_)
      rw [Bool.true_and, allB_iff]
      constructor
      · intro h
        have := h i (by omega) (by omega)
        simpa using this
      · intro h q _ hq
        by_cases e : q = i
        · rw [e]; simp [h]
        · have : (i : Int) ≠ q := by omega
          simp [d, this]
theorem l32 {z : Int} (h : i31 z) : (lI z).toInt32 = iI z := by
  apply Int32.toInt_inj.mp
  rw [iI_toInt h.1 h.2, Int64.toInt_toInt32, lI_toInt (by omega) (by omega)]
  exact Int.bmod_eq_of_le (by omega) (by omega)
theorem l32n {n : Nat} (h : n < 2147483648) : (lI (n : Int)).toInt32 = nI n := by rw [nI_z]; exact l32 (by omega)
theorem x_maxI (a b : Nat) (ha : a < 2147483648) (hb : b < 2147483648) : TJ9_max_7cf53 (nI a) (nI b) = some (nI (max a b)) := by
  unfold TJ9_max_7cf53
  by_cases h : a < b
  · rw [if_pos (nI_lt h hb), Nat.max_eq_right (by omega)]
  · rw [if_neg (nI_nlt (by omega) (by omega)), Nat.max_eq_left (by omega)]
theorem need_b (hA : okA 1008000000000000 A) : ∀ k, k ≤ qN A → needA A k ≤ 26
  | 0, _ => by unfold needA; omega
  | k + 1, h => by
    have := need_b hA k (by omega)
    have h1 := loss_b hA (i := k) (by omega)
    have h2 := okA_holds hA (i := k) (by omega)
    have : (lossA A k + holdsA A k - 1) / holdsA A k ≤ lossA A k + holdsA A k - 1 := Nat.div_le_self _ _
    unfold needA
    omega
theorem a_need (hs : okS s) : ∃ v, PXo TX6_need s v ∧ PMo TX7_need s v := by
  have h8 := ok_n hs.1
  have hA := okS_8 hs
  refine ⟨nI (needA (tA s) (qN (tA s))), fun S c => ?_, fun S c => ?_⟩
  · have L : ∀ (m i n : Nat), i + m = qN (tA s) → m + 1 ≤ n → TX6_need_L4 S n (nI (needA (tA s) i)) (nI i) = some (nI (needA (tA s) (qN (tA s)))) := by
      intro m
      induction m with
      | zero =>
        intro i n hi hn
        obtain ⟨n, rfl⟩ : ∃ q, n = q + 1 := ⟨n - 1, by omega⟩
        rw [TX6_need_L4, (CB1 c.1).1, if_pos (by rw [nI_cmp (by omega) (by omega)]; omega), show i = qN (tA s) by omega]
      | succ m ih =>
        intro i n hi hn
        obtain ⟨n, rfl⟩ : ∃ q, n = q + 1 := ⟨n - 1, by omega⟩
        have ih' := ih (i + 1) n (by omega) (by omega)
        have h1 := loss_b hA (i := i) (by omega)
        have h2 := okA_holds hA (i := i) (by omega)
        have h3 := need_b hA i (by omega)
        have h4 : (lossA (tA s) i + holdsA (tA s) i - 1) / holdsA (tA s) i ≤ lossA (tA s) i + holdsA (tA s) i - 1 := Nat.div_le_self _ _
        obtain ⟨-, -, -, -, -, e6, -, -⟩ := (CB1 c.1).2.2.2.2.2.2.2.1 i (by omega)
        rw [TX6_need_L4, (CB1 c.1).1, if_neg (by rw [nI_cmp (by omega) (by omega)]; omega), aget_n (by omega) (by omega), Option.bind_some, e6, x_loss c.1 hA (by omega), Option.bind_some, nI_add, show (1 : Int32) = nI 1 from rfl, pk_sub (by omega), nI_wideI (by omega), nI_wideI (by omega), x_quot (by omega) (by omega) (by omega), Option.bind_some, ← Int.ofNat_tdiv, l32n (by omega), x_maxI _ _ (by omega) (by omega), Option.bind_some, nI_add]
        exact ih'
    exact L (qN (tA s)) 0 fu (by omega) (by rw [fu_eq]; omega)
  · have L : ∀ (m i n : Nat), i + m = qN (tA s) → m + 1 ≤ n → TX7_need_L4 S n (nI (needA (tA s) i)) (nI i) = some (nI (needA (tA s) (qN (tA s)))) := by
      intro m
      induction m with
      | zero =>
        intro i n hi hn
        obtain ⟨n, rfl⟩ : ∃ q, n = q + 1 := ⟨n - 1, by omega⟩
        rw [TX7_need_L4, c.1.1.1, if_pos (by rw [nI_cmp (by omega) (by omega)]; omega), show i = qN (tA s) by omega]
      | succ m ih =>
        intro i n hi hn
        obtain ⟨n, rfl⟩ : ∃ q, n = q + 1 := ⟨n - 1, by omega⟩
        have ih' := ih (i + 1) n (by omega) (by omega)
        have h1 := loss_b hA (i := i) (by omega)
        have h2 := okA_holds hA (i := i) (by omega)
        have h3 := need_b hA i (by omega)
        have h4 : (lossA (tA s) i + holdsA (tA s) i - 1) / holdsA (tA s) i ≤ lossA (tA s) i + holdsA (tA s) i - 1 := Nat.div_le_self _ _
        have hd : o_idiv (nI (lossA (tA s) i + holdsA (tA s) i - 1)) (nI (holdsA (tA s) i)) = some (nI ((lossA (tA s) i + holdsA (tA s) i - 1) / holdsA (tA s) i)) := by
          unfold o_idiv
          rw [if_neg (nI_ne0 (by omega) (by omega)), pk_div (by omega) (by omega) (by omega)]
        rw [TX7_need_L4, c.1.1.1, if_neg (by rw [nI_cmp (by omega) (by omega)]; omega), m_tog c.1.1 hA (by omega), Option.bind_some, m_holds c.1.1 hA (by omega), Option.bind_some, Option.bind_some, nI_add, show (1 : Int32) = nI 1 from rfl, pk_sub (by omega), hd, Option.bind_some, x_maxI _ _ (by omega) (by omega), Option.bind_some, nI_add]
        exact ih'
    exact L (qN (tA s)) 0 fu (by omega) (by rw [fu_eq]; omega)
theorem sum_B (hA : okA 1008000000000000 A) : ∀ k, k ≤ qN A → -(8064000000000000 * (k : Int)) ≤ sumA A k ∧ sumA A k ≤ 8064000000000000 * (k : Int)
  | 0, _ => by simp [sumA]
  | k + 1, h => by
    have := sum_B hA k (by omega)
    have h2 := okA_holds hA (i := k) (by omega)
    have h3 := ok_c hA (i := k) (by omega)
    have h4 := nB (c := holdsA A k) (C := 8) (x := qS A 1 k) (X := 1008000000000000) (by omega) (by omega) (by omega)
    unfold sumA
    omega
theorem a_sum (hs : okS s) (a1 : Int32) : ∃ v, PXo (TX6_sum a1) s v ∧ PMo (TX7_sum a1) s v := by
  obtain ⟨z, hz, rfl⟩ := i_cases a1
  have h8 := ok_n hs.1
  have hA := okS_8 hs
  have hl := ok_l hs.1
  have hB := sum_B hA (qN (tA s)) (Nat.le_refl _)
  rcases emn (z = 0 ∨ z = 1) with c1 | c1
  · refine ⟨-9223372036854775808, fun S c => ?_, fun S c => ?_⟩
    · unfold TX6_sum
      rw [x_bit hz, Option.bind_some, ite_b, if_neg c1]
    · unfold TX7_sum
      rw [m_bit hz, Option.bind_some, ite_b, if_neg c1]
  refine ⟨partZ (sumA (tA s) (qN (tA s))) (qL (tA s)) z, fun S c => ?_, fun S c => ?_⟩
  · have L : ∀ (m i n : Nat), i + m = qN (tA s) → m + 1 ≤ n → TX6_sum_L16 S n (iI z) (lI (sumA (tA s) i)) (nI i) = some (partZ (sumA (tA s) (qN (tA s))) (qL (tA s)) z) := by
      intro m
      induction m with
      | zero =>
        intro i n hi hn
        obtain ⟨n, rfl⟩ : ∃ q, n = q + 1 := ⟨n - 1, by omega⟩
        rw [TX6_sum_L16, (CB1 c.1).1, if_pos (by rw [nI_cmp (by omega) (by omega)]; omega), show i = qN (tA s) by omega, (CB1 c.1).2.2.1, lI_n, x_part (by omega) (by omega) (by omega) hz, Option.bind_some]
      | succ m ih =>
        intro i n hi hn
        obtain ⟨n, rfl⟩ : ∃ q, n = q + 1 := ⟨n - 1, by omega⟩
        have ih' := ih (i + 1) n (by omega) (by omega)
        have h2 := okA_holds hA (i := i) (by omega)
        obtain ⟨-, -, -, -, -, e6, -, e8⟩ := (CB1 c.1).2.2.2.2.2.2.2.1 i (by omega)
        rw [TX6_sum_L16, (CB1 c.1).1, if_neg (by rw [nI_cmp (by omega) (by omega)]; omega), aget_n (by omega) (by omega), Option.bind_some, aget_n (by omega) (by omega), Option.bind_some, e6, e8, nI_wideI (by omega), lI_mul, lI_add, nI_1]
        exact ih'
    unfold TX6_sum
    rw [x_bit hz, Option.bind_some, ite_b, if_pos c1]
    exact L (qN (tA s)) 0 fu (by omega) (by rw [fu_eq]; omega)
  · have L : ∀ (m i n : Nat), i + m = qN (tA s) → m + 1 ≤ n → TX7_sum_L19 S n (iI z) (lI (sumA (tA s) i)) (nI i) = some (partZ (sumA (tA s) (qN (tA s))) (qL (tA s)) z) := by
      intro m
      induction m with
      | zero =>
        intro i n hi hn
        obtain ⟨n, rfl⟩ : ∃ q, n = q + 1 := ⟨n - 1, by omega⟩
        rw [TX7_sum_L19, c.1.1.1, if_pos (by rw [nI_cmp (by omega) (by omega)]; omega), show i = qN (tA s) by omega, c.1.2.1, lI_n, m_part (by omega) (by omega) (by omega) hz, Option.bind_some]
      | succ m ih =>
        intro i n hi hn
        obtain ⟨n, rfl⟩ : ∃ q, n = q + 1 := ⟨n - 1, by omega⟩
        have ih' := ih (i + 1) n (by omega) (by omega)
        have h2 := okA_holds hA (i := i) (by omega)
        rw [TX7_sum_L19, c.1.1.1, if_neg (by rw [nI_cmp (by omega) (by omega)]; omega), m_holds c.1.1 hA (by omega), Option.bind_some, aget_n (by omega) (by omega), Option.bind_some, c.1.2.2.2.1 i (by omega), nI_wideI (by omega), lI_mul, lI_add, nI_1]
        exact ih'
    unfold TX7_sum
    rw [m_bit hz, Option.bind_some, ite_b, if_pos c1]
    exact L (qN (tA s)) 0 fu (by omega) (by rw [fu_eq]; omega)
theorem a_most (hs : okS s) (a1 : Int32) : ∃ v, PXo (TX6_most a1) s v ∧ PMo (TX7_most a1) s v := by
  obtain ⟨z, hz, rfl⟩ := i_cases a1
  have h8 := ok_n hs.1
  have hA := okS_8 hs
  have hb : ∀ i, i < qN (tA s) → l63 (qS (tA s) 1 i) := fun i hi => by have := ok_c hA hi; omega
  rcases emn (z = 0 ∨ z = 1) with c1 | c1
  · refine ⟨-2, fun S c => ?_, fun S c => ?_⟩
    · unfold TX6_most
      rw [x_bit hz, Option.bind_some, ite_b, if_neg c1]
    · unfold TX7_most
      rw [m_bit hz, Option.bind_some, ite_b, if_neg c1]
  refine ⟨iI (grt (fun i => if iI z = 0 then qS (tA s) 1 i else - qS (tA s) 1 i) (qN (tA s))), fun S c => ?_, fun S c => ?_⟩
  · have hT : ∀ i, i < qN (tA s) → S.2.2.2 9 i = lI (qS (tA s) 1 i) := fun i hi => ((CB1 c.1).2.2.2.2.2.2.2.1 i hi).2.2.2.2.2.2.2
    unfold TX6_most
    rw [x_bit hz, Option.bind_some, ite_b, if_pos c1]
    by_cases f : iI z = 0
    · rw [if_pos f]
      unfold TX0_hottestCell
      simp only [if_pos f]
      rw [(CB1 c.1).1, x_grt h8 (by omega) hT hb]
      rfl
    · rw [if_neg f]
      unfold TX0_coldestCell
      simp only [if_neg f]
      have e := x_coldL (T := qS (tA s) 1) c.1.1 h8 hT hb (qN (tA s)) 0 fu (by omega) (by rw [fu_eq]; omega)
      rw [show (-1 : Int32) = iI (grt (fun i => - qS (tA s) 1 i) 0) from km1, show (0 : Int32) = nI 0 from rfl, e]
      rfl
  · unfold TX7_most
    rw [m_bit hz, Option.bind_some, ite_b, if_pos c1]
    have e := m_mostL (T := qS (tA s) 1) (l1 := iI z) c.1.1.1 h8 c.1.2.2.2.1 hb (qN (tA s)) 0 fu (by omega) (by rw [fu_eq]; omega)
    rw [show (-1 : Int32) = iI (grt (fun i => if iI z = 0 then qS (tA s) 1 i else - qS (tA s) 1 i) 0) from km1]
    exact e
end PUB4
