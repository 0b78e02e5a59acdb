/-! Joints: what they lead, what flows. -/
theorem k0 : (0 : Int32) = iI 0 := by decide
theorem k1 : (1 : Int32) = iI 1 := by decide
theorem km1 : (-1 : Int32) = iI (-1) := by decide
/-- joint j: between the cells j - 1 and j; 0 the left end, n the right one -/
def leadA (A : AB) (j : Nat) : Nat := if j = 0 then (if qE0 A = -1 then 0 else sideA A 0) else if j = qN A then (if qE1 A = -1 then 0 else sideA A (j - 1)) else min (sideA A (j - 1)) (sideA A j)
section LEAD
variable {S : SS} {A : AB} {M : Int} {b : Nat}
theorem okA_side (hA : okA M A) {i : Nat} (hi : i < qN A) : 1 ≤ sideA A i ∧ sideA A i ≤ 9 := by
  obtain ⟨k1, k2, k3, -⟩ := hA.2.2.2.2.2.2.2.2.2.2.2.1 i hi
  exact side_b _ (by omega) _ (by omega) (by omega)
theorem okA_holds (hA : okA M A) {i : Nat} (hi : i < qN A) : 1 ≤ holdsA A i ∧ holdsA A i ≤ 8 ∧ 24 % holdsA A i = 0 := by
  obtain ⟨k1, -, -, k4, k5, -⟩ := hA.2.2.2.2.2.2.2.2.2.2.2.1 i hi
  exact holds_b _ (by omega) _ (by omega) (by omega)
theorem lead_b (hA : okA M A) {j : Nat} (hj : j ≤ qN A) (hn : 1 ≤ qN A) : leadA A j ≤ 9 := by
  unfold leadA
  by_cases h0 : j = 0
  · rw [if_pos h0]
    split
    · omega
    · exact (okA_side hA (by omega)).2
  · rw [if_neg h0]
    by_cases h1 : j = qN A
    · rw [if_pos h1]
      split
      · omega
      · exact (okA_side hA (by omega)).2
    · rw [if_neg h1]
      have := (okA_side hA (i := j) (by omega)).2
      omega
theorem x_hasJoint (h : CB S b A) (hA : okA M A) {z : Int} (hz : i31 z) : TX0_hasJoint b (iI z) S = some (b2i (1 ≤ qN A ∧ -1 ≤ z ∧ z < qN A)) := by
  have h8 := hA.1
  unfold TX0_hasJoint
  rw [h.1]
  have c1 : nI (qN A) ≤ 0 ↔ qN A = 0 := by rw [nI_z, k0, iI_le (by omega) (by omega)]; omega
  have c2 : iI z < (-1) ↔ z < -1 := by rw [km1, iI_lt hz (by omega)]
  have c3 : nI (qN A) ≤ iI z ↔ (qN A : Int) ≤ z := by rw [nI_z, iI_le (by omega) hz]
  by_cases a1 : nI (qN A) ≤ 0
  · rw [if_pos a1, b2i_f (by rw [c1] at a1; omega)]; rfl
  · rw [if_neg a1]
    rw [c1] at a1
    by_cases a2 : iI z < (-1)
    · rw [if_pos a2, b2i_f (by rw [c2] at a2; omega)]; rfl
    · rw [if_neg a2]
      rw [c2] at a2
      by_cases a3 : nI (qN A) ≤ iI z
      · rw [if_pos a3, b2i_f (by rw [c3] at a3; omega)]; rfl
      · rw [if_neg a3, b2i_t (by rw [c3] at a3; omega)]; rfl
theorem x_lead (h : CB S b A) (hA : okA M A) {j : Nat} (hn : 1 ≤ qN A) (hj : j ≤ qN A) : TX0_leads b (iI ((j : Int) - 1)) S = some (nI (leadA A j)) := by
  have h8 := hA.1
  have hE := hA.2.2.2.2.2.2.2
  unfold TX0_leads
  rw [x_hasJoint h hA (by omega), Option.bind_some, ite_b, if_pos (by omega), h.1]
  have c1 : 0 ≤ iI ((j : Int) - 1) ↔ j ≠ 0 := by rw [k0, iI_le (by omega) (by omega)]; omega
  have c2 : iI ((j : Int) - 1) = nI (qN A) - 1 ↔ j = qN A := by rw [nI_z, k1, iI_sub, iI_eq (by omega) (by omega)]; omega
  have g0 : aget 2 (S.2.2.1 (b + 9)) 0 = some (iI (qE0 A)) := by rw [show (0 : Int32) = nI 0 from rfl, aget_n (by omega) (by decide), h.2.2.2.2.2.1]
  have g1 : aget 2 (S.2.2.1 (b + 9)) 1 = some (iI (qE1 A)) := by rw [show (1 : Int32) = nI 1 from rfl, aget_n (by omega) (by decide), h.2.2.2.2.2.2.1]
  have gs : ∀ i, i < qN A → aget 8 (S.2.2.1 (b + 5)) (iI i) = some (nI (sideA A i)) := fun i hi => by rw [← nI_z, aget_n (by omega) (by decide), (h.2.2.2.2.2.2.2.1 i hi).2.2.2.2.1]
  unfold leadA
  by_cases j0 : j = 0
  · rw [if_neg (fun q => c1.mp q j0), if_pos j0, g0, Option.bind_some]
    by_cases e : qE0 A = -1
    · rw [if_pos e, if_pos (by rw [e, km1])]; rfl
    · rw [if_neg e, if_neg (by rw [km1, iI_eq (by omega) (by omega)]; exact e), show (0 : Int32) = iI ((0 : Nat) : Int) from k0, gs 0 (by omega)]; rfl
  · rw [if_pos (c1.mpr j0), if_neg j0]
    have gj : aget 8 (S.2.2.1 (b + 5)) (iI ((j : Int) - 1)) = some (nI (sideA A (j - 1))) := by
      have := gs (j - 1) (by omega)
      rwa [show ((j - 1 : Nat) : Int) = (j : Int) - 1 by omega] at this
    by_cases j1 : j = qN A
    · rw [if_pos (c2.mpr j1), if_pos j1, g1, Option.bind_some]
      by_cases e : qE1 A = -1
      · rw [if_pos e, if_pos (by rw [e, km1])]; rfl
      · rw [if_neg e, if_neg (by rw [km1, iI_eq (by omega) (by omega)]; exact e), gj]; rfl
    · rw [if_neg (fun q => j1 (c2.mp q)), if_neg j1, gj, Option.bind_some, k1, iI_add, show (j : Int) - 1 + 1 = (j : Int) by omega, gs j (by omega), Option.bind_some]
      have b1 := okA_side hA (i := j - 1) (by omega)
      have b2 := okA_side hA (i := j) (by omega)
      rw [x_min _ _ (by omega) (by omega)]; rfl
theorem m_lead (h : MC S A) (hA : okA M A) {j : Nat} (hn : 1 ≤ qN A) (hj : j ≤ qN A) : TX7_leads (iI ((j : Int) - 1)) S = some (nI (leadA A j)) := by
  have h8 := hA.1
  have hE := hA.2.2.2.2.2.2.2
  unfold TX7_leads
  rw [h.1]
  have c1 : iI ((j : Int) - 1) = (-1) ↔ j = 0 := by rw [km1, iI_eq (by omega) (by omega)]; omega
  have c2 : iI ((j : Int) - 1) = nI (qN A) - 1 ↔ j = qN A := by rw [nI_z, k1, iI_sub, iI_eq (by omega) (by omega)]; omega
  have g0 : aget 2 (S.2.2.1 70) 0 = some (iI (qE0 A)) := by rw [show (0 : Int32) = nI 0 from rfl, aget_n (by omega) (by decide), h.2.2.2.1]
  have g1 : aget 2 (S.2.2.1 70) 1 = some (iI (qE1 A)) := by rw [show (1 : Int32) = nI 1 from rfl, aget_n (by omega) (by decide), h.2.2.2.2.1]
  have gs : ∀ i, i < qN A → TX7_side (iI i) S = some (nI (sideA A i)) := fun i hi => by rw [← nI_z]; exact m_side h hA hi
  unfold leadA
  by_cases j0 : j = 0
  · rw [if_pos (c1.mpr j0), if_pos j0, g0, Option.bind_some]
    by_cases e : qE0 A = -1
    · rw [if_pos e, if_pos (by rw [e, km1])]; rfl
    · rw [if_neg e, if_neg (by rw [km1, iI_eq (by omega) (by omega)]; exact e), show (0 : Int32) = iI ((0 : Nat) : Int) from k0, gs 0 (by omega)]; rfl
  · rw [if_neg (fun q => j0 (c1.mp q)), if_neg j0]
    have gj : TX7_side (iI ((j : Int) - 1)) S = some (nI (sideA A (j - 1))) := by
      have := gs (j - 1) (by omega)
      rwa [show ((j - 1 : Nat) : Int) = (j : Int) - 1 by omega] at this
    by_cases j1 : j = qN A
    · rw [if_pos (c2.mpr j1), if_pos j1, g1, Option.bind_some]
      by_cases e : qE1 A = -1
      · rw [if_pos e, if_pos (by rw [e, km1])]; rfl
      · rw [if_neg e, if_neg (by rw [km1, iI_eq (by omega) (by omega)]; exact e), gj]; rfl
    · rw [if_neg (fun q => j1 (c2.mp q)), if_neg j1, gj, Option.bind_some, k1, iI_add, show (j : Int) - 1 + 1 = (j : Int) by omega, gs j (by omega), Option.bind_some]
      have b1 := okA_side hA (i := j - 1) (by omega)
      have b2 := okA_side hA (i := j) (by omega)
      rw [x_min _ _ (by omega) (by omega)]; rfl
/-- the heat that counts left and right of joint j, times a line l, by numerators T -/
def leftH (A : AB) (T : Nat → Int) (l : Int) (j : Nat) : Int := if j = 0 then qE0 A * l else T (j - 1)
def rightH (A : AB) (T : Nat → Int) (l : Int) (j : Nat) : Int := if j = qN A then qE1 A * l else T j
def flowH (A : AB) (T : Nat → Int) (l : Int) (j : Nat) : Int := leadA A j * (leftH A T l j - rightH A T l j)
/-- a flow, by numerators at a long row a of n2 places -/
theorem x_flow (h : CB S b A) (hA : okA M A) {a n2 : Nat} {T : Nat → Int} {l : Int} {j : Nat} (h2 : 8 ≤ n2) (hn2 : n2 < 2147483648) (hT : ∀ i, i < qN A → S.2.2.2 a i = lI (T i)) (hn : 1 ≤ qN A) (hj : j ≤ qN A) : TX0_flowAbove b (iI ((j : Int) - 1)) a n2 (lI l) S = some (lI (flowH A T l j)) := by
  have h8 := hA.1
  have hE := hA.2.2.2.2.2.2.2
  have g0 : aget 2 (S.2.2.1 (b + 9)) 0 = some (iI (qE0 A)) := by rw [show (0 : Int32) = nI 0 from rfl, aget_n (by omega) (by decide), h.2.2.2.2.2.1]
  have g1 : aget 2 (S.2.2.1 (b + 9)) 1 = some (iI (qE1 A)) := by rw [show (1 : Int32) = nI 1 from rfl, aget_n (by omega) (by decide), h.2.2.2.2.2.2.1]
  have gT : ∀ i, i < qN A → aget n2 (S.2.2.2 a) (iI i) = some (lI (T i)) := fun i hi => by rw [← nI_z, aget_n (by omega) hn2, hT i hi]
  have c1 : 0 ≤ iI ((j : Int) - 1) ↔ j ≠ 0 := by rw [k0, iI_le (by omega) (by omega)]; omega
  have c2 : iI ((j : Int) - 1) < nI (qN A) - 1 ↔ j ≠ qN A := by rw [nI_z, k1, iI_sub, iI_lt (by omega) (by omega)]; omega
  have last : ∀ L R : Int, TX0_flowAbove_J48 S b a n2 (iI ((j : Int) - 1)) (lI L) (lI R) = some (lI (leadA A j * (L - R))) := fun L R => by
    unfold TX0_flowAbove_J48
    rw [x_lead h hA hn hj, Option.bind_some, nI_z, iI_wide (by have := lead_b hA hj hn; omega), lI_sub, lI_mul]
  have mid : ∀ L : Int, TX0_flowAbove_J19 S b a n2 (iI ((j : Int) - 1)) (lI l) (lI L) = some (lI (leadA A j * (L - rightH A T l j))) := fun L => by
    unfold TX0_flowAbove_J19 rightH
    rw [h.1]
    by_cases j1 : j = qN A
    · rw [if_neg (fun q => c2.mp q j1), if_pos j1, g1, Option.bind_some, iI_wide (by omega), lI_mul, last]
    · rw [if_pos (c2.mpr j1), if_neg j1, k1, iI_add, show (j : Int) - 1 + 1 = (j : Int) by omega, gT j (by omega), Option.bind_some, last]
  unfold TX0_flowAbove flowH leftH
  by_cases j0 : j = 0
  · rw [if_neg (fun q => c1.mp q j0), if_pos j0, g0, Option.bind_some, iI_wide (by omega), lI_mul, mid]
  · rw [if_pos (c1.mpr j0), if_neg j0]
    have gj := gT (j - 1) (by omega)
    rw [show ((j - 1 : Nat) : Int) = (j : Int) - 1 by omega] at gj
    rw [gj, Option.bind_some, mid]
theorem m_flow (h : MM S A) (hA : okA M A) {j : Nat} (hn : 1 ≤ qN A) (hj : j ≤ qN A) : TX7_flows (iI ((j : Int) - 1)) S = some (lI (flowH A (qS A 1) (qL A) j)) := by
  obtain ⟨hC, hl, -, hT, -⟩ := h
  have h8 := hA.1
  have hE := hA.2.2.2.2.2.2.2
  have g0 : aget 2 (S.2.2.1 70) 0 = some (iI (qE0 A)) := by rw [show (0 : Int32) = nI 0 from rfl, aget_n (by omega) (by decide), hC.2.2.2.1]
  have g1 : aget 2 (S.2.2.1 70) 1 = some (iI (qE1 A)) := by rw [show (1 : Int32) = nI 1 from rfl, aget_n (by omega) (by decide), hC.2.2.2.2.1]
  have gT : ∀ i, i < qN A → aget 8 (S.2.2.2 75) (iI i) = some (lI (qS A 1 i)) := fun i hi => by rw [← nI_z, aget_n (by omega) (by decide), hT i hi]
  have c1 : iI ((j : Int) - 1) = (-1) ↔ j = 0 := by rw [km1, iI_eq (by omega) (by omega)]; omega
  have c2 : iI ((j : Int) - 1) = nI (qN A) - 1 ↔ j = qN A := by rw [nI_z, k1, iI_sub, iI_eq (by omega) (by omega)]; omega
  have last : ∀ L R : Int, TX7_flows_J60 S (iI ((j : Int) - 1)) (lI L) (lI R) = some (lI (leadA A j * (L - R))) := fun L R => by
    unfold TX7_flows_J60
    rw [m_lead hC hA hn hj, Option.bind_some, nI_z, iI_wide (by have := lead_b hA hj hn; omega), lI_sub, lI_mul]
  have mid : ∀ L : Int, TX7_flows_J26 S (iI ((j : Int) - 1)) (lI L) = some (lI (leadA A j * (L - rightH A (qS A 1) (qL A) j))) := fun L => by
    unfold TX7_flows_J26 rightH
    rw [hC.1]
    by_cases j1 : j = qN A
    · rw [if_pos (c2.mpr j1), if_pos j1, g1, Option.bind_some, iI_wide (by omega), hl, lI_n, lI_mul, last]
    · rw [if_neg (fun q => j1 (c2.mp q)), if_neg j1, k1, iI_add, show (j : Int) - 1 + 1 = (j : Int) by omega, gT j (by omega), Option.bind_some, last]
  unfold TX7_flows flowH leftH
  by_cases j0 : j = 0
  · rw [if_pos (c1.mpr j0), if_pos j0, g0, Option.bind_some, iI_wide (by omega), hl, lI_n, lI_mul, mid]
  · rw [if_neg (fun q => j0 (c1.mp q)), if_neg j0]
    have gj := gT (j - 1) (by omega)
    rw [show ((j - 1 : Nat) : Int) = (j : Int) - 1 by omega] at gj
    rw [gj, Option.bind_some, mid]
/-- what a cell gains, pulses aside -/
def gainA (A : AB) (i : Nat) : Int := flowH A (qS A 1) (qL A) i - flowH A (qS A 1) (qL A) (i + 1) + finA A i * (qA A * qL A - qS A 1 i) + qS A 0 i * qL A
theorem x_gain (h : CB S b A) (hA : okA M A) {i : Nat} (hi : i < qN A) : TX0_gain b (nI i) S = some (lI (gainA A i)) := by
  have h8 := hA.1
  obtain ⟨-, -, -, -, -, s1, s2, -⟩ := hA.2.2.2.2.2.2.2.2.2.2.2.1 i hi
  have hair := hA.2.2.2.2.2.2.1
  obtain ⟨-, -, -, e4, -, -, e7, e8⟩ := h.2.2.2.2.2.2.2.1 i hi
  have hT : ∀ i, i < qN A → S.2.2.2 (b + 8) i = lI (qS A 1 i) := fun i hi => (h.2.2.2.2.2.2.2.1 i hi).2.2.2.2.2.2.2
  have f1 := x_flow h hA (a := b + 8) (n2 := 8) (T := qS A 1) (l := qL A) (j := i) (by omega) (by decide) hT (by omega) (by omega)
  have f2 := x_flow h hA (a := b + 8) (n2 := 8) (T := qS A 1) (l := qL A) (j := i + 1) (by omega) (by decide) hT (by omega) (by omega)
  rw [show ((i + 1 : Nat) : Int) - 1 = (i : Int) by omega, ← nI_z] at f2
  unfold TX0_gain
  have hf : finA A i ≤ 1 := fin_b _
  rw [h.2.2.1, lI_n, show nI i - 1 = iI ((i : Int) - 1) by rw [nI_z, k1, iI_sub], f1, Option.bind_some, f2, Option.bind_some, aget_n (by omega) (by decide), Option.bind_some, aget_n (by omega) (by decide), Option.bind_some, aget_n (by omega) (by decide), Option.bind_some, e7, e8, e4, h.2.2.2.2.1, nI_z, nI_z, iI_wide (by omega), iI_wide (by omega), iI_wide (by omega)]
  simp only [lI_sub, lI_mul, lI_add]
  rfl
theorem m_change (h : MM S A) (hA : okA M A) {i : Nat} (hi : i < qN A) : TX7_change (nI i) S = some (lI (gainA A i)) := by
  have h8 := hA.1
  obtain ⟨-, -, -, -, -, s1, s2, -⟩ := hA.2.2.2.2.2.2.2.2.2.2.2.1 i hi
  have hair := hA.2.2.2.2.2.2.1
  obtain ⟨hC, hl, -, hT, -⟩ := id h
  obtain ⟨-, -, -, e4⟩ := hC.2.2.2.2.2 i hi
  have f1 := m_flow h hA (j := i) (by omega) (by omega)
  have f2 := m_flow h hA (j := i + 1) (by omega) (by omega)
  rw [show ((i + 1 : Nat) : Int) - 1 = (i : Int) by omega, ← nI_z] at f2
  have hf : finA A i ≤ 1 := fin_b _
  have ga : aget 2 (S.2.2.1 71) 1 = some (nI (qA A)) := by rw [show (1 : Int32) = nI 1 from rfl, aget_n (by omega) (by decide), hC.2.2.1]
  unfold TX7_change
  rw [show nI i - 1 = iI ((i : Int) - 1) by rw [nI_z, k1, iI_sub], f1, Option.bind_some, f2, Option.bind_some, m_fin hC hA hi, Option.bind_some, ga, Option.bind_some, aget_n (by omega) (by decide), Option.bind_some, aget_n (by omega) (by decide), Option.bind_some, hT i hi, e4, hl, lI_n, nI_z, nI_z, iI_wide (by omega), iI_wide (by omega), iI_wide (by omega)]
  simp only [lI_sub, lI_mul, lI_add]
  rfl
end LEAD
