/-! The abstract bar; how class and reference hold it. -/
/-- (n cells, np pulses, line, fine, air), (left end, right end), attributes 0 kind, 1 k, 2 c of cells, 3 cell, 4 due of pulses; signed 0 source, 1 numerator of cells, 2 heat of pulses -/
abbrev AB : Type := (Nat × Nat × Nat × Nat × Nat) × (Int × Int) × (Nat → Nat → Nat) × (Nat → Nat → Int)
abbrev qN (A : AB) : Nat := A.1.1
abbrev qP (A : AB) : Nat := A.1.2.1
abbrev qL (A : AB) : Nat := A.1.2.2.1
abbrev qF (A : AB) : Nat := A.1.2.2.2.1
abbrev qA (A : AB) : Nat := A.1.2.2.2.2
abbrev qE0 (A : AB) : Int := A.2.1.1
abbrev qE1 (A : AB) : Int := A.2.1.2
abbrev qK (A : AB) (j i : Nat) : Nat := A.2.2.1 j i
abbrev qS (A : AB) (j i : Nat) : Int := A.2.2.2 j i
def sideN (kd k : Nat) : Nat := if kd = 1 ∨ kd = 3 then (k + 1) / 2 else if kd = 4 then 10 - k else if kd = 5 then min 2 ((k + 1) / 2) else k
def holdsN (kd c : Nat) : Nat := if kd = 2 ∨ kd = 4 then 2 * c else c
def finN (kd : Nat) : Nat := if kd = 3 then 1 else 0
abbrev sideA (A : AB) (i : Nat) : Nat := sideN (qK A 0 i) (qK A 1 i)
abbrev holdsA (A : AB) (i : Nat) : Nat := holdsN (qK A 0 i) (qK A 2 i)
abbrev finA (A : AB) (i : Nat) : Nat := finN (qK A 0 i)
/-- what is always so; M bounds the numerators -/
def okA (M : Int) (A : AB) : Prop := qN A ≤ 8 ∧ qP A ≤ 12 ∧ 1 ≤ qL A ∧ qL A ≤ 1000000000000 ∧ 1 ≤ qF A ∧ qF A ≤ 20 ∧ qA A ≤ 999 ∧ -1 ≤ qE0 A ∧ qE0 A ≤ 999 ∧ -1 ≤ qE1 A ∧ qE1 A ≤ 999 ∧
  (∀ i, i < qN A → qK A 0 i ≤ 5 ∧ 1 ≤ qK A 1 i ∧ qK A 1 i ≤ 9 ∧ 1 ≤ qK A 2 i ∧ qK A 2 i ≤ 4 ∧ -9 ≤ qS A 0 i ∧ qS A 0 i ≤ 9 ∧ -M ≤ qS A 1 i ∧ qS A 1 i ≤ M) ∧
  ∀ p, p < qP A → qK A 3 p < qN A ∧ 1 ≤ qK A 4 p ∧ qK A 4 p ≤ 20 ∧ -99 ≤ qS A 2 p ∧ qS A 2 p ≤ 99
/-- the class's bar at b -/
def CB (S : SS) (b : Nat) (A : AB) : Prop := S.1 b 0 = nI (qN A) ∧ S.1 (b + 10) 3 = nI (qP A) ∧ S.2.1 b 9 = lN (qL A) ∧ S.1 b 11 = nI (qF A) ∧ S.1 b 12 = nI (qA A) ∧ S.2.2.1 (b + 9) 0 = iI (qE0 A) ∧ S.2.2.1 (b + 9) 1 = iI (qE1 A) ∧
  (∀ i, i < qN A → S.2.2.1 (b + 1) i = nI (qK A 0 i) ∧ S.2.2.1 (b + 2) i = nI (qK A 1 i) ∧ S.2.2.1 (b + 3) i = nI (qK A 2 i) ∧ S.2.2.1 (b + 4) i = iI (qS A 0 i) ∧ S.2.2.1 (b + 5) i = nI (sideA A i) ∧ S.2.2.1 (b + 6) i = nI (holdsA A i) ∧ S.2.2.1 (b + 7) i = nI (finA A i) ∧ S.2.2.2 (b + 8) i = lI (qS A 1 i)) ∧
  ∀ p, p < qP A → S.2.2.1 (b + 11) p = nI (qK A 3 p) ∧ S.2.2.1 (b + 12) p = nI (qK A 4 p) ∧ S.2.2.1 (b + 13) p = iI (qS A 2 p)
/-- the reference's cells and rules: what main and mind share -/
def MC (S : SS) (A : AB) : Prop := S.1 64 0 = nI (qN A) ∧ S.2.2.1 71 0 = nI (qF A) ∧ S.2.2.1 71 1 = nI (qA A) ∧ S.2.2.1 70 0 = iI (qE0 A) ∧ S.2.2.1 70 1 = iI (qE1 A) ∧
  ∀ i, i < qN A → S.2.2.1 65 i = nI (qK A 0 i) ∧ S.2.2.1 66 i = nI (qK A 1 i) ∧ S.2.2.1 67 i = nI (qK A 2 i) ∧ S.2.2.1 68 i = iI (qS A 0 i)
/-- heats and pulses: numerators at cell kt, the line at field fl, how many pulses at field fw, the pulses from cell kp on -/
def MH (S : SS) (kt fl fw kp : Nat) (A : AB) : Prop := S.2.1 64 fl = lN (qL A) ∧ S.1 64 fw = nI (qP A) ∧ (∀ i, i < qN A → S.2.2.2 kt i = lI (qS A 1 i)) ∧
  ∀ p, p < qP A → S.2.2.1 kp p = nI (qK A 3 p) ∧ S.2.2.1 (kp + 1) p = nI (qK A 4 p) ∧ S.2.2.1 (kp + 2) p = iI (qS A 2 p)
def MB (S : SS) (A : AB) : Prop := MC S A ∧ MH S 69 6 9 72 A
def MM (S : SS) (A : AB) : Prop := MC S A ∧ MH S 75 14 15 76 A
def MK (S : SS) (A : AB) : Prop := S.1 64 38 = nI (qN A) ∧ S.2.2.1 94 0 = nI (qF A) ∧ S.2.2.1 94 1 = nI (qA A) ∧ S.2.2.1 93 0 = iI (qE0 A) ∧ S.2.2.1 93 1 = iI (qE1 A) ∧
  (∀ i, i < qN A → S.2.2.1 88 i = nI (qK A 0 i) ∧ S.2.2.1 89 i = nI (qK A 1 i) ∧ S.2.2.1 90 i = nI (qK A 2 i) ∧ S.2.2.1 91 i = iI (qS A 0 i)) ∧ MH S 92 44 47 95 A
/-! kinds -/
theorem nI_z (n : Nat) : nI n = iI (n : Int) := iI_n n
theorem x_min (a b : Nat) (ha : a < 2147483648) (hb : b < 2147483648) : TJ9_min_7cf53 (nI a) (nI b) = some (nI (min a b)) := by
  unfold TJ9_min_7cf53
  by_cases h : b < a
  · rw [if_pos (nI_lt h ha), Nat.min_eq_right (by omega)]
  · rw [if_neg (nI_nlt (by omega) (by omega)), Nat.min_eq_left (by omega)]
theorem x_sideOf : ∀ kd, kd < 6 → ∀ k, k < 10 → TX1_sideOf (nI kd) (nI k) = some (nI (sideN kd k)) := by decide +kernel
theorem x_holdsOf : ∀ kd, kd < 6 → ∀ k, k < 5 → TX1_holdsOf (nI kd) (nI k) = some (nI (holdsN kd k)) := by decide +kernel
theorem x_finOf : ∀ kd, kd < 6 → TX1_finOf (nI kd) = some (nI (finN kd)) := by decide +kernel
theorem m_under : ∀ kd, kd < 6 → ∀ k, k < 6 → TX7_isUnder (nI kd) (nI k) = TX1_isUnder (nI kd) (nI k) := by decide +kernel
theorem m_under2 : ∀ kd, kd < 6 → TX7_isUnder (nI kd) 2 = some (b2i (kd = 2 ∨ kd = 4)) := by decide +kernel
theorem side_b : ∀ kd, kd < 6 → ∀ k, k < 10 → 0 < k → 1 ≤ sideN kd k ∧ sideN kd k ≤ 9 := by decide +kernel
theorem holds_b : ∀ kd, kd < 6 → ∀ k, k < 5 → 0 < k → 1 ≤ holdsN kd k ∧ holdsN kd k ≤ 8 ∧ 24 % holdsN kd k = 0 := by decide +kernel
theorem fin_b (kd : Nat) : finN kd ≤ 1 := by unfold finN; split <;> omega
section BAR
variable {S : SS} {A : AB} {M : Int}
theorem m_side (h : MC S A) (hA : okA M A) {i : Nat} (hi : i < qN A) : TX7_side (nI i) S = some (nI (sideA A i)) := by
  have h8 := hA.1
  obtain ⟨k1, k2, k3, -⟩ := hA.2.2.2.2.2.2.2.2.2.2.2.1 i hi
  obtain ⟨e1, e2, -, -⟩ := h.2.2.2.2.2 i hi
  unfold TX7_side
  rw [aget_n (by omega) (by decide), Option.bind_some, aget_n (by omega) (by decide), Option.bind_some, e1, e2]
  have := x_sideOf (qK A 0 i) (by omega) (qK A 1 i) (by omega)
  unfold TX1_sideOf at this
  have h2 : ∀ u : Int32, o_idiv u 2 = some (u / 2) := fun u => by unfold o_idiv; rw [if_neg (by decide)]
  simp only [h2, Option.bind_some] at this ⊢
  exact this
theorem m_holds (h : MC S A) (hA : okA M A) {i : Nat} (hi : i < qN A) : TX7_holds (nI i) S = some (nI (holdsA A i)) := by
  have h8 := hA.1
  obtain ⟨k1, -, -, k4, k5, -⟩ := hA.2.2.2.2.2.2.2.2.2.2.2.1 i hi
  obtain ⟨e1, -, e3, -⟩ := h.2.2.2.2.2 i hi
  unfold TX7_holds
  rw [aget_n (by omega) (by decide), Option.bind_some, e1, m_under2 _ (by omega), Option.bind_some, ite_b]
  rw [aget_n (by omega) (by decide), Option.bind_some, Option.bind_some, e3]
  unfold holdsA holdsN
  by_cases hk : qK A 0 i = 2 ∨ qK A 0 i = 4
  · rw [if_pos hk, if_pos hk, show (2 : Int32) = nI 2 from rfl, pk_mul]
  · rw [if_neg hk, if_neg hk]
theorem m_fin (h : MC S A) (hA : okA M A) {i : Nat} (hi : i < qN A) : TX7_fin (nI i) S = some (nI (finA A i)) := by
  have h8 := hA.1
  obtain ⟨k1, -⟩ := hA.2.2.2.2.2.2.2.2.2.2.2.1 i hi
  obtain ⟨e1, -⟩ := h.2.2.2.2.2 i hi
  unfold TX7_fin
  rw [aget_n (by omega) (by decide), Option.bind_some, e1]
  have := x_finOf (qK A 0 i) (by omega)
  unfold TX1_finOf at this
  exact this
end BAR
