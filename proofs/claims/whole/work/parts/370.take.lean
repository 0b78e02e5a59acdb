/-! Bounds; what a step of the class gives. -/
theorem nB {c : Nat} {C X x : Int} (hc : (c : Int) ≤ C) (h1 : -X ≤ x) (h2 : x ≤ X) : -(C * X) ≤ c * x ∧ c * x ≤ C * X := by
  have h0 : 0 ≤ X := by omega
  have e1 : (c : Int) * x ≤ c * X := Int.mul_le_mul_of_nonneg_left h2 (by omega)
  have e2 : (c : Int) * X ≤ C * X := Int.mul_le_mul_of_nonneg_right hc h0
  have e3 : (c : Int) * (-X) ≤ c * x := Int.mul_le_mul_of_nonneg_left h1 (by omega)
  rw [Int.mul_neg] at e3
  omega
theorem eB {e a X : Int} {L : Nat} (h1 : -a ≤ e) (h2 : e ≤ a) (hL : (L : Int) ≤ X) : -(a * X) ≤ e * L ∧ e * L ≤ a * X := by
  rw [Int.mul_comm e, Int.mul_comm a]
  exact nB hL h1 h2
theorem mM {m : Nat} {x X : Int} {Y : Nat} (h1 : -X ≤ x) (h2 : x ≤ X) (hm : m ≤ Y) : -(X * Y) ≤ x * m ∧ x * m ≤ X * Y := eB h1 h2 (by omega)
def nextA (A : AB) (i : Nat) : Int := baseA A i + comeA A i (qP A) * (qL A * (24 * qF A) : Nat)
def lineA (A : AB) : Nat := qL A * (24 * qF A)
section BOUND
variable {A : AB}
theorem ok_n {M : Int} (h : okA M A) : qN A ≤ 8 := h.1
theorem ok_p {M : Int} (h : okA M A) : qP A ≤ 12 := h.2.1
theorem ok_l {M : Int} (h : okA M A) : 1 ≤ qL A ∧ qL A ≤ 1000000000000 := ⟨h.2.2.1, h.2.2.2.1⟩
theorem ok_f {M : Int} (h : okA M A) : 1 ≤ qF A ∧ qF A ≤ 20 := ⟨h.2.2.2.2.1, h.2.2.2.2.2.1⟩
theorem ok_a {M : Int} (h : okA M A) : qA A ≤ 999 := h.2.2.2.2.2.2.1
theorem ok_e {M : Int} (h : okA M A) : (-1 ≤ qE0 A ∧ qE0 A ≤ 999) ∧ -1 ≤ qE1 A ∧ qE1 A ≤ 999 := ⟨⟨h.2.2.2.2.2.2.2.1, h.2.2.2.2.2.2.2.2.1⟩, h.2.2.2.2.2.2.2.2.2.1, h.2.2.2.2.2.2.2.2.2.2.1⟩
theorem ok_c {M : Int} (h : okA M A) {i : Nat} (hi : i < qN A) : qK A 0 i ≤ 5 ∧ 1 ≤ qK A 1 i ∧ qK A 1 i ≤ 9 ∧ 1 ≤ qK A 2 i ∧ qK A 2 i ≤ 4 ∧ -9 ≤ qS A 0 i ∧ qS A 0 i ≤ 9 ∧ -M ≤ qS A 1 i ∧ qS A 1 i ≤ M := h.2.2.2.2.2.2.2.2.2.2.2.1 i hi
theorem ok_q {M : Int} (h : okA M A) {p : Nat} (hp : p < qP A) : qK A 3 p < qN A ∧ 1 ≤ qK A 4 p ∧ qK A 4 p ≤ 20 ∧ -99 ≤ qS A 2 p ∧ qS A 2 p ≤ 99 := h.2.2.2.2.2.2.2.2.2.2.2.2 p hp
theorem ok_M {M M' : Int} (hM : M ≤ M') (h : okA M A) : okA M' A := by
  obtain ⟨h1, h2, h3, h4, h5, h6, h7, h8, h9, h10, h11, h12, h13⟩ := h
  refine ⟨h1, h2, h3, h4, h5, h6, h7, h8, h9, h10, h11, fun i hi => ?_, h13⟩
  have := h12 i hi
  omega
theorem flow_B (h : okA 1008000000000000 A) {T : Nat → Int} {l : Nat} (hl : l ≤ 1000000000000) (hT : ∀ i, i < qN A → -1008000000000000 ≤ T i ∧ T i ≤ 1008000000000000) {j : Nat} (hn : 1 ≤ qN A) (hj : j ≤ qN A) : -(9 * 2016000000000000) ≤ flowH A T l j ∧ flowH A T l j ≤ 9 * 2016000000000000 := by
  have hle := lead_b h hj hn
  have he := ok_e h
  have hl0 := eB (e := qE0 A) (a := 999) (L := l) (X := 1000000000000) (by omega) (by omega) (by omega)
  have hl1 := eB (e := qE1 A) (a := 999) (L := l) (X := 1000000000000) (by omega) (by omega) (by omega)
  have hL : -1008000000000000 ≤ leftH A T l j ∧ leftH A T l j ≤ 1008000000000000 := by
    unfold leftH
    split
    · omega
    · exact hT _ (by omega)
  have hR : -1008000000000000 ≤ rightH A T l j ∧ rightH A T l j ≤ 1008000000000000 := by
    unfold rightH
    split
    · omega
    · exact hT _ (by omega)
  unfold flowH
  exact nB (c := leadA A j) (C := 9) (X := 2016000000000000) (by omega) (by omega) (by omega)
theorem gain_B (h : okA 1008000000000000 A) {i : Nat} (hi : i < qN A) : -38304000000000000 ≤ gainA A i ∧ gainA A i ≤ 38304000000000000 := by
  have hT : ∀ i, i < qN A → -1008000000000000 ≤ qS A 1 i ∧ qS A 1 i ≤ 1008000000000000 := fun i hi => by have := ok_c h hi; omega
  have hl := ok_l h
  have f1 := flow_B h hl.2 hT (j := i) (by omega) (by omega)
  have f2 := flow_B h hl.2 hT (j := i + 1) (by omega) (by omega)
  have hc := ok_c h hi
  have hs := eB (e := qS A 0 i) (a := 9) (L := qL A) (X := 1000000000000) (by omega) (by omega) (by omega)
  have ha := ok_a h
  have hal := nB (c := qA A) (C := 999) (x := qL A) (X := 1000000000000) (by omega) (by omega) (by omega)
  have hf : finA A i ≤ 1 := fin_b _
  have hff := nB (c := finA A i) (C := 1) (x := qA A * qL A - qS A 1 i) (X := 2007000000000000) (by omega) (by omega) (by omega)
  unfold gainA
  omega
theorem come_B (h : okA 1008000000000000 A) (i : Nat) : ∀ p, p ≤ qP A → -(99 * (p : Int)) ≤ comeA A i p ∧ comeA A i p ≤ 99 * (p : Int)
  | 0, _ => by simp [comeA]
  | p + 1, hp => by
    have := come_B h i p (by omega)
    have := ok_q h (p := p) (by omega)
    unfold comeA
    split <;> omega
theorem line_B (h : okA 1008000000000000 A) : 0 < lineA A ∧ lineA A ≤ 480000000000000 := by
  have hl := ok_l h
  have hf := ok_f h
  unfold lineA
  have e1 : qL A * (24 * qF A) ≤ 1000000000000 * 480 := Nat.mul_le_mul hl.2 (by omega)
  have e2 : 0 < qL A * (24 * qF A) := Nat.mul_pos (by omega) (by omega)
  omega
theorem next_B (h : okA 1008000000000000 A) {i : Nat} (hi : i < qN A) : -2000000000000000000 ≤ nextA A i ∧ nextA A i ≤ 2000000000000000000 := by
  have hc := ok_c h hi
  have hf := ok_f h
  have hl := line_B h
  have hp := ok_p h
  have hco := come_B h i (qP A) (Nat.le_refl _)
  have hg := gain_B h hi
  have hh := okA_holds h hi
  have h24 : 24 / holdsA A i ≤ 24 := Nat.div_le_self _ _
  have e1 := mM (m := 24 / holdsA A i) (x := gainA A i) (X := 38304000000000000) (Y := 24) (by omega) (by omega) h24
  have e2 := mM (m := 24 * qF A) (x := qS A 1 i) (X := 1008000000000000) (Y := 480) (by omega) (by omega) (by omega)
  have e3 := mM (m := lineA A) (x := comeA A i (qP A)) (X := 1188) (Y := 480000000000000) (by omega) (by omega) hl.2
  unfold nextA baseA
  unfold lineA at e3
  have e4 : ((24 * qF A : Nat) : Int) = 24 * (qF A : Int) := by omega
  rw [e4] at e2
  omega
end BOUND
/-- the first of the numerators from i on that is too large, -2 if none is -/
def bigN (T : Nat → Int) : Nat → Nat → Int
  | 0, _ => -2
  | m + 1, i => if (T i).natAbs ≤ 1000000000000 then bigN T m (i + 1) else i
theorem bigN_B (T : Nat → Int) : ∀ m i, -2 ≤ bigN T m i ∧ bigN T m i < i + m ∧ bigN T m i ≠ -1
  | 0, i => by unfold bigN; omega
  | m + 1, i => by
    have := bigN_B T m (i + 1)
    unfold bigN
    split <;> omega
theorem bigN_ok {T : Nat → Int} : ∀ m i, bigN T m i = -2 → ∀ q, i ≤ q → q < i + m → (T q).natAbs ≤ 1000000000000
  | 0, i, _, q, h1, h2 => by omega
  | m + 1, i, h, q, h1, h2 => by
    unfold bigN at h
    by_cases e : (T i).natAbs ≤ 1000000000000
    · rw [if_pos e] at h
      by_cases hq : q = i
      · rw [hq]; exact e
      · exact bigN_ok m (i + 1) h q (by omega) (by omega)
    · rw [if_neg e] at h; omega
theorem bigN_congr {T T' : Nat → Int} : ∀ m i, (∀ q, i ≤ q → q < i + m → T q = T' q) → bigN T m i = bigN T' m i
  | 0, _, _ => rfl
  | m + 1, i, h => by
    unfold bigN
    rw [h i (by omega) (by omega), bigN_congr m (i + 1) (fun q h1 h2 => h q (by omega) (by omega))]
/-- all numerators over a line, laid over the least line -/
def redT (T : Nat → Int) (l n : Nat) (i : Nat) : Int := (T i).tdiv (gcdN T l n)
def redL (T : Nat → Int) (l n : Nat) : Nat := l / gcdN T l n
def takeC (T : Nat → Int) (l n : Nat) : Int := if redL T l n ≤ 1000000000000 then bigN (redT T l n) n 0 else -1
/-- A with other heats -/
def setH (A : AB) (T : Nat → Int) (l : Nat) : AB := ((qN A, qP A, l, qF A, qA A), A.2.1, A.2.2.1, fun j i => if j = 1 then T i else qS A j i)
theorem redL_pos {T : Nat → Int} {l n : Nat} (hl : 0 < l) : 0 < redL T l n := Nat.div_pos (gcdN_le hl n) (gcdN_pos hl n)
theorem takeC_B {T : Nat → Int} {l n : Nat} : -2 ≤ takeC T l n ∧ takeC T l n < (n : Int) + 1 := by
  unfold takeC
  have := bigN_B (redT T l n) n 0
  split <;> omega
theorem ok_setH {M : Int} {A : AB} {T : Nat → Int} {l : Nat} (h : okA M A) (hM : 0 ≤ M) (hl : 1 ≤ l) (hl2 : l ≤ 1000000000000) (hT : ∀ i, i < qN A → -M ≤ T i ∧ T i ≤ M) : okA M (setH A T l) := by
  obtain ⟨h1, h2, h3, h4, h5, h6, h7, h8, h9, h10, h11, h12, h13⟩ := h
  refine ⟨h1, h2, hl, hl2, h5, h6, h7, h8, h9, h10, h11, fun i hi => ?_, h13⟩
  obtain ⟨a1, a2, a3, a4, a5, a6, a7, -, -⟩ := h12 i hi
  exact ⟨a1, a2, a3, a4, a5, a6, a7, (hT i hi).1, (hT i hi).2⟩
/-- the step -/
def stepC (A : AB) : Int := takeC (nextA A) (lineA A) (qN A)
def stepH (A : AB) : AB := setH A (redT (nextA A) (lineA A) (qN A)) (redL (nextA A) (lineA A) (qN A))
def stepA (A : AB) : AB := setP (stepH A) (passP (stepH A))
