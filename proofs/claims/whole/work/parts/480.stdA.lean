/-! Steady heats: the numbers. -/
def supA (A : AB) (i : Nat) : Int := qS A 0 i + finA A i * qA A + (if i = 0 then leadA A 0 * qE0 A else 0) + (if i + 1 = qN A then leadA A (i + 1) * qE1 A else 0)
/-- determinants of the cells ahead of i, and of those ahead of i - 1 -/
def ahP (A : AB) : Nat → Int × Int
  | 0 => (1, 0)
  | i + 1 => (lossA A i * (ahP A i).1 - leadA A i * leadA A i * (ahP A i).2, (ahP A i).1)
def flS (A : AB) : Nat → Int
  | 0 => 0
  | i + 1 => supA A i * (ahP A i).1 + leadA A i * flS A i
/-- of the last m cells, and of the last m - 1 -/
def onP (A : AB) : Nat → Int × Int
  | 0 => (1, 0)
  | m + 1 => (lossA A (qN A - (m + 1)) * (onP A m).1 - leadA A (qN A - m) * leadA A (qN A - m) * (onP A m).2, (onP A m).1)
def frS (A : AB) : Nat → Int
  | 0 => 0
  | m + 1 => supA A (qN A - (m + 1)) * (onP A m).1 + leadA A (qN A - m) * frS A m
/-- steady heats times the determinant -/
def stG (A : AB) (i : Nat) : Int := flS A (i + 1) * (onP A (qN A - (i + 1))).1 + (ahP A i).1 * leadA A (i + 1) * frS A (qN A - (i + 1))
def whN (A : AB) : Int := (ahP A (qN A)).1
section STN
variable {A : AB} {M : Int}
theorem stG_eq {i : Nat} (hi : i < qN A) : stG A i = (ahP A i).1 * frS A (qN A - i) + 1 * (onP A (qN A - (i + 1))).1 * leadA A i * flS A i := by
  obtain ⟨m, hm⟩ : ∃ m, qN A - i = m + 1 := ⟨qN A - i - 1, by omega⟩
  have e1 : qN A - (i + 1) = m := by omega
  have e2 : qN A - (m + 1) = i := by omega
  have e3 : qN A - m = i + 1 := by omega
  unfold stG
  rw [hm, e1, frS, flS, e2, e3]
  grind
theorem mulB {a b X Y : Int} (h1 : -X ≤ a) (h2 : a ≤ X) (h3 : -Y ≤ b) (h4 : b ≤ Y) : -(X * Y) ≤ a * b ∧ a * b ≤ X * Y := by
  have n1 : a.natAbs ≤ X.toNat := by omega
  have n2 : b.natAbs ≤ Y.toNat := by omega
  have n3 : (a * b).natAbs ≤ X.toNat * Y.toNat := by rw [Int.natAbs_mul]; exact Nat.mul_le_mul n1 n2
  have n4 : ((X.toNat * Y.toNat : Nat) : Int) = X * Y := by
    rw [Int.natCast_mul, Int.toNat_of_nonneg (by omega), Int.toNat_of_nonneg (by omega)]
  have n5 : ((a * b).natAbs : Int) ≤ X * Y := by rw [← n4]; exact Int.ofNat_le.mpr n3
  omega
theorem sup_B (hA : okA M A) {i : Nat} (hi : i < qN A) : -18990 ≤ supA A i ∧ supA A i ≤ 18990 := by
  have hc := ok_c hA hi
  have ha := ok_a hA
  have he := ok_e hA
  have hf : finA A i ≤ 1 := fin_b _
  have l0 := lead_b hA (j := 0) (by omega) (by omega)
  have l1 := lead_b hA (j := i + 1) (by omega) (by omega)
  have b1 := nB (c := finA A i) (C := 1) (x := (qA A : Int)) (X := 999) (by omega) (by omega) (by omega)
  have b2 := nB (c := leadA A 0) (C := 9) (x := qE0 A) (X := 999) (by omega) (by omega) (by omega)
  have b3 := nB (c := leadA A (i + 1)) (C := 9) (x := qE1 A) (X := 999) (by omega) (by omega) (by omega)
  have u1 : ∀ (p : Prop) [Decidable p] (x : Int), -8991 ≤ x → x ≤ 8991 → -8991 ≤ (if p then x else 0) ∧ (if p then x else 0) ≤ 8991 := fun p _ x h1 h2 => by split <;> omega
  have b4 := u1 (i = 0) ((leadA A 0 : Int) * qE0 A) (by omega) (by omega)
  have b5 := u1 (i + 1 = qN A) ((leadA A (i + 1) : Int) * qE1 A) (by omega) (by omega)
  unfold supA
  generalize (if i = 0 then (leadA A 0 : Int) * qE0 A else 0) = u at b4 ⊢
  generalize (if i + 1 = qN A then (leadA A (i + 1) : Int) * qE1 A else 0) = w at b5 ⊢
  omega
def p23 : Nat → Int
  | 0 => 1
  | k + 1 => 23 * p23 k
theorem p23_pos : ∀ k, 1 ≤ p23 k
  | 0 => by decide
  | k + 1 => by have := p23_pos k; rw [p23]; omega
theorem p23_le : ∀ k, k ≤ 8 → p23 k ≤ 78310985281 := by decide +kernel
theorem p23_add (a : Nat) : ∀ b, p23 (a + b) = p23 a * p23 b
  | 0 => by rw [p23, Nat.add_zero]; omega
  | b + 1 => by
    rw [show a + (b + 1) = (a + b) + 1 by omega, p23, p23, p23_add a b]
    grind
theorem ah_B (hA : okA M A) : ∀ i, i ≤ qN A → (-p23 i ≤ (ahP A i).1 ∧ (ahP A i).1 ≤ p23 i) ∧ (-p23 i ≤ 23 * (ahP A i).2 ∧ 23 * (ahP A i).2 ≤ p23 i)
  | 0, _ => by rw [ahP, p23]; decide
  | i + 1, h => by
    obtain ⟨⟨h1, h2⟩, h3, h4⟩ := ah_B hA i (by omega)
    have lo := loss_b hA (i := i) (by omega)
    have ld := lead_b hA (j := i) (by omega) (by omega)
    have hld : (leadA A i * leadA A i : Nat) ≤ 81 := Nat.mul_le_mul (n₂ := 9) (m₂ := 9) ld ld
    have e : (leadA A i : Int) * leadA A i = ((leadA A i * leadA A i : Nat) : Int) := by rw [Int.natCast_mul]
    have b1 := nB (c := lossA A i) (C := 19) (x := (ahP A i).1) (X := p23 i) (by omega) (by omega) (by omega)
    have b2 := nB (c := leadA A i * leadA A i) (C := 81) (x := 23 * (ahP A i).2) (X := p23 i) (by omega) (by omega) (by omega)
    have e2 : ((leadA A i * leadA A i : Nat) : Int) * (23 * (ahP A i).2) = 23 * (((leadA A i * leadA A i : Nat) : Int) * (ahP A i).2) := by rw [Int.mul_left_comm]
    rw [ahP, p23, e]
    dsimp only
    omega
theorem on_B (hA : okA M A) : ∀ i, i ≤ qN A → (-p23 i ≤ (onP A i).1 ∧ (onP A i).1 ≤ p23 i) ∧ (-p23 i ≤ 23 * (onP A i).2 ∧ 23 * (onP A i).2 ≤ p23 i)
  | 0, _ => by rw [onP, p23]; decide
  | i + 1, h => by
    obtain ⟨⟨h1, h2⟩, h3, h4⟩ := on_B hA i (by omega)
    have lo := loss_b hA (i := qN A - (i + 1)) (by omega)
    have ld := lead_b hA (j := qN A - i) (by omega) (by omega)
    rw [onP, p23]
    revert lo ld
    generalize lossA A (qN A - (i + 1)) = lo
    generalize leadA A (qN A - i) = ld
    intro hlo hl
    have hld : (ld * ld : Nat) ≤ 81 := Nat.mul_le_mul (n₂ := 9) (m₂ := 9) hl hl
    have e : (ld : Int) * ld = ((ld * ld : Nat) : Int) := by rw [Int.natCast_mul]
    have b1 := nB (c := lo) (C := 19) (x := (onP A i).1) (X := p23 i) (by omega) (by omega) (by omega)
    have b2 := nB (c := ld * ld) (C := 81) (x := 23 * (onP A i).2) (X := p23 i) (by omega) (by omega) (by omega)
    have e2 : ((ld * ld : Nat) : Int) * (23 * (onP A i).2) = 23 * (((ld * ld : Nat) : Int) * (onP A i).2) := by rw [Int.mul_left_comm]
    rw [e]
    dsimp only
    omega
theorem fl_B (hA : okA M A) : ∀ i, i ≤ qN A → -(1400 * p23 i) ≤ flS A i ∧ flS A i ≤ 1400 * p23 i
  | 0, _ => by rw [flS, p23]; decide
  | i + 1, h => by
    have ih := fl_B hA i (by omega)
    have ha := (ah_B hA i (by omega)).1
    have hs := sup_B hA (i := i) (by omega)
    have ld := lead_b hA (j := i) (by omega) (by omega)
    have b1 := mulB hs.1 hs.2 ha.1 ha.2
    have b2 := nB (c := leadA A i) (C := 9) (x := flS A i) (X := 1400 * p23 i) (by omega) (by omega) (by omega)
    have hp := p23_pos i
    rw [flS, p23]
    omega
theorem fr_B (hA : okA M A) : ∀ i, i ≤ qN A → -(1400 * p23 i) ≤ frS A i ∧ frS A i ≤ 1400 * p23 i
  | 0, _ => by rw [frS, p23]; decide
  | i + 1, h => by
    have ih := fr_B hA i (by omega)
    have ha := (on_B hA i (by omega)).1
    have hs := sup_B hA (i := qN A - (i + 1)) (by omega)
    have ld := lead_b hA (j := qN A - i) (by omega) (by omega)
    have b1 := mulB hs.1 hs.2 ha.1 ha.2
    have b2 := nB (c := leadA A (qN A - i)) (C := 9) (x := frS A i) (X := 1400 * p23 i) (by omega) (by omega) (by omega)
    have hp := p23_pos i
    rw [frS, p23]
    omega
theorem wh_N (hA : okA M A) : -78310985281 ≤ whN A ∧ whN A ≤ 78310985281 := by
  have h := (ah_B hA (qN A) (by omega)).1
  have := p23_le (qN A) (ok_n hA)
  unfold whN
  omega
theorem st_B (hA : okA M A) {i : Nat} (hi : i < qN A) : -200000000000000 ≤ stG A i ∧ stG A i ≤ 200000000000000 := by
  have h8 := ok_n hA
  have f1 := fl_B hA (i + 1) (by omega)
  have f2 := fr_B hA (qN A - (i + 1)) (by omega)
  have o1 := (on_B hA (qN A - (i + 1)) (by omega)).1
  have a1 := (ah_B hA i (by omega)).1
  have ld := lead_b hA (j := i + 1) (by omega) (by omega)
  have b1 := mulB f1.1 f1.2 o1.1 o1.2
  have b2 := mulB a1.1 a1.2 f2.1 f2.2
  have b3 := nB (c := leadA A (i + 1)) (C := 9) (x := (ahP A i).1 * frS A (qN A - (i + 1))) (X := p23 i * (1400 * p23 (qN A - (i + 1)))) (by omega) b2.1 b2.2
  have e1 : 1400 * p23 (i + 1) * p23 (qN A - (i + 1)) = 1400 * p23 (qN A) := by
    rw [Int.mul_assoc, ← p23_add, show i + 1 + (qN A - (i + 1)) = qN A by omega]
  have e2 : p23 i * (1400 * p23 (qN A - (i + 1))) = 1400 * p23 (qN A - 1) := by
    rw [Int.mul_left_comm, ← p23_add, show i + (qN A - (i + 1)) = qN A - 1 by omega]
  have p1 := p23_le (qN A) h8
  have p2 := p23_le (qN A - 1) (by omega)
  have e3 : (ahP A i).1 * (leadA A (i + 1) : Int) * frS A (qN A - (i + 1)) = (leadA A (i + 1) : Int) * ((ahP A i).1 * frS A (qN A - (i + 1))) := by
    rw [Int.mul_comm (ahP A i).1, Int.mul_assoc]
  unfold stG
  rw [e3]
  rw [e1] at b1
  rw [e2] at b3
  have p3 : p23 (qN A) = 23 * p23 (qN A - 1) := by
    obtain ⟨n, hn⟩ : ∃ n, qN A = n + 1 := ⟨qN A - 1, by omega⟩
    rw [hn, p23, show n + 1 - 1 = n by omega]
  omega
/-- whether there are any -/
def finT (A : AB) (k : Nat) : Int := totI (fun i => (finA A i : Int)) k
theorem finT_0 (A : AB) : ∀ k, 0 ≤ finT A k
  | 0 => Int.le_refl 0
  | k + 1 => by
    have := finT_0 A k
    unfold finT at this ⊢
    rw [totI]
    omega
/-- E: a determinant less what leads on -/
def exE (A : AB) : Nat → Int
  | 0 => 1
  | i + 1 => finA A i * (ahP A i).1 + leadA A i * exE A i
theorem ex_eq : ∀ i, (ahP A i).1 = leadA A i * (ahP A i).2 + exE A i
  | 0 => by rw [ahP, exE]; dsimp only; omega
  | i + 1 => by
    have ih := ex_eq i
    rw [ahP, exE]
    dsimp only
    have hl : (lossA A i : Int) = leadA A i + leadA A (i + 1) + finA A i := by unfold lossA; omega
    rw [hl]
    generalize (ahP A i).1 = x at ih
    generalize (ahP A i).2 = y at ih
    generalize exE A i = z at ih
    have : z = x - leadA A i * y := by omega
    rw [this]
    grind
theorem lead_mid (hA : okA M A) {j : Nat} (h0 : 0 < j) (hj : j < qN A) : 1 ≤ leadA A j := by
  have := (okA_side hA (i := j - 1) (by omega)).1
  have := (okA_side hA (i := j) (by omega)).1
  unfold leadA
  rw [if_neg (by omega), if_neg (by omega)]
  omega
theorem lead_0 (hA : okA M A) (hn : 1 ≤ qN A) : 1 ≤ leadA A 0 ↔ qE0 A ≠ -1 := by
  have := (okA_side hA (i := 0) (by omega)).1
  unfold leadA
  rw [if_pos rfl]
  split
  · omega
  · omega
theorem lead_n (hA : okA M A) (hn : 1 ≤ qN A) : 1 ≤ leadA A (qN A) ↔ qE1 A ≠ -1 := by
  have := (okA_side hA (i := qN A - 1) (by omega)).1
  unfold leadA
  rw [if_neg (by omega), if_pos rfl]
  split
  · omega
  · omega
theorem posMul {a b : Int} (ha : 0 ≤ a) (hb : 0 ≤ b) : 0 ≤ a * b ∧ (1 ≤ a → 1 ≤ b → 1 ≤ a * b) ∧ (1 ≤ a * b → 1 ≤ a ∧ 1 ≤ b) := by
  refine ⟨Int.mul_nonneg ha hb, fun h1 h2 => ?_, fun h => ?_⟩
  · have := Int.mul_pos (a := a) (b := b) (by omega) (by omega)
    omega
  · constructor
    · by_cases e : a = 0
      · rw [e] at h; omega
      · omega
    · by_cases e : b = 0
      · rw [e] at h; omega
      · omega
theorem det_pos (hA : okA M A) : ∀ i, i < qN A → 1 ≤ (ahP A i).1 ∧ 0 ≤ (ahP A i).2 ∧ 0 ≤ exE A i ∧ (i = 0 ∨ (1 ≤ exE A i ↔ (1 ≤ leadA A 0 ∨ 1 ≤ finT A i)))
  | 0, _ => ⟨Int.le_refl 1, Int.le_refl 0, (by show (0 : Int) ≤ 1; decide), Or.inl rfl⟩
  | i + 1, h => by
    obtain ⟨h1, h2, h3, h4⟩ := det_pos hA i (by omega)
    have hm := lead_mid hA (j := i + 1) (by omega) h
    have e1 := ex_eq (A := A) (i + 1)
    have f1 := posMul (a := (finA A i : Int)) (b := (ahP A i).1) (by omega) (by omega)
    have f2 := posMul (a := (leadA A i : Int)) (b := exE A i) (by omega) (by omega)
    have f3 := posMul (a := (leadA A (i + 1) : Int)) (b := (ahP A i).1) (by omega) (by omega)
    have f3' := f3.2.1 (by omega) h1
    have eE : exE A (i + 1) = finA A i * (ahP A i).1 + leadA A i * exE A i := rfl
    have e2 : (ahP A (i + 1)).2 = (ahP A i).1 := rfl
    rw [e2] at e1 ⊢
    have hE : 0 ≤ exE A (i + 1) := by omega
    refine ⟨by omega, by omega, hE, Or.inr ?_⟩
    have hT : finT A (i + 1) = finT A i + finA A i := rfl
    have hT0 := finT_0 A i
    rw [eE, hT]
    rcases h4 with h4 | h4
    · subst h4
      have x0 : exE A 0 = 1 := rfl
      have t0 : finT A 0 = 0 := rfl
      rw [x0] at f2 ⊢
      rw [t0]
      have y0 : (ahP A 0).1 = 1 := rfl
      rw [y0]
      omega
    · by_cases e0 : i = 0
      · subst e0
        have x0 : exE A 0 = 1 := rfl
        have t0 : finT A 0 = 0 := rfl
        rw [x0] at f2 ⊢
        rw [t0]
        have y0 : (ahP A 0).1 = 1 := rfl
        rw [y0]
        omega
      · have hi := lead_mid hA (j := i) (by omega) (by omega)
        constructor
        · intro hh
          by_cases c1 : 1 ≤ (finA A i : Int) * (ahP A i).1
          · have := (f1.2.2 c1).1
            omega
          · have := (f2.2.2 (by omega)).2
            have := h4.mp this
            omega
        · intro hh
          by_cases c1 : 1 ≤ (finA A i : Int)
          · have := f1.2.1 c1 h1
            omega
          · have := h4.mpr (by omega)
            have := f2.2.1 (by omega) this
            omega
theorem wh_pos (hA : okA M A) (hn : 1 ≤ qN A) : 0 < whN A ↔ (qE0 A ≠ -1 ∨ qE1 A ≠ -1 ∨ 1 ≤ finT A (qN A)) := by
  obtain ⟨n, hn'⟩ : ∃ n, qN A = n + 1 := ⟨qN A - 1, by omega⟩
  have l0 := lead_0 hA hn
  have ln := lead_n hA hn
  obtain ⟨h1, h2, h3, h4⟩ := det_pos hA n (by omega)
  have e1 := ex_eq (A := A) (n + 1)
  have f1 := posMul (a := (finA A n : Int)) (b := (ahP A n).1) (by omega) (by omega)
  have f2 := posMul (a := (leadA A n : Int)) (b := exE A n) (by omega) (by omega)
  have f3 := posMul (a := (leadA A (n + 1) : Int)) (b := (ahP A n).1) (by omega) (by omega)
  have eE : exE A (n + 1) = finA A n * (ahP A n).1 + leadA A n * exE A n := rfl
  have e2 : (ahP A (n + 1)).2 = (ahP A n).1 := rfl
  have hT : finT A (n + 1) = finT A n + finA A n := rfl
  have hT0 := finT_0 A n
  rw [← l0, ← ln]
  unfold whN
  rw [hn', e1, e2, hT, eE]
  have key : (1 ≤ (leadA A n : Int) * exE A n) ↔ (1 ≤ leadA A 0 ∨ (1 ≤ finT A n)) := by
    by_cases e0 : n = 0
    · subst e0
      have x0 : exE A 0 = 1 := rfl
      have t0 : finT A 0 = 0 := rfl
      rw [x0, t0]
      omega
    · have hi := lead_mid hA (j := n) (by omega) (by omega)
      have h4' := h4.resolve_left e0
      constructor
      · intro hh
        exact h4'.mp (f2.2.2 hh).2
      · intro hh
        exact f2.2.1 (by omega) (h4'.mpr hh)
  constructor
  · intro hh
    by_cases c3 : 1 ≤ (leadA A (n + 1) : Int) * (ahP A n).1
    · have := (f3.2.2 c3).1
      omega
    · by_cases c1 : 1 ≤ (finA A n : Int) * (ahP A n).1
      · have := (f1.2.2 c1).1
        omega
      · have := key.mp (by omega)
        omega
  · intro hh
    by_cases c3 : 1 ≤ (leadA A (n + 1) : Int)
    · have := f3.2.1 c3 h1
      omega
    · by_cases c1 : 1 ≤ (finA A n : Int)
      · have := f1.2.1 c1 h1
        omega
      · have := key.mpr (by omega)
        omega
end STN
