/-! A step of the reference. -/
def byA (A : AB) : Nat → Nat
  | 0 => 1
  | k + 1 => byA A k / Nat.gcd (byA A k) (holdsA A k * qF A) * (holdsA A k * qF A)
theorem lcm_eq (a e : Nat) : a / Nat.gcd a e * e = Nat.lcm a e := by
  unfold Nat.lcm
  rw [Nat.mul_comm a e, Nat.mul_div_assoc e (Nat.gcd_dvd_left a e), Nat.mul_comm]
theorem gcdN_congr {T T' : Nat → Int} {l : Nat} : ∀ k, (∀ i, i < k → T i = T' i) → gcdN T l k = gcdN T' l k
  | 0, _ => rfl
  | k + 1, h => by
    unfold gcdN
    rw [gcdN_congr k (fun i hi => h i (by omega)), h k (by omega)]
theorem gcdN_mul {T : Nat → Int} {l q : Nat} : ∀ k, gcdN (fun i => q * T i) (q * l) k = q * gcdN T l k
  | 0 => rfl
  | k + 1 => by
    unfold gcdN
    rw [gcdN_mul k, Int.natCast_mul, Int.gcd_mul_left]
    simp
theorem redT_congr {T T' : Nat → Int} {l n : Nat} (h : ∀ i, i < n → T i = T' i) {i : Nat} (hi : i < n) : redT T l n i = redT T' l n i := by
  unfold redT
  rw [gcdN_congr n h, h i hi]
theorem redL_congr {T T' : Nat → Int} {l n : Nat} (h : ∀ i, i < n → T i = T' i) : redL T l n = redL T' l n := by
  unfold redL
  rw [gcdN_congr n h]
theorem redT_mul {T : Nat → Int} {l n q : Nat} (hq : 0 < q) (i : Nat) : redT (fun i => q * T i) (q * l) n i = redT T l n i := by
  unfold redT
  rw [gcdN_mul, Int.natCast_mul]
  exact Int.mul_tdiv_mul_of_pos _ _ (by omega)
theorem redL_mul {T : Nat → Int} {l n q : Nat} (hq : 0 < q) : redL (fun i => q * T i) (q * l) n = redL T l n := by
  unfold redL
  rw [gcdN_mul]
  exact Nat.mul_div_mul_left _ _ hq
section RECK
variable {S : SS} {A : AB}
theorem each_dvd {M : Int} (hA : okA M A) {i : Nat} (hi : i < qN A) : holdsA A i * qF A ∣ 24 * qF A ∧ 0 < holdsA A i * qF A := by
  have h := okA_holds hA hi
  have hf := ok_f hA
  exact ⟨Nat.mul_dvd_mul_right (Nat.dvd_of_mod_eq_zero h.2.2) _, Nat.mul_pos (by omega) (by omega)⟩
theorem by_dvd {M : Int} (hA : okA M A) : ∀ k, k ≤ qN A → byA A k ∣ 24 * qF A ∧ 0 < byA A k
  | 0, _ => ⟨Nat.one_dvd _, Nat.one_pos⟩
  | k + 1, hk => by
    have h := by_dvd hA k (by omega)
    have he := each_dvd hA (i := k) (by omega)
    unfold byA
    rw [lcm_eq]
    exact ⟨Nat.lcm_dvd h.1 he.1, Nat.lcm_pos h.2 he.2⟩
theorem by_each {M : Int} (hA : okA M A) {i : Nat} : ∀ k, k ≤ qN A → i < k → holdsA A i * qF A ∣ byA A k
  | 0, _, h => by omega
  | k + 1, hk, h => by
    unfold byA
    rw [lcm_eq]
    by_cases e : i = k
    · rw [e]; exact Nat.dvd_lcm_right _ _
    · exact Nat.dvd_trans (by_each hA k (by omega) (by omega)) (Nat.dvd_lcm_left _ _)
theorem by_le {M : Int} (hA : okA M A) {k : Nat} (hk : k ≤ qN A) : byA A k ≤ 480 := by
  have h := by_dvd hA k hk
  have hf := ok_f hA
  have := Nat.le_of_dvd (by omega) h.1
  omega
/-- the reference's numerators -/
def nextM (A : AB) (i : Nat) : Int := qS A 1 i * byA A (qN A) + gainA A i * (byA A (qN A) / (holdsA A i * qF A) : Nat) + comeA A i (qP A) * (qL A * byA A (qN A) : Nat)
theorem next_M {M : Int} (hA : okA M A) {i : Nat} (hi : i < qN A) : nextA A i = (24 * qF A / byA A (qN A) : Nat) * nextM A i := by
  have h := by_dvd hA (qN A) (Nat.le_refl _)
  have he := each_dvd hA hi
  have hb := by_each hA (i := i) (qN A) (Nat.le_refl _) hi
  have hh := okA_holds hA hi
  have hf := ok_f hA
  obtain ⟨q, hq⟩ := h.1
  obtain ⟨r, hr⟩ := hb
  have e1 : 24 * qF A / byA A (qN A) = q := by rw [hq]; exact Nat.mul_div_cancel_left _ h.2
  have e2 : byA A (qN A) / (holdsA A i * qF A) = r := by rw [hr]; exact Nat.mul_div_cancel_left _ he.2
  have e3 : 24 / holdsA A i = q * r := by
    have : 24 * qF A = (holdsA A i * (q * r)) * qF A := by
      rw [hq, hr]
      simp only [Nat.mul_assoc, Nat.mul_comm, Nat.mul_left_comm]
    have := Nat.eq_of_mul_eq_mul_right (by omega : 0 < qF A) this
    rw [this]
    exact Nat.mul_div_cancel_left _ (by omega)
  unfold nextA nextM baseA
  rw [e1, e2, e3]
  have e4 : (24 : Int) * (qF A : Int) = (byA A (qN A) : Int) * (q : Int) := by
    have := congrArg (fun n : Nat => (n : Int)) hq
    simpa using this
  rw [e4, hq]
  simp only [Int.natCast_mul]
  generalize comeA A i (qP A) = x1
  generalize gainA A i = x2
  generalize qS A 1 i = x3
  generalize (byA A (qN A) : Int) = x4
  generalize (q : Int) = x5
  generalize (r : Int) = x6
  generalize (qL A : Int) = x7
  grind
theorem line_M {M : Int} (hA : okA M A) : lineA A = (24 * qF A / byA A (qN A)) * (qL A * byA A (qN A)) ∧ 0 < 24 * qF A / byA A (qN A) := by
  have h := by_dvd hA (qN A) (Nat.le_refl _)
  have hf := ok_f hA
  obtain ⟨q, hq⟩ := h.1
  have e1 : 24 * qF A / byA A (qN A) = q := by rw [hq]; exact Nat.mul_div_cancel_left _ h.2
  have hq0 : 0 < q := Nat.pos_of_ne_zero fun z => by rw [z] at hq; omega
  rw [e1]
  refine ⟨?_, hq0⟩
  unfold lineA
  rw [hq]
  simp only [Nat.mul_assoc, Nat.mul_comm, Nat.mul_left_comm]
theorem red_M {M : Int} (hA : okA M A) : (∀ i, i < qN A → redT (nextA A) (lineA A) (qN A) i = redT (nextM A) (qL A * byA A (qN A)) (qN A) i) ∧ redL (nextA A) (lineA A) (qN A) = redL (nextM A) (qL A * byA A (qN A)) (qN A) := by
  obtain ⟨h1, h2⟩ := line_M hA
  have h : ∀ i, i < qN A → nextA A i = (24 * qF A / byA A (qN A) : Nat) * nextM A i := fun i hi => next_M hA hi
  refine ⟨fun i hi => ?_, ?_⟩
  · rw [redT_congr h hi, h1]
    exact redT_mul h2 i
  · rw [redL_congr h, h1]
    exact redL_mul h2
theorem nextM_B (hA : okA 1008000000000000 A) {i : Nat} (hi : i < qN A) : (nextM A i).natAbs ≤ 2000000000000000000 := by
  have h := next_B hA hi
  have e := next_M hA hi
  have hq := (line_M hA).2
  have : (nextA A i).natAbs = (24 * qF A / byA A (qN A)) * (nextM A i).natAbs := by
    rw [e, Int.natAbs_mul]
    rfl
  have h2 : 1 * (nextM A i).natAbs ≤ (24 * qF A / byA A (qN A)) * (nextM A i).natAbs := Nat.mul_le_mul_right _ hq
  omega
end RECK
