/-! Numbers: how the pictures hold them. -/
def b2i (p : Prop) [Decidable p] : Int32 := if p then 1 else 0
theorem b2i_t {p : Prop} [Decidable p] (h : p) : b2i p = 1 := if_pos h
theorem b2i_f {p : Prop} [Decidable p] (h : ¬ p) : b2i p = 0 := if_neg h
theorem b2i_0 {p : Prop} [Decidable p] : b2i p = 0 ↔ ¬ p := by
  by_cases h : p
  · rw [b2i_t h]; exact ⟨fun q => absurd q (by decide), fun q => absurd h q⟩
  · rw [b2i_f h]; exact ⟨fun _ => h, fun _ => rfl⟩
theorem zb_b {p : Prop} [Decidable p] : zb (b2i p) = some (b2i p) := by
  by_cases h : p
  · rw [b2i_t h]; rfl
  · rw [b2i_f h]; rfl
theorem zb_0 : zb 0 = some 0 := rfl
theorem zb_1 : zb 1 = some 1 := rfl
/-- 'if the flag is down then a else b' -/
theorem ite_b {α : Type} {p : Prop} [Decidable p] {a b : α} : (if b2i p = 0 then a else b) = if p then b else a := by
  by_cases h : p
  · rw [if_pos h, if_neg (fun q => b2i_0.mp q h)]
  · rw [if_neg h, if_pos (b2i_0.mpr h)]
def iI (z : Int) : Int32 := Int32.ofInt z
def lI (z : Int) : Int64 := Int64.ofInt z
theorem iI_n (n : Nat) : nI n = iI n := by
  unfold nI iI
  first | exact (Int32.ofInt_natCast n).symm | exact (Int32.ofInt_eq_ofNat n).symm | (apply Int32.toBitVec_inj.mp; simp)
theorem lI_n (n : Nat) : lN n = lI n := by
  unfold lN lI
  first | exact (Int64.ofInt_natCast n).symm | exact (Int64.ofInt_eq_ofNat n).symm | (apply Int64.toBitVec_inj.mp; simp)
theorem iI_toInt {z : Int} (h1 : -2147483648 ≤ z) (h2 : z < 2147483648) : (iI z).toInt = z := by
  unfold iI
  rw [Int32.toInt_ofInt, Int.bmod_eq_of_le (by simp only [Int32.size]; omega) (by simp only [Int32.size]; omega)]
theorem lI_toInt {z : Int} (h1 : -9223372036854775808 ≤ z) (h2 : z < 9223372036854775808) : (lI z).toInt = z := by
  unfold lI
  rw [Int64.toInt_ofInt, Int.bmod_eq_of_le (by simp only [Int64.size]; omega) (by simp only [Int64.size]; omega)]
theorem iI_self (v : Int32) : iI v.toInt = v := by
  unfold iI
  simp
theorem lI_self (v : Int64) : lI v.toInt = v := by
  unfold lI
  simp
theorem lI_add (a b : Int) : lI a + lI b = lI (a + b) := by unfold lI; rw [Int64.ofInt_add]
theorem lI_sub (a b : Int) : lI a - lI b = lI (a - b) := by unfold lI; rw [Int64.ofInt_sub]
theorem lI_mul (a b : Int) : lI a * lI b = lI (a * b) := by unfold lI; rw [Int64.ofInt_mul]
theorem lI_neg (a : Int) : -lI a = lI (-a) := by unfold lI; rw [Int64.ofInt_neg]
theorem iI_add (a b : Int) : iI a + iI b = iI (a + b) := by unfold iI; rw [Int32.ofInt_add]
theorem iI_sub (a b : Int) : iI a - iI b = iI (a - b) := by unfold iI; rw [Int32.ofInt_sub]
theorem iI_mul (a b : Int) : iI a * iI b = iI (a * b) := by unfold iI; rw [Int32.ofInt_mul]
theorem iI_neg (a : Int) : -iI a = iI (-a) := by unfold iI; rw [Int32.ofInt_neg]
abbrev i31 (z : Int) : Prop := -2147483648 ≤ z ∧ z < 2147483648
abbrev i63 (z : Int) : Prop := -9223372036854775808 ≤ z ∧ z < 9223372036854775808
theorem iI_wide {z : Int} (h : i31 z) : (iI z).toInt64 = lI z := by
  apply Int64.toInt_inj.mp
  rw [lI_toInt (by omega) (by omega), Int32.toInt_toInt64, iI_toInt h.1 h.2]
theorem iI_lt {a b : Int} (ha : i31 a) (hb : i31 b) : iI a < iI b ↔ a < b := by
  rw [Int32.lt_iff_toInt_lt, iI_toInt ha.1 ha.2, iI_toInt hb.1 hb.2]
theorem iI_le {a b : Int} (ha : i31 a) (hb : i31 b) : iI a ≤ iI b ↔ a ≤ b := by
  rw [Int32.le_iff_toInt_le, iI_toInt ha.1 ha.2, iI_toInt hb.1 hb.2]
theorem iI_eq {a b : Int} (ha : i31 a) (hb : i31 b) : iI a = iI b ↔ a = b := by
  rw [← Int32.toInt_inj, iI_toInt ha.1 ha.2, iI_toInt hb.1 hb.2]
theorem lI_lt {a b : Int} (ha : i63 a) (hb : i63 b) : lI a < lI b ↔ a < b := by
  rw [Int64.lt_iff_toInt_lt, lI_toInt ha.1 ha.2, lI_toInt hb.1 hb.2]
theorem lI_le {a b : Int} (ha : i63 a) (hb : i63 b) : lI a ≤ lI b ↔ a ≤ b := by
  rw [Int64.le_iff_toInt_le, lI_toInt ha.1 ha.2, lI_toInt hb.1 hb.2]
theorem lI_eq {a b : Int} (ha : i63 a) (hb : i63 b) : lI a = lI b ↔ a = b := by
  rw [← Int64.toInt_inj, lI_toInt ha.1 ha.2, lI_toInt hb.1 hb.2]
theorem iI_in {i n : Nat} (h : i < n) (hn : n < 2147483648) : jin (nI i) n := vp_in_nI h hn
theorem jin_iff {v : Int32} {n : Nat} : jin v n ↔ 0 ≤ v.toInt ∧ v.toInt < n := vp_in_iff
theorem iI_nat (i : Nat) (h : i < 2147483648) : (nI i).toNatClampNeg = i := nI_clamp h
theorem aget_n {α : Type} {n i : Nat} {f : Nat → α} (h : i < n) (hn : n < 2147483648) : aget n f (nI i) = some (f i) := by
  unfold aget
  rw [if_pos (iI_in h hn), iI_nat i (by omega)]
/-- every int is the code of its value -/
theorem i_cases (v : Int32) : ∃ z : Int, i31 z ∧ v = iI z := ⟨v.toInt, ⟨Int32.le_toInt v, Int32.toInt_lt v⟩, (iI_self v).symm⟩
theorem l_cases (v : Int64) : ∃ z : Int, i63 z ∧ v = lI z := ⟨v.toInt, ⟨Int64.le_toInt v, Int64.toInt_lt v⟩, (lI_self v).symm⟩
/-- checks -/
theorem x_between (v a b : Int32) : TX6_between v a b = some (b2i (a ≤ v ∧ v ≤ b)) := by
  unfold TX6_between
  by_cases h1 : v < a
  · rw [if_pos h1, b2i_f (fun q => Int32.not_le.mpr h1 q.1)]; rfl
  · rw [if_neg h1]
    by_cases h2 : b < v
    · rw [if_pos h2, b2i_f (fun q => Int32.not_le.mpr h2 q.2)]; rfl
    · rw [if_neg h2, b2i_t ⟨Int32.not_lt.mp h1, Int32.not_lt.mp h2⟩]; rfl
theorem m_isIn (v a b : Int64) : TX7_isIn v a b = some (b2i (a ≤ v ∧ v ≤ b)) := by
  unfold TX7_isIn
  by_cases h1 : v < a
  · rw [if_pos h1, b2i_f (fun q => Int64.not_le.mpr h1 q.1)]; rfl
  · rw [if_neg h1]
    by_cases h2 : b < v
    · rw [if_pos h2, b2i_f (fun q => Int64.not_le.mpr h2 q.2)]; rfl
    · rw [if_neg h2, b2i_t ⟨Int64.not_lt.mp h1, Int64.not_lt.mp h2⟩]; rfl
theorem b2i_congr {p q : Prop} [Decidable p] [Decidable q] (h : p ↔ q) : b2i p = b2i q := by
  by_cases hp : p
  · rw [b2i_t hp, b2i_t (h.mp hp)]
  · rw [b2i_f hp, b2i_f (fun z => hp (h.mpr z))]
/-- an int in a range of numbers -/
theorem x_rng {z a b : Int} (hz : i31 z) (ha : i31 a) (hb : i31 b) : TX6_between (iI z) (iI a) (iI b) = some (b2i (a ≤ z ∧ z ≤ b)) := by
  rw [x_between]
  exact congrArg some (b2i_congr (by rw [iI_le ha hz, iI_le hz hb]))
theorem m_rng {z a b : Int} (hz : i63 z) (ha : i63 a) (hb : i63 b) : TX7_isIn (lI z) (lI a) (lI b) = some (b2i (a ≤ z ∧ z ≤ b)) := by
  rw [m_isIn]
  exact congrArg some (b2i_congr (by rw [lI_le ha hz, lI_le hz hb]))
