/-! The least line: both divide by the same. -/
def gcdN (T : Nat → Int) (l : Nat) : Nat → Nat
  | 0 => l
  | k + 1 => Int.gcd (gcdN T l k) (T k)
theorem gcdN_pos {T : Nat → Int} {l : Nat} (hl : 0 < l) : ∀ k, 0 < gcdN T l k
  | 0 => hl
  | k + 1 => Int.gcd_pos_of_ne_zero_left _ (by have := gcdN_pos (T := T) hl k; omega)
theorem gcdN_dvd {T : Nat → Int} {l : Nat} : ∀ k, gcdN T l k ∣ l
  | 0 => Nat.dvd_refl _
  | k + 1 => Nat.dvd_trans (Int.ofNat_dvd.mp (Int.gcd_dvd_left ..)) (gcdN_dvd k)
theorem gcdN_step {T : Nat → Int} {l : Nat} (k : Nat) : gcdN T l (k + 1) ∣ gcdN T l k := Int.ofNat_dvd.mp (Int.gcd_dvd_left ..)
theorem gcdN_mono {T : Nat → Int} {l : Nat} {j : Nat} : ∀ k, j ≤ k → gcdN T l k ∣ gcdN T l j
  | 0, h => by rw [Nat.le_zero.mp h]; exact Nat.dvd_refl _
  | k + 1, h => by
    by_cases e : j = k + 1
    · rw [e]; exact Nat.dvd_refl _
    · exact Nat.dvd_trans (gcdN_step k) (gcdN_mono k (by omega))
theorem gcdN_T {T : Nat → Int} {l k i : Nat} (hi : i < k) : (gcdN T l k : Int) ∣ T i := by
  have h1 : (gcdN T l (i + 1) : Int) ∣ T i := Int.gcd_dvd_right ..
  exact Int.dvd_trans (Int.ofNat_dvd.mpr (gcdN_mono k hi)) h1
theorem gcdN_le {T : Nat → Int} {l : Nat} (hl : 0 < l) (k : Nat) : gcdN T l k ≤ l := Nat.le_of_dvd hl (gcdN_dvd k)
/-- the row with its first i places divided -/
def redF (f : Nat → Int64) (T : Nat → Int) (g : Nat) (i : Nat) : Nat → Int64 := fun q => if q < i then lI ((T q).tdiv g) else f q
theorem va_up_id {α : Type} (F : Nat → α) (a : Nat) : va_up F a (F a) = F := funext fun q => by
  by_cases h : q = a
  · subst h; rw [va_up_self]
  · rw [va_up_ne _ _ h]
theorem redF_0 (f : Nat → Int64) (T : Nat → Int) (g : Nat) : redF f T g 0 = f := funext fun q => by simp [redF]
theorem up2_row {α : Type} (F : Nat → Nat → α) (a i : Nat) (r : Nat → α) (v : α) : up2 (va_up F a r) a i v = va_up F a (fun q => if q = i then v else r q) := funext fun x => funext fun y => by
  by_cases h : x = a
  · subst h
    by_cases hy : y = i
    · subst hy; simp [up2, va_up]
    · simp [up2, va_up, hy]
  · simp [up2, va_up, h]
theorem redF_s (f : Nat → Int64) (T : Nat → Int) (g i : Nat) : (fun q => if q = i then lI ((T i).tdiv g) else redF f T g i q) = redF f T g (i + 1) := funext fun q => by
  unfold redF
  by_cases h : q = i
  · subst h; rw [if_pos rfl, if_pos (by omega)]
  · rw [if_neg h]
    by_cases h2 : q < i
    · rw [if_pos h2, if_pos (by omega)]
    · rw [if_neg h2, if_neg (by omega)]
theorem sAL_red (S : SS) (a i : Nat) (T : Nat → Int) (g : Nat) (f : Nat → Int64) : sAL (sRL S a (redF f T g i)) a i (lI ((T i).tdiv g)) = sRL S a (redF f T g (i + 1)) := by
  show (S.1, S.2.1, S.2.2.1, up2 (va_up S.2.2.2 a (redF f T g i)) a i _) = (S.1, S.2.1, S.2.2.1, va_up S.2.2.2 a _)
  rw [up2_row, redF_s]
theorem tdiv_l63 {z : Int} {g : Nat} (h : l63 z) : l63 (z.tdiv g) := by
  have h3 : (z.tdiv g).natAbs ≤ z.natAbs := by
    rw [Int.natAbs_tdiv]
    exact Nat.div_le_self _ _
  omega
theorem nI_cmp {a b : Nat} (ha : a < 2147483648) (hb : b < 2147483648) : nI a ≤ nI b ↔ a ≤ b := nI_leI ha hb
section RED
variable {S : SS} {b a n1 N : Nat} {T : Nat → Int} {l : Nat}
theorem x_redL6 (hN : S.1 b 0 = nI N) (h8 : N ≤ n1) (hn1 : n1 < 1000) (hT : ∀ i, i < N → S.2.2.2 a i = lI (T i)) (hb : ∀ i, i < N → l63 (T i)) (hl : 0 < l) (hl2 : l < 9223372036854775808) : ∀ (m i n : Nat), i + m = N → m + 1 ≤ n → TX0_reduce_L6 b a n1 n (lN l) (lN (gcdN T l i)) (nI i) S = TX0_reduce_L35 b a n1 fu (lN l) (lN (gcdN T l N)) 0 S := by
  intro m
  induction m with
  | zero =>
    intro i n hi hn
    obtain ⟨n, rfl⟩ : ∃ q, n = q + 1 := ⟨n - 1, by omega⟩
    unfold TX0_reduce_L6
    rw [hN, if_pos (by rw [nI_cmp (by omega) (by omega)]; omega), show i = N by omega]
  | succ m ih =>
    intro i n hi hn
    obtain ⟨n, rfl⟩ : ∃ q, n = q + 1 := ⟨n - 1, by omega⟩
    have g1 := gcdN_le (T := T) hl i
    unfold TX0_reduce_L6
    rw [hN, if_neg (by rw [nI_cmp (by omega) (by omega)]; omega), aget_n (by omega) (by omega), Option.bind_some, hT i (by omega), lI_n (gcdN T l i), x_gcd (by omega) (hb i (by omega)), Option.bind_some, nI_1]
    exact ih (i + 1) n (by omega) (by omega)
theorem x_redL35 (hN : S.1 b 0 = nI N) (h8 : N ≤ n1) (hn1 : n1 < 1000) (hT : ∀ i, i < N → S.2.2.2 a i = lI (T i)) (hb : ∀ i, i < N → l63 (T i)) (hl : 0 < l) (hl2 : l < 9223372036854775808) {g : Nat} (hg : 0 < g) (hg2 : g < 9223372036854775808) : ∀ (m i n : Nat), i + m = N → m + 1 ≤ n → TX0_reduce_L35 b a n1 n (lN l) (lN g) (nI i) (sRL S a (redF (S.2.2.2 a) T g i)) = some (lN (l / g), sRL S a (redF (S.2.2.2 a) T g N)) := by
  intro m
  induction m with
  | zero =>
    intro i n hi hn
    obtain ⟨n, rfl⟩ : ∃ q, n = q + 1 := ⟨n - 1, by omega⟩
    unfold TX0_reduce_L35
    rw [show (sRL S a (redF (S.2.2.2 a) T g i)).1 b 0 = nI N from hN, if_pos (by rw [nI_cmp (by omega) (by omega)]; omega), show i = N by omega, lI_n l, lI_n g, x_quot (by omega) (by omega) (by omega), Option.bind_some, ← Int.ofNat_tdiv, ← lI_n]
  | succ m ih =>
    intro i n hi hn
    obtain ⟨n, rfl⟩ : ∃ q, n = q + 1 := ⟨n - 1, by omega⟩
    unfold TX0_reduce_L35
    have hv : (sRL S a (redF (S.2.2.2 a) T g i)).2.2.2 a i = lI (T i) := by
      show va_up S.2.2.2 a _ a i = _
      rw [va_up_self]
      unfold redF
      rw [if_neg (by omega), hT i (by omega)]
    rw [show (sRL S a (redF (S.2.2.2 a) T g i)).1 b 0 = nI N from hN, if_neg (by rw [nI_cmp (by omega) (by omega)]; omega), aget_n (by omega) (by omega), Option.bind_some, hv, lI_n g, x_quot (hb i (by omega)) (by omega) (by omega), Option.bind_some, if_pos (iI_in (by omega) (by omega)), iI_nat i (by omega)]
    unfold letS
    rw [sAL_red, nI_1, ← lI_n]
    exact ih (i + 1) n (by omega) (by omega)
theorem x_reduce (hN : S.1 b 0 = nI N) (h8 : N ≤ n1) (hn1 : n1 < 1000) (hT : ∀ i, i < N → S.2.2.2 a i = lI (T i)) (hb : ∀ i, i < N → l63 (T i)) (hl : 0 < l) (hl2 : l < 9223372036854775808) : TX0_reduce b a n1 (lN l) S = some (lN (l / gcdN T l N), sRL S a (redF (S.2.2.2 a) T (gcdN T l N) N)) := by
  unfold TX0_reduce
  have hf : fu = 4096 := rfl
  have h1 := x_redL6 (b := b) (a := a) (T := T) (l := l) hN h8 hn1 hT hb hl hl2 N 0 fu (by omega) (by rw [hf]; omega)
  have g1 := gcdN_le (T := T) hl N
  have h2 := x_redL35 (b := b) (a := a) (T := T) (l := l) hN h8 hn1 hT hb hl hl2 (gcdN_pos (T := T) hl N) (by omega) N 0 fu (by omega) (by rw [hf]; omega)
  rw [redF_0, show sRL S a (S.2.2.2 a) = S by show (S.1, S.2.1, S.2.2.1, va_up S.2.2.2 a (S.2.2.2 a)) = S; rw [va_up_id]] at h2
  exact h1.trans h2
end RED
