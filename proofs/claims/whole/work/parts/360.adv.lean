/-! A step of the class's bar. -/
def rowL (f : Nat → Int64) (B : Nat → Int) (c : Nat) : Nat → Int64 := fun q => if q < c then lI (B q) else f q
theorem rowL_0 (f : Nat → Int64) (B : Nat → Int) : rowL f B 0 = f := funext fun q => by simp [rowL]
theorem rowL_s (f : Nat → Int64) (B : Nat → Int) (c : Nat) : (fun q => if q = c then lI (B c) else rowL f B c q) = rowL f B (c + 1) := funext fun q => by
  unfold rowL
  by_cases h : q = c
  · subst h; rw [if_pos rfl, if_pos (by omega)]
  · rw [if_neg h]
    by_cases h2 : q < c
    · rw [if_pos h2, if_pos (by omega)]
    · rw [if_neg h2, if_neg (by omega)]
theorem rowL_rowL (f : Nat → Int64) (B C : Nat → Int) (n : Nat) : rowL (rowL f B n) C n = rowL f C n := funext fun q => by
  unfold rowL
  by_cases h : q < n
  · rw [if_pos h, if_pos h]
  · rw [if_neg h, if_neg h, if_neg h]
theorem rowL_lt {f : Nat → Int64} {B : Nat → Int} {c i : Nat} (h : i < c) : rowL f B c i = lI (B i) := if_pos h
theorem redF_row (f : Nat → Int64) (T : Nat → Int) (g i : Nat) : redF f T g i = rowL f (fun q => (T q).tdiv g) i := rfl
theorem sAL_row (S : SS) (a i : Nat) (f : Nat → Int64) (B : Nat → Int) : sAL (sRL S a (rowL f B i)) a i (lI (B i)) = sRL S a (rowL f B (i + 1)) := by
  show (S.1, S.2.1, S.2.2.1, up2 (va_up S.2.2.2 a (rowL f B i)) a i _) = (S.1, S.2.1, S.2.2.1, va_up S.2.2.2 a _)
  rw [up2_row, rowL_s]
theorem sRL_sRL (S : SS) (a : Nat) (f g : Nat → Int64) : sRL (sRL S a f) a g = sRL S a g := by
  show (S.1, S.2.1, S.2.2.1, va_up (va_up S.2.2.2 a f) a g) = _
  rw [va_up2]
theorem sRL_id (S : SS) (a : Nat) : sRL S a (S.2.2.2 a) = S := by
  show (S.1, S.2.1, S.2.2.1, va_up S.2.2.2 a (S.2.2.2 a)) = S
  rw [va_up_id]
/-- a row of longs that the bar doesn't look at -/
theorem CB_row {S : SS} {b k : Nat} {A : AB} {f : Nat → Int64} (hk : k ≠ b + 8) (h : CB S b A) : CB (sRL S k f) b A := by
  obtain ⟨h1, h2, h3, h4, h5, h6, h7, h8, h9⟩ := h
  refine ⟨h1, h2, h3, h4, h5, h6, h7, fun i hi => ?_, h9⟩
  obtain ⟨g1, g2, g3, g4, g5, g6, g7, g8⟩ := h8 i hi
  exact ⟨g1, g2, g3, g4, g5, g6, g7, by show va_up S.2.2.2 k f (b + 8) i = _; rw [va_up_ne _ _ (by omega)]; exact g8⟩
/-- the next numerators over 24 FINE times the line, pulses aside -/
def baseA (A : AB) (i : Nat) : Int := qS A 1 i * (24 * qF A) + gainA A i * (24 / holdsA A i : Nat)
section ADV
variable {S : SS} {A : AB} {M : Int} {b : Nat}
theorem x_q24 (hA : okA M A) {i : Nat} (hi : i < qN A) : TX6_quotient 24 (Int32.toInt64 (nI (holdsA A i))) = some (lI ((24 / holdsA A i : Nat) : Int)) := by
  have := okA_holds hA hi
  rw [nI_z, iI_wide (by omega), show (24 : Int64) = lI 24 by decide, x_quot (by omega) (by omega) (by omega)]
  congr 1
theorem x_advL (h : CB S b A) (hA : okA M A) : ∀ (m i n : Nat), i + m = qN A → m + 1 ≤ n →
    TX0_advance_L11 b n (lI (24 * qF A)) (nI i) (sRL S (b + 14) (rowL (S.2.2.2 (b + 14)) (baseA A) i)) = TX0_advance_L11 b (n - m) (lI (24 * qF A)) (nI (qN A)) (sRL S (b + 14) (rowL (S.2.2.2 (b + 14)) (baseA A) (qN A))) := by
  have h8 := hA.1
  intro m
  induction m with
  | zero =>
    intro i n hi hn
    rw [show i = qN A by omega]
    rfl
  | succ m ih =>
    intro i n hi hn
    obtain ⟨n, rfl⟩ : ∃ q, n = q + 1 := ⟨n - 1, by omega⟩
    have h' := CB_row (k := b + 14) (f := rowL (S.2.2.2 (b + 14)) (baseA A) i) (by omega) h
    obtain ⟨g1, g2, g3, g4, g5, g6, g7, g8⟩ := h'.2.2.2.2.2.2.2.1 i (by omega)
    rw [TX0_advance_L11]
    rw [h'.1, if_neg (by rw [nI_cmp (by omega) (by omega)]; omega), aget_n (by omega) (by decide), Option.bind_some, g8, x_gain h' hA (by omega), Option.bind_some, aget_n (by omega) (by decide), Option.bind_some, g6, x_q24 hA (by omega), Option.bind_some, if_pos (iI_in (by omega) (by decide)), iI_nat i (by omega), lI_mul, lI_mul, lI_add]
    unfold letS
    have e := sAL_row S (b + 14) i (S.2.2.2 (b + 14)) (baseA A)
    unfold baseA at e ⊢
    rw [e, nI_1]
    have ih' := ih (i + 1) n (by omega) (by omega)
    unfold baseA at ih'
    rw [show n + 1 - (m + 1) = n - m by omega]
    exact ih'
/-- the pulses that come with the next step, of cell i, among the first p -/
def comeA (A : AB) (i : Nat) : Nat → Int
  | 0 => 0
  | p + 1 => comeA A i p + if qK A 4 p = 1 ∧ qK A 3 p = i then qS A 2 p else 0
theorem x_warmL {p a : Nat} {B : Nat → Int} {l : Int} (hN : S.1 p 3 = nI (qP A)) (hC : PC S (p + 1) A) (hA : okA M A) (hB : ∀ i, i < qN A → S.2.2.2 a i = lI (B i)) : ∀ (m r n : Nat), r + m = qP A → m + 1 ≤ n →
    TX2_warmNext_L3 p a 8 n (lI l) (nI r) (sRL S a (rowL (S.2.2.2 a) (fun i => B i + comeA A i r * l) (qN A))) = some (sRL S a (rowL (S.2.2.2 a) (fun i => B i + comeA A i (qP A) * l) (qN A))) := by
  have h8 := hA.1
  have h12 := hA.2.1
  intro m
  induction m with
  | zero =>
    intro r n hr hn
    obtain ⟨n, rfl⟩ : ∃ q, n = q + 1 := ⟨n - 1, by omega⟩
    rw [TX2_warmNext_L3]
    rw [show (sRL S a (rowL (S.2.2.2 a) (fun i => B i + comeA A i r * l) (qN A))).1 p 3 = nI (qP A) from hN, if_pos (by rw [nI_cmp (by omega) (by omega)]; omega), show r = qP A by omega]
  | succ m ih =>
    intro r n hr hn
    obtain ⟨n, rfl⟩ : ∃ q, n = q + 1 := ⟨n - 1, by omega⟩
    obtain ⟨g1, g2, g3⟩ := hC r (by omega)
    obtain ⟨k1', k2', k3', k4', k5'⟩ := hA.2.2.2.2.2.2.2.2.2.2.2.2 r (by omega)
    have ih' := ih (r + 1) n (by omega) (by omega)
    rw [TX2_warmNext_L3]
    rw [show (sRL S a (rowL (S.2.2.2 a) (fun i => B i + comeA A i r * l) (qN A))).1 p 3 = nI (qP A) from hN, if_neg (by rw [nI_cmp (by omega) (by omega)]; omega)]
    have a2 : aget 12 ((sRL S a (rowL (S.2.2.2 a) (fun i => B i + comeA A i r * l) (qN A))).2.2.1 (p + 2)) (nI r) = some (nI (qK A 4 r)) := by rw [aget_n (by omega) (by decide)]; exact congrArg some g2
    have a1 : aget 12 ((sRL S a (rowL (S.2.2.2 a) (fun i => B i + comeA A i r * l) (qN A))).2.2.1 (p + 1)) (nI r) = some (nI (qK A 3 r)) := by rw [aget_n (by omega) (by decide)]; exact congrArg some g1
    have a3 : aget 12 ((sRL S a (rowL (S.2.2.2 a) (fun i => B i + comeA A i r * l) (qN A))).2.2.1 (p + 3)) (nI r) = some (iI (qS A 2 r)) := by rw [aget_n (by omega) (by decide)]; exact congrArg some g3
    have ax : aget 8 ((sRL S a (rowL (S.2.2.2 a) (fun i => B i + comeA A i r * l) (qN A))).2.2.2 a) (nI (qK A 3 r)) = some (lI (B (qK A 3 r) + comeA A (qK A 3 r) r * l)) := by
      rw [aget_n (by omega) (by decide)]
      show some (va_up S.2.2.2 a _ a _) = _
      rw [va_up_self, rowL_lt k1']
    have n0 : ¬ (nI (qK A 3 r) < 0) := by
      rw [iI_n, show (0 : Int32) = iI 0 by decide, iI_lt (by omega) (by omega)]
      omega
    have n8 : ¬ (Int32.ofNat 8 ≤ nI (qK A 3 r)) := by
      rw [show Int32.ofNat 8 = nI 8 from rfl, nI_cmp (by omega) (by omega)]
      omega
    rw [a1, Option.bind_some, a2, Option.bind_some, nI_1]
    have c1 : nI (qK A 4 r) = 1 ↔ qK A 4 r = 1 := by rw [show (1 : Int32) = nI 1 from rfl, nI_eq (by omega) (by omega)]
    by_cases e : qK A 4 r = 1
    · rw [if_pos (c1.mpr e), if_neg n0, if_neg n8, ax, Option.bind_some, a3, Option.bind_some, if_pos (iI_in (by omega) (by decide)), iI_nat _ (by omega), iI_wide (by omega), lI_mul, lI_add]
      unfold letS
      refine Eq.trans ?_ ih'
      congr 1
      show (S.1, S.2.1, S.2.2.1, up2 (va_up S.2.2.2 a _) a (qK A 3 r) _) = (S.1, S.2.1, S.2.2.1, va_up S.2.2.2 a _)
      rw [up2_row]
      congr 4
      funext q
      unfold rowL
      by_cases hq : q = qK A 3 r
      · rw [if_pos hq, if_pos (by omega), hq]
        congr 1
        simp only [comeA, e, and_self, if_true, Int.add_mul]
        omega
      · rw [if_neg hq]
        by_cases hq2 : q < qN A
        · rw [if_pos hq2, if_pos hq2]
          simp only [comeA]
          rw [if_neg (fun z => hq z.2.symm), Int.add_zero]
        · rw [if_neg hq2, if_neg hq2]
    · rw [if_neg (fun q => e (c1.mp q))]
      refine Eq.trans ?_ ih'
      congr 3
      funext i
      simp only [comeA]
      rw [if_neg (fun z => e z.1), Int.add_zero]
theorem x_warm {p a : Nat} {B : Nat → Int} {l : Int} (hN : S.1 p 3 = nI (qP A)) (hC : PC S (p + 1) A) (hA : okA M A) (hB : ∀ i, i < qN A → S.2.2.2 a i = lI (B i)) : TX2_warmNext p a 8 (lI l) S = some (sRL S a (rowL (S.2.2.2 a) (fun i => B i + comeA A i (qP A) * l) (qN A))) := by
  have hf : fu = 4096 := rfl
  have h12 := hA.2.1
  have h := x_warmL (l := l) hN hC hA hB (qP A) 0 fu (by omega) (by rw [hf]; omega)
  have e : rowL (S.2.2.2 a) (fun i => B i + comeA A i 0 * l) (qN A) = S.2.2.2 a := funext fun q => by
    unfold rowL
    by_cases hq : q < qN A
    · rw [if_pos hq, hB q hq]
      simp [comeA]
    · rw [if_neg hq]
  rw [e, sRL_id] at h
  unfold TX2_warmNext
  exact h
end ADV
