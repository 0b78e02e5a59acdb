/-! The reference reckons and goes. -/
section GOES
variable {S S' : SS} {A : AB}
def pMn (t k _ : Nat) : Prop := t = 3 ∧ k = 79
theorem MM_frn (h : FR pMn S S') (c : MM S A) : MM S' A :=
  ⟨MC_fr h (fun z => by unfold pMn at z; omega) (fun k h1 h2 z => by unfold pMn at z; omega) c.1, MH_fr h (fun z => by unfold pMn at z; omega) (fun z => by unfold pMn at z; omega) (fun z => by unfold pMn at z; omega) (fun k h1 h2 z => by unfold pMn at z; omega) c.2⟩
theorem m_fine (h : MC S A) : aget 2 (S.2.2.1 71) 0 = some (nI (qF A)) := by
  rw [show (0 : Int32) = nI 0 from rfl, aget_n (by omega) (by decide), h.2.1]
/-- dividing -/
theorem m_rk199 {T : Nat → Int} {l g : Nat} (h : MM S A) (h8 : qN A ≤ 8) (hT : ∀ i, i < qN A → S.2.2.2 79 i = lI (T i)) (hb : ∀ i, i < qN A → l63 (T i)) (hl2 : l < 9223372036854775808) (hg : 0 < g) (hg2 : g < 9223372036854775808) :
    WP (TX7_reckons_L199 fu (lN g) (lN l) 0 S) (fun r => r.1 = lN (l / g) ∧ FR pMn S r.2 ∧ ∀ i, i < qN A → r.2.2.2.2 79 i = lI ((T i).tdiv g)) := by
  refine wp_up (F := fun n i s => TX7_reckons_L199 n (lN g) (lN l) (nI i) s) (N := qN A) (I := fun i s => FR pMn S s ∧ ∀ q, q < qN A → s.2.2.2 79 q = lI (if q < i then (T q).tdiv g else T q)) ?_ ?_ 0 S fu (by omega) ⟨FR_refl, fun q hq => by rw [if_neg (by omega)]; exact hT q hq⟩ (by rw [fu_eq]; omega)
  · intro n i s hi ⟨hF, hI⟩ k
    have hB := MM_frn hF h
    have hv := hI i hi
    rw [if_neg (by omega)] at hv
    show WP (TX7_reckons_L199 (n + 1) (lN g) (lN l) (nI i) s) _
    rw [TX7_reckons_L199, hB.1.1]
    simp (disch := omega) only [letS, Option.bind_some, aget_n, ite_jin, iI_nat, nI_1, nI_leI', nI_ltI', nI_eqI', up2_s, up2_n, va_up_s, va_up_n, if_neg]
    rw [hv, lI_n g, m_quot (hb i hi) (by omega) (by omega), ← lI_n]
    simp only [Option.bind_some]
    refine k _ ⟨FR_AL hF (by unfold pMn; omega), fun q hq => ?_⟩
    simp only [up2_s, va_up_at]
    by_cases e : q = i
    · rw [if_pos e, e, if_pos (by omega)]
    · rw [if_neg e, hI q hq]
      congr 1
      by_cases e2 : q < i
      · rw [if_pos e2, if_pos (by omega)]
      · rw [if_neg e2, if_neg (by omega)]
  · intro n s ⟨hF, hI⟩
    have hB := MM_frn hF h
    show WP (TX7_reckons_L199 (n + 1) (lN g) (lN l) (nI (qN A)) s) _
    rw [TX7_reckons_L199, hB.1.1]
    simp (disch := omega) only [letS, Option.bind_some, aget_n, ite_jin, iI_nat, nI_1, nI_leI', nI_ltI', nI_eqI', up2_s, up2_n, va_up_s, va_up_n, if_pos]
    rw [lI_n l, lI_n g, m_quot (by omega) (by omega) (by omega), ← Int.ofNat_tdiv, ← lI_n]
    simp only [Option.bind_some]
    exact wp_some ⟨rfl, hF, fun i hi => by have := hI i hi; rw [if_pos hi] at this; exact this⟩
/-- the divisor of all -/
theorem m_rk169 {T : Nat → Int} {l : Nat} (h : MM S A) (h8 : qN A ≤ 8) (hT : ∀ i, i < qN A → S.2.2.2 79 i = lI (T i)) (hb : ∀ i, i < qN A → l63 (T i)) (hl : 0 < l) (hl2 : l < 9223372036854775808) : ∀ (m i n : Nat), i + m = qN A → m + 1 ≤ n → TX7_reckons_L169 n (lN (gcdN T l i)) (lN l) (nI i) S = TX7_reckons_L199 fu (lN (gcdN T l (qN A))) (lN l) 0 S := by
  intro m
  induction m with
  | zero =>
    intro i n hi hn
    obtain ⟨n, rfl⟩ : ∃ q, n = q + 1 := ⟨n - 1, by omega⟩
    rw [TX7_reckons_L169, h.1.1, if_pos (by rw [nI_cmp (by omega) (by omega)]; omega), show i = qN A by omega]
  | succ m ih =>
    intro i n hi hn
    obtain ⟨n, rfl⟩ : ∃ q, n = q + 1 := ⟨n - 1, by omega⟩
    have g1 := gcdN_le (T := T) hl i
    rw [TX7_reckons_L169, h.1.1, if_neg (by rw [nI_cmp (by omega) (by omega)]; omega), aget_n (by omega) (by omega), Option.bind_some, hT i (by omega), lI_n (gcdN T l i), m_gcd (hb i (by omega)) (by omega), Option.bind_some, nI_1, Int.gcd_comm]
    exact ih (i + 1) n (by omega) (by omega)
/-- pulses come -/
theorem m_rk113 {B : Nat → Int} {l : Nat} (h : MM S A) (hA : okA 1008000000000000 A) (hB : ∀ i, i < qN A → S.2.2.2 79 i = lI (B i)) {Q : Int64 × SS → Prop} (hk : ∀ s, FR pMn S s → (∀ i, i < qN A → s.2.2.2 79 i = lI (B i + comeA A i (qP A) * l)) → WP (TX7_reckons_L169 fu (lN l) (lN l) 0 s) Q) : WP (TX7_reckons_L113 fu (lN l) 0 S) Q := by
  have h8 := ok_n hA
  have hp12 := ok_p hA
  refine wp_up (F := fun n i s => TX7_reckons_L113 n (lN l) (nI i) s) (N := qP A) (I := fun p s => FR pMn S s ∧ ∀ i, i < qN A → s.2.2.2 79 i = lI (B i + comeA A i p * l)) ?_ ?_ 0 S fu (by omega) ⟨FR_refl, fun q hq => by rw [hB q hq]; simp [comeA]⟩ (by rw [fu_eq]; omega)
  · intro n p s hi ⟨hF, hI⟩ k
    have hM := MM_frn hF h
    obtain ⟨g1, g2, g3⟩ := hM.2.2.2.2 p hi
    obtain ⟨k1, k2, k3, k4, k5⟩ := ok_q hA hi
    show WP (TX7_reckons_L113 (n + 1) (lN l) (nI p) s) _
    rw [TX7_reckons_L113, hM.2.2.1]
    simp (disch := omega) only [letS, Option.bind_some, aget_n, ite_jin, iI_nat, nI_1, nI_leI', nI_ltI', nI_eqI', up2_s, up2_n, va_up_s, va_up_n, if_neg]
    rw [g2, show (1 : Int32) = nI 1 from rfl]
    by_cases e : qK A 4 p = 1
    · rw [if_pos (by rw [e]), g1, g3]
      simp (disch := omega) only [letS, Option.bind_some, aget_n, ite_jin, iI_nat, nI_1, nI_leI', nI_ltI', nI_eqI', up2_s, up2_n, va_up_s, va_up_n, iI_wideI]
      rw [hI _ k1, lI_n, lI_mul, lI_add]
      refine k _ ⟨FR_AL hF (by unfold pMn; omega), fun q hq => ?_⟩
      simp only [up2_s, va_up_at]
      by_cases e2 : q = qK A 3 p
      · rw [if_pos e2, e2]
        simp only [comeA, e, and_self, if_true, Int.add_mul]
        congr 1
        omega
      · rw [if_neg e2, hI q hq]
        simp only [comeA]
        rw [if_neg (fun z => e2 z.2.symm), Int.add_zero]
    · rw [if_neg (by rw [nI_eq (by omega) (by omega)]; exact e)]
      refine k _ ⟨hF, fun q hq => ?_⟩
      rw [hI q hq]
      simp only [comeA]
      rw [if_neg (fun z => e z.1), Int.add_zero]
  · intro n s ⟨hF, hI⟩
    have hM := MM_frn hF h
    show WP (TX7_reckons_L113 (n + 1) (lN l) (nI (qP A)) s) _
    rw [TX7_reckons_L113, hM.2.2.1]
    simp (disch := omega) only [letS, Option.bind_some, aget_n, ite_jin, iI_nat, nI_1, nI_leI', nI_ltI', nI_eqI', up2_s, up2_n, va_up_s, va_up_n, if_pos]
    exact hk s hF hI
theorem m_rk4 (h : MM S A) (hA : okA 1008000000000000 A) : ∀ (m i n : Nat), i + m = qN A → m + 1 ≤ n → TX7_reckons_L4 n (lN (byA A i)) (nI i) S = TX7_reckons_L55 fu (lN (byA A (qN A))) (lN (qL A * byA A (qN A))) 0 S := by
  have h8 := ok_n hA
  have hf := ok_f hA
  intro m
  induction m with
  | zero =>
    intro i n hi hn
    obtain ⟨n, rfl⟩ : ∃ q, n = q + 1 := ⟨n - 1, by omega⟩
    rw [TX7_reckons_L4, h.1.1, if_pos (by rw [nI_cmp (by omega) (by omega)]; omega), show i = qN A by omega, h.2.1]
    congr 1
    rw [lI_n, lI_n, lI_n, lI_mul, Int.natCast_mul]
  | succ m ih =>
    intro i n hi hn
    obtain ⟨n, rfl⟩ : ∃ q, n = q + 1 := ⟨n - 1, by omega⟩
    have hh := okA_holds hA (i := i) (by omega)
    have he : holdsA A i * qF A ≤ 8 * 20 := Nat.mul_le_mul hh.2.1 hf.2
    have hb := by_le hA (k := i) (by omega)
    have hd := by_dvd hA i (by omega)
    have hg : 0 < Nat.gcd (byA A i) (holdsA A i * qF A) := Nat.gcd_pos_of_pos_left _ hd.2
    have hg2 : Nat.gcd (byA A i) (holdsA A i * qF A) ≤ byA A i := Nat.gcd_le_left _ hd.2
    rw [TX7_reckons_L4, h.1.1, if_neg (by rw [nI_cmp (by omega) (by omega)]; omega), m_holds h.1 hA (by omega), Option.bind_some, m_fine h.1, Option.bind_some, pk_mul, nI_wideI (by omega), lI_n (byA A i), m_gcd (by omega) (by omega), Option.bind_some, Int.gcd_natCast_natCast, lI_n, m_quot (by omega) (by omega) (by omega), Option.bind_some, nI_1, ← Int.ofNat_tdiv, lI_mul, ← Int.natCast_mul, ← lI_n]
    exact ih (i + 1) n (by omega) (by omega)
theorem m_reckons (h : MM S A) (hA : okA 1008000000000000 A) : WP (TX7_reckons S) (fun r => r.1 = lN (redL (nextA A) (lineA A) (qN A)) ∧ FR pMn S r.2 ∧ ∀ i, i < qN A → r.2.2.2.2 79 i = lI (redT (nextA A) (lineA A) (qN A) i)) := by
  have h8 := ok_n hA
  have hf := ok_f hA
  have hl := ok_l hA
  have hd := by_dvd hA (qN A) (Nat.le_refl _)
  have hby := by_le hA (k := qN A) (Nat.le_refl _)
  have hl1 : 0 < qL A * byA A (qN A) := Nat.mul_pos (by omega) hd.2
  have hl2 : qL A * byA A (qN A) ≤ 1000000000000 * 480 := Nat.mul_le_mul hl.2 hby
  unfold TX7_reckons
  have e0 := m_rk4 h hA (qN A) 0 fu (by omega) (by rw [fu_eq]; omega)
  refine wp_eq e0 ?_
  refine wp_up (F := fun n i s => TX7_reckons_L55 n (lN (byA A (qN A))) (lN (qL A * byA A (qN A))) (nI i) s) (N := qN A) (I := fun i s => FR pMn S s ∧ ∀ q, q < i → s.2.2.2 79 q = lI (qS A 1 q * byA A (qN A) + gainA A q * (byA A (qN A) / (holdsA A q * qF A) : Nat))) ?_ ?_ 0 S fu (by omega) ⟨FR_refl, by omega⟩ (by rw [fu_eq]; omega)
  · intro n i s hi ⟨hF, hI⟩ k
    have hM := MM_frn hF h
    have hh := okA_holds hA hi
    have he : holdsA A i * qF A ≤ 8 * 20 := Nat.mul_le_mul hh.2.1 hf.2
    have he0 : 0 < holdsA A i * qF A := Nat.mul_pos (by omega) (by omega)
    show WP (TX7_reckons_L55 (n + 1) (lN (byA A (qN A))) (lN (qL A * byA A (qN A))) (nI i) s) _
    rw [TX7_reckons_L55, hM.1.1]
    simp (disch := omega) only [letS, Option.bind_some, aget_n, ite_jin, iI_nat, nI_1, nI_leI', nI_ltI', nI_eqI', up2_s, up2_n, va_up_s, va_up_n, if_neg]
    rw [m_change hM hA hi, Option.bind_some, m_holds hM.1 hA hi, Option.bind_some, m_fine hM.1, Option.bind_some, pk_mul, nI_wideI (by omega), lI_n (byA A (qN A)), m_quot (by omega) (by omega) (by omega), Option.bind_some, hM.2.2.2.1 i hi, lI_mul, lI_mul, lI_add, ← lI_n, ← Int.ofNat_tdiv]
    refine k _ ⟨FR_AL hF (by unfold pMn; omega), fun q hq => ?_⟩
    simp only [up2_s, va_up_at]
    by_cases e : q = i
    · rw [if_pos e, e]
    · rw [if_neg e]; exact hI q (by omega)
  · intro n s ⟨hF, hI⟩
    have hM := MM_frn hF h
    show WP (TX7_reckons_L55 (n + 1) (lN (byA A (qN A))) (lN (qL A * byA A (qN A))) (nI (qN A)) s) _
    rw [TX7_reckons_L55, hM.1.1]
    simp (disch := omega) only [letS, Option.bind_some, aget_n, ite_jin, iI_nat, nI_1, nI_leI', nI_ltI', nI_eqI', up2_s, up2_n, va_up_s, va_up_n, if_pos]
    refine m_rk113 hM hA hI fun s2 hF2 hI2 => ?_
    have hM2 := MM_frn hF2 hM
    have hI3 : ∀ i, i < qN A → s2.2.2.2 79 i = lI (nextM A i) := hI2
    have hbb : ∀ i, i < qN A → l63 (nextM A i) := fun i hi => by have := nextM_B hA hi; omega
    have e1 := m_rk169 hM2 h8 hI3 hbb hl1 (by omega) (qN A) 0 fu (by omega) (by rw [fu_eq]; omega)
    refine wp_eq e1 ?_
    have hgl := gcdN_le (T := nextM A) hl1 (qN A)
    refine wp_mono (m_rk199 hM2 h8 hI3 hbb (by omega) (gcdN_pos hl1 _) (by omega)) fun r hr => ?_
    obtain ⟨r1, r2, r3⟩ := hr
    obtain ⟨m1, m2⟩ := red_M hA
    refine ⟨by rw [r1, m2]; rfl, FR_trans hF (FR_trans hF2 r2), fun i hi => ?_⟩
    rw [r3 i hi, m1 i hi]
    rfl
theorem MM_fri {P : Nat → Nat → Nat → Prop} (h : FR P S S') (hP : ∀ t k j, P t k j → k < 64 ∨ k = 79 ∨ (t = 0 ∧ k = 64 ∧ j ≠ 0 ∧ j ≠ 15)) (c : MM S A) : MM S' A :=
  ⟨MC_fr h (fun z => by have := hP _ _ _ z; omega) (fun k h1 h2 z => by have := hP _ _ _ z; omega) c.1, MH_fr h (fun z => by have := hP _ _ _ z; omega) (fun z => by have := hP _ _ _ z; omega) (fun z => by have := hP _ _ _ z; omega) (fun k h1 h2 z => by have := hP _ _ _ z; omega) c.2⟩
/-- pulses pass -/
theorem m_gs97 (h : MM S A) (hA : okA 1008000000000000 A) : ∀ (m r n : Nat), r + m = qP A → m + 1 ≤ n → TX7_goes_L97 n (nI (cpt (fun i => decide (1 < qK A 4 i)) 1 A r).1) (nI r) (S.1, S.2.1, pRows S.2.2.1 76 (cpt (fun i => decide (1 < qK A 4 i)) 1 A r), S.2.2.2) = some (1, (up2 S.1 64 15 (nI (passP A).1), S.2.1, pRows S.2.2.1 76 (passP A), S.2.2.2)) := by
  have h12 := ok_p hA
  intro m
  induction m with
  | zero =>
    intro r n hr hn
    obtain ⟨n, rfl⟩ : ∃ q, n = q + 1 := ⟨n - 1, by omega⟩
    rw [TX7_goes_L97]
    show (if S.1 64 15 ≤ _ then _ else _) = _
    rw [h.2.2.1, if_pos (by rw [nI_cmp (by omega) (by omega)]; omega), show r = qP A by omega]
    rfl
  | succ m ih =>
    intro r n hr hn
    obtain ⟨n, rfl⟩ : ∃ q, n = q + 1 := ⟨n - 1, by omega⟩
    have hle := cpt_le (fun i => decide (1 < qK A 4 i)) 1 A r
    have ih' := ih (r + 1) n (by omega) (by omega)
    rw [TX7_goes_L97]
    show (if S.1 64 15 ≤ _ then _ else _) = _
    rw [h.2.2.1, if_neg (by rw [nI_cmp (by omega) (by omega)]; omega)]
    obtain ⟨g1, g2, g3⟩ := h.2.2.2.2 r (by omega)
    obtain ⟨q1, q2, q3, -, -⟩ := ok_q hA (p := r) (by omega)
    obtain ⟨h1, h2, h3⟩ := pRows_hi (F := S.2.2.1) (k := 76) (q := cpt (fun i => decide (1 < qK A 4 i)) 1 A r) hle
    show ((aget 12 (pRows S.2.2.1 76 (cpt (fun i => decide (1 < qK A 4 i)) 1 A r) 77) (nI r)).bind _) = _
    rw [aget_n (by omega) (by omega), Option.bind_some, h2, g2]
    have c1 : nI (qK A 4 r) ≤ 1 ↔ qK A 4 r ≤ 1 := by rw [show (1 : Int32) = nI 1 from rfl, nI_cmp (by omega) (by omega)]
    rw [cpt] at ih'
    by_cases e : qK A 4 r ≤ 1
    · rw [if_pos (c1.mpr e), nI_1]
      rw [if_neg (by simp; omega)] at ih'
      exact ih'
    · rw [if_neg (fun q => e (c1.mp q))]
      rw [if_pos (by simp; omega)] at ih'
      simp (disch := omega) only [letS, Option.bind_some, aget_n, ite_jin, iI_nat, nI_1, nI_leI', nI_ltI', nI_eqI', up2_s, up2_n, va_up_s, va_up_n]
      have e1 : pRows S.2.2.1 76 (cpt (fun i => decide (1 < qK A 4 i)) 1 A r) 77 r = nI (qK A 4 r) := h2.trans g2
      have e0 : pRows S.2.2.1 76 (cpt (fun i => decide (1 < qK A 4 i)) 1 A r) 76 r = nI (qK A 3 r) := h1.trans g1
      have e2 : pRows S.2.2.1 76 (cpt (fun i => decide (1 < qK A 4 i)) 1 A r) 78 r = iI (qS A 2 r) := h3.trans g3
      rw [e0, e1, e2, show nI (qK A 4 r) - 1 = nI (qK A 4 r - 1) by rw [show (1 : Int32) = nI 1 from rfl, pk_sub (by omega)]]
      have ep := pRows_s S.2.2.1 76 (cpt (fun i => decide (1 < qK A 4 i)) 1 A r) (qK A 3 r) (qK A 4 r - 1) (qS A 2 r)
      rw [← ep] at ih'
      exact ih'
theorem MH_pset {kt fl fw kp : Nat} (p : P3) (hkp : kp ≠ 0) (h : MH S kt fl fw kp A) : MH (up2 S.1 64 fw (nI p.1), S.2.1, pRows S.2.2.1 kp p, S.2.2.2) kt fl fw kp (setP A p) := by
  obtain ⟨h1, h2, h3, h4⟩ := h
  refine ⟨h1, ?_, h3, fun q hq => ?_⟩
  · simp (disch := omega) only [up2_s, up2_n, va_up_s, va_up_n]
    rfl
  · have hq' : q < p.1 := hq
    refine ⟨?_, ?_, ?_⟩
    · show pRows S.2.2.1 kp p kp q = _
      rw [pRows_r0]; exact if_pos hq'
    · show pRows S.2.2.1 kp p (kp + 1) q = _
      rw [pRows_r1]; exact if_pos hq'
    · show pRows S.2.2.1 kp p (kp + 2) q = _
      rw [pRows_r2]; exact if_pos hq'
theorem MC_pset {fw kp : Nat} (p : P3) (hkp : 71 < kp) (hfw : fw ≠ 0) (h : MC S A) : MC (up2 S.1 64 fw (nI p.1), S.2.1, pRows S.2.2.1 kp p, S.2.2.2) (setP A p) := by
  obtain ⟨h1, h2, h3, h4, h5, h6⟩ := h
  have e : ∀ k, k < 72 → pRows S.2.2.1 kp p k = S.2.2.1 k := fun k hk => pRows_ne _ _ _ (by omega)
  refine ⟨?_, ?_, ?_, ?_, ?_, fun i hi => ?_⟩
  · simp (disch := omega) only [up2_s, up2_n, va_up_s, va_up_n]
    exact h1
  · show pRows S.2.2.1 kp p 71 0 = _; rw [e 71 (by omega)]; exact h2
  · show pRows S.2.2.1 kp p 71 1 = _; rw [e 71 (by omega)]; exact h3
  · show pRows S.2.2.1 kp p 70 0 = _; rw [e 70 (by omega)]; exact h4
  · show pRows S.2.2.1 kp p 70 1 = _; rw [e 70 (by omega)]; exact h5
  · show pRows S.2.2.1 kp p 65 i = _ ∧ pRows S.2.2.1 kp p 66 i = _ ∧ pRows S.2.2.1 kp p 67 i = _ ∧ pRows S.2.2.1 kp p 68 i = _
    rw [e 65 (by omega), e 66 (by omega), e 67 (by omega), e 68 (by omega)]
    exact h6 i hi
/-- a step in thought -/
theorem m_goes (h : MM S A) (hA : okA 1008000000000000 A) : WP (TX7_goes S) (fun r => r.1 = b2i (stepC A = -2) ∧ FR pMi S r.2 ∧ (stepC A ≠ -2 → r.2.1 64 20 = iI (stepC A)) ∧ MM r.2 (if stepC A = -2 then stepA A else A)) := by
  have h8 := ok_n hA
  have h12 := ok_p hA
  have hl := line_B hA
  unfold TX7_goes
  refine wp_bind (m_reckons h hA) fun r hr => ?_
  obtain ⟨r1, r2, r3⟩ := hr
  have hM0 : MM r.2 A := MM_frn r2 h
  have F1 : FR pMi S (sFI r.2 64 20 (-1)) := FR_FI (FR_mono r2 (fun t k j z => by unfold pMn at z; unfold pMi; omega)) (by unfold pMi; omega)
  have hM : MM (sFI r.2 64 20 (-1)) A := MM_fri (P := fun t k j => t = 0 ∧ k = 64 ∧ j = 20) (FR_FI FR_refl ⟨rfl, rfl, rfl⟩) (fun t k j z => by omega) hM0
  have hT : ∀ i, i < qN A → (sFI r.2 64 20 (-1)).2.2.2 79 i = lI (redT (nextA A) (lineA A) (qN A) i) := r3
  have h20 : (sFI r.2 64 20 (-1)).1 64 20 = iI (-1) := by simp (disch := omega) only [up2_s, up2_n, va_up_s, va_up_n]; decide
  simp only [letS]
  revert F1 hM hT h20
  rw [r1]
  generalize sFI r.2 64 20 (-1) = S1
  intro F1 hM hT h20
  have hrl : redL (nextA A) (lineA A) (qN A) ≤ lineA A := Nat.div_le_self _ _
  have c : lN (redL (nextA A) (lineA A) (qN A)) ≤ 1000000000000 ↔ redL (nextA A) (lineA A) (qN A) ≤ 1000000000000 := by rw [L12]; exact pk_lLE (by omega) (by decide)
  by_cases e : redL (nextA A) (lineA A) (qN A) ≤ 1000000000000
  · rw [if_pos (c.mpr e)]
    have eC : stepC A = bigN (redT (nextA A) (lineA A) (qN A)) (qN A) 0 := by unfold stepC takeC; rw [if_pos e]
    have hb : ∀ i, i < qN A → l63 (redT (nextA A) (lineA A) (qN A) i) := fun i hi => tdiv_l63 (by have := next_B hA hi; omega)
    have scan : ∀ (m i n : Nat), i + m = qN A → m + 1 ≤ n → TX7_goes_L22 n (lN (redL (nextA A) (lineA A) (qN A))) (nI i) S1 = if bigN (redT (nextA A) (lineA A) (qN A)) m i = -2 then TX7_goes_L61 fu (lN (redL (nextA A) (lineA A) (qN A))) 0 S1 else some (0, sFI S1 64 20 (iI (bigN (redT (nextA A) (lineA A) (qN A)) m i))) := by
      intro m
      induction m with
      | zero =>
        intro i n hi hn
        obtain ⟨n, rfl⟩ : ∃ q, n = q + 1 := ⟨n - 1, by omega⟩
        rw [TX7_goes_L22, hM.1.1, if_pos (by rw [nI_cmp (by omega) (by omega)]; omega)]
        exact (if_pos rfl).symm
      | succ m ih =>
        intro i n hi hn
        obtain ⟨n, rfl⟩ : ∃ q, n = q + 1 := ⟨n - 1, by omega⟩
        have hbi := hb i (by omega)
        rw [TX7_goes_L22, hM.1.1, if_neg (by rw [nI_cmp (by omega) (by omega)]; omega), aget_n (by omega) (by omega), Option.bind_some, hT i (by omega), abs_l hbi, Option.bind_some, L12, bigN]
        have c : lN (redT (nextA A) (lineA A) (qN A) i).natAbs ≤ lN 1000000000000 ↔ (redT (nextA A) (lineA A) (qN A) i).natAbs ≤ 1000000000000 := pk_lLE (by omega) (by decide)
        by_cases e : (redT (nextA A) (lineA A) (qN A) i).natAbs ≤ 1000000000000
        · rw [if_pos (c.mpr e), if_pos e, nI_1]
          exact ih (i + 1) n (by omega) (by omega)
        · rw [if_neg (fun q => e (c.mp q)), if_neg e, if_neg (by omega), nI_z]
          rfl
    refine wp_eq (scan (qN A) 0 fu (by omega) (by rw [fu_eq]; omega)) ?_
    rw [← eC]
    by_cases e2 : stepC A = -2
    · rw [if_pos e2]
      refine wp_up (F := fun n i s => TX7_goes_L61 n (lN (redL (nextA A) (lineA A) (qN A))) (nI i) s) (N := qN A) (I := fun i s => FR (fun t k _ => t = 3 ∧ k = 75) S1 s ∧ ∀ q, q < i → s.2.2.2 75 q = lI (redT (nextA A) (lineA A) (qN A) q)) ?_ ?_ 0 S1 fu (by omega) ⟨FR_refl, by omega⟩ (by rw [fu_eq]; omega)
      · intro n i s hi ⟨hF, hI⟩ k
        show WP (TX7_goes_L61 (n + 1) (lN (redL (nextA A) (lineA A) (qN A))) (nI i) s) _
        rw [TX7_goes_L61, hF.1 64 0 (by omega), hM.1.1, hF.2.2.2 79 (by omega)]
        simp (disch := omega) only [letS, Option.bind_some, aget_n, ite_jin, iI_nat, nI_1, nI_leI', nI_ltI', nI_eqI', up2_s, up2_n, va_up_s, va_up_n, if_neg]
        rw [hT i hi]
        refine k _ ⟨FR_AL hF ⟨rfl, rfl⟩, fun q hq => ?_⟩
        simp only [up2_s, va_up_at]
        by_cases e : q = i
        · rw [if_pos e, e]
        · rw [if_neg e]; exact hI q (by omega)
      · intro n s ⟨hF, hI⟩
        show WP (TX7_goes_L61 (n + 1) (lN (redL (nextA A) (lineA A) (qN A))) (nI (qN A)) s) _
        rw [TX7_goes_L61, hF.1 64 0 (by omega), hM.1.1]
        simp (disch := omega) only [letS, nI_leI', if_pos]
        have hM5 : MM (sFL s 64 14 (lN (redL (nextA A) (lineA A) (qN A)))) (stepH A) := by
          obtain ⟨c1, c2, c3, c4, c5⟩ := hM
          have hC : MC s A := MC_fr hF (by omega) (fun k h1 h2 => by omega) c1
          refine ⟨hC, ?_, (hF.1 64 15 (by omega)).trans c3, hI, fun p hp => ?_⟩
          · simp (disch := omega) only [up2_s, up2_n, va_up_s, va_up_n]
            rfl
          · show s.2.2.1 76 p = _ ∧ s.2.2.1 (76 + 1) p = _ ∧ s.2.2.1 (76 + 2) p = _
            rw [hF.2.2.1 76 (by omega), hF.2.2.1 (76 + 1) (by omega), hF.2.2.1 (76 + 2) (by omega)]
            exact c5 p hp
        have F5 : FR pMi S (sFL s 64 14 (lN (redL (nextA A) (lineA A) (qN A)))) := FR_FL (FR_trans F1 (FR_mono hF (fun t k j z => by unfold pMi; omega))) (by unfold pMi; omega)
        revert hM5 F5
        generalize sFL s 64 14 (lN (redL (nextA A) (lineA A) (qN A))) = S5
        intro hM5 F5
        have hok : okA 1008000000000000 (stepH A) := by
          refine ok_setH hA (by omega) (redL_pos hl.1) e fun i hi => ?_
          have := bigN_ok (T := redT (nextA A) (lineA A) (qN A)) (qN A) 0 (eC ▸ e2) i (by omega) (by omega)
          omega
        have hg := m_gs97 hM5 hok (qP A) 0 fu (by show 0 + qP A = qP A; omega) (by rw [fu_eq]; omega)
        rw [show (cpt (fun i => decide (1 < qK (stepH A) 4 i)) 1 (stepH A) 0) = (0, fun _ => 0, fun _ => 0, fun _ => 0) from rfl, pRows_0] at hg
        refine wp_eq hg (wp_some ⟨?_, ?_, fun z => absurd e2 z, ?_⟩)
        · rw [b2i_t e2]
        · refine FR_trans F5 ⟨fun k j hk => ?_, fun _ _ _ => rfl, fun k hk => ?_, fun _ _ => rfl⟩
          · show up2 S5.1 64 15 _ k j = _
            exact if_neg (fun z => hk (by rw [z.1, z.2]; unfold pMi; omega))
          · exact pRows_ne _ _ _ (by unfold pMi at hk; omega)
        · exact ⟨MC_pset _ (by omega) (by omega) hM5.1, MH_pset _ (by omega) hM5.2⟩
    · rw [if_neg e2]
      refine wp_some ⟨?_, FR_FI F1 (by unfold pMi; omega), fun _ => ?_, ?_⟩
      · rw [b2i_f e2]
      · simp (disch := omega) only [up2_s, up2_n, va_up_s, va_up_n]
      · rw [if_neg e2]
        exact MM_fri (P := fun t k j => t = 0 ∧ k = 64 ∧ j = 20) (FR_FI FR_refl ⟨rfl, rfl, rfl⟩) (fun t k j z => by omega) hM
  · rw [if_neg (fun q => e (c.mp q))]
    have eC : stepC A = -1 := by unfold stepC takeC; rw [if_neg e]
    have e2 : ¬ stepC A = -2 := by omega
    refine wp_some ⟨?_, F1, fun _ => ?_, ?_⟩
    · rw [b2i_f e2]
    · rw [eC]; exact h20
    · rw [if_neg e2]; exact hM
end GOES
