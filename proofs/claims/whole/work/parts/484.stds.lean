/-! Steady heats: the reference. -/
def pSt (t k j : Nat) : Prop := (t = 1 ∧ k = 64 ∧ j = 24) ∨ (t = 3 ∧ 80 ≤ k ∧ k ≤ 82)
theorem pSt_s : ∀ t k j, pSt t k j → pMs t k j := fun t k j h => by unfold pSt at h; unfold pMs; omega
/-- other sources -/
def wS (A : AB) (g : Nat → Nat → Int) : AB := (A.1, A.2.1, A.2.2.1, g)
/-- what the reference reads of D -/
def RD (D : AB) (ch sr : Int32) (s : SS) : Prop := s.1 64 0 = nI (qN D) ∧ ∀ i, i < qN D → TX7_leads (nI i) s = some (nI (leadA D (i + 1))) ∧ TX7_leads (nI i - 1) s = some (nI (leadA D i)) ∧ TX7_together (nI i) s = some (nI (lossA D i)) ∧ TX7_brings (nI i) ch sr s = some (lI (supA D i))
section STR
variable {S s : SS} {A D : AB} {M : Int} {ch sr : Int32}
theorem m_leadN (h : MC S A) (hA : okA M A) {i : Nat} (hi : i < qN A) : TX7_leads (nI i) S = some (nI (leadA A (i + 1))) := by
  have := m_lead h hA (j := i + 1) (by omega) (by omega)
  rwa [show ((i + 1 : Nat) : Int) - 1 = (i : Int) by omega, ← nI_z] at this
theorem m_leadP (h : MC S A) (hA : okA M A) {i : Nat} (hi : i < qN A) : TX7_leads (nI i - 1) S = some (nI (leadA A i)) := by
  have := m_lead h hA (j := i) (by omega) (by omega)
  rwa [show iI ((i : Int) - 1) = nI i - 1 by rw [nI_z, k1, iI_sub]] at this
theorem m_brings (h : MC S A) (hA : okA M A) {g : Nat → Nat → Int} {i : Nat} (hi : i < qN A) (hg : (if nI i = ch then sr else iI (qS A 0 i)) = iI (g 0 i)) (hgB : -9 ≤ g 0 i ∧ g 0 i ≤ 9) : TX7_brings (nI i) ch sr S = some (lI (supA (wS A g) i)) := by
  have h8 := ok_n hA
  have he := ok_e hA
  have ha := ok_a hA
  have hf : finA A i ≤ 1 := fin_b _
  have l0 := lead_b hA (j := 0) (by omega) (by omega)
  have l1 := lead_b hA (j := i + 1) (by omega) (by omega)
  have b1 := nB (c := finA A i) (C := 1) (x := (qA A : Int)) (X := 999) (by omega) (by omega) (by omega)
  have b2 := nB (c := leadA A 0) (C := 9) (x := qE0 A) (X := 999) (by omega) (by omega) (by omega)
  have b3 := nB (c := leadA A (i + 1)) (C := 9) (x := qE1 A) (X := 999) (by omega) (by omega) (by omega)
  have g0 : aget 2 (S.2.2.1 70) 0 = some (iI (qE0 A)) := by rw [show (0 : Int32) = nI 0 from rfl, aget_n (by omega) (by decide), h.2.2.2.1]
  have g1 : aget 2 (S.2.2.1 70) 1 = some (iI (qE1 A)) := by rw [show (1 : Int32) = nI 1 from rfl, aget_n (by omega) (by decide), h.2.2.2.2.1]
  have ga : aget 2 (S.2.2.1 71) 1 = some (nI (qA A)) := by rw [show (1 : Int32) = nI 1 from rfl, aget_n (by omega) (by decide), h.2.2.1]
  have f0 := m_lead h hA (j := 0) (by omega) (by omega)
  rw [show iI (((0 : Nat) : Int) - 1) = -1 from rfl] at f0
  obtain ⟨-, -, -, e4⟩ := h.2.2.2.2.2 i hi
  have last : ∀ u w : Int, TX7_brings_J50 S (nI i) ch sr (lI u) (lI w) = some (lI (u + w + finA A i * qA A + g 0 i)) := fun u w => by
    unfold TX7_brings_J50
    rw [m_fin h hA hi, Option.bind_some, ga, Option.bind_some, aget_n (by omega) (by omega), Option.bind_some, e4, nI_z (finA A i), nI_z (qA A), iI_mul, iI_wide (by omega)]
    by_cases e : nI i = ch
    · rw [if_pos e] at hg ⊢
      rw [hg, iI_wide (by omega)]
      simp only [lI_add]
    · rw [if_neg e] at hg ⊢
      have hg' : iI (qS A 0 i) = iI (g 0 i) := hg
      rw [show iI (A.2.2.2 0 i) = iI (g 0 i) from hg', iI_wide (by omega)]
      simp only [lI_add]
  have c1 : nI i = nI (qN A) - 1 ↔ i + 1 = qN A := by rw [nI_z, nI_z, k1, iI_sub, iI_eq (by omega) (by omega)]; omega
  have mid : ∀ u : Int, TX7_brings_J21 S (nI i) ch sr (lI u) = some (lI (u + (if i + 1 = qN A then leadA A (i + 1) * qE1 A else 0) + finA A i * qA A + g 0 i)) := fun u => by
    unfold TX7_brings_J21
    rw [h.1]
    by_cases e : i + 1 = qN A
    · rw [if_pos (c1.mpr e), if_pos e, m_leadN h hA hi, Option.bind_some, g1, Option.bind_some, nI_z (leadA A (i + 1)), iI_mul, iI_wide (by omega), last]
    · rw [if_neg (fun z => e (c1.mp z)), if_neg e, show (0 : Int64) = lI 0 from rfl, last]
  have c0 : nI i = 0 ↔ i = 0 := by rw [nI_z, k0, iI_eq (by omega) (by omega)]; omega
  have eS : supA (wS A g) i = (if i = 0 then (leadA A 0 : Int) * qE0 A else 0) + (if i + 1 = qN A then (leadA A (i + 1) : Int) * qE1 A else 0) + finA A i * qA A + g 0 i := by
    show g 0 i + finA A i * qA A + (if i = 0 then (leadA A 0 : Int) * qE0 A else 0) + (if i + 1 = qN A then (leadA A (i + 1) : Int) * qE1 A else 0) = _
    generalize (if i = 0 then (leadA A 0 : Int) * qE0 A else 0) = u
    generalize (if i + 1 = qN A then (leadA A (i + 1) : Int) * qE1 A else 0) = w
    omega
  rw [eS]
  unfold TX7_brings
  by_cases e : i = 0
  · rw [if_pos (c0.mpr e), if_pos e, f0, Option.bind_some, g0, Option.bind_some, nI_z (leadA A 0), iI_mul, iI_wide (by omega), mid]
  · rw [if_neg (fun z => e (c0.mp z)), if_neg e, show (0 : Int64) = lI 0 from rfl, mid]
theorem m_st281 {r : Int32 → Int32 → Int32 → SS → Option (Int32 × SS)} {i : Nat} (hR : RD D ch sr s) (hD : okA M D) (hi : i < qN D) (h80 : ∀ q, q ≤ qN D → s.2.2.2 80 q = lI (ahP D q).1) (h81 : ∀ q, q ≤ qN D → s.2.2.2 81 q = lI (onP D (qN D - q)).1) : ∀ (k f : Nat) (x y : Int), k ≤ i → k + 1 ≤ f →
    TX7_steadies_L281 r f ch sr (nI i) (lI x) (lI y) (iI ((k : Int) - 1)) s = r ch sr (nI (i + 1)) (sAL s 82 i (lI (x + y * (onP D (qN D - (i + 1))).1 * leadA D k * flS D k))) := by
  have h8 := ok_n hD
  intro k
  induction k with
  | zero =>
    intro f x y hk hf
    obtain ⟨f, rfl⟩ : ∃ q, f = q + 1 := ⟨f - 1, by omega⟩
    rw [TX7_steadies_L281, if_pos (by decide), if_pos (iI_in (by omega) (by omega)), iI_nat i (by omega), nI_1, flS, Int.mul_zero, Int.add_zero]
    rfl
  | succ k ih =>
    intro f x y hk hf
    obtain ⟨f, rfl⟩ : ∃ q, f = q + 1 := ⟨f - 1, by omega⟩
    obtain ⟨g1, g2, g3, g4⟩ := hR.2 k (by omega)
    have ld := lead_b hD (j := k + 1) (by omega) (by omega)
    rw [show iI (((k + 1 : Nat) : Int) - 1) = nI k by rw [nI_z]; congr 1; omega, TX7_steadies_L281, if_neg (by rw [show (0 : Int32) = nI 0 from rfl, nI_ltI' (by omega) (by omega)]; omega), g1, Option.bind_some, aget_n (by omega) (by omega), Option.bind_some, nI_1, aget_n (by omega) (by omega), Option.bind_some, g4, Option.bind_some, h80 k (by omega), h81 (i + 1) (by omega), nI_wideI (by omega), show nI k + -1 = iI ((k : Int) - 1) by rw [nI_z, km1, iI_add]; congr 1]
    simp only [lI_mul, lI_add]
    rw [ih f _ _ (by omega) (by omega), flS]
    congr 3
    grind
theorem m_st213 {r : Int32 → Int32 → Int32 → SS → Option (Int32 × SS)} {i : Nat} (hR : RD D ch sr s) (hD : okA M D) (hi : i < qN D) (h80 : ∀ q, q ≤ qN D → s.2.2.2 80 q = lI (ahP D q).1) (h81 : ∀ q, q ≤ qN D → s.2.2.2 81 q = lI (onP D (qN D - q)).1) : ∀ (m j f : Nat) (x y : Int), j + m = qN D → m + 1 ≤ f →
    TX7_steadies_L213 r f ch sr (nI i) (lI x) (lI y) (nI j) s = TX7_steadies_L281 r fu ch sr (nI i) (lI (x + y * (ahP D i).1 * frS D m)) 1 (nI i - 1) s := by
  have h8 := ok_n hD
  intro m
  induction m with
  | zero =>
    intro j f x y hj hf
    obtain ⟨f, rfl⟩ : ∃ q, f = q + 1 := ⟨f - 1, by omega⟩
    rw [TX7_steadies_L213, hR.1, if_pos (by rw [nI_cmp (by omega) (by omega)]; omega), frS, Int.mul_zero, Int.add_zero]
  | succ m ih =>
    intro j f x y hj hf
    obtain ⟨f, rfl⟩ : ∃ q, f = q + 1 := ⟨f - 1, by omega⟩
    obtain ⟨g1, g2, g3, g4⟩ := hR.2 j (by omega)
    have ld := lead_b hD (j := j + 1) (by omega) (by omega)
    have m1 : qN D - (j + 1) = m := by omega
    have m2 : qN D - (m + 1) = j := by omega
    have m3 : qN D - m = j + 1 := by omega
    rw [TX7_steadies_L213, hR.1, if_neg (by rw [nI_cmp (by omega) (by omega)]; omega), aget_n (by omega) (by omega), Option.bind_some, nI_1, aget_n (by omega) (by omega), Option.bind_some, g4, Option.bind_some, g1, Option.bind_some, h80 i (by omega), h81 (j + 1) (by omega), nI_wideI (by omega), m1]
    simp only [lI_mul, lI_add]
    rw [ih (j + 1) f _ _ (by omega) (by omega), frS, m2, m3]
    congr 2
    grind
theorem m_st196 (hR : ∀ s, FR pSt S s → RD D ch sr s) (hD : okA M D) {w : Int} (hw : -78310985281 ≤ w ∧ w ≤ 78310985281) {s0 : SS} (hF0 : FR pSt S s0) (h24 : s0.2.1 64 24 = lI w) (h80 : ∀ q, q ≤ qN D → s0.2.2.2 80 q = lI (ahP D q).1) (h81 : ∀ q, q ≤ qN D → s0.2.2.2 81 q = lI (onP D (qN D - q)).1) :
    WP (TX7_steadies_L196 fu ch sr 0 s0) (fun r => r.1 = b2i (0 < w) ∧ FR pSt S r.2 ∧ r.2.2.1 64 24 = lI w ∧ ∀ i, i < qN D → r.2.2.2.2 82 i = lI (stG D i)) := by
  have h8 := ok_n hD
  refine wp_up (F := fun n i s => TX7_steadies_L196 n ch sr (nI i) s) (N := qN D) (I := fun i s => FR pSt S s ∧ s.2.1 64 24 = lI w ∧ s.2.2.2 80 = s0.2.2.2 80 ∧ s.2.2.2 81 = s0.2.2.2 81 ∧ ∀ q, q < i → s.2.2.2 82 q = lI (stG D q)) ?_ ?_ 0 s0 fu (by omega) ⟨hF0, h24, rfl, rfl, fun q hq => by omega⟩ (by rw [fu_eq]; omega)
  · intro n i s hi ⟨hF, i1, i2, i3, i4⟩ k
    have hs := hR s hF
    show WP (TX7_steadies_L196 (n + 1) ch sr (nI i) s) _
    rw [TX7_steadies_L196, hs.1, if_neg (by rw [nI_cmp (by omega) (by omega)]; omega)]
    have x80 : ∀ q, q ≤ qN D → s.2.2.2 80 q = lI (ahP D q).1 := fun q hq => by rw [i2]; exact h80 q hq
    have x81 : ∀ q, q ≤ qN D → s.2.2.2 81 q = lI (onP D (qN D - q)).1 := fun q hq => by rw [i3]; exact h81 q hq
    have e1 := m_st213 (r := fun l1 l2 l3 S => TX7_steadies_L196 n l1 l2 l3 S) (i := i) hs hD hi x80 x81 (qN D - i) i fu 0 1 (by omega) (by rw [fu_eq]; omega)
    have e2 := m_st281 (r := fun l1 l2 l3 S => TX7_steadies_L196 n l1 l2 l3 S) (i := i) hs hD hi x80 x81 i fu (0 + 1 * (ahP D i).1 * frS D (qN D - i)) 1 (by omega) (by rw [fu_eq]; omega)
    rw [show iI ((i : Int) - 1) = nI i - 1 by rw [nI_z, k1, iI_sub]] at e2
    refine wp_eq (e1.trans e2) ?_
    refine k _ ⟨FR_AL hF (by unfold pSt; omega), i1, ?_, ?_, fun q hq => ?_⟩
    · simp (disch := omega) only [up2_s, up2_n, va_up_s, va_up_n]
      exact i2
    · simp (disch := omega) only [up2_s, up2_n, va_up_s, va_up_n]
      exact i3
    · simp only [up2_s, va_up_at]
      by_cases e : q = i
      · rw [if_pos e, e, stG_eq hi, Int.zero_add, Int.one_mul]
      · rw [if_neg e]
        exact i4 q (by omega)
  · intro n s ⟨hF, i1, i2, i3, i4⟩
    have hs := hR s hF
    show WP (TX7_steadies_L196 (n + 1) ch sr (nI (qN D)) s) _
    rw [TX7_steadies_L196, hs.1, if_pos (by rw [nI_cmp (by omega) (by omega)]; omega), i1]
    have c : lI w ≤ 0 ↔ ¬ 0 < w := by rw [show (0 : Int64) = lI 0 from rfl, lI_le (by omega) (by omega)]; omega
    by_cases e : 0 < w
    · rw [if_neg (fun z => c.mp z e)]
      exact wp_some ⟨(b2i_t e).symm, hF, i1, i4⟩
    · rw [if_pos (c.mpr e)]
      exact wp_some ⟨(b2i_f e).symm, hF, i1, i4⟩
/-- whole -/
def whM (D : AB) : Int := if qN D = 0 then 0 else whN D
theorem m_st99 (hR : ∀ s, FR pSt S s → RD D ch sr s) (hD : okA M D) : ∀ (k f : Nat) (s : SS), k ≤ qN D → k + 1 ≤ f → FR pSt S s → (∀ q, q ≤ qN D → s.2.2.2 80 q = lI (ahP D q).1) → (∀ q, k ≤ q → q ≤ qN D → s.2.2.2 81 q = lI (onP D (qN D - q)).1) →
    WP (TX7_steadies_L99 f ch sr (iI ((k : Int) - 1)) s) (fun r => r.1 = b2i (0 < whM D) ∧ FR pSt S r.2 ∧ r.2.2.1 64 24 = lI (whM D) ∧ ∀ i, i < qN D → r.2.2.2.2 82 i = lI (stG D i)) := by
  have h8 := ok_n hD
  intro k
  induction k with
  | zero =>
    intro f s hk hf hF i1 i2
    obtain ⟨f, rfl⟩ : ∃ q, f = q + 1 := ⟨f - 1, by omega⟩
    have hs := hR s hF
    have hwB := wh_N hD
    rw [TX7_steadies_L99, if_pos (by decide), hs.1]
    have fin : ∀ w : Int, w = whM D → WP (TX7_steadies_J191 ch sr (lI w) s) (fun r => r.1 = b2i (0 < whM D) ∧ FR pSt S r.2 ∧ r.2.2.1 64 24 = lI (whM D) ∧ ∀ i, i < qN D → r.2.2.2.2 82 i = lI (stG D i)) := fun w hw => by
      subst hw
      unfold TX7_steadies_J191
      refine wp_fl fun S4 G4 d1 d2 d3 d4 d5 => ?_
      refine m_st196 hR hD ?_ (G4 _ _ (by unfold pSt; omega) hF) d1 (fun q hq => by rw [d5]; exact i1 q hq) (fun q hq => by rw [d5]; exact i2 q (by omega) hq)
      unfold whM
      split <;> omega
    by_cases e : qN D = 0
    · rw [if_pos (by rw [e]; rfl)]
      exact fin 0 (by unfold whM; rw [if_pos e])
    · rw [if_neg (nI_ne0 (by omega) (by omega)), aget_n (by omega) (by omega), Option.bind_some, i1 (qN D) (by omega)]
      exact fin _ (by unfold whM; rw [if_neg e]; rfl)
  | succ i ih =>
    intro f s hk hf hF i1 i2
    obtain ⟨f, rfl⟩ : ∃ q, f = q + 1 := ⟨f - 1, by omega⟩
    have hs := hR s hF
    have hi : i < qN D := by omega
    obtain ⟨g1, g2, g3, g4⟩ := hs.2 i hi
    have lo := loss_b hD hi
    have ld := lead_b hD (j := i + 1) (by omega) (by omega)
    have hld : leadA D (i + 1) * leadA D (i + 1) ≤ 81 := Nat.mul_le_mul (n₂ := 9) (m₂ := 9) ld ld
    obtain ⟨m, hm⟩ : ∃ m, qN D - i = m + 1 := ⟨qN D - i - 1, by omega⟩
    have m1 : qN D - (i + 1) = m := by omega
    have m2 : qN D - (m + 1) = i := by omega
    have m3 : qN D - m = i + 1 := by omega
    have o1 := i2 (i + 1) (by omega) (by omega)
    rw [m1] at o1
    have key : WP (TX7_steadies_J138 (fun l1 l2 l3 S => TX7_steadies_L99 f l1 l2 l3 S) ch sr (nI i) (lI (leadA D (i + 1) * leadA D (i + 1) * (onP D m).2)) s) (fun r => r.1 = b2i (0 < whM D) ∧ FR pSt S r.2 ∧ r.2.2.1 64 24 = lI (whM D) ∧ ∀ i, i < qN D → r.2.2.2.2 82 i = lI (stG D i)) := by
      unfold TX7_steadies_J138
      rw [g3, Option.bind_some, nI_1, aget_n (by omega) (by omega), Option.bind_some, o1, nI_wideI (by omega), show nI i + -1 = iI ((i : Int) - 1) by rw [nI_z, km1, iI_add]; congr 1]
      refine wp_al (by omega) (by omega) fun S4 G4 d1 d2 d3 d4 d5 => ?_
      refine ih f S4 (by omega) (by omega) (G4 _ _ (by unfold pSt; omega) hF) (fun q hq => by rw [d4 80 (by omega)]; exact i1 q hq) (fun q hq1 hq2 => ?_)
      rw [d5 q]
      by_cases e : q = i
      · rw [if_pos e, e, hm, onP, m2, m3]
        simp only [lI_mul, lI_sub]
      · rw [if_neg e]
        exact i2 q (by omega) hq2
    rw [show iI (((i + 1 : Nat) : Int) - 1) = nI i by rw [nI_z]; congr 1; omega, TX7_steadies_L99, if_neg (by rw [show (0 : Int32) = nI 0 from rfl, nI_ltI' (by omega) (by omega)]; omega), hs.1, show nI (qN D) - 1 = nI (qN D - 1) by rw [show (1 : Int32) = nI 1 from rfl, pk_sub (by omega)]]
    by_cases e : qN D - 1 ≤ i
    · rw [if_pos (by rw [nI_cmp (by omega) (by omega)]; exact e), show (0 : Int64) = lI (leadA D (i + 1) * leadA D (i + 1) * (onP D m).2) by rw [show m = 0 by omega, onP, Int.mul_zero]; rfl]
      exact key
    · rw [if_neg (by rw [nI_cmp (by omega) (by omega)]; exact e), g1, Option.bind_some, Option.bind_some, show (2 : Int32) = nI 2 from rfl, nI_add, aget_n (by omega) (by omega), Option.bind_some, pk_mul, nI_wideI (by omega), i2 (i + 2) (by omega) (by omega), lI_mul, Int.natCast_mul]
      obtain ⟨p, hp⟩ : ∃ p, m = p + 1 := ⟨m - 1, by omega⟩
      have e2 : (onP D (qN D - (i + 2))).1 = (onP D m).2 := by rw [hp, onP, show qN D - (i + 2) = p by omega]
      rw [e2]
      exact key
theorem m_st9 (hR : ∀ s, FR pSt S s → RD D ch sr s) (hD : okA M D) : WP (TX7_steadies ch sr S) (fun r => r.1 = b2i (0 < whM D) ∧ FR pSt S r.2 ∧ r.2.2.1 64 24 = lI (whM D) ∧ ∀ i, i < qN D → r.2.2.2.2 82 i = lI (stG D i)) := by
  have h8 := ok_n hD
  unfold TX7_steadies
  refine wp_al (i := 0) (by omega) (by omega) fun S1 G1 a1 a2 a3 a4 a5 => ?_
  refine wp_up (F := fun n i s => TX7_steadies_L9 n ch sr (nI i) s) (N := qN D) (I := fun i s => FR pSt S s ∧ ∀ q, q ≤ i → s.2.2.2 80 q = lI (ahP D q).1) ?_ ?_ 0 S1 fu (by omega) ⟨G1 _ _ (by unfold pSt; omega) FR_refl, fun q hq => ?_⟩ (by rw [fu_eq]; omega)
  · intro n i s hi ⟨hF, i1⟩ k
    have hs := hR s hF
    obtain ⟨g1, g2, g3, g4⟩ := hs.2 i hi
    have lo := loss_b hD hi
    have ld := lead_b hD (j := i) (by omega) (by omega)
    have hld : leadA D i * leadA D i ≤ 81 := Nat.mul_le_mul (n₂ := 9) (m₂ := 9) ld ld
    have key : WP (TX7_steadies_J50 (fun l1 l2 l3 S => TX7_steadies_L9 n l1 l2 l3 S) ch sr (nI i) (lI (leadA D i * leadA D i * (ahP D i).2)) s) (fun r => r.1 = b2i (0 < whM D) ∧ FR pSt S r.2 ∧ r.2.2.1 64 24 = lI (whM D) ∧ ∀ i, i < qN D → r.2.2.2.2 82 i = lI (stG D i)) := by
      unfold TX7_steadies_J50
      rw [g3, Option.bind_some, aget_n (by omega) (by omega), Option.bind_some, i1 i (by omega), nI_wideI (by omega), nI_1]
      refine wp_al (by omega) (by omega) fun S4 G4 d1 d2 d3 d4 d5 => ?_
      refine k S4 ⟨G4 _ _ (by unfold pSt; omega) hF, fun q hq => ?_⟩
      rw [d5 q]
      by_cases e : q = i + 1
      · rw [if_pos e, e, ahP]
        simp only [lI_mul, lI_sub]
      · rw [if_neg e]
        exact i1 q (by omega)
    show WP (TX7_steadies_L9 (n + 1) ch sr (nI i) s) _
    rw [TX7_steadies_L9, hs.1, if_neg (by rw [nI_cmp (by omega) (by omega)]; omega)]
    by_cases e : i = 0
    · rw [if_pos (by rw [e]; decide), show (0 : Int64) = lI (leadA D i * leadA D i * (ahP D i).2) by rw [e, ahP, Int.mul_zero]; rfl]
      exact key
    · rw [if_neg (nI_nle (by omega) (by omega)), g2, Option.bind_some, Option.bind_some, show nI i - 1 = nI (i - 1) by rw [show (1 : Int32) = nI 1 from rfl, pk_sub (by omega)], aget_n (by omega) (by omega), Option.bind_some, pk_mul, nI_wideI (by omega), i1 (i - 1) (by omega), lI_mul, Int.natCast_mul]
      obtain ⟨p, hp⟩ : ∃ p, i = p + 1 := ⟨i - 1, by omega⟩
      have e2 : (ahP D (i - 1)).1 = (ahP D i).2 := by rw [hp]; rfl
      rw [e2]
      exact key
  · intro n s ⟨hF, i1⟩
    have hs := hR s hF
    show WP (TX7_steadies_L9 (n + 1) ch sr (nI (qN D)) s) _
    rw [TX7_steadies_L9, hs.1, if_pos (by rw [nI_cmp (by omega) (by omega)]; omega)]
    refine wp_al (by omega) (by omega) fun S4 G4 d1 d2 d3 d4 d5 => ?_
    have F4 : FR pSt S S4 := G4 _ _ (by unfold pSt; omega) hF
    rw [(hR S4 F4).1, show nI (qN D) - 1 = iI ((qN D : Int) - 1) by rw [nI_z, k1, iI_sub]]
    refine m_st99 hR hD (qN D) fu S4 (by omega) (by rw [fu_eq]; omega) F4 (fun q hq => by rw [d4 80 (by omega)]; exact i1 q hq) (fun q hq1 hq2 => ?_)
    obtain rfl : q = qN D := by omega
    rw [d5, if_pos rfl, Nat.sub_self]
    rfl
  · obtain rfl : q = 0 := by omega
    rw [a5, if_pos rfl]
    rfl
theorem MC_st (h : FR pSt S s) (c : MC S A) : MC s A := MC_fr h (fun z => by unfold pSt at z; omega) (fun k h1 h2 z => by unfold pSt at z; omega) c
/-- one cell's source being another -/
theorem m_std (h : MC S A) (hA : okA M A) {g : Nat → Nat → Int} (hD : okA M (wS A g)) (hg : ∀ i, i < qN A → (if nI i = ch then sr else iI (qS A 0 i)) = iI (g 0 i)) : WP (TX7_steadies ch sr S) (fun r => r.1 = b2i (0 < whM (wS A g)) ∧ FR pSt S r.2 ∧ r.2.2.1 64 24 = lI (whM (wS A g)) ∧ ∀ i, i < qN A → r.2.2.2.2 82 i = lI (stG (wS A g) i)) := by
  refine m_st9 (D := wS A g) (fun s hs => ?_) hD
  have hC := MC_st hs h
  refine ⟨hC.1, fun i hi => ⟨m_leadN hC hA hi, m_leadP hC hA hi, m_tog hC hA hi, m_brings hC hA hi (hg i hi) ?_⟩⟩
  have := ok_c hD hi
  exact ⟨this.2.2.2.2.2.1, this.2.2.2.2.2.2.1⟩
theorem m_std0 (h : MC S A) (hA : okA M A) : WP (TX7_steadies (-1) 0 S) (fun r => r.1 = b2i (0 < whM A) ∧ FR pSt S r.2 ∧ r.2.2.1 64 24 = lI (whM A) ∧ ∀ i, i < qN A → r.2.2.2.2 82 i = lI (stG A i)) := by
  have h8 := ok_n hA
  refine m_std (g := A.2.2.2) h hA hA fun i hi => ?_
  rw [if_neg (by rw [nI_z, km1, iI_eq (by omega) (by omega)]; omega)]
theorem m_stdV (h : MC S A) (hA : okA M A) {c : Nat} {v : Int} (hc : c < qN A) (hv : -9 ≤ v ∧ v ≤ 9) : WP (TX7_steadies (nI c) (iI v) S) (fun r => r.1 = b2i (0 < whM (setS A 0 c v)) ∧ FR pSt S r.2 ∧ r.2.2.1 64 24 = lI (whM (setS A 0 c v)) ∧ ∀ i, i < qN A → r.2.2.2.2 82 i = lI (stG (setS A 0 c v) i)) := by
  have h8 := ok_n hA
  refine m_std (g := up2 A.2.2.2 0 c v) h hA (ok_setS hA (Or.inl ⟨rfl, hv⟩)) fun i hi => ?_
  by_cases e : i = c
  · rw [if_pos (by rw [e]), e]
    simp [up2]
  · rw [if_neg (by rw [nI_eq (by omega) (by omega)]; exact e)]
    simp [up2, e]
end STR
