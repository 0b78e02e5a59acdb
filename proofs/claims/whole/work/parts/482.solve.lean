/-! Steady heats: the class. -/
def pSx (_ k _ : Nat) : Prop := 46 ≤ k ∧ k ≤ 51
section SLV
variable {S : SS} {A : AB} {M : Int} {b : Nat}
theorem x_leadN (h : CB S b A) (hA : okA M A) {i : Nat} (hi : i < qN A) : TX0_leads b (nI i) S = some (nI (leadA A (i + 1))) := by
  have := x_lead h hA (j := i + 1) (by omega) (by omega)
  rwa [show ((i + 1 : Nat) : Int) - 1 = (i : Int) by omega, ← nI_z] at this
theorem x_leadP (h : CB S b A) (hA : okA M A) {i : Nat} (hi : i < qN A) : TX0_leads b (nI i - 1) S = some (nI (leadA A i)) := by
  have := x_lead h hA (j := i) (by omega) (by omega)
  rwa [show iI ((i : Int) - 1) = nI i - 1 by rw [nI_z, k1, iI_sub]] at this
theorem x_supply (h : CB S b A) (hA : okA M A) {i : Nat} (hi : i < qN A) : TX0_supply b (nI i) S = some (iI (supA A i)) := by
  have h8 := ok_n hA
  obtain ⟨-, -, -, e4, -, -, e7, -⟩ := h.2.2.2.2.2.2.2.1 i hi
  have g0 : aget 2 (S.2.2.1 (b + 9)) 0 = some (iI (qE0 A)) := by rw [show (0 : Int32) = nI 0 from rfl, aget_n (by omega) (by decide), h.2.2.2.2.2.1]
  have g1 : aget 2 (S.2.2.1 (b + 9)) 1 = some (iI (qE1 A)) := by rw [show (1 : Int32) = nI 1 from rfl, aget_n (by omega) (by decide), h.2.2.2.2.2.2.1]
  have f0 := x_lead h hA (j := 0) (by omega) (by omega)
  rw [show iI (((0 : Nat) : Int) - 1) = -1 from rfl] at f0
  have last : ∀ u w : Int, TX0_supply_J47 S b (nI i) (iI u) (iI w) = some (iI (qS A 0 i + finA A i * qA A + u + w)) := fun u w => by
    unfold TX0_supply_J47
    rw [aget_n (by omega) (by omega), Option.bind_some, aget_n (by omega) (by omega), Option.bind_some, e4, e7, h.2.2.2.2.1, nI_z, nI_z]
    simp only [iI_mul, iI_add]
  have c1 : nI i = nI (qN A) - 1 ↔ i + 1 = qN A := by rw [nI_z, nI_z, k1, iI_sub, iI_eq (by omega) (by omega)]; omega
  have mid : ∀ u : Int, TX0_supply_J20 S b (nI i) (iI u) = some (iI (qS A 0 i + finA A i * qA A + u + (if i + 1 = qN A then leadA A (i + 1) * qE1 A else 0))) := fun u => by
    unfold TX0_supply_J20
    rw [h.1]
    by_cases e : i + 1 = qN A
    · rw [if_pos (c1.mpr e), if_pos e, x_leadN h hA hi, Option.bind_some, g1, Option.bind_some, nI_z (leadA A (i + 1)), iI_mul, last]
    · rw [if_neg (fun z => e (c1.mp z)), if_neg e, k0, last]
  have c0 : nI i = 0 ↔ i = 0 := by rw [nI_z, k0, iI_eq (by omega) (by omega)]; omega
  unfold TX0_supply supA
  by_cases e : i = 0
  · rw [if_pos (c0.mpr e), if_pos e, f0, Option.bind_some, g0, Option.bind_some, nI_z (leadA A 0), iI_mul, mid]
  · rw [if_neg (fun z => e (c0.mp z)), if_neg e, k0, mid]
theorem CB_sx {S' : SS} (h : FR pSx S S') (hb : b + 13 < 46) (c : CB S b A) : CB S' b A := CB_fr' h (fun t k j h1 h2 z => by unfold pSx at z; omega) c
theorem x_swR (h : CB S b A) (hA : okA M A) (hb : b + 13 < 46) : WP (TX4_sweepRight b (nI (qN A)) S) (fun r => FR pSx S r ∧ (∀ q, q ≤ qN A → r.2.2.2 48 q = lI (ahP A q).1) ∧ ∀ q, q ≤ qN A → r.2.2.2 50 q = lI (flS A q)) := by
  have h8 := ok_n hA
  unfold TX4_sweepRight
  refine wp_al (i := 0) (by omega) (by omega) fun S1 G1 a1 a2 a3 a4 a5 => ?_
  refine wp_al (i := 0) (by omega) (by omega) fun S2 G2 b1 b2 b3 b4 b5 => ?_
  have F2 : FR pSx S S2 := G2 _ _ (by unfold pSx; omega) (G1 _ _ (by unfold pSx; omega) FR_refl)
  refine wp_up (F := fun n i s => TX4_sweepRight_L16 b n (nI (qN A)) (nI i) s) (N := qN A) (I := fun i s => FR pSx S s ∧ (∀ q, q ≤ i → s.2.2.2 48 q = lI (ahP A q).1) ∧ ∀ q, q ≤ i → s.2.2.2 50 q = lI (flS A q)) ?_ ?_ 0 S2 fu (by omega) ⟨F2, fun q hq => ?_, fun q hq => ?_⟩ (by rw [fu_eq]; omega)
  · intro n i s hi ⟨hF, i1, i2⟩ k
    have hC := CB_sx hF hb h
    have lo := loss_b hA hi
    have ld := lead_b hA (j := i) (by omega) (by omega)
    have sb := sup_B hA hi
    show WP (TX4_sweepRight_L16 b (n + 1) (nI (qN A)) (nI i) s) _
    have key : WP (TX4_sweepRight_J47 b (fun l2 l3 S => TX4_sweepRight_L16 b n l2 l3 S) (nI (qN A)) (nI i) (Int32.toInt64 (nI (leadA A i))) (lI (ahP A i).2) s) (fun r => FR pSx S r ∧ (∀ q, q ≤ qN A → r.2.2.2 48 q = lI (ahP A q).1) ∧ ∀ q, q ≤ qN A → r.2.2.2 50 q = lI (flS A q)) := by
      unfold TX4_sweepRight_J47
      rw [x_loss hC hA hi, Option.bind_some, aget_n (by omega) (by omega), Option.bind_some, i1 i (by omega), nI_1, nI_wideI (by omega), nI_wideI (by omega)]
      refine wp_al (by omega) (by omega) fun S3 G3 c1 c2 c3 c4 c5 => ?_
      have F3 : FR pSx S S3 := G3 _ _ (by unfold pSx; omega) hF
      have c6 : S3.2.2.2 48 i = lI (ahP A i).1 := by rw [c5 i, if_neg (by omega), i1 i (by omega)]
      rw [x_supply (CB_sx F3 hb h) hA hi, Option.bind_some, aget_n (by omega) (by omega), Option.bind_some, aget_n (by omega) (by omega), Option.bind_some, c6, c4 50 (by omega), i2 i (by omega), iI_wide (by omega)]
      refine wp_al (by omega) (by omega) fun S4 G4 d1 d2 d3 d4 d5 => ?_
      have F4 : FR pSx S S4 := G4 _ _ (by unfold pSx; omega) F3
      refine k S4 ⟨F4, fun q hq => ?_, fun q hq => ?_⟩
      · rw [d4 48 (by omega), c5 q]
        by_cases e : q = i + 1
        · rw [if_pos e, e]
          simp only [lI_mul, lI_sub]
          rfl
        · rw [if_neg e]
          exact i1 q (by omega)
      · rw [d5 q]
        by_cases e : q = i + 1
        · rw [if_pos e, e]
          simp only [lI_mul, lI_add]
          rfl
        · rw [if_neg e, c4 50 (by omega)]
          exact i2 q (by omega)
    rw [TX4_sweepRight_L16, if_neg (by rw [nI_cmp (by omega) (by omega)]; omega), x_leadP hC hA hi, Option.bind_some]
    by_cases e : i = 0
    · subst e
      rw [if_pos (by decide)]
      exact key
    · rw [if_neg (nI_nle (by omega) (by omega)), show nI i - 1 = nI (i - 1) by rw [show (1 : Int32) = nI 1 from rfl, pk_sub (by omega)], aget_n (by omega) (by omega), Option.bind_some, i1 (i - 1) (by omega)]
      obtain ⟨p, hp⟩ : ∃ p, i = p + 1 := ⟨i - 1, by omega⟩
      have e2 : (ahP A (i - 1)).1 = (ahP A i).2 := by subst hp; rfl
      rw [e2]
      exact key
  · intro n s ⟨hF, i1, i2⟩
    show WP (TX4_sweepRight_L16 b (n + 1) (nI (qN A)) (nI (qN A)) s) _
    rw [TX4_sweepRight_L16, if_pos (by rw [nI_cmp (by omega) (by omega)]; omega)]
    exact wp_some ⟨hF, i1, i2⟩
  · obtain rfl : q = 0 := by omega
    rw [b4 48 (by omega), a5 0, if_pos rfl]
    rfl
  · obtain rfl : q = 0 := by omega
    rw [b5 0, if_pos rfl]
    rfl
theorem x_swL (h : CB S b A) (hA : okA M A) (hb : b + 13 < 46) (hn : 1 ≤ qN A) : WP (TX4_sweepLeft b (nI (qN A)) S) (fun r => FR pSx S r ∧ r.2.2.2 48 = S.2.2.2 48 ∧ r.2.2.2 50 = S.2.2.2 50 ∧ (∀ q, q ≤ qN A → r.2.2.2 49 q = lI (onP A (qN A - q)).1) ∧ ∀ q, q ≤ qN A → r.2.2.2 51 q = lI (frS A (qN A - q))) := by
  have h8 := ok_n hA
  unfold TX4_sweepLeft
  rw [nI_1]
  refine wp_al (by omega) (by omega) fun S1 G1 a1 a2 a3 a4 a5 => ?_
  refine wp_al (by omega) (by omega) fun S2 G2 b1 b2 b3 b4 b5 => ?_
  refine wp_al (by omega) (by omega) fun S3 G3 c1 c2 c3 c4 c5 => ?_
  have F3 : FR pSx S S3 := G3 _ _ (by unfold pSx; omega) (G2 _ _ (by unfold pSx; omega) (G1 _ _ (by unfold pSx; omega) FR_refl))
  have L : ∀ (k f : Nat) (s : SS), k ≤ qN A → k + 1 ≤ f → FR pSx S s → s.2.2.2 48 = S.2.2.2 48 → s.2.2.2 50 = S.2.2.2 50 → (∀ q, k ≤ q → q ≤ qN A → s.2.2.2 49 q = lI (onP A (qN A - q)).1 ∧ s.2.2.2 49 (q + 1) = lI (onP A (qN A - q)).2) → (∀ q, k ≤ q → q ≤ qN A → s.2.2.2 51 q = lI (frS A (qN A - q))) → WP (TX4_sweepLeft_L27 b f (iI ((k : Int) - 1)) s) (fun r => FR pSx S r ∧ r.2.2.2 48 = S.2.2.2 48 ∧ r.2.2.2 50 = S.2.2.2 50 ∧ (∀ q, q ≤ qN A → r.2.2.2 49 q = lI (onP A (qN A - q)).1) ∧ ∀ q, q ≤ qN A → r.2.2.2 51 q = lI (frS A (qN A - q))) := by
    intro k
    induction k with
    | zero =>
      intro f s hk hf hF e1 e2 i1 i2
      obtain ⟨f, rfl⟩ : ∃ q, f = q + 1 := ⟨f - 1, by omega⟩
      rw [TX4_sweepLeft_L27, if_pos (by decide)]
      exact wp_some ⟨hF, e1, e2, fun q hq => (i1 q (by omega) hq).1, fun q hq => i2 q (by omega) hq⟩
    | succ i ih =>
      intro f s hk hf hF e1 e2 i1 i2
      obtain ⟨f, rfl⟩ : ∃ q, f = q + 1 := ⟨f - 1, by omega⟩
      have hi : i < qN A := by omega
      have hC := CB_sx hF hb h
      have lo := loss_b hA hi
      have ld := lead_b hA (j := i + 1) (by omega) (by omega)
      have sb := sup_B hA hi
      obtain ⟨o1, o2⟩ := i1 (i + 1) (by omega) (by omega)
      have o3 := i2 (i + 1) (by omega) (by omega)
      obtain ⟨m, hm⟩ : ∃ m, qN A - i = m + 1 := ⟨qN A - i - 1, by omega⟩
      have m1 : qN A - (i + 1) = m := by omega
      have m2 : qN A - (m + 1) = i := by omega
      have m3 : qN A - m = i + 1 := by omega
      rw [m1] at o1 o2 o3
      rw [show iI (((i + 1 : Nat) : Int) - 1) = nI i by rw [nI_z]; congr 1; omega, TX4_sweepLeft_L27, if_neg (by rw [show (0 : Int32) = nI 0 from rfl, nI_ltI' (by omega) (by omega)]; omega), x_leadN hC hA hi, Option.bind_some, x_loss hC hA hi, Option.bind_some, nI_1, aget_n (by omega) (by omega), Option.bind_some, show (2 : Int32) = nI 2 from rfl, nI_add, aget_n (by omega) (by omega), Option.bind_some, o1, show i + 2 = i + 1 + 1 by omega, o2, nI_wideI (by omega), nI_wideI (by omega)]
      refine wp_al (by omega) (by omega) fun S4 G4 d1 d2 d3 d4 d5 => ?_
      have F4 : FR pSx S S4 := G4 _ _ (by unfold pSx; omega) hF
      have d6 : S4.2.2.2 49 (i + 1) = lI (onP A m).1 := by rw [d5 (i + 1), if_neg (by omega), o1]
      rw [x_supply (CB_sx F4 hb h) hA hi, Option.bind_some, aget_n (by omega) (by omega), Option.bind_some, aget_n (by omega) (by omega), Option.bind_some, d6, d4 51 (by omega), o3, iI_wide (by omega)]
      refine wp_al (by omega) (by omega) fun S5 G5 x1 x2 x3 x4 x5 => ?_
      have F5 : FR pSx S S5 := G5 _ _ (by unfold pSx; omega) F4
      rw [show nI i + -1 = iI ((i : Int) - 1) by rw [nI_z, km1, iI_add]; congr 1]
      have y1 : ∀ q, i ≤ q → q ≤ qN A → S5.2.2.2 49 q = lI (onP A (qN A - q)).1 := fun q hq1 hq2 => by
        rw [x4 49 (by omega), d5 q]
        by_cases e : q = i
        · rw [if_pos e, e, hm, onP, m2, m3]
          simp only [lI_mul, lI_sub]
        · rw [if_neg e]
          exact (i1 q (by omega) hq2).1
      refine ih f S5 (by omega) (by omega) F5 ?_ ?_ (fun q hq1 hq2 => ⟨y1 q hq1 hq2, ?_⟩) (fun q hq1 hq2 => ?_)
      · rw [x4 48 (by omega), d4 48 (by omega), e1]
      · rw [x4 50 (by omega), d4 50 (by omega), e2]
      · rw [x4 49 (by omega), d5 (q + 1), if_neg (by omega)]
        by_cases e : q = i
        · rw [e, hm, onP, o1]
        · exact (i1 q (by omega) hq2).2
      · rw [x5 q]
        by_cases e : q = i
        · rw [if_pos e, e, hm, frS, m2, m3]
          simp only [lI_mul, lI_add]
        · rw [if_neg e, d4 51 (by omega)]
          exact i2 q (by omega) hq2
  have ep : nI (qN A) - 1 = iI ((qN A : Int) - 1) := by rw [nI_z, k1, iI_sub]
  rw [ep]
  refine L (qN A) fu S3 (by omega) (by rw [fu_eq]; omega) F3 ?_ ?_ (fun q h1 h2 => ?_) (fun q h1 h2 => ?_)
  · rw [c4 48 (by omega), b4 48 (by omega), a4 48 (by omega)]
  · rw [c4 50 (by omega), b4 50 (by omega), a4 50 (by omega)]
  · obtain rfl : q = qN A := by omega
    rw [c4 49 (by omega), b5, b5, if_neg (by omega), if_pos rfl, a5, if_pos rfl, Nat.sub_self]
    exact ⟨rfl, rfl⟩
  · obtain rfl : q = qN A := by omega
    rw [c5, if_pos rfl, Nat.sub_self]
    rfl
theorem x_solve (h : CB S b A) (hA : okA M A) (hb : b + 13 < 46) (hn : 1 ≤ qN A) : WP (TX4_solve b S) (fun r => FR pSx S r ∧ r.2.1 46 1 = lI (whN A) ∧ ∀ i, i < qN A → r.2.2.2 47 i = lI (stG A i)) := by
  have h8 := ok_n hA
  unfold TX4_solve
  rw [h.1]
  refine wp_bind (x_swR h hA hb) fun r1 p1 => ?_
  obtain ⟨F1, p2, p3⟩ := p1
  refine wp_bind (x_swL (CB_sx F1 hb h) hA hb hn) fun r2 q1 => ?_
  obtain ⟨F2, q2, q3, q4, q5⟩ := q1
  have F := FR_trans F1 F2
  refine wp_up (F := fun n i s => TX4_solve_L19 b n (nI (qN A)) (nI i) s) (N := qN A) (I := fun i s => FR pSx S s ∧ s.2.2.2 48 = r2.2.2.2 48 ∧ s.2.2.2 49 = r2.2.2.2 49 ∧ s.2.2.2 50 = r2.2.2.2 50 ∧ s.2.2.2 51 = r2.2.2.2 51 ∧ ∀ q, q < i → s.2.2.2 47 q = lI (stG A q)) ?_ ?_ 0 r2 fu (by omega) ⟨F, rfl, rfl, rfl, rfl, fun q hq => by omega⟩ (by rw [fu_eq]; omega)
  · intro n i s hi ⟨hF, i1, i2, i3, i4, i5⟩ k
    have hC := CB_sx hF hb h
    have ld := lead_b hA (j := i + 1) (by omega) (by omega)
    show WP (TX4_solve_L19 b (n + 1) (nI (qN A)) (nI i) s) _
    rw [TX4_solve_L19, if_neg (by rw [nI_cmp (by omega) (by omega)]; omega), nI_1, aget_n (by omega) (by omega), Option.bind_some, aget_n (by omega) (by omega), Option.bind_some, aget_n (by omega) (by omega), Option.bind_some, x_leadN hC hA hi, Option.bind_some, aget_n (by omega) (by omega), Option.bind_some, i1, i2, i3, i4, q2, q3, p2 i (by omega), p3 (i + 1) (by omega), q4 (i + 1) (by omega), q5 (i + 1) (by omega), nI_wideI (by omega)]
    refine wp_al (by omega) (by omega) fun S4 G4 d1 d2 d3 d4 d5 => ?_
    refine k S4 ⟨G4 _ _ (by unfold pSx; omega) hF, ?_, ?_, ?_, ?_, fun q hq => ?_⟩
    · rw [d4 48 (by omega), i1]
    · rw [d4 49 (by omega), i2]
    · rw [d4 50 (by omega), i3]
    · rw [d4 51 (by omega), i4]
    · rw [d5 q]
      by_cases e : q = i
      · rw [if_pos e, e]
        simp only [lI_mul, lI_add]
        rfl
      · rw [if_neg e]
        exact i5 q (by omega)
  · intro n s ⟨hF, i1, i2, i3, i4, i5⟩
    show WP (TX4_solve_L19 b (n + 1) (nI (qN A)) (nI (qN A)) s) _
    rw [TX4_solve_L19, if_pos (by rw [nI_cmp (by omega) (by omega)]; omega), aget_n (by omega) (by omega), Option.bind_some, i1, q2, p2 (qN A) (by omega)]
    refine wp_fl fun S4 G4 d1 d2 d3 d4 d5 => wp_some ⟨G4 _ _ (by unfold pSx; omega) hF, d1, fun q hq => ?_⟩
    rw [d5]
    exact i5 q hq
/-- whether there are any, as the class asks -/
theorem x_canRest (h : CB S b A) (hA : okA M A) : TX0_canRest b S = some (b2i (1 ≤ qN A ∧ 0 < whN A)) := by
  have h8 := ok_n hA
  have hE := ok_e hA
  have g0 : aget 2 (S.2.2.1 (b + 9)) 0 = some (iI (qE0 A)) := by rw [show (0 : Int32) = nI 0 from rfl, aget_n (by omega) (by decide), h.2.2.2.2.2.1]
  have g1 : aget 2 (S.2.2.1 (b + 9)) 1 = some (iI (qE1 A)) := by rw [show (1 : Int32) = nI 1 from rfl, aget_n (by omega) (by decide), h.2.2.2.2.2.2.1]
  have ht : TX6_total (b + 7) 8 (nI (qN A)) S = some (iI (finT A (qN A))) := x_total h8 (by omega) (fun i hi => by rw [← nI_z]; exact (h.2.2.2.2.2.2.2.1 i hi).2.2.2.2.2.2.1)
  have fB : ∀ k, finT A k ≤ k := fun k => by
    induction k with
    | zero => exact Int.le_refl 0
    | succ k ih =>
      have e : finT A (k + 1) = finT A k + finA A k := rfl
      have : finA A k ≤ 1 := fin_b _
      rw [e]
      omega
  have fB1 := fB (qN A)
  have fB0 := finT_0 A (qN A)
  have c0 : nI (qN A) ≤ 0 ↔ qN A = 0 := by rw [nI_z, k0, iI_le (by omega) (by omega)]; omega
  have cT : iI (finT A (qN A)) ≤ 0 ↔ ¬ 1 ≤ finT A (qN A) := by rw [k0, iI_le (by omega) (by omega)]; omega
  have cE0 : iI (qE0 A) = -1 ↔ qE0 A = -1 := by rw [km1, iI_eq (by omega) (by omega)]
  have cE1 : iI (qE1 A) = -1 ↔ qE1 A = -1 := by rw [km1, iI_eq (by omega) (by omega)]
  have n10 : ¬ (1 : Int32) = 0 := by decide
  have j1 : (qE0 A ≠ -1 ∨ qE1 A ≠ -1) → TX0_canRest_J25 S b 1 = some (b2i (1 ≤ qN A ∧ 0 < whN A)) := fun hh => by
    unfold TX0_canRest_J25
    rw [h.1, if_neg n10]
    by_cases e : qN A = 0
    · rw [if_pos (c0.mpr e), b2i_f (by omega)]; rfl
    · rw [if_neg (fun z => e (c0.mp z)), b2i_t ⟨by omega, (wh_pos hA (by omega)).mpr (hh.elim Or.inl (fun z => Or.inr (Or.inl z)))⟩]; rfl
  have j0 : qE0 A = -1 → qE1 A = -1 → TX0_canRest_J25 S b 0 = some (b2i (1 ≤ qN A ∧ 0 < whN A)) := fun e1 e2 => by
    unfold TX0_canRest_J25
    rw [h.1, if_pos (rfl : (0 : Int32) = 0), ht, Option.bind_some]
    by_cases e : qN A = 0
    · rw [if_pos (c0.mpr e), b2i_f (by omega)]; rfl
    · rw [if_neg (fun z => e (c0.mp z))]
      have hw := wh_pos hA (by omega)
      by_cases eT : 1 ≤ finT A (qN A)
      · rw [if_neg (fun z => cT.mp z eT), b2i_t ⟨by omega, hw.mpr (Or.inr (Or.inr eT))⟩]; rfl
      · rw [if_pos (cT.mpr eT), b2i_f (fun z => by have := hw.mp z.2; omega)]; rfl
  unfold TX0_canRest
  rw [g0, Option.bind_some, g1, Option.bind_some]
  by_cases e1 : qE0 A = -1
  · rw [if_pos (cE0.mpr e1)]
    by_cases e2 : qE1 A = -1
    · rw [if_pos (cE1.mpr e2), j0 e1 e2]
    · rw [if_neg (fun z => e2 (cE1.mp z)), j1 (Or.inr e2)]
  · rw [if_neg (fun z => e1 (cE0.mp z)), j1 (Or.inl e1)]
end SLV
