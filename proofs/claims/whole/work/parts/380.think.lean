/-! The reference thinks and keeps. -/
theorem fu_eq : fu = 4096 := rfl
section THINK
variable {S S' : SS} {A : AB}
theorem MB_fr {P : Nat → Nat → Nat → Prop} (h : FR P S S') (hP : ∀ t k j, P t k j → pMs t k j ∨ k < 64) (c : MB S A) : MB S' A :=
  ⟨MC_fr h (fun z => by have := hP _ _ _ z; unfold pMs at this; omega) (fun k h1 h2 z => by have := hP _ _ _ z; unfold pMs at this; omega) c.1, MH_fr h (fun z => by have := hP _ _ _ z; unfold pMs at this; omega) (fun z => by have := hP _ _ _ z; unfold pMs at this; omega) (fun z => by have := hP _ _ _ z; unfold pMs at this; omega) (fun k h1 h2 z => by have := hP _ _ _ z; unfold pMs at this; omega) c.2⟩
theorem MC_frs (h : FR pMs S S') (c : MC S A) : MC S' A := MC_fr h (fun z => by unfold pMs at z; omega) (fun k h1 h2 z => by unfold pMs at z; omega) c
theorem MB_frs (h : FR pMs S S') (c : MB S A) : MB S' A := MB_fr h (fun _ _ _ z => Or.inl z) c
/-- the reference's thought may change here -/
def pMi (t k j : Nat) : Prop := (t = 0 ∧ k = 64 ∧ (j = 15 ∨ j = 20)) ∨ (t = 1 ∧ k = 64 ∧ j = 14) ∨ (t = 2 ∧ 76 ≤ k ∧ k ≤ 78) ∨ (t = 3 ∧ (k = 75 ∨ k = 79))
theorem pMi_s : ∀ t k j, pMi t k j → pMs t k j := fun t k j h => by unfold pMi at h; unfold pMs; omega
theorem m_think (h : MB S A) (hn : qN A ≤ 8) (hp : qP A ≤ 12) : WP (TX7_think S) (fun r => FR pMi S r ∧ MM r A) := by
  unfold TX7_think
  refine wp_up (F := fun n i s => TX7_think_L2 n (nI i) s) (N := qN A) (I := fun i s => FR pMi S s ∧ ∀ q, q < i → s.2.2.2 75 q = lI (qS A 1 q)) ?_ ?_ 0 S fu (by omega) ⟨FR_refl, by omega⟩ (by rw [fu_eq]; omega)
  · intro n i s hi ⟨hF, hT⟩ k
    have hB := MB_frs (FR_mono hF pMi_s) h
    show WP (TX7_think_L2 (n + 1) (nI i) s) _
    rw [TX7_think_L2, hB.1.1]
    simp (disch := omega) only [letS, Option.bind_some, aget_n, ite_jin, iI_nat, nI_1, nI_leI', nI_ltI', nI_eqI', up2_s, up2_n, va_up_s, va_up_n, if_neg, hB.2.2.2.1 i hi]
    refine k _ ⟨FR_AL hF (by unfold pMi; omega), fun q hq => ?_⟩
    simp only [up2_s, va_up_at]
    by_cases e : q = i
    · rw [if_pos e, e]
    · rw [if_neg e]; exact hT q (by omega)
  · intro n s ⟨hF, hT⟩
    have hB := MB_frs (FR_mono hF pMi_s) h
    show WP (TX7_think_L2 (n + 1) (nI (qN A)) s) _
    rw [TX7_think_L2, hB.1.1]
    simp (disch := omega) only [letS, Option.bind_some, aget_n, ite_jin, iI_nat, nI_1, nI_leI', nI_ltI', nI_eqI', up2_s, up2_n, va_up_s, va_up_n, if_pos]
    refine wp_up (F := fun n i s => TX7_think_L46 n (nI i) s) (N := qP A) (I := fun i s => FR pMi S s ∧ s.2.1 64 14 = lN (qL A) ∧ s.1 64 15 = nI (qP A) ∧ (∀ q, q < qN A → s.2.2.2 75 q = lI (qS A 1 q)) ∧ ∀ q, q < i → s.2.2.1 76 q = nI (qK A 3 q) ∧ s.2.2.1 77 q = nI (qK A 4 q) ∧ s.2.2.1 78 q = iI (qS A 2 q)) ?_ ?_ 0 _ fu (by omega) ⟨FR_FI (FR_FL hF (by unfold pMi; omega)) (by unfold pMi; omega), ?_, ?_, hT, by omega⟩ (by rw [fu_eq]; omega)
    · intro n i s hi ⟨hF, h1, h2, hT, hQ⟩ k
      have hB := MB_frs (FR_mono hF pMi_s) h
      obtain ⟨g1, g2, g3⟩ := hB.2.2.2.2 i hi
      show WP (TX7_think_L46 (n + 1) (nI i) s) _
      rw [TX7_think_L46, hB.2.2.1]
      simp (disch := omega) only [letS, Option.bind_some, aget_n, ite_jin, iI_nat, nI_1, nI_leI', nI_ltI', nI_eqI', up2_s, up2_n, va_up_s, va_up_n, if_neg]
      refine k _ ⟨FR_AI (FR_AI (FR_AI hF (by unfold pMi; omega)) (by unfold pMi; omega)) (by unfold pMi; omega), h1, h2, hT, fun q hq => ?_⟩
      simp (disch := omega) only [up2_s, up2_n, va_up_at]
      by_cases e : q = i
      · subst e
        simp only [if_true]
        exact ⟨g1, g2, g3⟩
      · simp only [if_neg e]
        exact hQ q (by omega)
    · intro n s ⟨hF, h1, h2, hT, hQ⟩
      have hB := MB_frs (FR_mono hF pMi_s) h
      show WP (TX7_think_L46 (n + 1) (nI (qP A)) s) _
      rw [TX7_think_L46, hB.2.2.1]
      simp (disch := omega) only [letS, Option.bind_some, aget_n, ite_jin, iI_nat, nI_1, nI_leI', nI_ltI', nI_eqI', up2_s, up2_n, va_up_s, va_up_n, if_pos]
      exact wp_some ⟨hF, hB.1, h1, h2, hT, hQ⟩
    · simp (disch := omega) only [up2_s, up2_n, va_up_s, va_up_n]
      exact hB.2.1
    · simp (disch := omega) only [up2_s, up2_n, va_up_s, va_up_n]
      exact hB.2.2.1
theorem MM_frt (h : FR pMt S S') (c : MM S A) : MM S' A :=
  ⟨MC_fr h (fun z => by unfold pMt at z; omega) (fun k h1 h2 z => by unfold pMt at z; omega) c.1, MH_fr h (fun z => by unfold pMt at z; omega) (fun z => by unfold pMt at z; omega) (fun z => by unfold pMt at z; omega) (fun k h1 h2 z => by unfold pMt at z; omega) c.2⟩
theorem m_keep (h : MM S A) (hn : qN A ≤ 8) (hp : qP A ≤ 12) : WP (TX7_keep S) (fun r => FR pMt S r ∧ MB r A) := by
  unfold TX7_keep
  refine wp_up (F := fun n i s => TX7_keep_L2 n (nI i) s) (N := qN A) (I := fun i s => FR pMt S s ∧ ∀ q, q < i → s.2.2.2 69 q = lI (qS A 1 q)) ?_ ?_ 0 S fu (by omega) ⟨FR_refl, by omega⟩ (by rw [fu_eq]; omega)
  · intro n i s hi ⟨hF, hT⟩ k
    have hB := MM_frt hF h
    show WP (TX7_keep_L2 (n + 1) (nI i) s) _
    rw [TX7_keep_L2, hB.1.1]
    simp (disch := omega) only [letS, Option.bind_some, aget_n, ite_jin, iI_nat, nI_1, nI_leI', nI_ltI', nI_eqI', up2_s, up2_n, va_up_s, va_up_n, if_neg, hB.2.2.2.1 i hi]
    refine k _ ⟨FR_AL hF (by unfold pMt; omega), fun q hq => ?_⟩
    simp only [up2_s, va_up_at]
    by_cases e : q = i
    · rw [if_pos e, e]
    · rw [if_neg e]; exact hT q (by omega)
  · intro n s ⟨hF, hT⟩
    have hB := MM_frt hF h
    show WP (TX7_keep_L2 (n + 1) (nI (qN A)) s) _
    rw [TX7_keep_L2, hB.1.1]
    simp (disch := omega) only [letS, Option.bind_some, aget_n, ite_jin, iI_nat, nI_1, nI_leI', nI_ltI', nI_eqI', up2_s, up2_n, va_up_s, va_up_n, if_pos]
    refine wp_up (F := fun n i s => TX7_keep_L46 n (nI i) s) (N := qP A) (I := fun i s => FR pMt S s ∧ s.2.1 64 6 = lN (qL A) ∧ s.1 64 9 = nI (qP A) ∧ (∀ q, q < qN A → s.2.2.2 69 q = lI (qS A 1 q)) ∧ ∀ q, q < i → s.2.2.1 72 q = nI (qK A 3 q) ∧ s.2.2.1 73 q = nI (qK A 4 q) ∧ s.2.2.1 74 q = iI (qS A 2 q)) ?_ ?_ 0 _ fu (by omega) ⟨FR_FI (FR_FL hF (by unfold pMt; omega)) (by unfold pMt; omega), ?_, ?_, hT, by omega⟩ (by rw [fu_eq]; omega)
    · intro n i s hi ⟨hF, h1, h2, hT, hQ⟩ k
      have hB := MM_frt hF h
      obtain ⟨g1, g2, g3⟩ := hB.2.2.2.2 i hi
      show WP (TX7_keep_L46 (n + 1) (nI i) s) _
      rw [TX7_keep_L46, hB.2.2.1]
      simp (disch := omega) only [letS, Option.bind_some, aget_n, ite_jin, iI_nat, nI_1, nI_leI', nI_ltI', nI_eqI', up2_s, up2_n, va_up_s, va_up_n, if_neg]
      refine k _ ⟨FR_AI (FR_AI (FR_AI hF (by unfold pMt; omega)) (by unfold pMt; omega)) (by unfold pMt; omega), h1, h2, hT, fun q hq => ?_⟩
      simp (disch := omega) only [up2_s, up2_n, va_up_at]
      by_cases e : q = i
      · subst e
        simp only [if_true]
        exact ⟨g1, g2, g3⟩
      · simp only [if_neg e]
        exact hQ q (by omega)
    · intro n s ⟨hF, h1, h2, hT, hQ⟩
      have hB := MM_frt hF h
      show WP (TX7_keep_L46 (n + 1) (nI (qP A)) s) _
      rw [TX7_keep_L46, hB.2.2.1]
      simp (disch := omega) only [letS, Option.bind_some, aget_n, ite_jin, iI_nat, nI_1, nI_leI', nI_ltI', nI_eqI', up2_s, up2_n, va_up_s, va_up_n, if_pos]
      exact wp_some ⟨hF, hB.1, h1, h2, hT, hQ⟩
    · simp (disch := omega) only [up2_s, up2_n, va_up_s, va_up_n]
      exact hB.2.1
    · simp (disch := omega) only [up2_s, up2_n, va_up_s, va_up_n]
      exact hB.2.2.1
end THINK
