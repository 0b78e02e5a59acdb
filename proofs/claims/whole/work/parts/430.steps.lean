/-! Calls: step, then, spent, calm. -/
/-! one write after the other, the states kept apart -/
section WR
variable {α : Type} {Q : α → Prop} {S' : SS} {f : SS → Option α}
theorem wp_ri {c : Prop} [Decidable c] {k : Nat} {g : Nat → Int32} (hc : c) (h : ∀ S'', (∀ (P : Nat → Nat → Nat → Prop) (S0 : SS), P 2 k 0 → FR P S0 S' → FR P S0 S'') → S''.1 = S'.1 → S''.2.1 = S'.2.1 → S''.2.2.2 = S'.2.2.2 → (∀ r, r ≠ k → S''.2.2.1 r = S'.2.2.1 r) → S''.2.2.1 k = g → WP (f S'') Q) : WP (if c then letS (sRI S' k g) f else none) Q := by
  rw [if_pos hc]
  exact h _ (fun P S0 hk hF => FR_RI hF hk) rfl rfl rfl (fun r hr => va_up_n _ _ hr) (va_up_s ..)
theorem wp_rl {c : Prop} [Decidable c] {k : Nat} {g : Nat → Int64} (hc : c) (h : ∀ S'', (∀ (P : Nat → Nat → Nat → Prop) (S0 : SS), P 3 k 0 → FR P S0 S' → FR P S0 S'') → S''.1 = S'.1 → S''.2.1 = S'.2.1 → S''.2.2.1 = S'.2.2.1 → (∀ r, r ≠ k → S''.2.2.2 r = S'.2.2.2 r) → S''.2.2.2 k = g → WP (f S'') Q) : WP (if c then letS (sRL S' k g) f else none) Q := by
  rw [if_pos hc]
  exact h _ (fun P S0 hk hF => FR_RL hF hk) rfl rfl rfl (fun r hr => va_up_n _ _ hr) (va_up_s ..)
theorem wp_fi {k j : Nat} {v : Int32} (h : ∀ S'', (∀ (P : Nat → Nat → Nat → Prop) (S0 : SS), P 0 k j → FR P S0 S' → FR P S0 S'') → S''.1 k j = v → (∀ k' j', ¬ (k' = k ∧ j' = j) → S''.1 k' j' = S'.1 k' j') → S''.2.1 = S'.2.1 → S''.2.2.1 = S'.2.2.1 → S''.2.2.2 = S'.2.2.2 → WP (f S'') Q) : WP (letS (sFI S' k j v) f) Q :=
  h _ (fun P S0 hk hF => FR_FI hF hk) (if_pos ⟨rfl, rfl⟩) (fun k' j' z => if_neg z) rfl rfl rfl
theorem wp_fl {k j : Nat} {v : Int64} (h : ∀ S'', (∀ (P : Nat → Nat → Nat → Prop) (S0 : SS), P 1 k j → FR P S0 S' → FR P S0 S'') → S''.2.1 k j = v → (∀ k' j', ¬ (k' = k ∧ j' = j) → S''.2.1 k' j' = S'.2.1 k' j') → S''.1 = S'.1 → S''.2.2.1 = S'.2.2.1 → S''.2.2.2 = S'.2.2.2 → WP (f S'') Q) : WP (letS (sFL S' k j v) f) Q :=
  h _ (fun P S0 hk hF => FR_FL hF hk) (if_pos ⟨rfl, rfl⟩) (fun k' j' z => if_neg z) rfl rfl rfl
end WR
theorem va_c8 {α : Type} {f g : Nat → α} {i : Nat} (h : i < 8) : va_cpy f g (Int32.toNatClampNeg 0) (Int32.toNatClampNeg 0) (Int32.toNatClampNeg 8) i = f i := by rw [c0, c8]; exact va_cpy_lt h
theorem va_c12 {α : Type} {f g : Nat → α} {i : Nat} (h : i < 12) : va_cpy f g (Int32.toNatClampNeg 0) (Int32.toNatClampNeg 0) (Int32.toNatClampNeg 12) i = f i := by rw [c0, c12]; exact va_cpy_lt h
theorem va_c2 {α : Type} {f g : Nat → α} {i : Nat} (h : i < 2) : va_cpy f g (Int32.toNatClampNeg 0) (Int32.toNatClampNeg 0) (Int32.toNatClampNeg (Int32.ofNat 2)) i = f i := by rw [c0, c2n]; exact va_cpy_lt h
section BEC
variable {S : SS} {A : AB}
theorem x_becomeP {b a : Nat} {np : Nat} (h12 : np ≤ 12) (hab : a + 4 ≤ b ∨ b + 4 ≤ a) : WP (TX2_become b a S) (fun r => FR (fun t k j => b ≤ k ∧ k ≤ b + 3) S r ∧ r.1 b 3 = S.1 a 3 ∧ ∀ p, p < np → r.2.2.1 (b + 1) p = S.2.2.1 (a + 1) p ∧ r.2.2.1 (b + 2) p = S.2.2.1 (a + 2) p ∧ r.2.2.1 (b + 3) p = S.2.2.1 (a + 3) p) := by
  unfold TX2_become
  refine wp_ri cp12 fun S1 F1 a1 a2 a3 a4 a5 => ?_
  refine wp_ri cp12 fun S2 F2 b1 b2 b3 b4 b5 => ?_
  refine wp_ri cp12 fun S3 F3 d1 d2 d3 d4 d5 => ?_
  refine wp_fi fun S4 F4 e1 e2 e3 e4 e5 => ?_
  refine wp_some ⟨F4 _ _ (by omega) (F3 _ _ (by omega) (F2 _ _ (by omega) (F1 _ _ (by omega) FR_refl))), ?_, fun p hp => ?_⟩
  · rw [e1, d1, b1, a1]
  · rw [e4, d5, d4 (b + 1) (by omega), d4 (b + 2) (by omega), b5, b4 (b + 1) (by omega), a5, va_c12 (by omega), va_c12 (by omega), va_c12 (by omega), b4 (a + 3) (by omega), a4 (a + 3) (by omega), a4 (a + 2) (by omega)]
    exact ⟨rfl, rfl, rfl⟩
theorem x_become {b a : Nat} (h : CB S a A) (h8 : qN A ≤ 8) (h12 : qP A ≤ 12) (hab : a + 15 ≤ b ∨ b + 15 ≤ a) : WP (TX0_become b a S) (fun r => FR (pB b) S r ∧ CB r b A) := by
  unfold TX0_become
  refine wp_fi fun S0 F0 z1 z2 z3 z4 z5 => ?_
  refine wp_ri cp8 fun S1 F1 a1 a2 a3 a4 a5 => ?_
  refine wp_ri cp8 fun S2 F2 b1 b2 b3 b4 b5 => ?_
  refine wp_ri cp8 fun S3 F3 d1 d2 d3 d4 d5 => ?_
  refine wp_ri cp8 fun S4 F4 e1 e2 e3 e4 e5 => ?_
  refine wp_ri cp8 fun S5 F5 f1 f2 f3 f4 f5 => ?_
  refine wp_ri cp8 fun S6 F6 g1 g2 g3 g4 g5 => ?_
  refine wp_ri cp8 fun S7 F7 i1 i2 i3 i4 i5 => ?_
  refine wp_rl cp8 fun S8 F8 j1 j2 j3 j4 j5 => ?_
  refine wp_fl fun S9 F9 l1 l2 l3 l4 l5 => ?_
  refine wp_ri cp2 fun SA FA m1 m2 m3 m4 m5 => ?_
  refine wp_fi fun SB FB n1 n2 n3 n4 n5 => ?_
  refine wp_fi fun SC FC o1 o2 o3 o4 o5 => ?_
  refine wp_bind (x_becomeP (b := b + 10) (a := a + 10) h12 (by omega)) fun r hr => wp_some ?_
  obtain ⟨r1, r2, r3⟩ := hr
  have hF : FR (pB b) S SC := by
    refine FC _ _ ?_ (FB _ _ ?_ (FA _ _ ?_ (F9 _ _ ?_ (F8 _ _ ?_ (F7 _ _ ?_ (F6 _ _ ?_ (F5 _ _ ?_ (F4 _ _ ?_ (F3 _ _ ?_ (F2 _ _ ?_ (F1 _ _ ?_ (F0 _ _ ?_ FR_refl)))))))))))) <;> (unfold pB; omega)
  have hF' : FR (pB b) S r := FR_trans hF (FR_mono r1 (fun t k j z => by unfold pB; omega))
  refine ⟨hF', ?_⟩
  have hS : ∀ k j, ¬ (b ≤ k ∧ k ≤ b + 14) → SC.1 k j = S.1 k j := fun k j hk => hF.1 k j hk
  have hR : ∀ k, ¬ (b ≤ k ∧ k ≤ b + 14) → SC.2.2.1 k = S.2.2.1 k := fun k hk => hF.2.2.1 k hk
  obtain ⟨w1, w2, w3, w4, w5, w6, w7, w8, w9⟩ := h
  have q1 : ∀ k j, k < b + 10 → r.1 k j = SC.1 k j := fun k j hk => r1.1 k j (by omega)
  have q2 : ∀ k, k < b + 10 → r.2.2.1 k = SC.2.2.1 k := fun k hk => r1.2.2.1 k (by omega)
  have q3 : ∀ k j, k < b + 10 → r.2.1 k j = SC.2.1 k j := fun k j hk => r1.2.1 k j (by omega)
  have q4 : ∀ k, k < b + 10 → r.2.2.2 k = SC.2.2.2 k := fun k hk => r1.2.2.2 k (by omega)
  refine ⟨?_, ?_, ?_, ?_, ?_, ?_, ?_, fun i hi => ?_, fun p hp => ?_⟩
  · rw [q1 _ _ (by omega), o2 _ _ (by omega), n2 _ _ (by omega), m1, l3, j1, i1, g1, f1, e1, d1, b1, a1, z1, w1]
  · rw [r2, hS _ _ (by omega), w2]
  · rw [q3 _ _ (by omega), o3, n3, m2, l1, j2, i2, g2, f2, e2, d2, b2, a2, z3, w3]
  · rw [q1 _ _ (by omega), o2 _ _ (by omega), n1, m1, l3, j1, i1, g1, f1, e1, d1, b1, a1, z2 _ _ (by omega), w4]
  · rw [q1 _ _ (by omega), o1, n2 _ _ (by omega), m1, l3, j1, i1, g1, f1, e1, d1, b1, a1, z2 _ _ (by omega), w5]
  · rw [q2 _ (by omega), o4, n4, m5, va_c2 (by omega), l4, j3, i4 _ (by omega), g4 _ (by omega), f4 _ (by omega), e4 _ (by omega), d4 _ (by omega), b4 _ (by omega), a4 _ (by omega), z4, w6]
  · rw [q2 _ (by omega), o4, n4, m5, va_c2 (by omega), l4, j3, i4 _ (by omega), g4 _ (by omega), f4 _ (by omega), e4 _ (by omega), d4 _ (by omega), b4 _ (by omega), a4 _ (by omega), z4, w7]
  · have hi8 : i < 8 := by omega
    obtain ⟨v1, v2, v3, v4, v5, v6, v7, v8⟩ := w8 i hi
    refine ⟨?_, ?_, ?_, ?_, ?_, ?_, ?_, ?_⟩
    · rw [q2 _ (by omega), o4, n4, m4 _ (by omega), l4, j3, i4 _ (by omega), g4 _ (by omega), f4 _ (by omega), e4 _ (by omega), d4 _ (by omega), b4 _ (by omega), a5, va_c8 hi8, z4, v1]
    · rw [q2 _ (by omega), o4, n4, m4 _ (by omega), l4, j3, i4 _ (by omega), g4 _ (by omega), f4 _ (by omega), e4 _ (by omega), d4 _ (by omega), b5, va_c8 hi8, a4 _ (by omega), z4, v2]
    · rw [q2 _ (by omega), o4, n4, m4 _ (by omega), l4, j3, i4 _ (by omega), g4 _ (by omega), f4 _ (by omega), e4 _ (by omega), d5, va_c8 hi8, b4 _ (by omega), a4 _ (by omega), z4, v3]
    · rw [q2 _ (by omega), o4, n4, m4 _ (by omega), l4, j3, i4 _ (by omega), g4 _ (by omega), f4 _ (by omega), e5, va_c8 hi8, d4 _ (by omega), b4 _ (by omega), a4 _ (by omega), z4, v4]
    · rw [q2 _ (by omega), o4, n4, m4 _ (by omega), l4, j3, i4 _ (by omega), g4 _ (by omega), f5, va_c8 hi8, e4 _ (by omega), d4 _ (by omega), b4 _ (by omega), a4 _ (by omega), z4, v5]
    · rw [q2 _ (by omega), o4, n4, m4 _ (by omega), l4, j3, i4 _ (by omega), g5, va_c8 hi8, f4 _ (by omega), e4 _ (by omega), d4 _ (by omega), b4 _ (by omega), a4 _ (by omega), z4, v6]
    · rw [q2 _ (by omega), o4, n4, m4 _ (by omega), l4, j3, i5, va_c8 hi8, g4 _ (by omega), f4 _ (by omega), e4 _ (by omega), d4 _ (by omega), b4 _ (by omega), a4 _ (by omega), z4, v7]
    · rw [q4 _ (by omega), o5, n5, m3, l5, j5, va_c8 hi8, i3, g3, f3, e3, d3, b3, a3, z5, v8]
  · obtain ⟨p1, p2, p3⟩ := r3 p hp
    have u := w9 p hp
    rw [p1, p2, p3, hR _ (by omega), hR _ (by omega), hR _ (by omega)]
    exact u
theorem pB16 : ∀ t k j, pB 16 t k j → pXs t k j := fun t k j h => by unfold pB at h; unfold pXs; omega
theorem ok_step {M : Int} (h : okA M A) (hM : 1000000000000 ≤ M) (hM8 : M ≤ 1008000000000000) (e : stepC A = -2) : okA M (stepA A) := by
  have h8 : okA 1008000000000000 A := ok_M hM8 h
  have hl := line_B h8
  have hr : redL (nextA A) (lineA A) (qN A) ≤ 1000000000000 := by
    by_cases hr : redL (nextA A) (lineA A) (qN A) ≤ 1000000000000
    · exact hr
    · unfold stepC takeC at e
      rw [if_neg hr] at e
      omega
  have eC : bigN (redT (nextA A) (lineA A) (qN A)) (qN A) 0 = -2 := by
    unfold stepC takeC at e
    rw [if_pos hr] at e
    exact e
  refine ok_pass (ok_setH h (by omega) (redL_pos hl.1) hr fun i hi => ?_)
  have := bigN_ok (qN A) 0 eC i (by omega) (by omega)
  omega
theorem stepC_B (A : AB) : -2 ≤ stepC A ∧ stepC A < (qN A : Int) + 1 := takeC_B
end BEC
/-- up to k steps: how many are done, the bar then -/
def runA : Nat → AB → Nat × AB
  | 0, A => (0, A)
  | k + 1, A => if stepC A = -2 then ((runA k (stepA A)).1 + 1, (runA k (stepA A)).2) else (0, A)
theorem run_ok {M : Int} (hM : 1000000000000 ≤ M) (hM8 : M ≤ 1008000000000000) : ∀ k A, okA M A → okA M (runA k A).2 ∧ (runA k A).1 ≤ k ∧ qN (runA k A).2 = qN A
  | 0, A, h => ⟨h, Nat.le_refl _, rfl⟩
  | k + 1, A, h => by
    unfold runA
    by_cases e : stepC A = -2
    · rw [if_pos e]
      obtain ⟨h1, h2, h3⟩ := run_ok hM hM8 k (stepA A) (ok_step h hM hM8 e)
      exact ⟨h1, by show (runA k (stepA A)).1 + 1 ≤ k + 1; omega, h3⟩
    · rw [if_neg e]
      exact ⟨h, by show 0 ≤ k + 1; omega, rfl⟩
section STEPS
theorem x_runL {b N : Nat} (hN : N < 1000) : ∀ (m d n : Nat) (A : AB) (S : SS), d + m = N → m + 1 ≤ n → CB S b A → okA 1008000000000000 A →
    WP (TX6_stepsDone_L2 b n (nI N) (nI d) S) (fun r => r.1 = nI (d + (runA m A).1) ∧ FR (pB b) S r.2 ∧ CB r.2 b (runA m A).2) := by
  intro m
  induction m with
  | zero =>
    intro d n A S hd hn h hA
    obtain ⟨n, rfl⟩ : ∃ q, n = q + 1 := ⟨n - 1, by omega⟩
    rw [TX6_stepsDone_L2, if_pos (by rw [nI_cmp (by omega) (by omega)]; omega)]
    exact wp_some ⟨rfl, FR_refl, h⟩
  | succ m ih =>
    intro d n A S hd hn h hA
    obtain ⟨n, rfl⟩ : ∃ q, n = q + 1 := ⟨n - 1, by omega⟩
    rw [TX6_stepsDone_L2, if_neg (by rw [nI_cmp (by omega) (by omega)]; omega)]
    refine wp_bind (x_adv h hA) fun r hr => ?_
    obtain ⟨r1, r2, r3⟩ := hr
    have hB := stepC_B A
    have h8 := ok_n hA
    have c : r.1 = -2 ↔ stepC A = -2 := by rw [r1, m2, iI_eq (by omega) (by omega)]
    unfold runA
    by_cases e : stepC A = -2
    · rw [if_pos (c.mpr e), if_pos e, nI_1]
      rw [if_pos e] at r3
      refine wp_mono (ih (d + 1) n (stepA A) r.2 (by omega) (by omega) r3 (ok_step hA (by omega) (by omega) e)) fun q hq => ?_
      refine ⟨?_, FR_trans r2 hq.2.1, hq.2.2⟩
      rw [hq.1]
      show nI _ = nI (d + ((runA m (stepA A)).1 + 1))
      congr 1
      omega
    · rw [if_neg (fun z => e (c.mp z)), if_neg e]
      rw [if_neg e] at r3
      exact wp_some ⟨rfl, r2, r3⟩
theorem x_run {b N : Nat} {A : AB} {S : SS} (hN : N < 1000) (h : CB S b A) (hA : okA 1008000000000000 A) : WP (TX6_stepsDone b (nI N) S) (fun r => r.1 = nI (runA N A).1 ∧ FR (pB b) S r.2 ∧ CB r.2 b (runA N A).2) := by
  unfold TX6_stepsDone
  refine wp_mono (x_runL hN N 0 fu A S (by omega) (by rw [fu_eq]; omega) h hA) fun r hr => ?_
  rw [Nat.zero_add] at hr
  exact hr
theorem pMi_M : ∀ t k j, pMi t k j → pM t k j := fun t k j h => pMs_M _ _ _ (pMi_s _ _ _ h)
theorem b2i_z {p : Prop} [Decidable p] {x : Int32} (h : x = b2i p) : x = 0 ↔ ¬ p := by rw [h]; exact b2i_0
/-- true steps of the reference -/
theorem m_stepL {N : Nat} (hN : N < 1000) : ∀ (m d n : Nat) (A : AB) (S : SS), d + m = N → m + 1 ≤ n → MM S A → okA 1008000000000000 A →
    WP (TX7_step_L31 n (nI N) (nI d) S) (fun r => r.1 = nI (d + (runA m A).1) ∧ FR (fun t k j => pMi t k j ∨ pMt t k j) S r.2 ∧ MB r.2 (runA m A).2) := by
  intro m
  induction m with
  | zero =>
    intro d n A S hd hn h hA
    obtain ⟨n, rfl⟩ : ∃ q, n = q + 1 := ⟨n - 1, by omega⟩
    rw [TX7_step_L31, if_pos (by rw [nI_cmp (by omega) (by omega)]; omega), TX7_step_J49]
    refine wp_bind (m_keep h (ok_n hA) (ok_p hA)) fun r hr => wp_some ⟨rfl, FR_mono hr.1 (fun _ _ _ z => Or.inr z), hr.2⟩
  | succ m ih =>
    intro d n A S hd hn h hA
    obtain ⟨n, rfl⟩ : ∃ q, n = q + 1 := ⟨n - 1, by omega⟩
    rw [TX7_step_L31, if_neg (by rw [nI_cmp (by omega) (by omega)]; omega)]
    refine wp_bind (m_goes h hA) fun r hr => ?_
    obtain ⟨r1, r2, -, r3⟩ := hr
    unfold runA
    by_cases e : stepC A = -2
    · rw [if_neg (fun z => (b2i_z r1).mp z e), if_pos e, nI_1]
      rw [if_pos e] at r3
      refine wp_mono (ih (d + 1) n (stepA A) r.2 (by omega) (by omega) r3 (ok_step hA (by omega) (by omega) e)) fun q hq => ?_
      refine ⟨?_, FR_trans (FR_mono r2 (fun _ _ _ z => Or.inl z)) hq.2.1, hq.2.2⟩
      rw [hq.1]
      show nI _ = nI (d + ((runA m (stepA A)).1 + 1))
      congr 1
      omega
    · rw [if_pos ((b2i_z r1).mpr e), if_neg e, TX7_step_J49]
      rw [if_neg e] at r3
      refine wp_bind (m_keep r3 (ok_n hA) (ok_p hA)) fun q hq => wp_some ⟨rfl, FR_trans (FR_mono r2 (fun _ _ _ z => Or.inl z)) (FR_mono hq.1 (fun _ _ _ z => Or.inr z)), hq.2⟩
/-- steps in thought of the reference -/
theorem m_goesL {N : Nat} (hN : N < 1000) : ∀ (m d n : Nat) (A : AB) (S : SS), d + m = N → m + 2 ≤ n → MM S A → okA 1008000000000000 A →
    WP (TX7_goes__L8 n (nI N) 1 (nI d) S) (fun r => r.1 = b2i ((runA m A).1 = m) ∧ FR pMi S r.2 ∧ MM r.2 (runA m A).2) := by
  intro m
  induction m with
  | zero =>
    intro d n A S hd hn h hA
    obtain ⟨n, rfl⟩ : ∃ q, n = q + 1 := ⟨n - 1, by omega⟩
    rw [TX7_goes__L8, if_pos (by rw [nI_cmp (by omega) (by omega)]; omega)]
    exact wp_some ⟨rfl, FR_refl, h⟩
  | succ m ih =>
    intro d n A S hd hn h hA
    obtain ⟨n, rfl⟩ : ∃ q, n = q + 1 := ⟨n - 1, by omega⟩
    rw [TX7_goes__L8, if_neg (by rw [nI_cmp (by omega) (by omega)]; omega), if_neg (by decide)]
    refine wp_bind (m_goes h hA) fun r hr => ?_
    obtain ⟨r1, r2, -, r3⟩ := hr
    unfold runA
    rw [nI_1]
    by_cases e : stepC A = -2
    · rw [if_pos e, r1, b2i_t e]
      rw [if_pos e] at r3
      refine wp_mono (ih (d + 1) n (stepA A) r.2 (by omega) (by omega) r3 (ok_step hA (by omega) (by omega) e)) fun q hq => ?_
      refine ⟨?_, FR_trans r2 hq.2.1, hq.2.2⟩
      rw [hq.1]
      exact b2i_congr (by show (runA m (stepA A)).1 = m ↔ (runA m (stepA A)).1 + 1 = m + 1; omega)
    · rw [if_neg e, r1, b2i_f e]
      rw [if_neg e] at r3
      obtain ⟨n, rfl⟩ : ∃ q, n = q + 1 := ⟨n - 1, by omega⟩
      rw [TX7_goes__L8]
      have hz : ((zb 0).bind fun v => some (v, r.2)) = some ((0 : Int32), r.2) := rfl
      rw [if_pos rfl, hz, ite_self]
      refine wp_some ⟨?_, r2, r3⟩
      rw [b2i_f (by show ¬ 0 = m + 1; omega)]
variable {s : ST}
theorem a_step (hs : okS s) (a1 : Int32) : ∃ v s', okS s' ∧ OX (TX6_step a1) s v s' ∧ OM (TX7_step a1) s v s' := by
  obtain ⟨z, hz, rfl⟩ := i_cases a1
  have h8 := ok_n hs.1
  have h12 := ok_p hs.1
  have hA := okS_8 hs
  have xb := x_rngN (z := z) (a' := 1) (b' := 40) (by decide : (1 : Int32) = iI 1) (by decide : (40 : Int32) = iI 40) (by omega) (by omega) hz
  rcases emn (1 ≤ z ∧ z ≤ 40) with c1 | c1
  · refine ⟨-2, s, hs, OX_no fun S c => ?_, OM_no fun S c => ?_⟩
    · unfold TX6_step
      rw [xb, Option.bind_some, ite_b, if_neg c1]
    · unfold TX7_step
      rw [m_in140 hz, Option.bind_some, ite_b, if_neg c1]
  by_cases e : qN (tA s) = 0
  · refine ⟨-3, s, hs, OX_no fun S c => ?_, OM_no fun S c => ?_⟩
    · unfold TX6_step
      rw [xb, Option.bind_some, ite_b, if_pos c1, (CB1 c.1).1, if_pos (by rw [e]; rfl)]
    · unfold TX7_step
      rw [m_in140 hz, Option.bind_some, ite_b, if_pos c1, c.1.1.1, if_pos (by rw [e]; rfl)]
  obtain ⟨N, rfl⟩ := i_nat (z := z) (by omega)
  have hr := run_ok (M := 999000000000000) (by omega) (by omega) N (tA s) hs.1
  refine ⟨nI (runA N (tA s)).1, ((runA N (tA s)).2, s.2), okS_bar hs hr.1, fun S cx => ?_, fun S cm => ?_⟩
  · unfold TX6_step
    rw [xb, Option.bind_some, ite_b, if_pos c1, (CB1 cx.1).1, if_neg (nI_ne0 (by omega) (by omega)), ← nI_z]
    refine wp_bind (x_run (by omega) cx.1 hA) fun r hr => wp_some ⟨hr.1, FR_mono hr.2.1 pB1, CX_bar hr.2.1 pB1' cx hr.2.2⟩
  · unfold TX7_step
    rw [m_in140 hz, Option.bind_some, ite_b, if_pos c1, cm.1.1.1, if_neg (nI_ne0 (by omega) (by omega)), ← nI_z]
    refine wp_bind (m_think cm.1 h8 h12) fun r hr => ?_
    refine wp_mono (m_stepL (by omega) N 0 fu (tA s) r (by omega) (by rw [fu_eq]; omega) hr.2 hA) fun q hq => ?_
    rw [Nat.zero_add] at hq
    have F : FR (fun t k j => pMi t k j ∨ pMt t k j) S q.2 := FR_trans (FR_mono hr.1 (fun _ _ _ z => Or.inl z)) hq.2.1
    refine ⟨hq.1, FR_mono F (fun t k j z => z.elim (pMi_M _ _ _) (fun w => pMb_M _ _ _ (pMt_b _ _ _ w))), CM_bar F (fun t k j z => z.elim (fun w => Or.inl (pMi_s _ _ _ w)) (fun w => Or.inr (Or.inr (pMt_b _ _ _ w)))) cm hq.2.2⟩
/-- what only thinks: of the class -/
theorem OX_th {S : SS} {r : SS} (cx : CX S s) (hF : FR (pB 16) S r) : FR pX S r ∧ CX r s :=
  ⟨FR_mono hF (fun t k j z => pXs_X _ _ _ (pB16 _ _ _ z)), CX_frs (FR_mono hF pB16) cx⟩
theorem OM_th {S : SS} {r : SS} (cm : CM S s) (hF : FR pMi S r) : FR pM S r ∧ CM r s :=
  ⟨FR_mono hF pMi_M, CM_frs (FR_mono hF pMi_s) cm⟩
theorem a_then (hs : okS s) (a1 a2 a3 : Int32) : ∃ v, OX (TX6_then a1 a2 a3) s v s ∧ OM (TX7_then a1 a2 a3) s v s := by
  obtain ⟨z1, h1, rfl⟩ := i_cases a1
  obtain ⟨z2, h2, rfl⟩ := i_cases a2
  obtain ⟨z3, h3, rfl⟩ := i_cases a3
  have h8 := ok_n hs.1
  have h12 := ok_p hs.1
  have hA := okS_8 hs
  have xb := x_rngN (z := z1) (a' := 0) (b' := 40) (by decide : (0 : Int32) = iI 0) (by decide : (40 : Int32) = iI 40) (by omega) (by omega) h1
  rcases emn (0 ≤ z1 ∧ z1 ≤ 40) with c1 | c1
  · refine ⟨-9223372036854775808, OX_no fun S c => ?_, OM_no fun S c => ?_⟩
    · unfold TX6_then
      rw [xb, Option.bind_some, ite_b, if_neg c1]
    · unfold TX7_then
      rw [m_in040 h1, Option.bind_some, ite_b, if_neg c1]
  rcases emn (0 ≤ z2 ∧ z2 < qN (tA s)) with c2 | c2
  · refine ⟨-9223372036854775808, OX_no fun S c => ?_, OM_no fun S c => ?_⟩
    · unfold TX6_then
      rw [xb, Option.bind_some, ite_b, if_pos c1, x_has c.1 h8 h2, Option.bind_some, ite_b, if_neg c2]
    · unfold TX7_then
      rw [m_in040 h1, Option.bind_some, ite_b, if_pos c1, m_isCell c.1.1 h8 h2, Option.bind_some, ite_b, if_neg c2]
  rcases emn (z3 = 0 ∨ z3 = 1) with c3 | c3
  · refine ⟨-9223372036854775808, OX_no fun S c => ?_, OM_no fun S c => ?_⟩
    · unfold TX6_then
      rw [xb, Option.bind_some, ite_b, if_pos c1, x_has c.1 h8 h2, Option.bind_some, ite_b, if_pos c2, x_bit h3, Option.bind_some, ite_b, if_neg c3]
    · unfold TX7_then
      rw [m_in040 h1, Option.bind_some, ite_b, if_pos c1, m_isCell c.1.1 h8 h2, Option.bind_some, ite_b, if_pos c2, m_bit h3, Option.bind_some, ite_b, if_neg c3]
  obtain ⟨N, rfl⟩ := i_nat c1.1
  obtain ⟨i, rfl⟩ := i_nat c2.1
  obtain ⟨r1, r2, r3⟩ := run_ok (M := 1008000000000000) (by omega) (by omega) N (tA s) hA
  have hi : i < qN (runA N (tA s)).2 := by omega
  have hc := ok_c r1 hi
  have hl := ok_l r1
  refine ⟨if (runA N (tA s)).1 = N then partZ (qS (runA N (tA s)).2 1 i) (qL (runA N (tA s)).2) z3 else -9223372036854775808, fun S cx => ?_, fun S cm => ?_⟩
  · unfold TX6_then
    rw [xb, Option.bind_some, ite_b, if_pos c1, x_has cx.1 h8 h2, Option.bind_some, ite_b, if_pos c2, x_bit h3, Option.bind_some, ite_b, if_pos c3]
    refine wp_bind (x_become cx.1 h8 h12 (by omega)) fun r hr => ?_
    rw [← nI_z]
    refine wp_bind (x_run (by omega) hr.2 hA) fun q hq => ?_
    have F := OX_th cx (FR_trans hr.1 hq.2.1)
    have c : nI N ≤ q.1 ↔ (runA N (tA s)).1 = N := by rw [hq.1, nI_cmp (by omega) (by omega)]; omega
    by_cases e : (runA N (tA s)).1 = N
    · rw [if_pos (c.mpr e), if_pos e]
      obtain ⟨-, -, -, -, -, -, -, g8⟩ := hq.2.2.2.2.2.2.2.2.2.1 i hi
      have g8' : q.2.2.2.2 24 i = lI (qS (runA N (tA s)).2 1 i) := g8
      rw [← nI_z, aget_n (by omega) (by omega), Option.bind_some, g8', hq.2.2.2.2.1, lI_n, x_part (by omega) (by omega) (by omega) h3, Option.bind_some]
      exact wp_some ⟨rfl, F⟩
    · rw [if_neg (fun z => e (c.mp z)), if_neg e]
      exact wp_some ⟨rfl, F⟩
  · unfold TX7_then
    rw [m_in040 h1, Option.bind_some, ite_b, if_pos c1, m_isCell cm.1.1 h8 h2, Option.bind_some, ite_b, if_pos c2, m_bit h3, Option.bind_some, ite_b, if_pos c3]
    unfold TX7_goes_
    refine wp_bind (P := fun q : Int32 × SS => q.1 = b2i ((runA N (tA s)).1 = N) ∧ FR pMi S q.2 ∧ MM q.2 (runA N (tA s)).2) (wp_bind (m_think cm.1 h8 h12) fun r hr => ?_) fun q hq => ?_
    · rw [← nI_z]
      refine wp_mono (m_goesL (by omega) N 0 fu (tA s) r (by omega) (by rw [fu_eq]; omega) hr.2 hA) fun q hq => ⟨hq.1, FR_trans hr.1 hq.2.1, hq.2.2⟩
    · have F := OM_th cm hq.2.1
      by_cases e : (runA N (tA s)).1 = N
      · rw [if_neg (fun z => (b2i_z hq.1).mp z e), if_pos e, ← nI_z, aget_n (by omega) (by omega), Option.bind_some, hq.2.2.2.2.2.1 i hi, hq.2.2.2.1, lI_n, m_part (by omega) (by omega) (by omega) h3, Option.bind_some]
        exact wp_some ⟨rfl, F⟩
      · rw [if_pos ((b2i_z hq.1).mpr e), if_neg e]
        exact wp_some ⟨rfl, F⟩
/-- the first of steps d + 1 .. that is spent, and its LARGE -/
def spA : Nat → Nat → AB → Int × Int
  | 0, _, _ => (-1, -1)
  | m + 1, d, A => if stepC A = -2 then spA m (d + 1) (stepA A) else (d, stepC A)
theorem sp0 : ∀ m d A, qN A = 0 → spA m d A = (-1, -1)
  | 0, _, _, _ => rfl
  | m + 1, d, A, h => by
    have e : stepC A = -2 := by
      unfold stepC takeC
      rw [h]
      have : redL (nextA A) (lineA A) 0 ≤ 1 := by
        unfold redL gcdN
        by_cases h0 : lineA A = 0
        · rw [h0]; decide
        · rw [Nat.div_self (by omega)]; exact Nat.le_refl _
      rw [if_pos (by omega)]
      rfl
    rw [spA, if_pos e]
    exact sp0 m (d + 1) (stepA A) h
theorem x_spL {z : Int} (hz : i31 z) : ∀ (m d n : Nat) (A : AB) (S : SS), d + m = 41 → m + 1 ≤ n → CB S 16 A → okA 1008000000000000 A →
    WP (TX6_spent_L23 n (iI z) (nI d) S) (fun r => r.1 = iI (if z = 0 then (spA m d A).1 else (spA m d A).2) ∧ FR (pB 16) S r.2) := by
  intro m
  induction m with
  | zero =>
    intro d n A S hd hn h hA
    obtain ⟨n, rfl⟩ : ∃ q, n = q + 1 := ⟨n - 1, by omega⟩
    rw [TX6_spent_L23, show (40 : Int32) = nI 40 from rfl, if_pos (by rw [nI_ltI (by omega) (by omega)]; omega)]
    refine wp_some ⟨?_, FR_refl⟩
    simp only [spA, ite_self]
    exact km1
  | succ m ih =>
    intro d n A S hd hn h hA
    obtain ⟨n, rfl⟩ : ∃ q, n = q + 1 := ⟨n - 1, by omega⟩
    rw [TX6_spent_L23, show (40 : Int32) = nI 40 from rfl, if_neg (by rw [nI_ltI (by omega) (by omega)]; omega)]
    refine wp_bind (x_adv h hA) fun r hr => ?_
    obtain ⟨r1, r2, r3⟩ := hr
    have hB := stepC_B A
    have h8 := ok_n hA
    have c : r.1 = -2 ↔ stepC A = -2 := by rw [r1, m2, iI_eq (by omega) (by omega)]
    unfold spA
    by_cases e : stepC A = -2
    · rw [if_pos (c.mpr e), if_pos e, nI_1]
      rw [if_pos e] at r3
      refine wp_mono (ih (d + 1) n (stepA A) r.2 (by omega) (by omega) r3 (ok_step hA (by omega) (by omega) e)) fun q hq => ⟨hq.1, FR_trans r2 hq.2⟩
    · rw [if_neg (fun z => e (c.mp z)), if_neg e]
      simp only [iI0 hz]
      by_cases ez : z = 0
      · rw [if_pos ez, if_pos ez]
        exact wp_some ⟨nI_z d, r2⟩
      · rw [if_neg ez, if_neg ez]
        exact wp_some ⟨r1, r2⟩
theorem m_spL {z : Int} (hz : i31 z) : ∀ (m d n : Nat) (A : AB) (S : SS), d + m = 41 → m + 1 ≤ n → MM S A → okA 1008000000000000 A →
    WP (TX7_spent_L19 n (iI z) (nI d) S) (fun r => r.1 = iI (if z = 0 then (spA m d A).1 else (spA m d A).2) ∧ FR pMi S r.2) := by
  intro m
  induction m with
  | zero =>
    intro d n A S hd hn h hA
    obtain ⟨n, rfl⟩ : ∃ q, n = q + 1 := ⟨n - 1, by omega⟩
    rw [TX7_spent_L19, show (40 : Int32) = nI 40 from rfl, if_pos (by rw [nI_ltI (by omega) (by omega)]; omega)]
    refine wp_some ⟨?_, FR_refl⟩
    simp only [spA, ite_self]
    exact km1
  | succ m ih =>
    intro d n A S hd hn h hA
    obtain ⟨n, rfl⟩ : ∃ q, n = q + 1 := ⟨n - 1, by omega⟩
    rw [TX7_spent_L19, show (40 : Int32) = nI 40 from rfl, if_neg (by rw [nI_ltI (by omega) (by omega)]; omega), h.1.1]
    have h8 := ok_n hA
    by_cases e0 : qN A = 0
    · rw [e0, if_pos (by decide), sp0 _ _ _ e0]
      refine wp_some ⟨?_, FR_refl⟩
      simp only [ite_self]
      exact km1
    · rw [if_neg (nI_nle (by omega) (by omega))]
      refine wp_bind (m_goes h hA) fun r hr => ?_
      obtain ⟨r1, r2, r4, r3⟩ := hr
      unfold spA
      by_cases e : stepC A = -2
      · rw [if_neg (fun z => (b2i_z r1).mp z e), if_pos e, nI_1]
        rw [if_pos e] at r3
        refine wp_mono (ih (d + 1) n (stepA A) r.2 (by omega) (by omega) r3 (ok_step hA (by omega) (by omega) e)) fun q hq => ⟨hq.1, FR_trans r2 hq.2⟩
      · rw [if_pos ((b2i_z r1).mpr e), if_neg e]
        simp only [iI0 hz]
        by_cases ez : z = 0
        · rw [if_pos ez, if_pos ez]
          exact wp_some ⟨nI_z d, r2⟩
        · rw [if_neg ez, if_neg ez]
          exact wp_some ⟨r4 e, r2⟩
theorem a_spent (hs : okS s) (a1 : Int32) : ∃ v, OX (TX6_spent a1) s v s ∧ OM (TX7_spent a1) s v s := by
  obtain ⟨z, hz, rfl⟩ := i_cases a1
  have h8 := ok_n hs.1
  have h12 := ok_p hs.1
  have hA := okS_8 hs
  rcases emn (z = 0 ∨ z = 1) with c1 | c1
  · refine ⟨-2, OX_no fun S c => ?_, OM_no fun S c => ?_⟩
    · unfold TX6_spent
      rw [x_bit hz, Option.bind_some, ite_b, if_neg c1]
    · unfold TX7_spent
      rw [m_bit hz, Option.bind_some, ite_b, if_neg c1]
  refine ⟨iI (if z = 0 then (spA 40 1 (tA s)).1 else (spA 40 1 (tA s)).2), fun S cx => ?_, fun S cm => ?_⟩
  · unfold TX6_spent
    rw [x_bit hz, Option.bind_some, ite_b, if_pos c1]
    refine wp_bind (x_become cx.1 h8 h12 (by omega)) fun r hr => ?_
    refine wp_mono (x_spL hz 40 1 fu (tA s) r rfl (by decide) hr.2 hA) fun q hq => ⟨hq.1, OX_th cx (FR_trans hr.1 hq.2)⟩
  · unfold TX7_spent
    rw [m_bit hz, Option.bind_some, ite_b, if_pos c1]
    refine wp_bind (m_think cm.1 h8 h12) fun r hr => ?_
    refine wp_mono (m_spL hz 40 1 fu (tA s) r rfl (by decide) hr.2 hA) fun q hq => ⟨hq.1, OM_th cm (FR_trans hr.1 hq.2)⟩
/-- how soon it is calm -/
def clA (z : Int) : Nat → Nat → AB → Int
  | 0, _, _ => -1
  | m + 1, d, A => if z * qL A < maxT (qS A 1) (qN A) - - maxT (fun i => - qS A 1 i) (qN A) then (if stepC A = -2 then clA z m (d + 1) (stepA A) else -1) else d
theorem x_clL {z : Int} (hz : 0 ≤ z ∧ z ≤ 999) : ∀ (m d n : Nat) (A : AB) (S : SS), d + m = 41 → m + 1 ≤ n → CB S 16 A → okA 1008000000000000 A → 1 ≤ qN A →
    WP (TX6_calm_L36 n (iI z) (nI d) S) (fun r => r.1 = iI (clA z m d A) ∧ FR (pB 16) S r.2) := by
  intro m
  induction m with
  | zero =>
    intro d n A S hd hn h hA h1
    obtain ⟨n, rfl⟩ : ∃ q, n = q + 1 := ⟨n - 1, by omega⟩
    rw [TX6_calm_L36, show (40 : Int32) = nI 40 from rfl, if_pos (by rw [nI_ltI (by omega) (by omega)]; omega)]
    exact wp_some ⟨km1, FR_refl⟩
  | succ m ih =>
    intro d n A S hd hn h hA h1
    obtain ⟨n, rfl⟩ : ∃ q, n = q + 1 := ⟨n - 1, by omega⟩
    have hl := ok_l hA
    have hv := eB (e := z) (a := 999) (L := qL A) (X := 1000000000000) (by omega) (by omega) (by omega)
    have b1 := maxT_neg_B (T := qS A 1) (M := 1008000000000000) (qN A) h1 (fun i hi => by have := ok_c hA hi; omega)
    have b2 := maxT_neg_B (T := fun i => - qS A 1 i) (M := 1008000000000000) (qN A) h1 (fun i hi => by have := ok_c hA hi; omega)
    rw [TX6_calm_L36, show (40 : Int32) = nI 40 from rfl, if_neg (by rw [nI_ltI (by omega) (by omega)]; omega), x_greatest h hA h1, Option.bind_some, x_least h hA h1, Option.bind_some, h.2.2.1, lI_n, iI_wide (by omega), lI_mul, lI_sub]
    have c0 : lI (z * qL A) < lI (maxT (qS A 1) (qN A) - - maxT (fun i => - qS A 1 i) (qN A)) ↔ z * qL A < maxT (qS A 1) (qN A) - - maxT (fun i => - qS A 1 i) (qN A) := lI_lt (by omega) (by omega)
    unfold clA
    by_cases e0 : z * qL A < maxT (qS A 1) (qN A) - - maxT (fun i => - qS A 1 i) (qN A)
    · rw [if_pos (c0.mpr e0), if_pos e0]
      refine wp_bind (x_adv h hA) fun r hr => ?_
      obtain ⟨r1, r2, r3⟩ := hr
      have hB := stepC_B A
      have h8 := ok_n hA
      have c : r.1 = -2 ↔ stepC A = -2 := by rw [r1, m2, iI_eq (by omega) (by omega)]
      by_cases e : stepC A = -2
      · rw [if_pos (c.mpr e), if_pos e, nI_1]
        rw [if_pos e] at r3
        refine wp_mono (ih (d + 1) n (stepA A) r.2 (by omega) (by omega) r3 (ok_step hA (by omega) (by omega) e) h1) fun q hq => ⟨hq.1, FR_trans r2 hq.2⟩
      · rw [if_neg (fun z => e (c.mp z)), if_neg e]
        exact wp_some ⟨km1, r2⟩
    · rw [if_neg (fun z => e0 (c0.mp z)), if_neg e0]
      exact wp_some ⟨nI_z d, FR_refl⟩
theorem m_clL {z : Int} (hz : 0 ≤ z ∧ z ≤ 999) : ∀ (m d n : Nat) (A : AB) (S : SS), d + m = 41 → m + 1 ≤ n → MM S A → okA 1008000000000000 A → 1 ≤ qN A →
    WP (TX7_calm_L31 n (iI z) (nI d) S) (fun r => r.1 = iI (clA z m d A) ∧ FR pMi S r.2) := by
  intro m
  induction m with
  | zero =>
    intro d n A S hd hn h hA h1
    obtain ⟨n, rfl⟩ : ∃ q, n = q + 1 := ⟨n - 1, by omega⟩
    rw [TX7_calm_L31, show (40 : Int32) = nI 40 from rfl, if_pos (by rw [nI_ltI (by omega) (by omega)]; omega)]
    exact wp_some ⟨km1, FR_refl⟩
  | succ m ih =>
    intro d n A S hd hn h hA h1
    obtain ⟨n, rfl⟩ : ∃ q, n = q + 1 := ⟨n - 1, by omega⟩
    have hl := ok_l hA
    have hv := eB (e := z) (a := 999) (L := qL A) (X := 1000000000000) (by omega) (by omega) (by omega)
    have b1 := maxT_neg_B (T := qS A 1) (M := 1008000000000000) (qN A) h1 (fun i hi => by have := ok_c hA hi; omega)
    have b2 := maxT_neg_B (T := fun i => - qS A 1 i) (M := 1008000000000000) (qN A) h1 (fun i hi => by have := ok_c hA hi; omega)
    rw [TX7_calm_L31, show (40 : Int32) = nI 40 from rfl, if_neg (by rw [nI_ltI (by omega) (by omega)]; omega), m_greatest h hA h1, Option.bind_some, m_least h hA h1, Option.bind_some, h.2.1, lI_n, iI_wide (by omega), lI_mul, lI_sub]
    have c0 : lI (z * qL A) < lI (maxT (qS A 1) (qN A) - - maxT (fun i => - qS A 1 i) (qN A)) ↔ z * qL A < maxT (qS A 1) (qN A) - - maxT (fun i => - qS A 1 i) (qN A) := lI_lt (by omega) (by omega)
    unfold clA
    by_cases e0 : z * qL A < maxT (qS A 1) (qN A) - - maxT (fun i => - qS A 1 i) (qN A)
    · rw [if_pos (c0.mpr e0), if_pos e0]
      refine wp_bind (m_goes h hA) fun r hr => ?_
      obtain ⟨r1, r2, -, r3⟩ := hr
      by_cases e : stepC A = -2
      · rw [if_neg (fun z => (b2i_z r1).mp z e), if_pos e, nI_1]
        rw [if_pos e] at r3
        refine wp_mono (ih (d + 1) n (stepA A) r.2 (by omega) (by omega) r3 (ok_step hA (by omega) (by omega) e) h1) fun q hq => ⟨hq.1, FR_trans r2 hq.2⟩
      · rw [if_pos ((b2i_z r1).mpr e), if_neg e]
        exact wp_some ⟨km1, r2⟩
    · rw [if_neg (fun z => e0 (c0.mp z)), if_neg e0]
      exact wp_some ⟨nI_z d, FR_refl⟩
theorem a_calm (hs : okS s) (a1 : Int32) : ∃ v, OX (TX6_calm a1) s v s ∧ OM (TX7_calm a1) s v s := by
  obtain ⟨z, hz, rfl⟩ := i_cases a1
  have h8 := ok_n hs.1
  have h12 := ok_p hs.1
  have hA := okS_8 hs
  rcases emn (0 ≤ z ∧ z ≤ 999) with c1 | c1
  · refine ⟨-2, OX_no fun S c => ?_, OM_no fun S c => ?_⟩
    · unfold TX6_calm
      rw [x_isHeat hz, Option.bind_some, ite_b, if_neg c1]
    · unfold TX7_calm
      rw [m_in999 hz, Option.bind_some, ite_b, if_neg c1]
  by_cases e : qN (tA s) = 0
  · refine ⟨-3, OX_no fun S c => ?_, OM_no fun S c => ?_⟩
    · unfold TX6_calm
      rw [x_isHeat hz, Option.bind_some, ite_b, if_pos c1, (CB1 c.1).1, if_pos (by rw [e]; rfl)]
    · unfold TX7_calm
      rw [m_in999 hz, Option.bind_some, ite_b, if_pos c1, c.1.1.1, if_pos (by rw [e]; rfl)]
  refine ⟨iI (clA z 41 0 (tA s)), fun S cx => ?_, fun S cm => ?_⟩
  · unfold TX6_calm
    rw [x_isHeat hz, Option.bind_some, ite_b, if_pos c1, (CB1 cx.1).1, if_neg (nI_ne0 (by omega) (by omega))]
    refine wp_bind (x_become cx.1 h8 h12 (by omega)) fun r hr => ?_
    refine wp_mono (x_clL c1 41 0 fu (tA s) r rfl (by decide) hr.2 hA (by omega)) fun q hq => ⟨hq.1, OX_th cx (FR_trans hr.1 hq.2)⟩
  · unfold TX7_calm
    rw [m_in999 hz, Option.bind_some, ite_b, if_pos c1, cm.1.1.1, if_neg (nI_ne0 (by omega) (by omega))]
    refine wp_bind (m_think cm.1 h8 h12) fun r hr => ?_
    refine wp_mono (m_clL c1 41 0 fu (tA s) r rfl (by decide) hr.2 hA (by omega)) fun q hq => ⟨hq.1, OM_th cm (FR_trans hr.1 hq.2)⟩
end STEPS
