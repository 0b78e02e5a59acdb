/-! One cell is another. -/
section UPD
variable {S S' : SS} {A A' : AB} {b i : Nat}
theorem CB_upd (h : CB S b A) (hq : ∀ q, q < qN A' → q ≠ i → q < qN A) (f0 : S'.1 b 0 = nI (qN A')) (f1 : S'.1 (b + 10) 3 = S.1 (b + 10) 3) (f2 : S'.2.1 b 9 = S.2.1 b 9) (f3 : S'.1 b 11 = S.1 b 11) (f4 : S'.1 b 12 = S.1 b 12)
    (hr : ∀ r, b + 1 ≤ r → r ≤ b + 7 → ∀ q, q ≠ i → S'.2.2.1 r q = S.2.2.1 r q) (hl : ∀ q, q ≠ i → S'.2.2.2 (b + 8) q = S.2.2.2 (b + 8) q) (hp : ∀ r, b + 9 ≤ r → r ≤ b + 13 → S'.2.2.1 r = S.2.2.1 r)
    (a1 : A'.1.2 = A.1.2) (a2 : A'.2.1 = A.2.1) (eK : ∀ j q, q ≠ i → qK A' j q = qK A j q) (eK3 : ∀ q, qK A' 3 q = qK A 3 q) (eK4 : ∀ q, qK A' 4 q = qK A 4 q) (eS : ∀ j q, q ≠ i → qS A' j q = qS A j q) (eS2 : ∀ q, qS A' 2 q = qS A 2 q)
    (hi : i < qN A' → S'.2.2.1 (b + 1) i = nI (qK A' 0 i) ∧ S'.2.2.1 (b + 2) i = nI (qK A' 1 i) ∧ S'.2.2.1 (b + 3) i = nI (qK A' 2 i) ∧ S'.2.2.1 (b + 4) i = iI (qS A' 0 i) ∧ S'.2.2.1 (b + 5) i = nI (sideA A' i) ∧ S'.2.2.1 (b + 6) i = nI (holdsA A' i) ∧ S'.2.2.1 (b + 7) i = nI (finA A' i) ∧ S'.2.2.2 (b + 8) i = lI (qS A' 1 i)) : CB S' b A' := by
  obtain ⟨c1, c2, c3, c4, c5, c6, c7, c8, c9⟩ := h
  refine ⟨f0, ?_, ?_, ?_, ?_, ?_, ?_, fun q hq' => ?_, fun p hp' => ?_⟩
  · rw [f1, c2]; unfold qP; rw [a1]
  · rw [f2, c3]; unfold qL; rw [a1]
  · rw [f3, c4]; unfold qF; rw [a1]
  · rw [f4, c5]; unfold qA; rw [a1]
  · rw [hp _ (by omega) (by omega), c6]; unfold qE0; rw [a2]
  · rw [hp _ (by omega) (by omega), c7]; unfold qE1; rw [a2]
  · by_cases e : q = i
    · subst e; exact hi hq'
    · have := c8 q (hq q hq' e)
      rw [hr _ (by omega) (by omega) q e, hr _ (by omega) (by omega) q e, hr _ (by omega) (by omega) q e, hr _ (by omega) (by omega) q e, hr _ (by omega) (by omega) q e, hr _ (by omega) (by omega) q e, hr _ (by omega) (by omega) q e, hl q e]
      unfold sideA holdsA finA
      rw [eK 0 q e, eK 1 q e, eK 2 q e, eS 0 q e, eS 1 q e]
      exact this
  · have hp2 : p < qP A := by have : qP A' = qP A := by { unfold qP; rw [a1] }; omega
    rw [hp _ (by omega) (by omega), hp _ (by omega) (by omega), hp _ (by omega) (by omega), eK3, eK4, eS2]
    exact c9 p hp2
theorem MB_upd (h : MB S A) (hq : ∀ q, q < qN A' → q ≠ i → q < qN A) (f0 : S'.1 64 0 = nI (qN A')) (f1 : S'.1 64 9 = S.1 64 9) (f2 : S'.2.1 64 6 = S.2.1 64 6)
    (hr : ∀ r, 65 ≤ r → r ≤ 68 → ∀ q, q ≠ i → S'.2.2.1 r q = S.2.2.1 r q) (hl : ∀ q, q ≠ i → S'.2.2.2 69 q = S.2.2.2 69 q) (hp : ∀ r, 70 ≤ r → r ≤ 74 → S'.2.2.1 r = S.2.2.1 r)
    (a1 : A'.1.2 = A.1.2) (a2 : A'.2.1 = A.2.1) (eK : ∀ j q, q ≠ i → qK A' j q = qK A j q) (eK3 : ∀ q, qK A' 3 q = qK A 3 q) (eK4 : ∀ q, qK A' 4 q = qK A 4 q) (eS : ∀ j q, q ≠ i → qS A' j q = qS A j q) (eS2 : ∀ q, qS A' 2 q = qS A 2 q)
    (hi : i < qN A' → S'.2.2.1 65 i = nI (qK A' 0 i) ∧ S'.2.2.1 66 i = nI (qK A' 1 i) ∧ S'.2.2.1 67 i = nI (qK A' 2 i) ∧ S'.2.2.1 68 i = iI (qS A' 0 i) ∧ S'.2.2.2 69 i = lI (qS A' 1 i)) : MB S' A' := by
  obtain ⟨⟨c1, c2, c3, c4, c5, c6⟩, d1, d2, d3, d4⟩ := h
  refine ⟨⟨f0, ?_, ?_, ?_, ?_, fun q hq' => ?_⟩, ?_, ?_, fun q hq' => ?_, fun p hp' => ?_⟩
  · rw [hp _ (by omega) (by omega), c2]; unfold qF; rw [a1]
  · rw [hp _ (by omega) (by omega), c3]; unfold qA; rw [a1]
  · rw [hp _ (by omega) (by omega), c4]; unfold qE0; rw [a2]
  · rw [hp _ (by omega) (by omega), c5]; unfold qE1; rw [a2]
  · by_cases e : q = i
    · subst e; have := hi hq'; exact ⟨this.1, this.2.1, this.2.2.1, this.2.2.2.1⟩
    · have := c6 q (hq q hq' e)
      rw [hr _ (by omega) (by omega) q e, hr _ (by omega) (by omega) q e, hr _ (by omega) (by omega) q e, hr _ (by omega) (by omega) q e, eK 0 q e, eK 1 q e, eK 2 q e, eS 0 q e]
      exact this
  · rw [f2, d1]; unfold qL; rw [a1]
  · rw [f1, d2]; unfold qP; rw [a1]
  · by_cases e : q = i
    · subst e; exact (hi hq').2.2.2.2
    · rw [hl q e, eS 1 q e]; exact d3 q (hq q hq' e)
  · have hp2 : p < qP A := by have : qP A' = qP A := by { unfold qP; rw [a1] }; omega
    rw [hp _ (by omega) (by omega), hp _ (by omega) (by omega), hp _ (by omega) (by omega), eK3, eK4, eS2]
    exact d4 p hp2
/-- side, holds and fin of a cell made anew -/
theorem x_make {kd k c : Nat} (hi : i < 8) (hkd : kd < 6) (hk : k < 10) (hc : c < 5) (h1 : S.2.2.1 (b + 1) i = nI kd) (h2 : S.2.2.1 (b + 2) i = nI k) (h3 : S.2.2.1 (b + 3) i = nI c) : TX0_make b (nI i) S = some (sAI (sAI (sAI S (b + 5) i (nI (sideN kd k))) (b + 6) i (nI (holdsN kd c))) (b + 7) i (nI (finN kd))) := by
  unfold TX0_make
  simp (disch := omega) only [letS, Option.bind_some, aget_n, ite_jin, iI_nat, nI_1, nI_leI', nI_ltI', nI_eqI', up2_s, up2_n, va_up_s, va_up_n]
  rw [h1, h2, h3, x_sideOf kd hkd k hk]
  simp (disch := omega) only [letS, Option.bind_some, aget_n, ite_jin, iI_nat, nI_1, nI_leI', nI_ltI', nI_eqI', up2_s, up2_n, va_up_s, va_up_n]
  rw [x_holdsOf kd hkd c hc]
  simp (disch := omega) only [letS, Option.bind_some, aget_n, ite_jin, iI_nat, nI_1, nI_leI', nI_ltI', nI_eqI', up2_s, up2_n, va_up_s, va_up_n]
  rw [x_finOf kd hkd]
  simp (disch := omega) only [letS, Option.bind_some, aget_n, ite_jin, iI_nat, nI_1, nI_leI', nI_ltI', nI_eqI', up2_s, up2_n, va_up_s, va_up_n]
end UPD
/-- attribute j of place i is v -/
def setK (A : AB) (j i v : Nat) : AB := (A.1, A.2.1, up2 A.2.2.1 j i v, A.2.2.2)
def setS (A : AB) (j i : Nat) (v : Int) : AB := (A.1, A.2.1, A.2.2.1, up2 A.2.2.2 j i v)
/-- one cell more -/
def addA (A : AB) (kd k c : Nat) (t : Int) : AB := ((qN A + 1, A.1.2), A.2.1, up2 (up2 (up2 A.2.2.1 0 (qN A) kd) 1 (qN A) k) 2 (qN A) c, up2 (up2 A.2.2.2 0 (qN A) 0) 1 (qN A) t)
section UPK
variable {S : SS} {A : AB} {b i : Nat} {M : Int}
theorem up2_ne2 {α : Type} {f : Nat → Nat → α} {k j k' j' : Nat} {v : α} (h : ¬ (k' = k ∧ j' = j)) : up2 f k j v k' j' = f k' j' := if_neg h
theorem ok_setK (h : okA M A) {j v : Nat} (hj : j < 3) (hv : j = 0 ∧ v ≤ 5 ∨ j = 1 ∧ 1 ≤ v ∧ v ≤ 9 ∨ j = 2 ∧ 1 ≤ v ∧ v ≤ 4) : okA M (setK A j i v) := by
  obtain ⟨h1, h2, h3, h4, h5, h6, h7, h8, h9, h10, h11, h12, h13⟩ := h
  refine ⟨h1, h2, h3, h4, h5, h6, h7, h8, h9, h10, h11, fun q hq => ?_, fun p hp => ?_⟩
  · obtain ⟨a1, a2, a3, a4, a5, a6, a7, a8, a9⟩ := h12 q hq
    have e : ∀ j', qK (setK A j i v) j' q = if j' = j ∧ q = i then v else qK A j' q := fun j' => rfl
    rw [e 0, e 1, e 2]
    refine ⟨?_, ?_, ?_, ?_, ?_, a6, a7, a8, a9⟩ <;> split <;> omega
  · have e : ∀ j', qK (setK A j i v) j' p = if j' = j ∧ p = i then v else qK A j' p := fun j' => rfl
    rw [e 3, e 4, if_neg (by omega), if_neg (by omega)]
    exact h13 p hp
theorem ok_setS (h : okA M A) {j : Nat} {v : Int} (hv : j = 0 ∧ -9 ≤ v ∧ v ≤ 9 ∨ j = 1 ∧ -M ≤ v ∧ v ≤ M) : okA M (setS A j i v) := by
  obtain ⟨h1, h2, h3, h4, h5, h6, h7, h8, h9, h10, h11, h12, h13⟩ := h
  refine ⟨h1, h2, h3, h4, h5, h6, h7, h8, h9, h10, h11, fun q hq => ?_, fun p hp => ?_⟩
  · obtain ⟨a1, a2, a3, a4, a5, a6, a7, a8, a9⟩ := h12 q hq
    have e : ∀ j', qS (setS A j i v) j' q = if j' = j ∧ q = i then v else qS A j' q := fun j' => rfl
    rw [e 0, e 1]
    refine ⟨a1, a2, a3, a4, a5, ?_, ?_, ?_, ?_⟩ <;> split <;> omega
  · have e : ∀ j', qS (setS A j i v) j' p = if j' = j ∧ p = i then v else qS A j' p := fun j' => rfl
    rw [e 2, if_neg (by omega)]
    exact h13 p hp
theorem ok_addA (h : okA M A) (hn : qN A < 8) {kd k c : Nat} {t : Int} (hkd : kd ≤ 5) (hk : 1 ≤ k ∧ k ≤ 9) (hc : 1 ≤ c ∧ c ≤ 4) (ht : -M ≤ t ∧ t ≤ M) : okA M (addA A kd k c t) := by
  obtain ⟨h1, h2, h3, h4, h5, h6, h7, h8, h9, h10, h11, h12, h13⟩ := h
  refine ⟨(by show qN A + 1 ≤ 8; omega), h2, h3, h4, h5, h6, h7, h8, h9, h10, h11, fun q hq => ?_, fun p hp => ?_⟩
  · have hq' : q < qN A + 1 := hq
    by_cases e : q = qN A
    · subst e
      simp [addA, up2, qK, qS, sideA, holdsA, finA]
      omega
    · have := h12 q (by omega)
      simp [addA, up2, qK, qS, sideA, holdsA, finA, e]
      exact this
  · obtain ⟨a1, a2⟩ := h13 p hp
    refine ⟨?_, ?_⟩
    · simp [addA, up2, qK, qS, sideA, holdsA, finA]
      exact Nat.lt_succ_of_lt a1
    · simp [addA, up2, qK, qS, sideA, holdsA, finA]
      exact a2
/-- kind, k or c of a cell of the class -/
theorem x_setK (h : CB S b A) (hA : okA M A) (hi : i < qN A) {j v : Nat} (hj : j < 3) (hv : j = 0 ∧ v ≤ 5 ∨ j = 1 ∧ 1 ≤ v ∧ v ≤ 9 ∨ j = 2 ∧ 1 ≤ v ∧ v ≤ 4) :
    WP (TX0_make b (nI i) (sAI S (b + 1 + j) i (nI v))) (fun r => FR (pB b) S r ∧ CB r b (setK A j i v)) := by
  have h8 := ok_n hA
  have hok := ok_setK (i := i) hA hj hv
  obtain ⟨a1, a2, a3, a4, a5, -⟩ := ok_c hok hi
  obtain ⟨g1, g2, g3, g4, g5, g6, g7, g8⟩ := h.2.2.2.2.2.2.2.1 i hi
  have e1 : ∀ j', j' < 3 → S.2.2.1 (b + 1 + j') i = nI (qK A j' i) → (sAI S (b + 1 + j) i (nI v)).2.2.1 (b + 1 + j') i = nI (qK (setK A j i v) j' i) := fun j' hj' e => by
    show up2 S.2.2.1 (b + 1 + j) i (nI v) (b + 1 + j') i = nI (up2 A.2.2.1 j i v j' i)
    by_cases ej : j' = j
    · rw [ej, up2_s, va_up_s, up2_s, va_up_s]
    · rw [up2_n _ _ _ (by omega), up2_n _ _ _ ej, e]
  refine wp_eq (x_make (kd := qK (setK A j i v) 0 i) (k := qK (setK A j i v) 1 i) (c := qK (setK A j i v) 2 i) (by omega) (by omega) (by omega) (by omega) (e1 0 (by omega) g1) (e1 1 (by omega) g2) (e1 2 (by omega) g3)) (wp_some ⟨?_, ?_⟩)
  · exact FR_AI (FR_AI (FR_AI (FR_AI FR_refl (by unfold pB; omega)) (by unfold pB; omega)) (by unfold pB; omega)) (by unfold pB; omega)
  · refine CB_upd (i := i) h (fun q hq _ => hq) h.1 rfl rfl rfl rfl (fun r h1 h2 q hq => ?_) (fun q hq => rfl) (fun r h1 h2 => ?_) rfl rfl (fun j' q hq => ?_) (fun q => ?_) (fun q => ?_) (fun _ _ _ => rfl) (fun _ => rfl) (fun hi' => ⟨?_, ?_, ?_, ?_, ?_, ?_, ?_, g8⟩)
    · simp [up2, hq]
    · simp (disch := omega) only [up2_s, up2_n, va_up_s, va_up_n]
    · exact if_neg (fun z => hq z.2)
    · exact if_neg (by omega)
    · exact if_neg (by omega)
    · have := e1 0 (by omega) g1
      simp (disch := omega) only [up2_s, up2_n, va_up_s, va_up_n]
      exact this
    · have := e1 1 (by omega) g2
      simp (disch := omega) only [up2_s, up2_n, va_up_s, va_up_n]
      exact this
    · have := e1 2 (by omega) g3
      simp (disch := omega) only [up2_s, up2_n, va_up_s, va_up_n]
      exact this
    · simp (disch := omega) only [up2_s, up2_n, va_up_s, va_up_n]
      exact g4
    · simp (disch := omega) only [up2_s, up2_n, va_up_s, va_up_n]
    · simp (disch := omega) only [up2_s, up2_n, va_up_s, va_up_n]
    · simp (disch := omega) only [up2_s, up2_n, va_up_s, va_up_n]
/-- one cell more of the class -/
theorem x_append0 (h : CB S b A) (hA : okA M A) {kd k c : Nat} {t : Int} (hkd : kd ≤ 5) (hk : 1 ≤ k ∧ k ≤ 9) (hc : 1 ≤ c ∧ c ≤ 4) (ht : 0 ≤ t ∧ t ≤ 999) :
    WP (TX0_append b (nI kd) (nI k) (nI c) (iI t) S) (fun r => r.1 = (if qN A < 8 then nI (qN A) else -4) ∧ FR (pB b) S r.2 ∧ CB r.2 b (if qN A < 8 then addA A kd k c (t * qL A) else A)) := by
  have h8 := ok_n hA
  unfold TX0_append
  rw [h.1, show (8 : Int32) = nI 8 from rfl]
  by_cases e : qN A < 8
  · simp (disch := omega) only [letS, Option.bind_some, aget_n, ite_jin, iI_nat, nI_1, nI_leI', nI_ltI', nI_eqI', up2_s, up2_n, va_up_s, va_up_n, if_pos, iI_wideI]
    rw [h.2.2.1, lI_n, lI_mul]
    refine wp_bind (wp_eq (x_make (i := qN A) (kd := kd) (k := k) (c := c) (by omega) (by omega) (by omega) (by omega) ?_ ?_ ?_) (wp_some (Q := fun r => _ = r) rfl)) fun r hr => ?_
    · simp (disch := omega) only [up2_s, up2_n, va_up_s, va_up_n]
    · simp (disch := omega) only [up2_s, up2_n, va_up_s, va_up_n]
    · simp (disch := omega) only [up2_s, up2_n, va_up_s, va_up_n]
    · subst hr
      refine wp_some ⟨rfl, ?_, ?_⟩
      · exact FR_AI (FR_AI (FR_AI (FR_AL (FR_AI (FR_AI (FR_AI (FR_AI (FR_FI FR_refl (by unfold pB; omega)) (by unfold pB; omega)) (by unfold pB; omega)) (by unfold pB; omega)) (by unfold pB; omega)) (by unfold pB; omega)) (by unfold pB; omega)) (by unfold pB; omega)) (by unfold pB; omega)
      · refine CB_upd (i := qN A) h (fun q hq hne => ?_) ?_ ?_ rfl ?_ ?_ (fun r h1 h2 q hq => ?_) (fun q hq => ?_) (fun r h1 h2 => ?_) rfl rfl (fun j' q hq => ?_) (fun q => ?_) (fun q => ?_) (fun j' q hq => ?_) (fun q => ?_) (fun hi' => ⟨?_, ?_, ?_, ?_, ?_, ?_, ?_, ?_⟩)
        · have : q < qN A + 1 := hq
          omega
        · simp (disch := omega) only [up2_s, up2_n, va_up_s, va_up_n]
          rfl
        · simp (disch := omega) only [up2_s, up2_n, va_up_s, va_up_n]
        · simp (disch := omega) only [up2_s, up2_n, va_up_s, va_up_n]
        · simp (disch := omega) only [up2_s, up2_n, va_up_s, va_up_n]
        · simp [up2, hq]
        · simp [up2, hq]
        · simp (disch := omega) only [up2_s, up2_n, va_up_s, va_up_n]
        · simp [addA, up2, qK, qS, sideA, holdsA, finA, hq]
        · simp [addA, up2, qK, qS, sideA, holdsA, finA]
        · simp [addA, up2, qK, qS, sideA, holdsA, finA]
        · simp [addA, up2, qK, qS, sideA, holdsA, finA, hq]
        · simp [addA, up2, qK, qS, sideA, holdsA, finA]
        · simp (disch := omega) only [up2_s, up2_n, va_up_s, va_up_n]
          simp [addA, up2, qK, qS, sideA, holdsA, finA]
        · simp (disch := omega) only [up2_s, up2_n, va_up_s, va_up_n]
          simp [addA, up2, qK, qS, sideA, holdsA, finA]
        · simp (disch := omega) only [up2_s, up2_n, va_up_s, va_up_n]
          simp [addA, up2, qK, qS, sideA, holdsA, finA]
        · simp (disch := omega) only [up2_s, up2_n, va_up_s, va_up_n]
          simp [addA, up2, qK, qS, sideA, holdsA, finA, k0]
        · simp (disch := omega) only [up2_s, up2_n, va_up_s, va_up_n]
          simp [addA, up2, qK, qS, sideA, holdsA, finA]
        · simp (disch := omega) only [up2_s, up2_n, va_up_s, va_up_n]
          simp [addA, up2, qK, qS, sideA, holdsA, finA]
        · simp (disch := omega) only [up2_s, up2_n, va_up_s, va_up_n]
          simp [addA, up2, qK, qS, sideA, holdsA, finA]
        · simp (disch := omega) only [up2_s, up2_n, va_up_s, va_up_n]
          simp [addA, up2, qK, qS, sideA, holdsA, finA]
  · simp (disch := omega) only [letS, Option.bind_some, aget_n, ite_jin, iI_nat, nI_1, nI_leI', nI_ltI', nI_eqI', up2_s, up2_n, va_up_s, va_up_n, if_neg]
    exact wp_some ⟨rfl, FR_refl, h⟩
end UPK
