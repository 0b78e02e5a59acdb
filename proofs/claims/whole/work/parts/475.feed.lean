/-! Call: feed. -/
def setT (s : ST) (sz : Nat) (by' : Nat → Nat) : ST := (tA s, tIm s, s.2.2.1, s.2.2.2.1, s.2.2.2.2.1, sz, by')
def pTp (t k j : Nat) : Prop := (t = 0 ∧ k = 60 ∧ j = 1) ∨ (t = 2 ∧ k = 61)
def pTm (t k j : Nat) : Prop := (t = 0 ∧ k = 64 ∧ j = 29) ∨ (t = 2 ∧ k = 86)
section FED
variable {P : Nat → Nat → Nat → Prop} {S S' : SS} {s : ST}
theorem okS_tp {sz : Nat} {f : Nat → Nat} (hs : okS s) (h1 : sz ≤ 60) (h2 : ∀ i, i < sz → f i ≤ 255) : okS (setT s sz f) := ⟨hs.1, hs.2.1, hs.2.2.1, h1, h2⟩
theorem CX_tp {sz : Nat} {f : Nat → Nat} (h : FR P S S') (hP : ∀ t k j, P t k j → pXs t k j ∨ 64 ≤ k ∨ pTp t k j) (c : CX S s) (h1 : S'.1 60 1 = nI sz) (h2 : ∀ i, i < sz → S'.2.2.1 61 i = nI (f i)) : CX S' (setT s sz f) := by
  obtain ⟨c1, c2, c3, c4, c5, c6⟩ := c
  have n : ∀ t k j, ¬ (pXs t k j ∨ 64 ≤ k ∨ pTp t k j) → ¬ P t k j := fun t k j z w => z (hP t k j w)
  refine ⟨CB_fr h (n _ _ _ (by unfold pXs pTp; omega)) (n _ _ _ (by unfold pXs pTp; omega)) (n _ _ _ (by unfold pXs pTp; omega)) (n _ _ _ (by unfold pXs pTp; omega)) (n _ _ _ (by unfold pXs pTp; omega)) (fun k h1 h2 => n _ _ _ (by unfold pXs pTp; omega)) (n _ _ _ (by unfold pXs pTp; omega)) c1, (h.1 0 7 (n _ _ _ (by unfold pXs pTp; omega))).trans c2, fun K hK => CB_fr' h (fun t k j h1 h2 => n _ _ _ (by unfold pXs pTp; omega)) (c3 K hK), fun i hi => ?_, h1, h2⟩
  rw [h.2.2.1 53 (n _ _ _ (by unfold pXs pTp; omega)), h.2.2.1 54 (n _ _ _ (by unfold pXs pTp; omega)), h.2.2.1 (56 + i) (n _ _ _ (by unfold pXs pTp; omega))]
  exact c4 i hi
theorem CM_tp {sz : Nat} {f : Nat → Nat} (h : FR P S S') (hP : ∀ t k j, P t k j → pMs t k j ∨ k < 64 ∨ pTm t k j) (c : CM S s) (h1 : S'.1 64 29 = nI sz) (h2 : ∀ i, i < sz → S'.2.2.1 86 i = nI (f i)) : CM S' (setT s sz f) := by
  obtain ⟨c1, c2, c3, c4, c5, c6, c7⟩ := c
  have n : ∀ t k j, ¬ (pMs t k j ∨ k < 64 ∨ pTm t k j) → ¬ P t k j := fun t k j z w => z (hP t k j w)
  refine ⟨⟨MC_fr h (n _ _ _ (by unfold pMs pTm; omega)) (fun k h1 h2 => n _ _ _ (by unfold pMs pTm; omega)) c1.1, MH_fr h (n _ _ _ (by unfold pMs pTm; omega)) (n _ _ _ (by unfold pMs pTm; omega)) (n _ _ _ (by unfold pMs pTm; omega)) (fun k h1 h2 => n _ _ _ (by unfold pMs pTm; omega)) c1.2⟩, (h.1 64 37 (n _ _ _ (by unfold pMs pTm; omega))).trans c2, fun K hK => MK_fr h (n _ _ _ (by unfold pMs pTm; omega)) (fun k h1 h2 => n _ _ _ (by unfold pMs pTm; omega)) (n _ _ _ (by unfold pMs pTm; omega)) (n _ _ _ (by unfold pMs pTm; omega)) (n _ _ _ (by unfold pMs pTm; omega)) (c3 K hK), fun i hi => ?_, ⟨h1, h2⟩, fun i hi => ?_, fun i hi => ?_⟩
  · rw [h.2.2.1 98 (n _ _ _ (by unfold pMs pTm; omega)), h.2.2.1 99 (n _ _ _ (by unfold pMs pTm; omega)), h.2.2.1 100 (n _ _ _ (by unfold pMs pTm; omega))]
    exact c4 i hi
  · rw [h.2.2.1 84 (n _ _ _ (by unfold pMs pTm; omega))]
    exact c6 i hi
  · rw [h.2.2.1 85 (n _ _ _ (by unfold pMs pTm; omega))]
    exact c7 i hi
/-- bytes b, behind T of them the v -/
def apB (b : Nat → Nat) (T : Nat) (v : Nat → Nat) (q : Nat) : Nat := if q < T then b q else v (q - T)
def TI (b : Nat → Nat) (T n : Nat) (v : Nat → Nat) (j : Nat) (S : SS) : Prop := S.1 60 1 = nI (T + min j n) ∧ ∀ q, q < T + min j n → S.2.2.1 61 q = nI (apB b T v q)
theorem x_app {b : Nat → Nat} {T n : Nat} {v : Nat → Nat} {j : Nat} (h : TI b T n v j S) (h6 : T + n ≤ 60) : WP (TX5_append (nI (v j)) (nI (T + n)) S) (fun r => FR pTp S r ∧ TI b T n v (j + 1) r) := by
  obtain ⟨h1, h2⟩ := h
  unfold TX5_append
  rw [h1, show (60 : Int32) = nI 60 from rfl]
  by_cases e : n ≤ j
  · rw [if_pos (by rw [nI_cmp (by omega) (by omega)]; omega)]
    refine wp_some ⟨FR_refl, ?_, ?_⟩
    · rw [h1]; congr 1; omega
    · intro q hq; exact h2 q (by omega)
  · rw [if_neg (by rw [nI_cmp (by omega) (by omega)]; omega), if_neg (by rw [nI_cmp (by omega) (by omega)]; omega), if_pos (iI_in (by omega) (by omega)), iI_nat _ (by omega)]
    simp only [letS]
    rw [h1, nI_1]
    refine wp_some ⟨FR_FI (FR_AI FR_refl (by unfold pTp; omega)) (by unfold pTp; omega), ?_, fun q hq => ?_⟩
    · simp (disch := omega) only [up2_s, up2_n, va_up_s, va_up_n]
      congr 1
      omega
    · simp only [up2_s, va_up_at]
      by_cases e2 : q = T + min j n
      · rw [if_pos e2]
        unfold apB
        rw [if_neg (by omega), show q - T = j by omega]
      · rw [if_neg e2]
        exact h2 q (by omega)
theorem fd_sel {α : Type} (J : Int32 → α) (v : Nat → Nat) : ∀ j, j < 5 → (if nI j = 0 then J (nI (v 0)) else if nI j = 1 then J (nI (v 1)) else if nI j = 2 then J (nI (v 2)) else if nI j = 3 then J (nI (v 3)) else J (nI (v 4))) = J (nI (v j))
  | 0, _ => by rw [if_pos (by decide)]
  | 1, _ => by rw [if_neg (by decide), if_pos (by decide)]
  | 2, _ => by rw [if_neg (by decide), if_neg (by decide), if_pos (by decide)]
  | 3, _ => by rw [if_neg (by decide), if_neg (by decide), if_neg (by decide), if_pos (by decide)]
  | 4, _ => by rw [if_neg (by decide), if_neg (by decide), if_neg (by decide), if_neg (by decide)]
  | j + 5, h => by omega
theorem m_fdL {b : Nat → Nat} {T N : Nat} {v : Nat → Nat} (h29 : S.1 64 29 = nI T) (hb : ∀ q, q < T → S.2.2.1 86 q = nI (b q)) (hN : N ≤ 5) (h6 : T + N ≤ 60) :
    WP (TX7_feed_L107 fu (nI N) (nI (v 0)) (nI (v 1)) (nI (v 2)) (nI (v 3)) (nI (v 4)) 0 S) (fun r => r.1 = nI (T + N) ∧ FR pTm S r.2 ∧ r.2.1 64 29 = nI (T + N) ∧ ∀ q, q < T + N → r.2.2.2.1 86 q = nI (apB b T v q)) := by
  refine wp_up (F := fun n i s => TX7_feed_L107 n (nI N) (nI (v 0)) (nI (v 1)) (nI (v 2)) (nI (v 3)) (nI (v 4)) (nI i) s) (N := N) (I := fun i r => FR pTm S r ∧ r.1 64 29 = nI (T + i) ∧ ∀ q, q < T + i → r.2.2.1 86 q = nI (apB b T v q)) ?_ ?_ 0 S fu (by omega) ⟨FR_refl, h29, fun q hq => ?_⟩ (by rw [fu_eq]; omega)
  · intro n i r hi ⟨hF, h1, h2⟩ k
    show WP (TX7_feed_L107 (n + 1) (nI N) (nI (v 0)) (nI (v 1)) (nI (v 2)) (nI (v 3)) (nI (v 4)) (nI i) r) _
    rw [TX7_feed_L107, if_neg (by rw [nI_cmp (by omega) (by omega)]; omega)]
    refine wp_eq (fd_sel (fun x => TX7_feed_J164 (fun l1 l2 l3 l4 l5 l6 l8 S => TX7_feed_L107 n l1 l2 l3 l4 l5 l6 l8 S) (nI N) (nI (v 0)) (nI (v 1)) (nI (v 2)) (nI (v 3)) (nI (v 4)) (nI i) x (r.1 64 29) r) v i (by omega)) ?_
    show WP (TX7_feed_J164 _ (nI N) _ _ _ _ _ (nI i) (nI (v i)) (r.1 64 29) r) _
    unfold TX7_feed_J164
    rw [h1, if_pos (iI_in (by omega) (by omega)), iI_nat _ (by omega)]
    simp only [letS]
    rw [h1, nI_1, nI_1]
    refine k _ ⟨FR_FI (FR_AI hF (by unfold pTm; omega)) (by unfold pTm; omega), ?_, fun q hq => ?_⟩
    · simp (disch := omega) only [up2_s, up2_n, va_up_s, va_up_n]
      rfl
    · simp only [up2_s, va_up_at]
      by_cases e2 : q = T + i
      · rw [if_pos e2]
        unfold apB
        rw [if_neg (by omega), show q - T = i by omega]
      · rw [if_neg e2]
        exact h2 q (by omega)
  · intro n r ⟨hF, h1, h2⟩
    show WP (TX7_feed_L107 (n + 1) (nI N) (nI (v 0)) (nI (v 1)) (nI (v 2)) (nI (v 3)) (nI (v 4)) (nI N) r) _
    rw [TX7_feed_L107, if_pos (by rw [nI_cmp (by omega) (by omega)]; omega)]
    exact wp_some ⟨h1, hF, h1, h2⟩
  · rw [hb q (by omega)]
    unfold apB
    rw [if_pos (by omega)]
theorem x_fd0 {a b c d e f : Int32} : TX6_feed_J43 a b c d e f 0 S = some (-2, S) := by
  unfold TX6_feed_J43
  rw [x_between, Option.bind_some, if_pos (rfl : (0 : Int32) = 0)]
  split <;> rfl
theorem m_fd0 {a b c d e f : Int32} : TX7_feed_J68 a b c d e f 0 S = some (-2, S) := by
  unfold TX7_feed_J68
  rw [m_isIn, Option.bind_some, if_pos (rfl : (0 : Int32) = 0)]
  split <;> rfl
theorem a_feed (hs : okS s) (a1 a2 a3 a4 a5 a6 : Int32) : ∃ v s', okS s' ∧ OX (TX6_feed a1 a2 a3 a4 a5 a6) s v s' ∧ OM (TX7_feed a1 a2 a3 a4 a5 a6) s v s' := by
  obtain ⟨z1, h1, rfl⟩ := i_cases a1
  obtain ⟨z2, h2, rfl⟩ := i_cases a2
  obtain ⟨z3, h3, rfl⟩ := i_cases a3
  obtain ⟨z4, h4, rfl⟩ := i_cases a4
  obtain ⟨z5, h5, rfl⟩ := i_cases a5
  obtain ⟨z6, h6, rfl⟩ := i_cases a6
  have xb := x_rngN (z := z1) (a' := 1) (b' := 5) (by decide : (1 : Int32) = iI 1) (by decide : (5 : Int32) = iI 5) (by omega) (by omega) h1
  rcases emn (0 ≤ z2 ∧ z2 ≤ 255) with c2 | c2
  · refine ⟨-2, s, hs, OX_no fun S c => ?_, OM_no fun S c => ?_⟩
    · unfold TX6_feed
      rw [x_isByte h2, Option.bind_some, ite_b, if_neg c2, x_fd0]
    · unfold TX7_feed
      rw [m_in0255 h2, Option.bind_some, ite_b, if_neg c2, m_fd0]
  rcases emn (0 ≤ z3 ∧ z3 ≤ 255) with c3 | c3
  · refine ⟨-2, s, hs, OX_no fun S c => ?_, OM_no fun S c => ?_⟩
    · unfold TX6_feed
      rw [x_isByte h2, Option.bind_some, ite_b, if_pos c2, x_isByte h3, Option.bind_some, ite_b, if_neg c3, x_fd0]
    · unfold TX7_feed
      rw [m_in0255 h2, Option.bind_some, ite_b, if_pos c2, m_in0255 h3, Option.bind_some, ite_b, if_neg c3, m_fd0]
  rcases emn (0 ≤ z4 ∧ z4 ≤ 255) with c4 | c4
  · refine ⟨-2, s, hs, OX_no fun S c => ?_, OM_no fun S c => ?_⟩
    · unfold TX6_feed
      rw [x_isByte h2, Option.bind_some, ite_b, if_pos c2, x_isByte h3, Option.bind_some, ite_b, if_pos c3, x_isByte h4, Option.bind_some, ite_b, if_neg c4, x_fd0]
    · unfold TX7_feed
      rw [m_in0255 h2, Option.bind_some, ite_b, if_pos c2, m_in0255 h3, Option.bind_some, ite_b, if_pos c3, m_in0255 h4, Option.bind_some, ite_b, if_neg c4, m_fd0]
  rcases emn (0 ≤ z5 ∧ z5 ≤ 255) with c5 | c5
  · refine ⟨-2, s, hs, OX_no fun S c => ?_, OM_no fun S c => ?_⟩
    · unfold TX6_feed
      rw [x_isByte h2, Option.bind_some, ite_b, if_pos c2, x_isByte h3, Option.bind_some, ite_b, if_pos c3, x_isByte h4, Option.bind_some, ite_b, if_pos c4, x_isByte h5, Option.bind_some, ite_b, if_neg c5, x_fd0]
    · unfold TX7_feed
      rw [m_in0255 h2, Option.bind_some, ite_b, if_pos c2, m_in0255 h3, Option.bind_some, ite_b, if_pos c3, m_in0255 h4, Option.bind_some, ite_b, if_pos c4, m_in0255 h5, Option.bind_some, ite_b, if_neg c5, m_fd0]
  rcases emn (0 ≤ z6 ∧ z6 ≤ 255) with c6 | c6
  · refine ⟨-2, s, hs, OX_no fun S c => ?_, OM_no fun S c => ?_⟩
    · unfold TX6_feed
      rw [x_isByte h2, Option.bind_some, ite_b, if_pos c2, x_isByte h3, Option.bind_some, ite_b, if_pos c3, x_isByte h4, Option.bind_some, ite_b, if_pos c4, x_isByte h5, Option.bind_some, ite_b, if_pos c5, x_isByte h6, Option.bind_some, ite_b, if_neg c6, x_fd0]
    · unfold TX7_feed
      rw [m_in0255 h2, Option.bind_some, ite_b, if_pos c2, m_in0255 h3, Option.bind_some, ite_b, if_pos c3, m_in0255 h4, Option.bind_some, ite_b, if_pos c4, m_in0255 h5, Option.bind_some, ite_b, if_pos c5, m_in0255 h6, Option.bind_some, ite_b, if_neg c6, m_fd0]
  have xe : ∀ S, TX6_feed (iI z1) (iI z2) (iI z3) (iI z4) (iI z5) (iI z6) S = TX6_feed_J43 (iI z1) (iI z2) (iI z3) (iI z4) (iI z5) (iI z6) 1 S := fun S => by
    unfold TX6_feed
    rw [x_isByte h2, Option.bind_some, ite_b, if_pos c2, x_isByte h3, Option.bind_some, ite_b, if_pos c3, x_isByte h4, Option.bind_some, ite_b, if_pos c4, x_isByte h5, Option.bind_some, ite_b, if_pos c5, x_isByte h6, Option.bind_some, ite_b, if_pos c6]
  have me : ∀ S, TX7_feed (iI z1) (iI z2) (iI z3) (iI z4) (iI z5) (iI z6) S = TX7_feed_J68 (iI z1) (iI z2) (iI z3) (iI z4) (iI z5) (iI z6) 1 S := fun S => by
    unfold TX7_feed
    rw [m_in0255 h2, Option.bind_some, ite_b, if_pos c2, m_in0255 h3, Option.bind_some, ite_b, if_pos c3, m_in0255 h4, Option.bind_some, ite_b, if_pos c4, m_in0255 h5, Option.bind_some, ite_b, if_pos c5, m_in0255 h6, Option.bind_some, ite_b, if_pos c6]
  have n10 : ¬ (1 : Int32) = 0 := by decide
  rcases emn (1 ≤ z1 ∧ z1 ≤ 5) with c1 | c1
  · refine ⟨-2, s, hs, OX_no fun S c => ?_, OM_no fun S c => ?_⟩
    · rw [xe S]
      unfold TX6_feed_J43
      rw [xb, Option.bind_some, ite_b, if_neg c1]
    · rw [me S]
      unfold TX7_feed_J68
      rw [m_in15 h1, Option.bind_some, ite_b, if_neg c1]
  obtain ⟨N, rfl⟩ := i_nat (z := z1) (by omega)
  obtain ⟨b2, rfl⟩ := i_nat c2.1
  obtain ⟨b3, rfl⟩ := i_nat c3.1
  obtain ⟨b4, rfl⟩ := i_nat c4.1
  obtain ⟨b5, rfl⟩ := i_nat c5.1
  obtain ⟨b6, rfl⟩ := i_nat c6.1
  have hT : tTs s ≤ 60 := hs.2.2.2.1
  have hB := hs.2.2.2.2
  by_cases c7 : tTs s + N ≤ 60
  · obtain ⟨v, v0, v1, v2, v3, v4⟩ : ∃ v : Nat → Nat, v 0 = b2 ∧ v 1 = b3 ∧ v 2 = b4 ∧ v 3 = b5 ∧ v 4 = b6 := ⟨fun j => [b2, b3, b4, b5, b6].getD j 0, rfl, rfl, rfl, rfl, rfl⟩
    have hv : ∀ j, j < 5 → v j ≤ 255 := fun j hj => by
      match j, hj with
      | 0, _ => omega
      | 1, _ => omega
      | 2, _ => omega
      | 3, _ => omega
      | 4, _ => omega
      | j + 5, h => omega
    refine ⟨nI (tTs s + N), setT s (tTs s + N) (apB s.2.2.2.2.2.2 (tTs s) v), okS_tp hs c7 (fun i hi => ?_), fun S cx => ?_, fun S cm => ?_⟩
    · unfold apB
      split
      · exact hB i (by assumption)
      · exact hv _ (by omega)
    · rw [xe S]
      unfold TX6_feed_J43
      rw [xb, Option.bind_some, ite_b, if_pos c1, if_neg n10, ← v0, ← v1, ← v2, ← v3, ← v4]
      simp only [← nI_z]
      have e5 := cx.2.2.2.2.1
      rw [e5, nI_add, show (60 : Int32) = nI 60 from rfl, if_pos (by rw [nI_cmp (by omega) (by omega)]; exact c7)]
      have t0 : TI s.2.2.2.2.2.2 (tTs s) N v 0 S := ⟨by rw [e5]; congr 1, fun q hq => by
        have hq' : q < tTs s := by omega
        unfold apB
        rw [if_pos hq']
        exact cx.2.2.2.2.2 q hq'⟩
      refine wp_bind (x_app t0 c7) fun r1 p1 => ?_
      refine wp_bind (x_app p1.2 c7) fun r2 p2 => ?_
      refine wp_bind (x_app p2.2 c7) fun r3 p3 => ?_
      refine wp_bind (x_app p3.2 c7) fun r4 p4 => ?_
      refine wp_bind (x_app p4.2 c7) fun r5 p5 => ?_
      have F := FR_trans p1.1 (FR_trans p2.1 (FR_trans p3.1 (FR_trans p4.1 p5.1)))
      obtain ⟨q1, q2⟩ := p5.2
      rw [show tTs s + min (0 + 1 + 1 + 1 + 1 + 1) N = tTs s + N by omega] at q1 q2
      exact wp_some ⟨q1, FR_mono F (fun t k j z => by unfold pTp at z; unfold pX; omega), CX_tp F (fun t k j z => Or.inr (Or.inr z)) cx q1 q2⟩
    · rw [me S]
      unfold TX7_feed_J68
      rw [m_in15 h1, Option.bind_some, ite_b, if_pos c1, if_neg n10, ← v0, ← v1, ← v2, ← v3, ← v4]
      simp only [← nI_z]
      have e5 := cm.2.2.2.2.1
      rw [e5.1, nI_add, show (60 : Int32) = nI 60 from rfl, if_pos (by rw [nI_cmp (by omega) (by omega)]; exact c7)]
      refine wp_mono (m_fdL (b := s.2.2.2.2.2.2) (v := v) (N := N) e5.1 e5.2 (by omega) c7) fun r hr => ⟨hr.1, FR_mono hr.2.1 (fun t k j z => by unfold pTm at z; unfold pM; omega), CM_tp hr.2.1 (fun t k j z => Or.inr (Or.inr z)) cm hr.2.2.1 hr.2.2.2⟩
  · refine ⟨-4, s, hs, OX_no fun S c => ?_, OM_no fun S c => ?_⟩
    · rw [xe S]
      unfold TX6_feed_J43
      rw [xb, Option.bind_some, ite_b, if_pos c1, if_neg n10]
      simp only [← nI_z]
      rw [c.2.2.2.2.1, nI_add, show (60 : Int32) = nI 60 from rfl, if_neg (by rw [nI_cmp (by omega) (by omega)]; exact c7)]
    · rw [me S]
      unfold TX7_feed_J68
      rw [m_in15 h1, Option.bind_some, ite_b, if_pos c1, if_neg n10]
      simp only [← nI_z]
      rw [c.2.2.2.2.1.1, nI_add, show (60 : Int32) = nI 60 from rfl, if_neg (by rw [nI_cmp (by omega) (by omega)]; exact c7)]
end FED
