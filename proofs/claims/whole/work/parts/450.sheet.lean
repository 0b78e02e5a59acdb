/-! Calls: sheet, put, copy. -/
/-- a sheet is another -/
def setSh (s : ST) (i : Nat) (so : Int) (sz : Nat) (it : Nat → Int32) : ST := (tA s, tIm s, va_up s.2.2.1 i so, va_up s.2.2.2.1 i sz, va_up s.2.2.2.2.1 i it, s.2.2.2.2.2)
def pSh (i t k _j : Nat) : Prop := t = 2 ∧ (k = 53 ∨ k = 54 ∨ k = 56 + i)
def pMh (t k _j : Nat) : Prop := t = 2 ∧ 98 ≤ k ∧ k ≤ 101
section SHT
variable {P : Nat → Nat → Nat → Prop} {S S' : SS} {s : ST} {i : Nat}
theorem okS_sh {so : Int} {sz : Nat} {it : Nat → Int32} (hs : okS s) (h1 : -1 ≤ so ∧ so ≤ 1) (h2 : sz ≤ 40) : okS (setSh s i so sz it) := by
  refine ⟨hs.1, hs.2.1, fun q hq => ?_, hs.2.2.2⟩
  show -1 ≤ va_up s.2.2.1 i so q ∧ va_up s.2.2.1 i so q ≤ 1 ∧ va_up s.2.2.2.1 i sz q ≤ 40
  simp only [va_up_at]
  have := hs.2.2.1 q hq
  by_cases e : q = i
  · simp only [if_pos e]; omega
  · simp only [if_neg e]; exact this
theorem CX_sh {so : Int} {sz : Nat} {it : Nat → Int32} (h : FR P S S') (hP : ∀ t k j, P t k j → pXs t k j ∨ 64 ≤ k ∨ pSh i t k j) (hi : i < 4) (c : CX S s) (h3 : ∀ q, q < 4 → S'.2.2.1 53 q = if q = i then iI so else S.2.2.1 53 q) (h4 : ∀ q, q < 4 → S'.2.2.1 54 q = if q = i then nI sz else S.2.2.1 54 q) (h5 : ∀ j, j < sz → S'.2.2.1 (56 + i) j = it j) : CX S' (setSh s i so sz it) := by
  obtain ⟨c1, c2, c3, c4, c5, c6⟩ := c
  have n : ∀ t k j, ¬ (pXs t k j ∨ 64 ≤ k ∨ pSh i t k j) → ¬ P t k j := fun t k j z w => z (hP t k j w)
  refine ⟨CB_fr' h (fun t k j h1 h2 => n _ _ _ (by unfold pXs pSh; omega)) c1, (h.1 0 7 (n _ _ _ (by unfold pXs pSh; omega))).trans c2, fun K hK => CB_fr' h (fun t k j h1 h2 => n _ _ _ (by unfold pXs pSh; omega)) (c3 K hK), fun q hq => ?_, (h.1 60 1 (n _ _ _ (by unfold pXs pSh; omega))).trans c5, fun q hq => ?_⟩
  · show S'.2.2.1 53 q = iI (va_up s.2.2.1 i so q) ∧ S'.2.2.1 54 q = nI (va_up s.2.2.2.1 i sz q) ∧ ∀ j, j < va_up s.2.2.2.1 i sz q → S'.2.2.1 (56 + q) j = va_up s.2.2.2.2.1 i it q j
    rw [h3 q hq, h4 q hq]
    simp only [va_up_at]
    by_cases e : q = i
    · subst e
      simp only [if_true]
      exact ⟨trivial, trivial, h5⟩
    · simp only [if_neg e]
      rw [h.2.2.1 (56 + q) (n _ _ _ (by unfold pXs pSh; omega))]
      exact c4 q hq
  · rw [h.2.2.1 61 (n _ _ _ (by unfold pXs pSh; omega))]
    exact c6 q hq
theorem CM_sh {so : Int} {sz : Nat} {it : Nat → Int32} (h : FR P S S') (hP : ∀ t k j, P t k j → pMs t k j ∨ k < 64 ∨ pMh t k j) (hs : okS s) (c : CM S s) (h3 : ∀ q, q < 4 → S'.2.2.1 98 q = if q = i then iI so else S.2.2.1 98 q) (h4 : ∀ q, q < 4 → S'.2.2.1 99 q = if q = i then nI sz else S.2.2.1 99 q) (h5 : ∀ j, j < sz → S'.2.2.1 100 (40 * i + j) = it j) (h6 : ∀ q j, q < 4 → q ≠ i → j < 40 → S'.2.2.1 100 (40 * q + j) = S.2.2.1 100 (40 * q + j)) : CM S' (setSh s i so sz it) := by
  obtain ⟨c1, c2, c3, c4, c5, c6, c7⟩ := c
  have n : ∀ t k j, ¬ (pMs t k j ∨ k < 64 ∨ pMh t k j) → ¬ P t k j := fun t k j z w => z (hP t k j w)
  refine ⟨⟨MC_fr h (n _ _ _ (by unfold pMs pMh; omega)) (fun k h1 h2 => n _ _ _ (by unfold pMs pMh; omega)) c1.1, MH_fr h (n _ _ _ (by unfold pMs pMh; omega)) (n _ _ _ (by unfold pMs pMh; omega)) (n _ _ _ (by unfold pMs pMh; omega)) (fun k h1 h2 => n _ _ _ (by unfold pMs pMh; omega)) c1.2⟩, (h.1 64 37 (n _ _ _ (by unfold pMs pMh; omega))).trans c2, fun K hK => MK_fr h (n _ _ _ (by unfold pMs pMh; omega)) (fun k h1 h2 => n _ _ _ (by unfold pMs pMh; omega)) (n _ _ _ (by unfold pMs pMh; omega)) (n _ _ _ (by unfold pMs pMh; omega)) (n _ _ _ (by unfold pMs pMh; omega)) (c3 K hK), fun q hq => ?_, ⟨(h.1 64 29 (n _ _ _ (by unfold pMs pMh; omega))).trans c5.1, fun q hq => ?_⟩, fun q hq => ?_, fun q hq => ?_⟩
  · show S'.2.2.1 98 q = iI (va_up s.2.2.1 i so q) ∧ S'.2.2.1 99 q = nI (va_up s.2.2.2.1 i sz q) ∧ ∀ j, j < va_up s.2.2.2.1 i sz q → S'.2.2.1 100 (40 * q + j) = va_up s.2.2.2.2.1 i it q j
    rw [h3 q hq, h4 q hq]
    simp only [va_up_at]
    by_cases e : q = i
    · subst e
      simp only [if_true]
      exact ⟨trivial, trivial, h5⟩
    · simp only [if_neg e]
      obtain ⟨d1, d2, d3⟩ := c4 q hq
      have hz := (hs.2.2.1 q hq).2.2
      have hz' : s.2.2.2.1 q ≤ 40 := hz
      exact ⟨d1, d2, fun j hj => (h6 q j hq e (by omega)).trans (d3 j hj)⟩
  · rw [h.2.2.1 86 (n _ _ _ (by unfold pMs pMh; omega))]
    exact c5.2 q hq
  · rw [h.2.2.1 84 (n _ _ _ (by unfold pMs pMh; omega))]
    exact c6 q hq
  · rw [h.2.2.1 85 (n _ _ _ (by unfold pMs pMh; omega))]
    exact c7 q hq
theorem x_missing (c : CX S s) (hs : okS s) (hi : i < 4) : TX3_isMissing (nI i) S = some (b2i (tSo s i = -1)) := by
  obtain ⟨e1, e2, e3⟩ := c.2.2.2.1 i hi
  have := hs.2.2.1 i hi
  unfold TX3_isMissing
  rw [aget_n (by omega) (by omega), Option.bind_some, e1]
  have cc : iI (tSo s i) = -1 ↔ tSo s i = -1 := by rw [km1, iI_eq (by omega) (by omega)]
  by_cases e : tSo s i = -1
  · rw [if_pos (cc.mpr e), b2i_t e]; rfl
  · rw [if_neg (fun z => e (cc.mp z)), b2i_f e]; rfl
theorem x_hasS {z : Int} (c : CX S s) (hs : okS s) (hi : i < 4) (hz : i31 z) : TX3_has (nI i) (iI z) S = some (b2i (0 ≤ z ∧ z < tSz s i)) := by
  obtain ⟨e1, e2, e3⟩ := c.2.2.2.1 i hi
  have := (hs.2.2.1 i hi).2.2
  unfold TX3_has
  rw [aget_n (by omega) (by omega), Option.bind_some, e2]
  have c1 : iI z < 0 ↔ z < 0 := by rw [k0, iI_lt hz (by omega)]
  have c2 : nI (tSz s i) ≤ iI z ↔ (tSz s i : Int) ≤ z := by rw [nI_z, iI_le (by omega) hz]
  by_cases h0 : z < 0
  · rw [if_pos (c1.mpr h0), b2i_f (by omega)]; rfl
  · rw [if_neg (fun q => h0 (c1.mp q))]
    by_cases h1 : (tSz s i : Int) ≤ z
    · rw [if_pos (c2.mpr h1), b2i_f (by omega)]; rfl
    · rw [if_neg (fun q => h1 (c2.mp q)), b2i_t (by omega)]; rfl
theorem x_hasRun {z n : Int} (c : CX S s) (hs : okS s) (hi : i < 4) (hz : i31 z) (hn : i31 n) : TX3_hasRun (nI i) (iI z) (iI n) S = some (b2i (0 ≤ z ∧ 0 ≤ n ∧ z ≤ tSz s i - n)) := by
  obtain ⟨e1, e2, e3⟩ := c.2.2.2.1 i hi
  have := (hs.2.2.1 i hi).2.2
  unfold TX3_hasRun
  rw [aget_n (by omega) (by omega), Option.bind_some, e2]
  have c1 : iI z < 0 ↔ z < 0 := by rw [k0, iI_lt hz (by omega)]
  have c2 : iI n < 0 ↔ n < 0 := by rw [k0, iI_lt hn (by omega)]
  by_cases h0 : z < 0
  · rw [if_pos (c1.mpr h0), b2i_f (by omega)]; rfl
  · rw [if_neg (fun q => h0 (c1.mp q))]
    by_cases h1 : n < 0
    · rw [if_pos (c2.mpr h1), b2i_f (by omega)]; rfl
    · rw [if_neg (fun q => h1 (c2.mp q))]
      have c3 : nI (tSz s i) - iI n < iI z ↔ (tSz s i : Int) - n < z := by rw [nI_z, iI_sub, iI_lt (by omega) hz]
      by_cases h2 : (tSz s i : Int) - n < z
      · rw [if_pos (c3.mpr h2), b2i_f (by omega)]; rfl
      · rw [if_neg (fun q => h2 (c3.mp q)), b2i_t (by omega)]; rfl
theorem x_renew (hi : i < 4) (so n : Int32) : WP (TX3_renew (nI i) so n S) (fun r => FR (pSh i) S r ∧ (∀ q, q < 4 → r.2.2.1 53 q = if q = i then so else S.2.2.1 53 q) ∧ (∀ q, q < 4 → r.2.2.1 54 q = if q = i then n else S.2.2.1 54 q) ∧ ∀ j, j < 40 → r.2.2.1 (56 + i) j = 0) := by
  unfold TX3_renew
  simp (disch := omega) only [letS, Option.bind_some, aget_n, ite_jin, iI_nat, nI_1, nI_leI', nI_ltI', nI_eqI', up2_s, up2_n, va_up_s, va_up_n]
  refine wp_up (F := fun n j s => TX3_renew_L17 n (nI i) (nI j) s) (N := 40) (I := fun j r => FR (pSh i) S r ∧ (∀ q, q < 4 → r.2.2.1 53 q = if q = i then so else S.2.2.1 53 q) ∧ (∀ q, q < 4 → r.2.2.1 54 q = if q = i then n else S.2.2.1 54 q) ∧ ∀ q, q < j → r.2.2.1 (56 + i) q = 0) ?_ ?_ 0 _ fu (by omega) ⟨FR_AI (FR_AI FR_refl (by unfold pSh; omega)) (by unfold pSh; omega), fun q hq => ?_, fun q hq => ?_, fun q hq => by omega⟩ (by rw [fu_eq]; omega)
  · intro m j r hj ⟨hF, h3, h4, h5⟩ k
    show WP (TX3_renew_L17 (m + 1) (nI i) (nI j) r) _
    rw [TX3_renew_L17, show (40 : Int32) = nI 40 from rfl]
    simp (disch := omega) only [letS, Option.bind_some, aget_n, ite_jin, iI_nat, nI_1, nI_leI', nI_ltI', nI_eqI', up2_s, up2_n, va_up_s, va_up_n, if_neg]
    refine k _ ⟨FR_AI hF (by unfold pSh; omega), fun q hq => ?_, fun q hq => ?_, fun q hq => ?_⟩
    · simp (disch := omega) only [up2_n]
      exact h3 q hq
    · simp (disch := omega) only [up2_n]
      exact h4 q hq
    · simp (disch := omega) only [up2_s, va_up_at]
      by_cases e : q = j
      · rw [if_pos e]
      · rw [if_neg e]; exact h5 q (by omega)
  · intro m r h
    show WP (TX3_renew_L17 (m + 1) (nI i) (nI 40) r) _
    rw [TX3_renew_L17, if_pos (by decide)]
    exact wp_some h
  · simp (disch := omega) only [up2_s, up2_n, va_up_at]
  · simp (disch := omega) only [up2_s, up2_n, va_up_at]
/-- the reference's new sheet -/
theorem m_renew {so : Int} {n : Nat} (hs : okS s) (cm : CM S s) (hi : i < 4) (hn : n ≤ 40) : WP (TX7_sheet_J67 (nI i) (nI n) (nI i) (sAI S 98 i (iI so))) (fun r => r.1 = 1 ∧ FR pM S r.2 ∧ CM r.2 (setSh s i so n (fun _ => 0))) := by
  unfold TX7_sheet_J67
  simp (disch := omega) only [letS, Option.bind_some, aget_n, ite_jin, iI_nat, nI_1, nI_leI', nI_ltI', nI_eqI', up2_s, up2_n, va_up_s, va_up_n]
  refine wp_up (F := fun n j s => TX7_sheet_L71 n (nI i) (nI j) s) (N := n) (I := fun j r => FR pMh S r ∧ (∀ q, q < 4 → r.2.2.1 98 q = if q = i then iI so else S.2.2.1 98 q) ∧ (∀ q, q < 4 → r.2.2.1 99 q = if q = i then nI n else S.2.2.1 99 q) ∧ (∀ q, q < j → r.2.2.1 100 (40 * i + q) = 0) ∧ ∀ q x, q < 4 → q ≠ i → x < 40 → r.2.2.1 100 (40 * q + x) = S.2.2.1 100 (40 * q + x)) ?_ ?_ 0 _ fu (by omega) ⟨FR_AI (FR_AI FR_refl (by unfold pMh; omega)) (by unfold pMh; omega), fun q hq => ?_, fun q hq => ?_, fun q hq => by omega, fun q x h1 h2 h3 => ?_⟩ (by rw [fu_eq]; omega)
  · intro m j r hj ⟨hF, h3, h4, h5, h6⟩ k
    have h99 : r.2.2.1 99 i = nI n := (h4 i hi).trans (if_pos rfl)
    show WP (TX7_sheet_L71 (m + 1) (nI i) (nI j) r) _
    rw [TX7_sheet_L71, show (40 : Int32) = nI 40 from rfl]
    simp (disch := omega) only [pk_mul, nI_add, letS, Option.bind_some, aget_n, ite_jin, iI_nat, nI_1, nI_leI', nI_ltI', nI_eqI', up2_s, up2_n, va_up_s, va_up_n, h99, if_neg]
    refine k _ ⟨FR_AI hF (by unfold pMh; omega), fun q hq => ?_, fun q hq => ?_, fun q hq => ?_, fun q x y1 y2 y3 => ?_⟩
    · simp (disch := omega) only [up2_n]
      exact h3 q hq
    · simp (disch := omega) only [up2_n]
      exact h4 q hq
    · simp (disch := omega) only [up2_s, va_up_at]
      by_cases e : q = j
      · rw [if_pos (by omega)]
      · rw [if_neg (by omega)]; exact h5 q (by omega)
    · simp (disch := omega) only [up2_s, va_up_at]
      rw [if_neg (by omega)]
      exact h6 q x y1 y2 y3
  · intro m r ⟨hF, h3, h4, h5, h6⟩
    have h99 : r.2.2.1 99 i = nI n := (h4 i hi).trans (if_pos rfl)
    show WP (TX7_sheet_L71 (m + 1) (nI i) (nI n) r) _
    rw [TX7_sheet_L71]
    simp (disch := omega) only [aget_n, Option.bind_some, h99, nI_leI', if_pos]
    exact wp_some ⟨rfl, FR_mono hF (fun t k j z => by unfold pMh at z; unfold pM; omega), CM_sh hF (fun t k j z => Or.inr (Or.inr z)) hs cm h3 h4 h5 h6⟩
  · simp (disch := omega) only [up2_s, up2_n, va_up_at]
  · simp (disch := omega) only [up2_s, up2_n, va_up_at]
  · simp (disch := omega) only [up2_n]
theorem pShX : ∀ t k j, pSh i t k j → i < 4 → pX t k j := fun t k j z h => by unfold pSh at z; unfold pX; omega
theorem a_sheet (hs : okS s) (a1 a2 a3 : Int32) : ∃ v s', okS s' ∧ OX (TX6_sheet a1 a2 a3) s v s' ∧ OM (TX7_sheet a1 a2 a3) s v s' := by
  obtain ⟨z1, h1, rfl⟩ := i_cases a1
  obtain ⟨z2, h2, rfl⟩ := i_cases a2
  obtain ⟨z3, h3, rfl⟩ := i_cases a3
  have xb := x_rngN (z := z2) (a' := -1) (b' := 1) (by decide : (-1 : Int32) = iI (-1)) (by decide : (1 : Int32) = iI 1) (by omega) (by omega) h2
  rcases emn (0 ≤ z1 ∧ z1 ≤ 3) with c1 | c1
  · refine ⟨-2, s, hs, OX_no fun S c => ?_, OM_no fun S c => ?_⟩
    · unfold TX6_sheet
      rw [x_isSheet h1, Option.bind_some, ite_b, if_neg c1]
    · unfold TX7_sheet
      rw [m_isSheet h1, Option.bind_some, ite_b, if_neg c1]
  rcases emn (-1 ≤ z2 ∧ z2 ≤ 1) with c2 | c2
  · refine ⟨-2, s, hs, OX_no fun S c => ?_, OM_no fun S c => ?_⟩
    · unfold TX6_sheet
      rw [x_isSheet h1, Option.bind_some, ite_b, if_pos c1, xb, Option.bind_some, ite_b, if_neg c2]
    · unfold TX7_sheet
      rw [m_isSheet h1, Option.bind_some, ite_b, if_pos c1, m_in11 h2, Option.bind_some, ite_b, if_neg c2]
  obtain ⟨i, rfl⟩ := i_nat c1.1
  have hi : i < 4 := by omega
  have key : ∀ (so : Int) (n : Nat), -1 ≤ so ∧ so ≤ 1 → n ≤ 40 → okS (setSh s i so n (fun _ => 0)) ∧ (∀ S, CX S s → WP ((TX3_renew (nI i) (iI so) (nI n) S).bind fun q => some ((1 : Int32), q)) (fun r => r.1 = 1 ∧ FR pX S r.2 ∧ CX r.2 (setSh s i so n (fun _ => 0)))) := fun so n hso hn => ⟨okS_sh hs hso hn, fun S cx => by
    refine wp_bind (x_renew hi (iI so) (nI n)) fun r hr => ?_
    obtain ⟨hF, e3, e4, e5⟩ := hr
    exact wp_some ⟨rfl, FR_mono hF (fun t k j z => pShX t k j z hi), CX_sh hF (fun t k j z => Or.inr (Or.inr z)) hi cx e3 e4 (fun j hj => e5 j (by omega))⟩⟩
  by_cases f : iI z2 = -1
  · have d : z2 = -1 := by rw [km1] at f; exact (iI_eq h2 (by omega)).mp f
    have K := key z2 0 c2 (by omega)
    refine ⟨1, setSh s i z2 0 (fun _ => 0), K.1, fun S cx => ?_, fun S cm => ?_⟩
    · unfold TX6_sheet
      rw [x_isSheet h1, Option.bind_some, ite_b, if_pos c1, xb, Option.bind_some, ite_b, if_pos c2, if_pos f, ← f, ← nI_z]
      exact K.2 S cx
    · unfold TX7_sheet TX7_sheet_J33 TX7_sheet_J45
      rw [m_isSheet h1, Option.bind_some, ite_b, if_pos c1, m_in11 h2, Option.bind_some, ite_b, if_pos c2, if_pos f, if_pos f, ← nI_z, if_pos (iI_in hi (by omega)), iI_nat i (by omega)]
      simp only [letS]
      rw [if_pos f]
      exact m_renew (n := 0) hs cm hi (by omega)
  have g40 : iI z3 ≤ 40 ↔ z3 ≤ 40 := by rw [show (40 : Int32) = iI 40 from rfl, iI_le h3 (by omega)]
  have g0 : 0 ≤ iI z3 ↔ 0 ≤ z3 := by rw [k0, iI_le (by omega) h3]
  by_cases e4 : z3 ≤ 40
  · by_cases e0 : 0 ≤ z3
    · obtain ⟨n, rfl⟩ := i_nat e0
      have K := key z2 n c2 (by omega)
      refine ⟨1, setSh s i z2 n (fun _ => 0), K.1, fun S cx => ?_, fun S cm => ?_⟩
      · unfold TX6_sheet
        rw [x_isSheet h1, Option.bind_some, ite_b, if_pos c1, xb, Option.bind_some, ite_b, if_pos c2, if_neg f, if_pos (g40.mpr e4), if_pos (g0.mpr e0), ← nI_z, ← nI_z]
        exact K.2 S cx
      · unfold TX7_sheet TX7_sheet_J33 TX7_sheet_J45
        rw [m_isSheet h1, Option.bind_some, ite_b, if_pos c1, m_in11 h2, Option.bind_some, ite_b, if_pos c2, if_neg f, if_pos (g40.mpr e4), if_neg f, if_pos (g0.mpr e0), ← nI_z, if_pos (iI_in hi (by omega)), iI_nat i (by omega)]
        simp only [letS]
        rw [if_neg f, ← nI_z]
        exact m_renew hs cm hi (by omega)
    · refine ⟨-14, s, hs, OX_no fun S c => ?_, OM_no fun S c => ?_⟩
      · unfold TX6_sheet
        rw [x_isSheet h1, Option.bind_some, ite_b, if_pos c1, xb, Option.bind_some, ite_b, if_pos c2, if_neg f, if_pos (g40.mpr e4), if_neg (fun z => e0 (g0.mp z))]
      · unfold TX7_sheet TX7_sheet_J33
        rw [m_isSheet h1, Option.bind_some, ite_b, if_pos c1, m_in11 h2, Option.bind_some, ite_b, if_pos c2, if_neg f, if_pos (g40.mpr e4), if_neg f, if_neg (fun z => e0 (g0.mp z))]
  · refine ⟨-2, s, hs, OX_no fun S c => ?_, OM_no fun S c => ?_⟩
    · unfold TX6_sheet
      rw [x_isSheet h1, Option.bind_some, ite_b, if_pos c1, xb, Option.bind_some, ite_b, if_pos c2, if_neg f, if_neg (fun z => e4 (g40.mp z))]
    · unfold TX7_sheet
      rw [m_isSheet h1, Option.bind_some, ite_b, if_pos c1, m_in11 h2, Option.bind_some, ite_b, if_pos c2, if_neg f, if_neg (fun z => e4 (g40.mp z))]
/-- a sheet keeps its sort and size -/
theorem sh_same {k : Nat} {v : Nat → Int32} {x : Int32} (hx : S.2.2.1 k i = x) (hv : ∀ q, v q = S.2.2.1 k q) : ∀ q, q < 4 → v q = if q = i then x else S.2.2.1 k q := fun q _ => by
  rw [hv q]
  by_cases e : q = i
  · rw [if_pos e, ← hx, e]
  · rw [if_neg e]
theorem a_put (hs : okS s) (a1 a2 a3 : Int32) : ∃ v s', okS s' ∧ OX (TX6_put a1 a2 a3) s v s' ∧ OM (TX7_put a1 a2 a3) s v s' := by
  obtain ⟨z1, h1, rfl⟩ := i_cases a1
  obtain ⟨z2, h2, rfl⟩ := i_cases a2
  rcases emn (0 ≤ z1 ∧ z1 ≤ 3) with c1 | c1
  · refine ⟨-2, s, hs, OX_no fun S c => ?_, OM_no fun S c => ?_⟩
    · unfold TX6_put
      rw [x_isSheet h1, Option.bind_some, ite_b, if_neg c1]
    · unfold TX7_put
      rw [m_isSheet h1, Option.bind_some, ite_b, if_neg c1]
  obtain ⟨i, rfl⟩ := i_nat c1.1
  have hi : i < 4 := by omega
  obtain ⟨b1, b2, b3⟩ := hs.2.2.1 i hi
  have cc : iI (tSo s i) = -1 ↔ tSo s i = -1 := by rw [km1, iI_eq (by omega) (by omega)]
  have mso : ∀ S, CM S s → aget 4 (S.2.2.1 98) (nI i) = some (iI (tSo s i)) := fun S c => by rw [aget_n (by omega) (by omega), (c.2.2.2.1 i hi).1]
  have msz : ∀ S, CM S s → aget 4 (S.2.2.1 99) (nI i) = some (nI (tSz s i)) := fun S c => by rw [aget_n (by omega) (by omega), (c.2.2.2.1 i hi).2.1]
  have xso : ∀ S, CX S s → aget 4 (S.2.2.1 53) (nI i) = some (iI (tSo s i)) := fun S c => by rw [aget_n (by omega) (by omega), (c.2.2.2.1 i hi).1]
  by_cases e : tSo s i = -1
  · refine ⟨-11, s, hs, OX_no fun S c => ?_, OM_no fun S c => ?_⟩
    · unfold TX6_put
      rw [x_isSheet h1, Option.bind_some, ite_b, if_pos c1, ← nI_z, x_missing c hs hi, Option.bind_some, ite_b, if_pos e]
    · unfold TX7_put
      rw [m_isSheet h1, Option.bind_some, ite_b, if_pos c1, ← nI_z, mso S c, Option.bind_some, if_pos (cc.mpr e)]
  have mi : TX7_isIn (Int32.toInt64 (iI z2)) 0 (Int32.toInt64 (nI (tSz s i) - 1)) = some (b2i (0 ≤ z2 ∧ z2 ≤ (tSz s i : Int) - 1)) := by
    rw [nI_z, k1, iI_sub, iI_wide (by omega : i31 ((tSz s i : Int) - 1))]
    exact m_inN (by decide) rfl (by omega) (by omega) h2
  rcases emn (0 ≤ z2 ∧ z2 < tSz s i) with c2 | c2
  · refine ⟨-12, s, hs, OX_no fun S c => ?_, OM_no fun S c => ?_⟩
    · unfold TX6_put
      rw [x_isSheet h1, Option.bind_some, ite_b, if_pos c1, ← nI_z, x_missing c hs hi, Option.bind_some, ite_b, if_neg e, x_hasS c hs hi h2, Option.bind_some, ite_b, if_neg c2]
    · unfold TX7_put
      rw [m_isSheet h1, Option.bind_some, ite_b, if_pos c1, ← nI_z, mso S c, Option.bind_some, if_neg (fun z => e (cc.mp z)), msz S c, Option.bind_some, mi, Option.bind_some, ite_b, if_neg (by omega)]
  obtain ⟨j, rfl⟩ := i_nat c2.1
  have hj : j < tSz s i := by omega
  have key : ∀ x : Int32, okS (setSh s i (tSo s i) (tSz s i) (va_up (tIt s i) j x)) ∧ (∀ S, CX S s → FR pX S (sAI S (56 + i) j x) ∧ CX (sAI S (56 + i) j x) (setSh s i (tSo s i) (tSz s i) (va_up (tIt s i) j x))) ∧ (∀ S, CM S s → FR pM S (sAI S 100 (40 * i + j) x) ∧ CM (sAI S 100 (40 * i + j) x) (setSh s i (tSo s i) (tSz s i) (va_up (tIt s i) j x))) := fun x => by
    refine ⟨okS_sh hs ⟨b1, b2⟩ b3, fun S cx => ⟨FR_AI FR_refl (by unfold pX; omega), ?_⟩, fun S cm => ⟨FR_AI FR_refl (pM_of (by omega)), ?_⟩⟩
    · obtain ⟨d1, d2, d3⟩ := cx.2.2.2.1 i hi
      refine CX_sh (P := pSh i) (FR_AI FR_refl (by unfold pSh; omega)) (fun t k j z => Or.inr (Or.inr z)) hi cx (sh_same d1 fun q => ?_) (sh_same d2 fun q => ?_) (fun q hq => ?_)
      · simp (disch := omega) only [up2_n]
      · simp (disch := omega) only [up2_n]
      · simp (disch := omega) only [up2_s, va_up_at]
        by_cases e : q = j
        · rw [if_pos e, if_pos e]
        · rw [if_neg e, if_neg e]; exact d3 q hq
    · obtain ⟨d1, d2, d3⟩ := cm.2.2.2.1 i hi
      refine CM_sh (P := pMh) (FR_AI FR_refl (by unfold pMh; omega)) (fun t k j z => Or.inr (Or.inr z)) hs cm (sh_same d1 fun q => ?_) (sh_same d2 fun q => ?_) (fun q hq => ?_) (fun q y y1 y2 y3 => ?_)
      · simp (disch := omega) only [up2_n]
      · simp (disch := omega) only [up2_n]
      · simp (disch := omega) only [up2_s, va_up_at]
        by_cases e : q = j
        · rw [if_pos (by omega), if_pos e]
        · rw [if_neg (by omega), if_neg e]; exact d3 q hq
      · simp (disch := omega) only [up2_s, va_up_at]
        rw [if_neg (by omega)]
  have g0 : iI (tSo s i) = 0 ↔ tSo s i = 0 := by rw [k0, iI_eq (by omega) (by omega)]
  by_cases e0 : tSo s i = 0
  · have K := key (Int32.toInt16 a3).toInt32
    refine ⟨1, _, K.1, fun S cx => ?_, fun S cm => ?_⟩
    · unfold TX6_put
      rw [x_isSheet h1, Option.bind_some, ite_b, if_pos c1, ← nI_z, x_missing cx hs hi, Option.bind_some, ite_b, if_neg e, x_hasS cx hs hi h2, Option.bind_some, ite_b, if_pos c2, if_pos (iI_in hi (by omega)), xso S cx, Option.bind_some, if_pos (g0.mpr e0), ← nI_z, if_pos (iI_in (by omega) (by omega)), iI_nat i (by omega), iI_nat j (by omega)]
      exact wp_some ⟨rfl, K.2.1 S cx⟩
    · unfold TX7_put
      rw [m_isSheet h1, Option.bind_some, ite_b, if_pos c1, ← nI_z, mso S cm, Option.bind_some, if_neg (fun z => e (cc.mp z)), msz S cm, Option.bind_some, mi, Option.bind_some, ite_b, if_pos (by omega), Option.bind_some, if_pos (g0.mpr e0), ← nI_z, show (40 : Int32) = nI 40 from rfl, pk_mul, nI_add, if_pos (iI_in (by omega) (by omega)), iI_nat _ (by omega)]
      exact wp_some ⟨rfl, K.2.2 S cm⟩
  · have K := key a3
    refine ⟨1, _, K.1, fun S cx => ?_, fun S cm => ?_⟩
    · unfold TX6_put
      rw [x_isSheet h1, Option.bind_some, ite_b, if_pos c1, ← nI_z, x_missing cx hs hi, Option.bind_some, ite_b, if_neg e, x_hasS cx hs hi h2, Option.bind_some, ite_b, if_pos c2, if_pos (iI_in hi (by omega)), xso S cx, Option.bind_some, if_neg (fun z => e0 (g0.mp z)), ← nI_z, if_pos (iI_in (by omega) (by omega)), iI_nat i (by omega), iI_nat j (by omega)]
      exact wp_some ⟨rfl, K.2.1 S cx⟩
    · unfold TX7_put
      rw [m_isSheet h1, Option.bind_some, ite_b, if_pos c1, ← nI_z, mso S cm, Option.bind_some, if_neg (fun z => e (cc.mp z)), msz S cm, Option.bind_some, mi, Option.bind_some, ite_b, if_pos (by omega), Option.bind_some, if_neg (fun z => e0 (g0.mp z)), ← nI_z, show (40 : Int32) = nI 40 from rfl, pk_mul, nI_add, if_pos (iI_in (by omega) (by omega)), iI_nat _ (by omega)]
      exact wp_some ⟨rfl, K.2.2 S cm⟩
end SHT
