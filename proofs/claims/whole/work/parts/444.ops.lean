/-! The calls that change the bar alone, with their frames. Written by wip/whole/gen_ops.py. -/
def OXb {α : Type} (t : SS → Option (α × SS)) (s : ST) (v : α) (A' : AB) : Prop := ∀ S, CX S s → WP (t S) (fun r => r.1 = v ∧ FR (pB 1) S r.2 ∧ CX r.2 (A', s.2))
def OMb {α : Type} (t : SS → Option (α × SS)) (s : ST) (v : α) (A' : AB) : Prop := ∀ S, CM S s → WP (t S) (fun r => r.1 = v ∧ FR pMb S r.2 ∧ CM r.2 (A', s.2))
section OPS
variable {s : ST}
theorem OXb_no {α : Type} {t : SS → Option (α × SS)} {v : α} (h : ∀ S, CX S s → t S = some (v, S)) : OXb t s v (tA s) := fun S c => wp_eq (h S c) (wp_some ⟨rfl, FR_refl, c⟩)
theorem OMb_no {α : Type} {t : SS → Option (α × SS)} {v : α} (h : ∀ S, CM S s → t S = some (v, S)) : OMb t s v (tA s) := fun S c => wp_eq (h S c) (wp_some ⟨rfl, FR_refl, c⟩)
theorem b_cell (hs : okS s) (a1 a2 a3 a4 : Int32) : ∃ v A', okS (A', s.2) ∧ OXb (TX6_cell a1 a2 a3 a4) s v A' ∧ OMb (TX7_cell a1 a2 a3 a4) s v A' := by
  obtain ⟨z1, h1, rfl⟩ := i_cases a1
  obtain ⟨z2, h2, rfl⟩ := i_cases a2
  obtain ⟨z3, h3, rfl⟩ := i_cases a3
  obtain ⟨z4, h4, rfl⟩ := i_cases a4
  have h8 := ok_n hs.1
  have hA := okS_8 hs
  have hl := ok_l hs.1
  rcases emn ((0 ≤ z1 ∧ z1 ≤ 5) ∧ (1 ≤ z2 ∧ z2 ≤ 9) ∧ (1 ≤ z3 ∧ z3 ≤ 4)) with c1 | c1
  · refine ⟨-2, tA s, hs, OXb_no fun S c => ?_, OMb_no fun S c => ?_⟩
    · unfold TX6_cell
      simp only [x_isKind h1, x_isK h2, x_isC h3, x_isHeat h4, Option.bind_some, ite_b, x_J0, x_J1]
      by_cases d1 : 0 ≤ z1 ∧ z1 ≤ 5
      · by_cases d2 : 1 ≤ z2 ∧ z2 ≤ 9
        · by_cases d3 : 1 ≤ z3 ∧ z3 ≤ 4
          · exact absurd ⟨d1, d2, d3⟩ c1
          · rw [if_pos d1, if_pos d2, if_neg d3]
        · rw [if_pos d1, if_neg d2]
      · rw [if_neg d1]
    · unfold TX7_cell
      simp only [m_isMade h1 h2 h3, Option.bind_some, ite_b, if_neg c1]
  rcases emn (0 ≤ z4 ∧ z4 ≤ 999) with c4 | c4
  · refine ⟨-2, tA s, hs, OXb_no fun S c => ?_, OMb_no fun S c => ?_⟩
    · unfold TX6_cell
      simp only [x_isKind h1, x_isK h2, x_isC h3, x_isHeat h4, Option.bind_some, ite_b, x_J0, x_J1, if_pos c1.1, if_pos c1.2.1, if_pos c1.2.2, if_neg c4]
    · unfold TX7_cell
      simp only [m_isMade h1 h2 h3, m_in999 h4, Option.bind_some, ite_b, if_pos c1, if_neg c4]
  obtain ⟨kd, rfl⟩ := i_nat c1.1.1
  obtain ⟨k, rfl⟩ := i_nat (z := z2) (by omega)
  obtain ⟨c, rfl⟩ := i_nat (z := z3) (by omega)
  refine ⟨if qN (tA s) < 8 then nI (qN (tA s)) else -4, (if qN (tA s) < 8 then addA (tA s) kd k c (z4 * qL (tA s)) else tA s), okS_bar hs ?_, fun S cx => ?_, fun S cm => ?_⟩
  · split
    · have := eB (e := z4) (a := 999) (L := qL (tA s)) (X := 1000000000000) (by omega) (by omega) (by omega)
      exact ok_addA hs.1 (by assumption) (by omega) (by omega) (by omega) (by omega)
    · exact hs.1
  · unfold TX6_cell
    simp only [x_isKind h1, x_isK h2, x_isC h3, x_isHeat h4, Option.bind_some, ite_b, x_J0, x_J1, if_pos c1.1, if_pos c1.2.1, if_pos c1.2.2, if_pos c4]
    simp only [← nI_z]
    refine wp_bind (x_append0 cx.1 hA (by omega) (by omega) (by omega) c4) fun r hr => ?_
    exact wp_some ⟨hr.1, hr.2.1, CX_bar hr.2.1 pB1' cx hr.2.2⟩
  · unfold TX7_cell
    simp only [m_isMade h1 h2 h3, m_in999 h4, Option.bind_some, ite_b, if_pos c1, if_pos c4]
    simp only [← nI_z]
    rw [cm.1.1.1, show (8 : Int32) = nI 8 from rfl]
    by_cases e : qN (tA s) < 8
    · simp (disch := omega) only [letS, Option.bind_some, aget_n, ite_jin, iI_nat, nI_1, nI_leI', nI_ltI', nI_eqI', up2_s, up2_n, va_up_s, va_up_n, if_neg, iI_wideI]
      have hl' := cm.1.2.1
      rw [hl', lI_n, lI_mul, if_pos e, if_pos e]
      simp (disch := omega) only [letS, Option.bind_some, aget_n, ite_jin, iI_nat, nI_1, nI_leI', nI_ltI', nI_eqI', up2_s, up2_n, va_up_s, va_up_n, cm.1.1.1, iI_wideI]
      refine wp_some ⟨nI_pred _, ?_, ?_⟩
      · exact FR_FI (FR_AL (FR_AI (FR_AI (FR_AI (FR_AI FR_refl (by unfold pMb; omega)) (by unfold pMb; omega)) (by unfold pMb; omega)) (by unfold pMb; omega)) (by unfold pMb; omega)) (by unfold pMb; omega)
      · refine CM_bar (P := pMb) (FR_FI (FR_AL (FR_AI (FR_AI (FR_AI (FR_AI FR_refl (by unfold pMb; omega)) (by unfold pMb; omega)) (by unfold pMb; omega)) (by unfold pMb; omega)) (by unfold pMb; omega)) (by unfold pMb; omega)) pMb' cm ?_
        refine MB_upd (i := qN (tA s)) cm.1 (fun q hq hne => ?_) ?_ ?_ rfl (fun r h1 h2 q hq => ?_) (fun q hq => ?_) (fun r h1 h2 => ?_) rfl rfl (fun j' q hq => ?_) (fun q => ?_) (fun q => ?_) (fun j' q hq => ?_) (fun q => ?_) (fun hi' => ⟨?_, ?_, ?_, ?_, ?_⟩)
        · have : q < qN (tA s) + 1 := hq
          omega
        · simp (disch := omega) only [up2_s, up2_n, va_up_s, va_up_n]
          rfl
        · simp (disch := omega) only [up2_s, up2_n, va_up_s, va_up_n]
        · simp [up2, hq]
        · simp [up2, hq]
        · simp (disch := omega) only [up2_s, up2_n, va_up_s, va_up_n]
        · simp [addA, up2, qK, qS, sideA, holdsA, finA, hq]
        · simp [addA, up2, qK, qS, sideA, holdsA, finA]
        · simp [addA, up2, qK, qS, sideA, holdsA, finA]
        · simp [addA, up2, qK, qS, sideA, holdsA, finA, hq]
        · simp [addA, up2, qK, qS, sideA, holdsA, finA]
        · simp (disch := omega) only [up2_s, up2_n, va_up_s, va_up_n]
          simp [addA, up2, qK, qS, sideA, holdsA, finA]
        · simp (disch := omega) only [up2_s, up2_n, va_up_s, va_up_n]
          simp [addA, up2, qK, qS, sideA, holdsA, finA]
        · simp (disch := omega) only [up2_s, up2_n, va_up_s, va_up_n]
          simp [addA, up2, qK, qS, sideA, holdsA, finA]
        · simp (disch := omega) only [up2_s, up2_n, va_up_s, va_up_n]
          simp [addA, up2, qK, qS, sideA, holdsA, finA, k0]
        · simp (disch := omega) only [up2_s, up2_n, va_up_s, va_up_n]
          simp [addA, up2, qK, qS, sideA, holdsA, finA]
    · simp (disch := omega) only [letS, Option.bind_some, aget_n, ite_jin, iI_nat, nI_1, nI_leI', nI_ltI', nI_eqI', up2_s, up2_n, va_up_s, va_up_n, if_pos]
      rw [if_neg e, if_neg e]
      exact wp_some ⟨rfl, FR_refl, cm⟩
theorem b_drop (hs : okS s) : ∃ v A', okS (A', s.2) ∧ OXb TX6_drop s v A' ∧ OMb TX7_drop s v A' := by
  have h8 := ok_n hs.1
  have hA := okS_8 hs
  have hl := ok_l hs.1
  by_cases e : qN (tA s) = 0
  · refine ⟨-3, tA s, hs, OXb_no fun S c => ?_, OMb_no fun S c => ?_⟩
    · unfold TX6_drop
      rw [(CB1 c.1).1, e]
      rfl
    · unfold TX7_drop
      rw [c.1.1.1, e]
      rfl
  have hok := ok_pop hs.1 (by omega)
  have hok8 := ok_M (M' := 1008000000000000) (by omega) hok
  refine ⟨nI (qN (tA s) - 1), (redA (setP (popA (tA s)) (hushP (tA s) (qN (tA s) - 1)))), okS_bar hs (ok_red hok (by omega)), fun S cx => ?_, fun S cm => ?_⟩
  · have hb := CB1 cx.1
    unfold TX6_drop TX0_removeLatest
    rw [hb.1]
    have e0 : ¬ nI (qN (tA s)) = 0 := nI_ne0 (by omega) (by omega)
    have e1 : ¬ nI (qN (tA s)) ≤ 0 := nI_nle (by omega) (by omega)
    have ep : nI (qN (tA s)) - 1 = nI (qN (tA s) - 1) := by rw [show (1 : Int32) = nI 1 from rfl, pk_sub (by omega)]
    rw [if_neg e0, if_neg e1, ep]
    have hC : CB (sFI S 1 0 (nI (qN (tA s) - 1))) 1 (popA (tA s)) := by
      obtain ⟨c1, c2, c3, c4, c5, c6, c7, c8, c9⟩ := cx.1
      refine ⟨?_, ?_, c3, ?_, ?_, c6, c7, fun i hi => c8 i (by have : i < qN (tA s) - 1 := hi; omega), c9⟩
      · simp (disch := omega) only [up2_s, up2_n, va_up_s, va_up_n]
        rfl
      · simp (disch := omega) only [up2_s, up2_n, va_up_s, va_up_n]
        exact c2
      · simp (disch := omega) only [up2_s, up2_n, va_up_s, va_up_n]
        exact c4
      · simp (disch := omega) only [up2_s, up2_n, va_up_s, va_up_n]
        exact c5
    have hF : FR (pB 1) S (sFI S 1 0 (nI (qN (tA s) - 1))) := FR_FI FR_refl (by unfold pB; omega)
    simp only [letS, up2_s, va_up_s]
    revert hC hF
    generalize sFI S 1 0 (nI (qN (tA s) - 1)) = S3
    intro hC hF
    have hr := x_removeOf (p := 1 + 10) (A := tA s) (x := qN (tA s) - 1) hC.2.1 (show PC S3 (1 + 11) (tA s) from CB_PC (A := popA (tA s)) hC) (ok_p hA) (fun r hr => by have := (ok_q hA hr).1; omega) (by omega)
    rw [hr, Option.bind_some]
    have hC2 := CB_pset (hushP (tA s) (qN (tA s) - 1)) hC
    obtain ⟨x1, x2⟩ := x_red hC2 hok8
    show WP (((TX0_reduce 1 (1 + 8) 8 ((pSet S3 (1 + 10) (hushP (tA s) (qN (tA s) - 1))).2.1 1 9) (pSet S3 (1 + 10) (hushP (tA s) (qN (tA s) - 1)))).bind _).bind _) _
    rw [hC2.2.2.1, x1, Option.bind_some, Option.bind_some]
    refine wp_some ⟨?_, ?_, ?_⟩
    · exact x2.1
    · exact FR_FL (FR_RL (FR_pset hF (by unfold pB; omega) (by unfold pB; omega) (by unfold pB; omega) (by unfold pB; omega)) (by unfold pB; omega)) (by unfold pB; omega)
    · refine CX_bar (P := pB 1) ?_ pB1' cx x2
      exact FR_FL (FR_RL (FR_pset hF (by unfold pB; omega) (by unfold pB; omega) (by unfold pB; omega) (by unfold pB; omega)) (by unfold pB; omega)) (by unfold pB; omega)
  · unfold TX7_drop
    have e0 : ¬ nI (qN (tA s)) = 0 := nI_ne0 (by omega) (by omega)
    have ep : nI (qN (tA s)) - 1 = nI (qN (tA s) - 1) := by rw [show (1 : Int32) = nI 1 from rfl, pk_sub (by omega)]
    rw [cm.1.1.1, if_neg e0, ep]
    refine wp_bind (m_hushed cm.1 hA (by omega)) fun r hr => ?_
    obtain ⟨-, r2⟩ := hr
    have hM : MB r.2 (setP (tA s) (hushP (tA s) (qN (tA s) - 1))) := by
      rw [r2]
      exact ⟨MC_pset _ (by omega) (by omega) cm.1.1, MH_pset _ (by omega) cm.1.2⟩
    have hF : FR pMb S r.2 := by
      rw [r2]
      refine ⟨fun k j hk => ?_, fun _ _ _ => rfl, fun k hk => ?_, fun _ _ => rfl⟩
      · exact if_neg (fun z => hk (by rw [z.1, z.2]; unfold pMb; omega))
      · exact pRows_ne _ _ _ (by unfold pMb at hk; omega)
    have hn : r.2.1 64 0 = nI (qN (tA s)) := hM.1.1
    simp only [letS]
    rw [hn, ep]
    have hM2 : MB (sFI r.2 64 0 (nI (qN (tA s) - 1))) (setP (popA (tA s)) (hushP (tA s) (qN (tA s) - 1))) := by
      obtain ⟨⟨c1, c2, c3, c4, c5, c6⟩, d1, d2, d3, d4⟩ := hM
      refine ⟨⟨?_, c2, c3, c4, c5, fun i hi => c6 i (by have : i < qN (tA s) - 1 := hi; show i < qN (tA s); omega)⟩, d1, ?_, fun i hi => d3 i (by have : i < qN (tA s) - 1 := hi; show i < qN (tA s); omega), d4⟩
      · simp (disch := omega) only [up2_s, up2_n, va_up_s, va_up_n]
        rfl
      · simp (disch := omega) only [up2_s, up2_n, va_up_s, va_up_n]
        exact d2
    refine wp_bind (m_shorten hM2 hok8) fun r' hr' => ?_
    have F2 : FR pMb S r' := FR_trans (FR_FI hF (by unfold pMb; omega)) (FR_mono hr'.1 pMt_b)
    exact wp_some ⟨hr'.2.1.1, F2, CM_bar F2 pMb' cm hr'.2⟩
theorem b_set (hs : okS s) (a1 a2 a3 : Int32) : ∃ v A', okS (A', s.2) ∧ OXb (TX6_set a1 a2 a3) s v A' ∧ OMb (TX7_set a1 a2 a3) s v A' := by
  obtain ⟨z1, h1, rfl⟩ := i_cases a1
  obtain ⟨z2, h2, rfl⟩ := i_cases a2
  obtain ⟨z3, h3, rfl⟩ := i_cases a3
  have h8 := ok_n hs.1
  have hA := okS_8 hs
  rcases emn (0 ≤ z1 ∧ z1 < qN (tA s)) with c1 | c1
  · refine ⟨-1000, tA s, hs, OXb_no fun S c => ?_, OMb_no fun S c => ?_⟩
    · unfold TX6_set
      rw [x_has c.1 h8 h1, Option.bind_some, ite_b, if_neg c1]
    · unfold TX7_set
      rw [m_isCell c.1.1 h8 h1, Option.bind_some, ite_b, if_neg c1]
  rcases emn (0 ≤ z2 ∧ z2 ≤ 3) with c2 | c2
  · refine ⟨-1000, tA s, hs, OXb_no fun S c => ?_, OMb_no fun S c => ?_⟩
    · unfold TX6_set
      rw [x_has c.1 h8 h1, Option.bind_some, ite_b, if_pos c1, if_neg (by rw [iI0 h2]; omega), if_neg (by rw [iI1 h2]; omega), if_neg (by rw [iI2 h2]; omega), if_neg (by rw [iI3 h2]; omega)]
    · unfold TX7_set
      rw [m_isCell c.1.1 h8 h1, Option.bind_some, ite_b, if_pos c1, m_in03 h2, Option.bind_some, ite_b, if_neg c2]
  obtain ⟨i, rfl⟩ := i_nat c1.1
  have hi : i < qN (tA s) := by omega
  by_cases f0 : iI z2 = 0
  · have d0 := (iI0 h2).mp f0
    rcases emn (1 ≤ z3 ∧ z3 ≤ 9) with c3 | c3
    · refine ⟨-1000, tA s, hs, OXb_no fun S c => ?_, OMb_no fun S c => ?_⟩
      · unfold TX6_set
        rw [x_has c.1 h8 h1, Option.bind_some, ite_b, if_pos c1, if_pos f0, x_isK h3, Option.bind_some, ite_b, if_neg c3]
      · unfold TX7_set TX7_set_J85
        rw [m_isCell c.1.1 h8 h1, Option.bind_some, ite_b, if_pos c1, m_in03 h2, Option.bind_some, ite_b, if_pos c2, if_pos f0, m_in19 h3, Option.bind_some, ite_b, if_neg c3]
    obtain ⟨v, rfl⟩ := i_nat (z := z3) (by omega)
    refine ⟨nI (qK (tA s) 1 i), (setK (tA s) 1 i v), okS_bar hs (ok_setK hs.1 (by omega) (by omega)), fun S cx => ?_, fun S cm => ?_⟩
    · unfold TX6_set
      rw [x_has cx.1 h8 h1, Option.bind_some, ite_b, if_pos c1, if_pos f0, x_isK h3, Option.bind_some, ite_b, if_pos c3]
      unfold TX0_changeK
      simp only [← nI_z]
      simp (disch := omega) only [letS, Option.bind_some, aget_n, ite_jin, iI_nat, nI_1, nI_leI', nI_ltI', nI_eqI', up2_s, up2_n, va_up_s, va_up_n]
      refine wp_bind (P := fun r : Int32 × SS => r.1 = nI (qK (tA s) 1 i) ∧ FR (pB 1) S r.2 ∧ CB r.2 1 (setK (tA s) 1 i v)) (wp_bind (x_setK (j := 1) (v := v) cx.1 hA hi (by omega) (by omega)) fun r hr => wp_some ⟨((CB1 cx.1).2.2.2.2.2.2.2.1 i hi).2.1, hr⟩) fun r hr => wp_some ⟨hr.1, hr.2.1, CX_bar hr.2.1 pB1' cx hr.2.2⟩
    · unfold TX7_set TX7_set_J85 TX7_set_J143
      rw [m_isCell cm.1.1 h8 h1, Option.bind_some, ite_b, if_pos c1, m_in03 h2, Option.bind_some, ite_b, if_pos c2, if_pos f0, m_in19 h3, Option.bind_some, ite_b, if_pos c3, if_pos f0]
      simp only [← nI_z]
      simp (disch := omega) only [letS, Option.bind_some, aget_n, ite_jin, iI_nat, nI_1, nI_leI', nI_ltI', nI_eqI', up2_s, up2_n, va_up_s, va_up_n, if_pos f0]
      refine wp_some ⟨(cm.1.1.2.2.2.2.2 i hi).2.1, FR_AI FR_refl (by unfold pMb; omega), CM_bar (P := pMb) (FR_AI FR_refl (by unfold pMb; omega)) pMb' cm ?_⟩
      obtain ⟨g1, g2, g3, g4⟩ := cm.1.1.2.2.2.2.2 i hi
      refine MB_upd (i := i) cm.1 (fun q hq _ => hq) cm.1.1.1 rfl rfl (fun r h1 h2 q hq => ?_) (fun _ _ => rfl) (fun r h1 h2 => ?_) rfl rfl (fun j' q hq => ?_) (fun q => ?_) (fun q => ?_) (fun _ _ _ => rfl) (fun _ => rfl) (fun _ => ⟨?_, ?_, ?_, ?_, cm.1.2.2.2.1 i hi⟩)
      · simp [up2, hq]
      · simp (disch := omega) only [up2_s, up2_n, va_up_s, va_up_n]
      · simp [setK, up2, qK, hq]
      · simp [setK, up2, qK]
      · simp [setK, up2, qK]
      · simp [setK, up2, qK]; exact g1
      · simp [setK, up2, qK]
      · simp [setK, up2, qK]; exact g3
      · simp [setK, up2, qK]; exact g4
  by_cases f1 : iI z2 = 1
  · have d1 := (iI1 h2).mp f1
    rcases emn (1 ≤ z3 ∧ z3 ≤ 4) with c3 | c3
    · refine ⟨-1000, tA s, hs, OXb_no fun S c => ?_, OMb_no fun S c => ?_⟩
      · unfold TX6_set
        rw [x_has c.1 h8 h1, Option.bind_some, ite_b, if_pos c1, if_neg f0, if_pos f1, x_isC h3, Option.bind_some, ite_b, if_neg c3]
      · unfold TX7_set TX7_set_J85
        rw [m_isCell c.1.1 h8 h1, Option.bind_some, ite_b, if_pos c1, m_in03 h2, Option.bind_some, ite_b, if_pos c2, if_neg f0, if_pos f1, m_in14 h3, Option.bind_some, ite_b, if_neg c3]
    obtain ⟨v, rfl⟩ := i_nat (z := z3) (by omega)
    refine ⟨nI (qK (tA s) 2 i), (setK (tA s) 2 i v), okS_bar hs (ok_setK hs.1 (by omega) (by omega)), fun S cx => ?_, fun S cm => ?_⟩
    · unfold TX6_set
      rw [x_has cx.1 h8 h1, Option.bind_some, ite_b, if_pos c1, if_neg f0, if_pos f1, x_isC h3, Option.bind_some, ite_b, if_pos c3]
      unfold TX0_changeC
      simp only [← nI_z]
      simp (disch := omega) only [letS, Option.bind_some, aget_n, ite_jin, iI_nat, nI_1, nI_leI', nI_ltI', nI_eqI', up2_s, up2_n, va_up_s, va_up_n]
      refine wp_bind (P := fun r : Int32 × SS => r.1 = nI (qK (tA s) 2 i) ∧ FR (pB 1) S r.2 ∧ CB r.2 1 (setK (tA s) 2 i v)) (wp_bind (x_setK (j := 2) (v := v) cx.1 hA hi (by omega) (by omega)) fun r hr => wp_some ⟨((CB1 cx.1).2.2.2.2.2.2.2.1 i hi).2.2.1, hr⟩) fun r hr => wp_some ⟨hr.1, hr.2.1, CX_bar hr.2.1 pB1' cx hr.2.2⟩
    · unfold TX7_set TX7_set_J85 TX7_set_J143
      rw [m_isCell cm.1.1 h8 h1, Option.bind_some, ite_b, if_pos c1, m_in03 h2, Option.bind_some, ite_b, if_pos c2, if_neg f0, if_pos f1, m_in14 h3, Option.bind_some, ite_b, if_pos c3, if_neg f0, if_pos f1]
      simp only [← nI_z]
      simp (disch := omega) only [letS, Option.bind_some, aget_n, ite_jin, iI_nat, nI_1, nI_leI', nI_ltI', nI_eqI', up2_s, up2_n, va_up_s, va_up_n, if_pos f1, if_neg f0]
      refine wp_some ⟨(cm.1.1.2.2.2.2.2 i hi).2.2.1, FR_AI FR_refl (by unfold pMb; omega), CM_bar (P := pMb) (FR_AI FR_refl (by unfold pMb; omega)) pMb' cm ?_⟩
      obtain ⟨g1, g2, g3, g4⟩ := cm.1.1.2.2.2.2.2 i hi
      refine MB_upd (i := i) cm.1 (fun q hq _ => hq) cm.1.1.1 rfl rfl (fun r h1 h2 q hq => ?_) (fun _ _ => rfl) (fun r h1 h2 => ?_) rfl rfl (fun j' q hq => ?_) (fun q => ?_) (fun q => ?_) (fun _ _ _ => rfl) (fun _ => rfl) (fun _ => ⟨?_, ?_, ?_, ?_, cm.1.2.2.2.1 i hi⟩)
      · simp [up2, hq]
      · simp (disch := omega) only [up2_s, up2_n, va_up_s, va_up_n]
      · simp [setK, up2, qK, hq]
      · simp [setK, up2, qK]
      · simp [setK, up2, qK]
      · simp [setK, up2, qK]; exact g1
      · simp [setK, up2, qK]; exact g2
      · simp [setK, up2, qK]
      · simp [setK, up2, qK]; exact g4
  by_cases f2 : iI z2 = 2
  · have d2 := (iI2 h2).mp f2
    rcases emn (0 ≤ z3 ∧ z3 ≤ 5) with c3 | c3
    · refine ⟨-1000, tA s, hs, OXb_no fun S c => ?_, OMb_no fun S c => ?_⟩
      · unfold TX6_set
        rw [x_has c.1 h8 h1, Option.bind_some, ite_b, if_pos c1, if_neg f0, if_neg f1, if_pos f2, x_isKind h3, Option.bind_some, ite_b, if_neg c3]
      · unfold TX7_set TX7_set_J85
        rw [m_isCell c.1.1 h8 h1, Option.bind_some, ite_b, if_pos c1, m_in03 h2, Option.bind_some, ite_b, if_pos c2, if_neg f0, if_neg f1, if_pos f2, m_in05 h3, Option.bind_some, ite_b, if_neg c3]
    obtain ⟨v, rfl⟩ := i_nat (z := z3) (by omega)
    refine ⟨nI (qK (tA s) 0 i), (setK (tA s) 0 i v), okS_bar hs (ok_setK hs.1 (by omega) (by omega)), fun S cx => ?_, fun S cm => ?_⟩
    · unfold TX6_set
      rw [x_has cx.1 h8 h1, Option.bind_some, ite_b, if_pos c1, if_neg f0, if_neg f1, if_pos f2, x_isKind h3, Option.bind_some, ite_b, if_pos c3]
      unfold TX0_changeKind
      simp only [← nI_z]
      simp (disch := omega) only [letS, Option.bind_some, aget_n, ite_jin, iI_nat, nI_1, nI_leI', nI_ltI', nI_eqI', up2_s, up2_n, va_up_s, va_up_n]
      refine wp_bind (P := fun r : Int32 × SS => r.1 = nI (qK (tA s) 0 i) ∧ FR (pB 1) S r.2 ∧ CB r.2 1 (setK (tA s) 0 i v)) (wp_bind (x_setK (j := 0) (v := v) cx.1 hA hi (by omega) (by omega)) fun r hr => wp_some ⟨((CB1 cx.1).2.2.2.2.2.2.2.1 i hi).1, hr⟩) fun r hr => wp_some ⟨hr.1, hr.2.1, CX_bar hr.2.1 pB1' cx hr.2.2⟩
    · unfold TX7_set TX7_set_J85 TX7_set_J143
      rw [m_isCell cm.1.1 h8 h1, Option.bind_some, ite_b, if_pos c1, m_in03 h2, Option.bind_some, ite_b, if_pos c2, if_neg f0, if_neg f1, if_pos f2, m_in05 h3, Option.bind_some, ite_b, if_pos c3, if_neg f0, if_neg f1, if_pos f2]
      simp only [← nI_z]
      simp (disch := omega) only [letS, Option.bind_some, aget_n, ite_jin, iI_nat, nI_1, nI_leI', nI_ltI', nI_eqI', up2_s, up2_n, va_up_s, va_up_n, if_pos f2, if_neg f0, if_neg f1]
      refine wp_some ⟨(cm.1.1.2.2.2.2.2 i hi).1, FR_AI FR_refl (by unfold pMb; omega), CM_bar (P := pMb) (FR_AI FR_refl (by unfold pMb; omega)) pMb' cm ?_⟩
      obtain ⟨g1, g2, g3, g4⟩ := cm.1.1.2.2.2.2.2 i hi
      refine MB_upd (i := i) cm.1 (fun q hq _ => hq) cm.1.1.1 rfl rfl (fun r h1 h2 q hq => ?_) (fun _ _ => rfl) (fun r h1 h2 => ?_) rfl rfl (fun j' q hq => ?_) (fun q => ?_) (fun q => ?_) (fun _ _ _ => rfl) (fun _ => rfl) (fun _ => ⟨?_, ?_, ?_, ?_, cm.1.2.2.2.1 i hi⟩)
      · simp [up2, hq]
      · simp (disch := omega) only [up2_s, up2_n, va_up_s, va_up_n]
      · simp [setK, up2, qK, hq]
      · simp [setK, up2, qK]
      · simp [setK, up2, qK]
      · simp [setK, up2, qK]
      · simp [setK, up2, qK]; exact g2
      · simp [setK, up2, qK]; exact g3
      · simp [setK, up2, qK]; exact g4
  rw [iI0 h2] at f0
  rw [iI1 h2] at f1
  rw [iI2 h2] at f2
  have d3 : z2 = 3 := by omega
  have f3 : iI z2 = 3 := by rw [iI3 h2]; exact d3
  rw [← iI0 h2] at f0
  rw [← iI1 h2] at f1
  rw [← iI2 h2] at f2
  rcases emn (-9 ≤ z3 ∧ z3 ≤ 9) with c3 | c3
  · refine ⟨-1000, tA s, hs, OXb_no fun S c => ?_, OMb_no fun S c => ?_⟩
    · unfold TX6_set
      rw [x_has c.1 h8 h1, Option.bind_some, ite_b, if_pos c1, if_neg f0, if_neg f1, if_neg f2, if_pos f3, x_isSource h3, Option.bind_some, ite_b, if_neg c3]
    · unfold TX7_set TX7_set_J85
      rw [m_isCell c.1.1 h8 h1, Option.bind_some, ite_b, if_pos c1, m_in03 h2, Option.bind_some, ite_b, if_pos c2, if_neg f0, if_neg f1, if_neg f2, m_in99 h3, Option.bind_some, ite_b, if_neg c3]
  refine ⟨iI (qS (tA s) 0 i), (setS (tA s) 0 i z3), okS_bar hs (ok_setS hs.1 (by omega)), fun S cx => ?_, fun S cm => ?_⟩
  · unfold TX6_set
    rw [x_has cx.1 h8 h1, Option.bind_some, ite_b, if_pos c1, if_neg f0, if_neg f1, if_neg f2, if_pos f3, x_isSource h3, Option.bind_some, ite_b, if_pos c3]
    unfold TX0_changeSource
    simp only [← nI_z]
    simp (disch := omega) only [letS, Option.bind_some, aget_n, ite_jin, iI_nat, nI_1, nI_leI', nI_ltI', nI_eqI', up2_s, up2_n, va_up_s, va_up_n]
    obtain ⟨g1, g2, g3, g4, g5, g6, g7, g8⟩ := cx.1.2.2.2.2.2.2.2.1 i hi
    refine wp_some ⟨g4, FR_AI FR_refl (by unfold pB; omega), CX_bar (P := pB 1) (FR_AI FR_refl (by unfold pB; omega)) pB1' cx ?_⟩
    refine CB_upd (i := i) cx.1 (fun q hq _ => hq) cx.1.1 rfl rfl rfl rfl (fun r h1 h2 q hq => ?_) (fun _ _ => rfl) (fun r h1 h2 => ?_) rfl rfl (fun _ _ _ => rfl) (fun _ => rfl) (fun _ => rfl) (fun j' q hq => ?_) (fun q => ?_) (fun _ => ⟨?_, ?_, ?_, ?_, ?_, ?_, ?_, ?_⟩)
    · simp [up2, hq]
    · simp (disch := omega) only [up2_s, up2_n, va_up_s, va_up_n]
    · simp [setS, up2, qS, hq]
    · simp [setS, up2, qS]
    · simp [up2]; exact g1
    · simp [up2]; exact g2
    · simp [up2]; exact g3
    · simp [setS, up2, qS]
    · simp [up2]; exact g5
    · simp [up2]; exact g6
    · simp [up2]; exact g7
    · simp [setS, up2, qS]; exact g8
  · unfold TX7_set TX7_set_J85 TX7_set_J143
    rw [m_isCell cm.1.1 h8 h1, Option.bind_some, ite_b, if_pos c1, m_in03 h2, Option.bind_some, ite_b, if_pos c2, if_neg f0, if_neg f1, if_neg f2, m_in99 h3, Option.bind_some, ite_b, if_pos c3, if_neg f0, if_neg f1, if_neg f2]
    simp only [← nI_z]
    simp (disch := omega) only [letS, Option.bind_some, aget_n, ite_jin, iI_nat, nI_1, nI_leI', nI_ltI', nI_eqI', up2_s, up2_n, va_up_s, va_up_n, if_neg f0, if_neg f1, if_neg f2]
    refine wp_some ⟨(cm.1.1.2.2.2.2.2 i hi).2.2.2, FR_AI FR_refl (by unfold pMb; omega), CM_bar (P := pMb) (FR_AI FR_refl (by unfold pMb; omega)) pMb' cm ?_⟩
    obtain ⟨g1, g2, g3, g4⟩ := cm.1.1.2.2.2.2.2 i hi
    refine MB_upd (i := i) cm.1 (fun q hq _ => hq) cm.1.1.1 rfl rfl (fun r h1 h2 q hq => ?_) (fun _ _ => rfl) (fun r h1 h2 => ?_) rfl rfl (fun _ _ _ => rfl) (fun _ => rfl) (fun _ => rfl) (fun j' q hq => ?_) (fun q => ?_) (fun _ => ⟨?_, ?_, ?_, ?_, ?_⟩)
    · simp [up2, hq]
    · simp (disch := omega) only [up2_s, up2_n, va_up_s, va_up_n]
    · simp [setS, up2, qS, hq]
    · simp [setS, up2, qS]
    · simp [up2]; exact g1
    · simp [up2]; exact g2
    · simp [up2]; exact g3
    · simp [setS, up2, qS]
    · simp [setS, up2, qS]; exact cm.1.2.2.2.1 i hi
theorem b_heat (hs : okS s) (a1 a2 : Int32) : ∃ v A', okS (A', s.2) ∧ OXb (TX6_heat a1 a2) s v A' ∧ OMb (TX7_heat a1 a2) s v A' := by
  obtain ⟨z1, h1, rfl⟩ := i_cases a1
  obtain ⟨z2, h2, rfl⟩ := i_cases a2
  have h8 := ok_n hs.1
  have hA := okS_8 hs
  have hl := ok_l hs.1
  rcases emn (0 ≤ z1 ∧ z1 < qN (tA s)) with c1 | c1
  · refine ⟨-2, tA s, hs, OXb_no fun S c => ?_, OMb_no fun S c => ?_⟩
    · unfold TX6_heat
      rw [x_has c.1 h8 h1, Option.bind_some, ite_b, if_neg c1]
    · unfold TX7_heat
      rw [m_isCell c.1.1 h8 h1, Option.bind_some, ite_b, if_neg c1]
  rcases emn (0 ≤ z2 ∧ z2 ≤ 999) with c2 | c2
  · refine ⟨-2, tA s, hs, OXb_no fun S c => ?_, OMb_no fun S c => ?_⟩
    · unfold TX6_heat
      rw [x_has c.1 h8 h1, Option.bind_some, ite_b, if_pos c1, x_isHeat h2, Option.bind_some, ite_b, if_neg c2]
    · unfold TX7_heat
      rw [m_isCell c.1.1 h8 h1, Option.bind_some, ite_b, if_pos c1, m_in999 h2, Option.bind_some, ite_b, if_neg c2]
  obtain ⟨i, rfl⟩ := i_nat c1.1
  have hi : i < qN (tA s) := by omega
  have hv := eB (e := z2) (a := 999) (L := qL (tA s)) (X := 1000000000000) (by omega) (by omega) (by omega)
  have hok : okA 999000000000000 (setS (tA s) 1 i (z2 * qL (tA s))) := ok_setS hs.1 (by omega)
  have hok8 : okA 1008000000000000 (setS (tA s) 1 i (z2 * qL (tA s))) := ok_M (by omega) hok
  refine ⟨1, (redA (setS (tA s) 1 i (z2 * qL (tA s)))), okS_bar hs (ok_red hok (by omega)), fun S cx => ?_, fun S cm => ?_⟩
  · unfold TX6_heat
    rw [x_has cx.1 h8 h1, Option.bind_some, ite_b, if_pos c1, x_isHeat h2, Option.bind_some, ite_b, if_pos c2]
    unfold TX0_changeHeat
    simp only [← nI_z]
    simp (disch := omega) only [letS, Option.bind_some, aget_n, ite_jin, iI_nat, nI_1, nI_leI', nI_ltI', nI_eqI', up2_s, up2_n, va_up_s, va_up_n, iI_wideI, (CB1 cx.1).2.2.1]
    rw [lI_n, lI_mul]
    obtain ⟨g1, g2, g3, g4, g5, g6, g7, g8⟩ := cx.1.2.2.2.2.2.2.2.1 i hi
    have hC : CB (sAL S (1 + 8) i (lI (z2 * qL (tA s)))) 1 (setS (tA s) 1 i (z2 * qL (tA s))) := by
      refine CB_upd (i := i) cx.1 (fun q hq _ => hq) cx.1.1 rfl rfl rfl rfl (fun _ _ _ _ _ => rfl) (fun q hq => ?_) (fun _ _ _ => rfl) rfl rfl (fun _ _ _ => rfl) (fun _ => rfl) (fun _ => rfl) (fun j' q hq => ?_) (fun q => ?_) (fun _ => ⟨g1, g2, g3, ?_, g5, g6, g7, ?_⟩)
      · simp [up2, hq]
      · simp [setS, up2, qS, hq]
      · simp [setS, up2, qS]
      · simp [setS, up2, qS]; exact g4
      · simp [setS, up2, qS]
    obtain ⟨x1, x2⟩ := x_red hC hok8
    rw [show lI (qL (tA s) : Int) = lN (qL (setS (tA s) 1 i (z2 * qL (tA s)))) from (lI_n _).symm, x1]
    simp only [Option.bind_some]
    exact wp_some ⟨rfl, FR_FL (FR_RL (FR_AL FR_refl (by unfold pB; omega)) (by unfold pB; omega)) (by unfold pB; omega), CX_bar (P := pB 1) (FR_FL (FR_RL (FR_AL FR_refl (by unfold pB; omega)) (by unfold pB; omega)) (by unfold pB; omega)) pB1' cx x2⟩
  · unfold TX7_heat
    rw [m_isCell cm.1.1 h8 h1, Option.bind_some, ite_b, if_pos c1, m_in999 h2, Option.bind_some, ite_b, if_pos c2]
    simp only [← nI_z]
    simp (disch := omega) only [letS, Option.bind_some, aget_n, ite_jin, iI_nat, nI_1, nI_leI', nI_ltI', nI_eqI', up2_s, up2_n, va_up_s, va_up_n, iI_wideI, cm.1.2.1]
    rw [lI_n, lI_mul]
    obtain ⟨g1, g2, g3, g4⟩ := cm.1.1.2.2.2.2.2 i hi
    have hC : MB (sAL S 69 i (lI (z2 * qL (tA s)))) (setS (tA s) 1 i (z2 * qL (tA s))) := by
      refine MB_upd (i := i) cm.1 (fun q hq _ => hq) cm.1.1.1 rfl rfl (fun _ _ _ _ _ => rfl) (fun q hq => ?_) (fun _ _ _ => rfl) rfl rfl (fun _ _ _ => rfl) (fun _ => rfl) (fun _ => rfl) (fun j' q hq => ?_) (fun q => ?_) (fun _ => ⟨g1, g2, g3, ?_, ?_⟩)
      · simp [up2, hq]
      · simp [setS, up2, qS, hq]
      · simp [setS, up2, qS]
      · simp [setS, up2, qS]; exact g4
      · simp [setS, up2, qS]
    refine wp_bind (m_shorten hC hok8) fun r hr => ?_
    have F2 : FR pMb S r := FR_trans (FR_AL FR_refl (by unfold pMb; omega)) (FR_mono hr.1 pMt_b)
    exact wp_some ⟨rfl, F2, CM_bar F2 pMb' cm hr.2⟩
theorem b_end (hs : okS s) (a1 a2 : Int32) : ∃ v A', okS (A', s.2) ∧ OXb (TX6_end a1 a2) s v A' ∧ OMb (TX7_end a1 a2) s v A' := by
  obtain ⟨z1, h1, rfl⟩ := i_cases a1
  obtain ⟨z2, h2, rfl⟩ := i_cases a2
  have xb := x_rngN (z := z2) (a' := -1) (b' := 999) (by decide : (-1 : Int32) = iI (-1)) (by decide : (999 : Int32) = iI 999) (by omega) (by omega) h2
  rcases emn (z1 = 0 ∨ z1 = 1) with c1 | c1
  · refine ⟨-1000, tA s, hs, OXb_no fun S c => ?_, OMb_no fun S c => ?_⟩
    · unfold TX6_end
      rw [x_bit h1, Option.bind_some, ite_b, if_neg c1]
    · unfold TX7_end
      rw [m_bit h1, Option.bind_some, ite_b, if_neg c1]
  rcases emn (-1 ≤ z2 ∧ z2 ≤ 999) with c2 | c2
  · refine ⟨-1000, tA s, hs, OXb_no fun S c => ?_, OMb_no fun S c => ?_⟩
    · unfold TX6_end
      rw [x_bit h1, Option.bind_some, ite_b, if_pos c1, xb, Option.bind_some, ite_b, if_neg c2]
    · unfold TX7_end
      rw [m_bit h1, Option.bind_some, ite_b, if_pos c1, m_in1999 h2, Option.bind_some, ite_b, if_neg c2]
  have hs1 := hs.1
  rcases c1 with c1 | c1
  · subst c1
    refine ⟨iI (qE0 (tA s)), (((tA s).1, (z2, qE1 (tA s)), (tA s).2.2)), okS_bar hs ?_, fun S cx => ?_, fun S cm => ?_⟩
    · obtain ⟨h1, h2, h3, h4, h5, h6, h7, h8, h9, h10, h11, h12, h13⟩ := hs.1
      exact ⟨h1, h2, h3, h4, h5, h6, h7, c2.1, c2.2, h10, h11, h12, h13⟩
    · unfold TX6_end
      rw [x_bit h1, Option.bind_some, ite_b, if_pos (Or.inl rfl), xb, Option.bind_some, ite_b, if_pos c2, show iI 0 = nI 0 from rfl]
      simp (disch := omega) only [letS, Option.bind_some, aget_n, ite_jin, iI_nat, nI_1, nI_leI', nI_ltI', nI_eqI', up2_s, up2_n, va_up_s, va_up_n]
      refine wp_some ⟨(CB1 cx.1).2.2.2.2.2.1, FR_AI FR_refl (by unfold pB; omega), CX_bar (P := pB 1) (FR_AI FR_refl (by unfold pB; omega)) pB1' cx ?_⟩
      obtain ⟨d1, d2, d3, d4, d5, d6, d7, d8, d9⟩ := cx.1
      refine ⟨d1, d2, d3, d4, d5, ?_, ?_, fun i hi => ?_, fun p hp => ?_⟩
      · simp [up2]
      · simp [up2]; exact d7
      · simp [up2]; exact d8 i hi
      · simp [up2]; exact d9 p hp
    · unfold TX7_end
      rw [m_bit h1, Option.bind_some, ite_b, if_pos (Or.inl rfl), m_in1999 h2, Option.bind_some, ite_b, if_pos c2, show iI 0 = nI 0 from rfl]
      simp (disch := omega) only [letS, Option.bind_some, aget_n, ite_jin, iI_nat, nI_1, nI_leI', nI_ltI', nI_eqI', up2_s, up2_n, va_up_s, va_up_n]
      refine wp_some ⟨cm.1.1.2.2.2.1, FR_AI FR_refl (by unfold pMb; omega), CM_bar (P := pMb) (FR_AI FR_refl (by unfold pMb; omega)) pMb' cm ?_⟩
      obtain ⟨⟨d1, d2, d3, d4, d5, d6⟩, f1, f2, f3, f4⟩ := cm.1
      refine ⟨⟨d1, ?_, ?_, ?_, ?_, fun i hi => ?_⟩, f1, f2, f3, fun p hp => ?_⟩
      · simp [up2]; exact d2
      · simp [up2]; exact d3
      · simp [up2]
      · simp [up2]; exact d5
      · simp [up2]; exact d6 i hi
      · simp [up2]; exact f4 p hp
  · subst c1
    refine ⟨iI (qE1 (tA s)), (((tA s).1, (qE0 (tA s), z2), (tA s).2.2)), okS_bar hs ?_, fun S cx => ?_, fun S cm => ?_⟩
    · obtain ⟨h1, h2, h3, h4, h5, h6, h7, h8, h9, h10, h11, h12, h13⟩ := hs.1
      exact ⟨h1, h2, h3, h4, h5, h6, h7, h8, h9, c2.1, c2.2, h12, h13⟩
    · unfold TX6_end
      rw [x_bit h1, Option.bind_some, ite_b, if_pos (Or.inr rfl), xb, Option.bind_some, ite_b, if_pos c2, show iI 1 = nI 1 from rfl]
      simp (disch := omega) only [letS, Option.bind_some, aget_n, ite_jin, iI_nat, nI_1, nI_leI', nI_ltI', nI_eqI', up2_s, up2_n, va_up_s, va_up_n]
      refine wp_some ⟨(CB1 cx.1).2.2.2.2.2.2.1, FR_AI FR_refl (by unfold pB; omega), CX_bar (P := pB 1) (FR_AI FR_refl (by unfold pB; omega)) pB1' cx ?_⟩
      obtain ⟨d1, d2, d3, d4, d5, d6, d7, d8, d9⟩ := cx.1
      refine ⟨d1, d2, d3, d4, d5, ?_, ?_, fun i hi => ?_, fun p hp => ?_⟩
      · simp [up2]; exact d6
      · simp [up2]
      · simp [up2]; exact d8 i hi
      · simp [up2]; exact d9 p hp
    · unfold TX7_end
      rw [m_bit h1, Option.bind_some, ite_b, if_pos (Or.inr rfl), m_in1999 h2, Option.bind_some, ite_b, if_pos c2, show iI 1 = nI 1 from rfl]
      simp (disch := omega) only [letS, Option.bind_some, aget_n, ite_jin, iI_nat, nI_1, nI_leI', nI_ltI', nI_eqI', up2_s, up2_n, va_up_s, va_up_n]
      refine wp_some ⟨cm.1.1.2.2.2.2.1, FR_AI FR_refl (by unfold pMb; omega), CM_bar (P := pMb) (FR_AI FR_refl (by unfold pMb; omega)) pMb' cm ?_⟩
      obtain ⟨⟨d1, d2, d3, d4, d5, d6⟩, f1, f2, f3, f4⟩ := cm.1
      refine ⟨⟨d1, ?_, ?_, ?_, ?_, fun i hi => ?_⟩, f1, f2, f3, fun p hp => ?_⟩
      · simp [up2]; exact d2
      · simp [up2]; exact d3
      · simp [up2]; exact d4
      · simp [up2]
      · simp [up2]; exact d6 i hi
      · simp [up2]; exact f4 p hp
theorem b_rule (hs : okS s) (a1 a2 : Int32) : ∃ v A', okS (A', s.2) ∧ OXb (TX6_rule a1 a2) s v A' ∧ OMb (TX7_rule a1 a2) s v A' := by
  obtain ⟨z1, h1, rfl⟩ := i_cases a1
  obtain ⟨z2, h2, rfl⟩ := i_cases a2
  have xb := x_rngN (z := z2) (a' := 1) (b' := 20) (by decide : (1 : Int32) = iI 1) (by decide : (20 : Int32) = iI 20) (by omega) (by omega) h2
  by_cases f0 : iI z1 = 0
  · have d0 := (iI0 h1).mp f0
    have f1 : ¬ iI z1 = 1 := by rw [iI1 h1]; omega
    rcases emn (1 ≤ z2 ∧ z2 ≤ 20) with c2 | c2
    · refine ⟨-1000, tA s, hs, OXb_no fun S c => ?_, OMb_no fun S c => ?_⟩
      · unfold TX6_rule TX6_rule_J37
        rw [if_pos f0, xb, Option.bind_some, ite_b, if_neg c2, if_neg f1]
      · unfold TX7_rule
        rw [m_bit h1, Option.bind_some, ite_b, if_pos (by omega), if_pos f0, m_in120 h2, Option.bind_some, ite_b, if_neg c2]
    obtain ⟨v, rfl⟩ := i_nat (z := z2) (by omega)
    refine ⟨nI (qF (tA s)), (((qN (tA s), qP (tA s), qL (tA s), v, qA (tA s)), (tA s).2)), okS_bar hs ?_, fun S cx => ?_, fun S cm => ?_⟩
    · obtain ⟨h1, h2, h3, h4, h5, h6, h7, h8, h9, h10, h11, h12, h13⟩ := hs.1
      exact ⟨h1, h2, h3, h4, by show 1 ≤ v; omega, by show v ≤ 20; omega, h7, h8, h9, h10, h11, h12, h13⟩
    · unfold TX6_rule TX6_rule_J37
      rw [if_pos f0, xb, Option.bind_some, ite_b, if_pos c2]
      simp only [letS, ← nI_z]
      refine wp_some ⟨(CB1 cx.1).2.2.2.1, FR_FI FR_refl (by unfold pB; omega), CX_bar (P := pB 1) (FR_FI FR_refl (by unfold pB; omega)) pB1' cx ?_⟩
      obtain ⟨d1, d2, d3, d4, d5, d6, d7, d8, d9⟩ := cx.1
      refine ⟨?_, ?_, d3, ?_, ?_, d6, d7, d8, d9⟩
      · simp [up2]; exact d1
      · simp [up2]; exact d2
      · simp [up2]
      · simp [up2]; exact d5
    · unfold TX7_rule TX7_rule_J45
      rw [m_bit h1, Option.bind_some, ite_b, if_pos (by omega), if_pos f0, m_in120 h2, Option.bind_some, ite_b, if_pos c2, d0, show iI 0 = nI 0 from rfl, ← nI_z]
      simp (disch := omega) only [letS, Option.bind_some, aget_n, ite_jin, iI_nat, nI_1, nI_leI', nI_ltI', nI_eqI', up2_s, up2_n, va_up_s, va_up_n]
      refine wp_some ⟨cm.1.1.2.1, FR_AI FR_refl (by unfold pMb; omega), CM_bar (P := pMb) (FR_AI FR_refl (by unfold pMb; omega)) pMb' cm ?_⟩
      obtain ⟨⟨d1, d2, d3, d4, d5, d6⟩, f1, f2, f3, f4⟩ := cm.1
      refine ⟨⟨d1, ?_, ?_, ?_, ?_, fun i hi => ?_⟩, f1, f2, f3, fun p hp => ?_⟩
      · simp [up2]
      · simp [up2]; exact d3
      · simp [up2]; exact d4
      · simp [up2]; exact d5
      · simp [up2]; exact d6 i hi
      · simp [up2]; exact f4 p hp
  by_cases f1 : iI z1 = 1
  · have d1 := (iI1 h1).mp f1
    rcases emn (0 ≤ z2 ∧ z2 ≤ 999) with c2 | c2
    · refine ⟨-1000, tA s, hs, OXb_no fun S c => ?_, OMb_no fun S c => ?_⟩
      · unfold TX6_rule TX6_rule_J37
        rw [if_neg f0, if_pos f1, x_isHeat h2, Option.bind_some, ite_b, if_neg c2]
      · unfold TX7_rule
        rw [m_bit h1, Option.bind_some, ite_b, if_pos (by omega), if_neg f0, m_in999 h2, Option.bind_some, ite_b, if_neg c2]
    obtain ⟨v, rfl⟩ := i_nat (z := z2) (by omega)
    refine ⟨nI (qA (tA s)), (((qN (tA s), qP (tA s), qL (tA s), qF (tA s), v), (tA s).2)), okS_bar hs ?_, fun S cx => ?_, fun S cm => ?_⟩
    · obtain ⟨h1, h2, h3, h4, h5, h6, h7, h8, h9, h10, h11, h12, h13⟩ := hs.1
      exact ⟨h1, h2, h3, h4, h5, h6, by show v ≤ 999; omega, h8, h9, h10, h11, h12, h13⟩
    · unfold TX6_rule TX6_rule_J37
      rw [if_neg f0, if_pos f1, x_isHeat h2, Option.bind_some, ite_b, if_pos c2]
      simp only [letS, ← nI_z]
      refine wp_some ⟨(CB1 cx.1).2.2.2.2.1, FR_FI FR_refl (by unfold pB; omega), CX_bar (P := pB 1) (FR_FI FR_refl (by unfold pB; omega)) pB1' cx ?_⟩
      obtain ⟨d1, d2, d3, d4, d5, d6, d7, d8, d9⟩ := cx.1
      refine ⟨?_, ?_, d3, ?_, ?_, d6, d7, d8, d9⟩
      · simp [up2]; exact d1
      · simp [up2]; exact d2
      · simp [up2]; exact d4
      · simp [up2]
    · unfold TX7_rule TX7_rule_J45
      rw [m_bit h1, Option.bind_some, ite_b, if_pos (by omega), if_neg f0, m_in999 h2, Option.bind_some, ite_b, if_pos c2, d1, show iI 1 = nI 1 from rfl, ← nI_z]
      simp (disch := omega) only [letS, Option.bind_some, aget_n, ite_jin, iI_nat, nI_1, nI_leI', nI_ltI', nI_eqI', up2_s, up2_n, va_up_s, va_up_n]
      refine wp_some ⟨cm.1.1.2.2.1, FR_AI FR_refl (by unfold pMb; omega), CM_bar (P := pMb) (FR_AI FR_refl (by unfold pMb; omega)) pMb' cm ?_⟩
      obtain ⟨⟨d1, d2, d3, d4, d5, d6⟩, f1, f2, f3, f4⟩ := cm.1
      refine ⟨⟨d1, ?_, ?_, ?_, ?_, fun i hi => ?_⟩, f1, f2, f3, fun p hp => ?_⟩
      · simp [up2]; exact d2
      · simp [up2]
      · simp [up2]; exact d4
      · simp [up2]; exact d5
      · simp [up2]; exact d6 i hi
      · simp [up2]; exact f4 p hp
  · have d0 : ¬ (z1 = 0 ∨ z1 = 1) := by
      rw [iI0 h1] at f0
      rw [iI1 h1] at f1
      omega
    refine ⟨-1000, tA s, hs, OXb_no fun S c => ?_, OMb_no fun S c => ?_⟩
    · unfold TX6_rule TX6_rule_J37
      rw [if_neg f0, if_neg f1]
    · unfold TX7_rule
      rw [m_bit h1, Option.bind_some, ite_b, if_neg d0]
theorem b_pulse (hs : okS s) (a1 a2 a3 : Int32) : ∃ v A', v ≠ 0 ∧ okS (A', s.2) ∧ OXb (TX6_pulse a1 a2 a3) s v A' ∧ OMb (TX7_pulse a1 a2 a3) s v A' := by
  obtain ⟨z1, h1, rfl⟩ := i_cases a1
  obtain ⟨z2, h2, rfl⟩ := i_cases a2
  obtain ⟨z3, h3, rfl⟩ := i_cases a3
  have h8 := ok_n hs.1
  have h12 := ok_p hs.1
  have hA := okS_8 hs
  have xb2 := x_rngN (z := z2) (a' := 1) (b' := 20) (by decide : (1 : Int32) = iI 1) (by decide : (20 : Int32) = iI 20) (by omega) (by omega) h2
  have xb3 := x_rngN (z := z3) (a' := -99) (b' := 99) (by decide : (-99 : Int32) = iI (-99)) (by decide : (99 : Int32) = iI 99) (by omega) (by omega) h3
  rcases emn (0 ≤ z1 ∧ z1 < qN (tA s)) with c1 | c1
  · refine ⟨-2, tA s, by decide, hs, OXb_no fun S c => ?_, OMb_no fun S c => ?_⟩
    · unfold TX6_pulse
      rw [x_has c.1 h8 h1, Option.bind_some, ite_b, if_neg c1, x_pJ0]
    · unfold TX7_pulse
      rw [m_isCell c.1.1 h8 h1, Option.bind_some, ite_b, if_neg c1]
  rcases emn (1 ≤ z2 ∧ z2 ≤ 20) with c2 | c2
  · refine ⟨-2, tA s, by decide, hs, OXb_no fun S c => ?_, OMb_no fun S c => ?_⟩
    · unfold TX6_pulse
      rw [x_has c.1 h8 h1, Option.bind_some, ite_b, if_pos c1, xb2, Option.bind_some, ite_b, if_neg c2, x_pJ0]
    · unfold TX7_pulse
      rw [m_isCell c.1.1 h8 h1, Option.bind_some, ite_b, if_pos c1, m_in120 h2, Option.bind_some, ite_b, if_neg c2]
  rcases emn (-99 ≤ z3 ∧ z3 ≤ 99) with c3 | c3
  · refine ⟨-2, tA s, by decide, hs, OXb_no fun S c => ?_, OMb_no fun S c => ?_⟩
    · unfold TX6_pulse
      rw [x_has c.1 h8 h1, Option.bind_some, ite_b, if_pos c1, xb2, Option.bind_some, ite_b, if_pos c2, xb3, Option.bind_some, ite_b, if_neg c3, x_pJ0]
    · unfold TX7_pulse
      rw [m_isCell c.1.1 h8 h1, Option.bind_some, ite_b, if_pos c1, m_in120 h2, Option.bind_some, ite_b, if_pos c2, m_in9999 h3, Option.bind_some, ite_b, if_neg c3]
  obtain ⟨i, rfl⟩ := i_nat c1.1
  obtain ⟨d, rfl⟩ := i_nat (z := z2) (by omega)
  by_cases e : qP (tA s) = 12
  · refine ⟨-4, tA s, by decide, hs, OXb_no fun S c => ?_, OMb_no fun S c => ?_⟩
    · unfold TX6_pulse
      rw [x_has c.1 h8 h1, Option.bind_some, ite_b, if_pos c1, xb2, Option.bind_some, ite_b, if_pos c2, xb3, Option.bind_some, ite_b, if_pos c3, x_pJ1]
      unfold TX2_append
      rw [(CB1 c.1).2.1, e, if_neg (by decide)]
      rfl
    · unfold TX7_pulse
      rw [m_isCell c.1.1 h8 h1, Option.bind_some, ite_b, if_pos c1, m_in120 h2, Option.bind_some, ite_b, if_pos c2, m_in9999 h3, Option.bind_some, ite_b, if_pos c3, c.1.2.2.1, e, if_pos (by decide)]
  refine ⟨nI (qP (tA s) + 1), (setP (tA s) (addP (tA s) i d z3)), nI_ne0 (by omega) (by omega), okS_bar hs (ok_addP hs.1 (by omega) (by omega) (by omega) c3), fun S cx => ?_, fun S cm => ?_⟩
  · unfold TX6_pulse
    rw [x_has cx.1 h8 h1, Option.bind_some, ite_b, if_pos c1, xb2, Option.bind_some, ite_b, if_pos c2, xb3, Option.bind_some, ite_b, if_pos c3, x_pJ1]
    have hx := x_append (S := S) (p := 1 + 10) (q := selfP (tA s)) (by show qP (tA s) < 12; omega) i d z3
    rw [pSet_self cx.1.2.1 (CB_PC cx.1)] at hx
    rw [nI_z, nI_z] at hx
    have hx' : TX2_append 11 (iI i) (iI d) (iI z3) S = some (nI (qP (tA s) + 1), pSet S (1 + 10) (addP (tA s) i d z3)) := hx
    rw [hx', Option.bind_some]
    exact wp_some ⟨rfl, FR_pset FR_refl (by unfold pB; omega) (by unfold pB; omega) (by unfold pB; omega) (by unfold pB; omega), CX_bar (P := pB 1) (FR_pset FR_refl (by unfold pB; omega) (by unfold pB; omega) (by unfold pB; omega) (by unfold pB; omega)) pB1' cx (CB_pset _ cx.1)⟩
  · unfold TX7_pulse
    rw [m_isCell cm.1.1 h8 h1, Option.bind_some, ite_b, if_pos c1, m_in120 h2, Option.bind_some, ite_b, if_pos c2, m_in9999 h3, Option.bind_some, ite_b, if_pos c3, cm.1.2.2.1, show (12 : Int32) = nI 12 from rfl, if_neg (by rw [nI_eq (by omega) (by omega)]; exact e)]
    simp (disch := omega) only [letS, Option.bind_some, aget_n, ite_jin, iI_nat, nI_1, nI_leI', nI_ltI', nI_eqI', up2_s, up2_n, va_up_s, va_up_n, cm.1.2.2.1]
    simp only [← nI_z]
    have ep := pRows_s S.2.2.1 72 (selfP (tA s)) i d z3
    rw [pRows_self cm.1.2.2.2.2] at ep
    have ep' : up2 (up2 (up2 S.2.2.1 72 (qP (tA s)) (nI i)) 73 (qP (tA s)) (nI d)) 74 (qP (tA s)) (iI z3) = pRows S.2.2.1 72 (addP (tA s) i d z3) := ep
    refine wp_some ⟨rfl, ?_, ?_⟩
    · exact FR_FI (FR_AI (FR_AI (FR_AI FR_refl (by unfold pMb; omega)) (by unfold pMb; omega)) (by unfold pMb; omega)) (by unfold pMb; omega)
    · refine CM_bar (P := pMb) (FR_FI (FR_AI (FR_AI (FR_AI FR_refl (by unfold pMb; omega)) (by unfold pMb; omega)) (by unfold pMb; omega)) (by unfold pMb; omega)) pMb' cm ?_
      show MB (up2 S.1 64 9 (nI (qP (tA s) + 1)), S.2.1, up2 (up2 (up2 S.2.2.1 72 (qP (tA s)) (nI i)) 73 (qP (tA s)) (nI d)) 74 (qP (tA s)) (iI z3), S.2.2.2) _
      rw [ep']
      exact ⟨MC_pset (addP (tA s) i d z3) (by omega) (by omega) cm.1.1, MH_pset (addP (tA s) i d z3) (by omega) cm.1.2⟩
end OPS
