/-! Calls: heat, of, taken, kin, end, rule, t, line, joint, flow. -/
theorem m_inMN {z a b : Int} {u v : Int64} (hz : i31 z) (ea : u = lI a) (eb : v = lI b) (ha : i63 a) (hb : i63 b) : TX7_isIn (Int32.toInt64 (iI z)) u v = some (b2i (a ≤ z ∧ z ≤ b)) := m_inN ea eb ha hb hz
section PUB3
variable {s : ST}
theorem a_heat (hs : okS s) (a1 a2 : Int32) : ∃ v s', okS s' ∧ OX (TX6_heat a1 a2) s v s' ∧ OM (TX7_heat a1 a2) s v s' := by
  obtain ⟨z1, h1, rfl⟩ := i_cases a1
  obtain ⟨z2, h2, rfl⟩ := i_cases a2
  have h8 := ok_n hs.1
  have hA := okS_8 hs
  have hl := ok_l hs.1
  rcases emn (0 ≤ z1 ∧ z1 < qN (tA s)) with c1 | c1
  · refine ⟨-2, s, hs, OX_no fun S c => ?_, OM_no fun S c => ?_⟩
    · unfold TX6_heat
      rw [x_has c.1 h8 h1, Option.bind_some, ite_b, if_neg c1]
    · unfold TX7_heat
      rw [m_isCell c.1.1 h8 h1, Option.bind_some, ite_b, if_neg c1]
  rcases emn (0 ≤ z2 ∧ z2 ≤ 999) with c2 | c2
  · refine ⟨-2, s, hs, OX_no fun S c => ?_, OM_no fun S c => ?_⟩
    · unfold TX6_heat
      rw [x_has c.1 h8 h1, Option.bind_some, ite_b, if_pos c1, x_isHeat h2, Option.bind_some, ite_b, if_neg c2]
    · unfold TX7_heat
      rw [m_isCell c.1.1 h8 h1, Option.bind_some, ite_b, if_pos c1, m_in999 h2, Option.bind_some, ite_b, if_neg c2]
  obtain ⟨i, rfl⟩ := i_nat c1.1
  have hi : i < qN (tA s) := by omega
  have hv := eB (e := z2) (a := 999) (L := qL (tA s)) (X := 1000000000000) (by omega) (by omega) (by omega)
  have hok : okA 999000000000000 (setS (tA s) 1 i (z2 * qL (tA s))) := ok_setS hs.1 (by omega)
  have hok8 : okA 1008000000000000 (setS (tA s) 1 i (z2 * qL (tA s))) := ok_M (by omega) hok
  refine ⟨1, (redA (setS (tA s) 1 i (z2 * qL (tA s))), s.2), okS_bar hs (ok_red hok (by omega)), fun S cx => ?_, fun S cm => ?_⟩
  · unfold TX6_heat
    rw [x_has cx.1 h8 h1, Option.bind_some, ite_b, if_pos c1, x_isHeat h2, Option.bind_some, ite_b, if_pos c2]
    unfold TX0_changeHeat
    simp only [← nI_z]
    simp (disch := omega) only [letS, Option.bind_some, aget_n, ite_jin, iI_nat, nI_1, nI_leI', nI_ltI', nI_eqI', up2_s, up2_n, va_up_s, va_up_n, iI_wideI, (CB1 cx.1).2.2.1]
    rw [lI_n, lI_mul]
    obtain ⟨g1, g2, g3, g4, g5, g6, g7, g8⟩ := cx.1.2.2.2.2.2.2.2.1 i hi
    have hC : CB (sAL S (1 + 8) i (lI (z2 * qL (tA s)))) 1 (setS (tA s) 1 i (z2 * qL (tA s))) := by
      refine CB_upd (i := i) cx.1 (fun q hq _ => hq) cx.1.1 rfl rfl rfl rfl (fun _ _ _ _ _ => rfl) (fun q hq => ?_) (fun _ _ _ => rfl) rfl rfl (fun _ _ _ => rfl) (fun _ => rfl) (fun _ => rfl) (fun j' q hq => ?_) (fun q => ?_) (fun _ => ⟨g1, g2, g3, ?_, g5, g6, g7, ?_⟩)
      · simp [up2, hq]
      · simp [setS, up2, qS, hq]
      · simp [setS, up2, qS]
      · simp [setS, up2, qS]; exact g4
      · simp [setS, up2, qS]
    obtain ⟨x1, x2⟩ := x_red hC hok8
    rw [show lI (qL (tA s) : Int) = lN (qL (setS (tA s) 1 i (z2 * qL (tA s)))) from (lI_n _).symm, x1]
    simp only [Option.bind_some]
    exact wp_some ⟨rfl, FR_FL (FR_RL (FR_AL FR_refl (by unfold pX; omega)) (by unfold pX; omega)) (by unfold pX; omega), CX_bar (P := pB 1) (FR_FL (FR_RL (FR_AL FR_refl (by unfold pB; omega)) (by unfold pB; omega)) (by unfold pB; omega)) pB1' cx x2⟩
  · unfold TX7_heat
    rw [m_isCell cm.1.1 h8 h1, Option.bind_some, ite_b, if_pos c1, m_in999 h2, Option.bind_some, ite_b, if_pos c2]
    simp only [← nI_z]
    simp (disch := omega) only [letS, Option.bind_some, aget_n, ite_jin, iI_nat, nI_1, nI_leI', nI_ltI', nI_eqI', up2_s, up2_n, va_up_s, va_up_n, iI_wideI, cm.1.2.1]
    rw [lI_n, lI_mul]
    obtain ⟨g1, g2, g3, g4⟩ := cm.1.1.2.2.2.2.2 i hi
    have hC : MB (sAL S 69 i (lI (z2 * qL (tA s)))) (setS (tA s) 1 i (z2 * qL (tA s))) := by
      refine MB_upd (i := i) cm.1 (fun q hq _ => hq) cm.1.1.1 rfl rfl (fun _ _ _ _ _ => rfl) (fun q hq => ?_) (fun _ _ _ => rfl) rfl rfl (fun _ _ _ => rfl) (fun _ => rfl) (fun _ => rfl) (fun j' q hq => ?_) (fun q => ?_) (fun _ => ⟨g1, g2, g3, ?_, ?_⟩)
      · simp [up2, hq]
      · simp [setS, up2, qS, hq]
      · simp [setS, up2, qS]
      · simp [setS, up2, qS]; exact g4
      · simp [setS, up2, qS]
    refine wp_bind (m_shorten hC hok8) fun r hr => ?_
    have F2 : FR pMb S r := FR_trans (FR_AL FR_refl (by unfold pMb; omega)) (FR_mono hr.1 pMt_b)
    exact wp_some ⟨rfl, FR_mono F2 pMb_M, CM_bar F2 pMb' cm hr.2⟩
theorem a_of (hs : okS s) (a1 a2 : Int32) : ∃ v, PXo (TX6_of a1 a2) s v ∧ PMo (TX7_of a1 a2) s v := by
  obtain ⟨z1, h1, rfl⟩ := i_cases a1
  obtain ⟨z2, h2, rfl⟩ := i_cases a2
  have h8 := ok_n hs.1
  have hA := okS_8 hs
  rcases emn (0 ≤ z1 ∧ z1 < qN (tA s)) with c1 | c1
  · refine ⟨-1000, fun S c => ?_, fun S c => ?_⟩
    · unfold TX6_of
      rw [x_has c.1 h8 h1, Option.bind_some, ite_b, if_neg c1]
    · unfold TX7_of
      rw [m_isCell c.1.1 h8 h1, Option.bind_some, ite_b, if_neg c1]
  obtain ⟨i, rfl⟩ := i_nat c1.1
  have hi : i < qN (tA s) := by omega
  obtain ⟨k1, k2, k3, k4, k5, -⟩ := ok_c hA hi
  obtain ⟨w, hw⟩ := x_madeS (qK (tA s) 0 i) (by omega) (qK (tA s) 2 i) (by omega)
  refine ⟨if z2 = 0 then nI (qK (tA s) 0 i) else if z2 = 1 then nI (qK (tA s) 1 i) else if z2 = 2 then nI (qK (tA s) 2 i) else if z2 = 3 then iI (qS (tA s) 0 i) else if z2 = 4 then nI (sideA (tA s) i) else if z2 = 5 then nI (holdsA (tA s) i) else if z2 = 6 then nI (finA (tA s) i) else if z2 = 7 then w else -1000, fun S c => ?_, fun S c => ?_⟩
  · obtain ⟨g1, g2, g3, g4, g5, g6, g7, g8⟩ := (CB1 c.1).2.2.2.2.2.2.2.1 i hi
    unfold TX6_of
    rw [x_has c.1 h8 h1, Option.bind_some, ite_b, if_pos c1]
    simp only [← nI_z]
    simp (disch := omega) only [iI0 h2, iI1 h2, iI2 h2, iI3 h2, iI4 h2, iI5 h2, iI6 h2, iI7 h2, aget_n, Option.bind_some, g1, g2, g3, g4, g5, g6, g7, hw]
    repeat' split
    all_goals rfl
  · obtain ⟨g1, g2, g3, g4⟩ := c.1.1.2.2.2.2.2 i hi
    have hm : TX7_made (nI i) S = some w := by
      unfold TX7_made
      simp (disch := omega) only [aget_n, Option.bind_some, g1, g3]
      rw [show TX7_made_J25 S = TX7_made_J25 SZ from rfl, m_madeK _ (by omega) _ (by omega), hw]
    unfold TX7_of
    rw [m_isCell c.1.1 h8 h1, Option.bind_some, ite_b, if_pos c1]
    simp only [← nI_z]
    simp (disch := omega) only [iI0 h2, iI1 h2, iI2 h2, iI3 h2, iI4 h2, iI5 h2, iI6 h2, iI7 h2, aget_n, Option.bind_some, g1, g2, g3, g4, m_side c.1.1 hA hi, m_holds c.1.1 hA hi, m_fin c.1.1 hA hi, hm]
    repeat' split
    all_goals rfl
theorem a_taken (hs : okS s) (a1 a2 : Int32) : ∃ v, PXo (TX6_taken a1 a2) s v ∧ PMo (TX7_taken a1 a2) s v := by
  obtain ⟨z1, h1, rfl⟩ := i_cases a1
  obtain ⟨z2, h2, rfl⟩ := i_cases a2
  have h8 := ok_n hs.1
  have hA := okS_8 hs
  rcases emn (0 ≤ z1 ∧ z1 < qN (tA s)) with c1 | c1
  · refine ⟨-2, fun S c => ?_, fun S c => ?_⟩
    · unfold TX6_taken
      rw [x_has c.1 h8 h1, Option.bind_some, ite_b, if_neg c1]
    · unfold TX7_taken
      rw [m_isCell c.1.1 h8 h1, Option.bind_some, ite_b, if_neg c1]
  rcases emn (0 ≤ z2 ∧ z2 ≤ 5) with c2 | c2
  · refine ⟨-2, fun S c => ?_, fun S c => ?_⟩
    · unfold TX6_taken
      rw [x_has c.1 h8 h1, Option.bind_some, ite_b, if_pos c1, x_isKind h2, Option.bind_some, ite_b, if_neg c2]
    · unfold TX7_taken
      rw [m_isCell c.1.1 h8 h1, Option.bind_some, ite_b, if_pos c1, m_in05 h2, Option.bind_some, ite_b, if_neg c2]
  obtain ⟨i, rfl⟩ := i_nat c1.1
  obtain ⟨k, rfl⟩ := i_nat c2.1
  have hi : i < qN (tA s) := by omega
  obtain ⟨k1, k2, k3, k4, k5, -⟩ := ok_c hA hi
  refine ⟨if undB (qK (tA s) 0 i) k = true then nI (qK (tA s) 1 i) else -13, fun S c => ?_, fun S c => ?_⟩
  · obtain ⟨g1, g2, g3, g4, g5, g6, g7, g8⟩ := (CB1 c.1).2.2.2.2.2.2.2.1 i hi
    unfold TX6_taken
    rw [x_has c.1 h8 h1, Option.bind_some, ite_b, if_pos c1, x_isKind h2, Option.bind_some, ite_b, if_pos c2]
    simp only [← nI_z]
    simp (disch := omega) only [aget_n, Option.bind_some, g1, g2, x_under (qK (tA s) 0 i) (by omega) k (by omega), ite_b]
    split <;> rfl
  · obtain ⟨g1, g2, g3, g4⟩ := c.1.1.2.2.2.2.2 i hi
    unfold TX7_taken
    rw [m_isCell c.1.1 h8 h1, Option.bind_some, ite_b, if_pos c1, m_in05 h2, Option.bind_some, ite_b, if_pos c2]
    simp only [← nI_z]
    simp (disch := omega) only [aget_n, Option.bind_some, g1, g2, m_under (qK (tA s) 0 i) (by omega) k (by omega), x_under (qK (tA s) 0 i) (by omega) k (by omega), ite_b]
    split <;> rfl
theorem a_kin (a1 : Int32) : ∃ v, PXo (TX6_kin a1) s v ∧ PMo (TX7_kin a1) s v := by
  obtain ⟨z1, h1, rfl⟩ := i_cases a1
  rcases emn (0 ≤ z1 ∧ z1 ≤ 5) with c1 | c1
  · refine ⟨-2, fun S c => ?_, fun S c => ?_⟩
    · unfold TX6_kin
      rw [x_isKind h1, Option.bind_some, ite_b, if_neg c1]
    · unfold TX7_kin
      rw [m_in05 h1, Option.bind_some, ite_b, if_neg c1]
  obtain ⟨k, rfl⟩ := i_nat c1.1
  obtain ⟨w, hw⟩ := x_lineS k (by omega)
  refine ⟨w, fun S c => ?_, fun S c => ?_⟩
  · unfold TX6_kin
    rw [x_isKind h1, Option.bind_some, ite_b, if_pos c1, ← nI_z, hw]
    rfl
  · unfold TX7_kin
    have e : ∀ n l1 l2 l3, TX7_kin_L19 S n l1 l2 l3 = TX7_kin_L19 SZ n l1 l2 l3 := by
      intro n
      induction n with
      | zero => intro l1 l2 l3; rfl
      | succ n ih =>
        intro l1 l2 l3
        rw [TX7_kin_L19, TX7_kin_L19]
        simp only [TX7_kin_J41, ih]
    rw [m_in05 h1, Option.bind_some, ite_b, if_pos c1, ← nI_z, e, m_kinK k (by omega), hw]
theorem a_end (hs : okS s) (a1 a2 : Int32) : ∃ v s', okS s' ∧ OX (TX6_end a1 a2) s v s' ∧ OM (TX7_end a1 a2) s v s' := by
  obtain ⟨z1, h1, rfl⟩ := i_cases a1
  obtain ⟨z2, h2, rfl⟩ := i_cases a2
  have xb := x_rngN (z := z2) (a' := -1) (b' := 999) (by decide : (-1 : Int32) = iI (-1)) (by decide : (999 : Int32) = iI 999) (by omega) (by omega) h2
  rcases emn (z1 = 0 ∨ z1 = 1) with c1 | c1
  · refine ⟨-1000, s, hs, OX_no fun S c => ?_, OM_no fun S c => ?_⟩
    · unfold TX6_end
      rw [x_bit h1, Option.bind_some, ite_b, if_neg c1]
    · unfold TX7_end
      rw [m_bit h1, Option.bind_some, ite_b, if_neg c1]
  rcases emn (-1 ≤ z2 ∧ z2 ≤ 999) with c2 | c2
  · refine ⟨-1000, s, hs, OX_no fun S c => ?_, OM_no fun S c => ?_⟩
    · unfold TX6_end
      rw [x_bit h1, Option.bind_some, ite_b, if_pos c1, xb, Option.bind_some, ite_b, if_neg c2]
    · unfold TX7_end
      rw [m_bit h1, Option.bind_some, ite_b, if_pos c1, m_in1999 h2, Option.bind_some, ite_b, if_neg c2]
  have hs1 := hs.1
  rcases c1 with c1 | c1
  · subst c1
    refine ⟨iI (qE0 (tA s)), (((tA s).1, (z2, qE1 (tA s)), (tA s).2.2), s.2), okS_bar hs ?_, fun S cx => ?_, fun S cm => ?_⟩
    · obtain ⟨h1, h2, h3, h4, h5, h6, h7, h8, h9, h10, h11, h12, h13⟩ := hs.1
      exact ⟨h1, h2, h3, h4, h5, h6, h7, c2.1, c2.2, h10, h11, h12, h13⟩
    · unfold TX6_end
      rw [x_bit h1, Option.bind_some, ite_b, if_pos (Or.inl rfl), xb, Option.bind_some, ite_b, if_pos c2, show iI 0 = nI 0 from rfl]
      simp (disch := omega) only [letS, Option.bind_some, aget_n, ite_jin, iI_nat, nI_1, nI_leI', nI_ltI', nI_eqI', up2_s, up2_n, va_up_s, va_up_n]
      refine wp_some ⟨(CB1 cx.1).2.2.2.2.2.1, FR_AI FR_refl (by unfold pX; omega), CX_bar (P := pB 1) (FR_AI FR_refl (by unfold pB; omega)) pB1' cx ?_⟩
      obtain ⟨d1, d2, d3, d4, d5, d6, d7, d8, d9⟩ := cx.1
      refine ⟨d1, d2, d3, d4, d5, ?_, ?_, fun i hi => ?_, fun p hp => ?_⟩
      · simp [up2]
      · simp [up2]; exact d7
      · simp [up2]; exact d8 i hi
      · simp [up2]; exact d9 p hp
    · unfold TX7_end
      rw [m_bit h1, Option.bind_some, ite_b, if_pos (Or.inl rfl), m_in1999 h2, Option.bind_some, ite_b, if_pos c2, show iI 0 = nI 0 from rfl]
      simp (disch := omega) only [letS, Option.bind_some, aget_n, ite_jin, iI_nat, nI_1, nI_leI', nI_ltI', nI_eqI', up2_s, up2_n, va_up_s, va_up_n]
      refine wp_some ⟨cm.1.1.2.2.2.1, FR_AI FR_refl (pM_of (by omega)), CM_bar (P := pMb) (FR_AI FR_refl (by unfold pMb; omega)) pMb' cm ?_⟩
      obtain ⟨⟨d1, d2, d3, d4, d5, d6⟩, f1, f2, f3, f4⟩ := cm.1
      refine ⟨⟨d1, ?_, ?_, ?_, ?_, fun i hi => ?_⟩, f1, f2, f3, fun p hp => ?_⟩
      · simp [up2]; exact d2
      · simp [up2]; exact d3
      · simp [up2]
      · simp [up2]; exact d5
      · simp [up2]; exact d6 i hi
      · simp [up2]; exact f4 p hp
  · subst c1
    refine ⟨iI (qE1 (tA s)), (((tA s).1, (qE0 (tA s), z2), (tA s).2.2), s.2), okS_bar hs ?_, fun S cx => ?_, fun S cm => ?_⟩
    · obtain ⟨h1, h2, h3, h4, h5, h6, h7, h8, h9, h10, h11, h12, h13⟩ := hs.1
      exact ⟨h1, h2, h3, h4, h5, h6, h7, h8, h9, c2.1, c2.2, h12, h13⟩
    · unfold TX6_end
      rw [x_bit h1, Option.bind_some, ite_b, if_pos (Or.inr rfl), xb, Option.bind_some, ite_b, if_pos c2, show iI 1 = nI 1 from rfl]
      simp (disch := omega) only [letS, Option.bind_some, aget_n, ite_jin, iI_nat, nI_1, nI_leI', nI_ltI', nI_eqI', up2_s, up2_n, va_up_s, va_up_n]
      refine wp_some ⟨(CB1 cx.1).2.2.2.2.2.2.1, FR_AI FR_refl (by unfold pX; omega), CX_bar (P := pB 1) (FR_AI FR_refl (by unfold pB; omega)) pB1' cx ?_⟩
      obtain ⟨d1, d2, d3, d4, d5, d6, d7, d8, d9⟩ := cx.1
      refine ⟨d1, d2, d3, d4, d5, ?_, ?_, fun i hi => ?_, fun p hp => ?_⟩
      · simp [up2]; exact d6
      · simp [up2]
      · simp [up2]; exact d8 i hi
      · simp [up2]; exact d9 p hp
    · unfold TX7_end
      rw [m_bit h1, Option.bind_some, ite_b, if_pos (Or.inr rfl), m_in1999 h2, Option.bind_some, ite_b, if_pos c2, show iI 1 = nI 1 from rfl]
      simp (disch := omega) only [letS, Option.bind_some, aget_n, ite_jin, iI_nat, nI_1, nI_leI', nI_ltI', nI_eqI', up2_s, up2_n, va_up_s, va_up_n]
      refine wp_some ⟨cm.1.1.2.2.2.2.1, FR_AI FR_refl (pM_of (by omega)), CM_bar (P := pMb) (FR_AI FR_refl (by unfold pMb; omega)) pMb' cm ?_⟩
      obtain ⟨⟨d1, d2, d3, d4, d5, d6⟩, f1, f2, f3, f4⟩ := cm.1
      refine ⟨⟨d1, ?_, ?_, ?_, ?_, fun i hi => ?_⟩, f1, f2, f3, fun p hp => ?_⟩
      · simp [up2]; exact d2
      · simp [up2]; exact d3
      · simp [up2]; exact d4
      · simp [up2]
      · simp [up2]; exact d6 i hi
      · simp [up2]; exact f4 p hp
theorem a_rule (hs : okS s) (a1 a2 : Int32) : ∃ v s', okS s' ∧ OX (TX6_rule a1 a2) s v s' ∧ OM (TX7_rule a1 a2) s v s' := by
  obtain ⟨z1, h1, rfl⟩ := i_cases a1
  obtain ⟨z2, h2, rfl⟩ := i_cases a2
  have xb := x_rngN (z := z2) (a' := 1) (b' := 20) (by decide : (1 : Int32) = iI 1) (by decide : (20 : Int32) = iI 20) (by omega) (by omega) h2
  by_cases f0 : iI z1 = 0
  · have d0 := (iI0 h1).mp f0
    have f1 : ¬ iI z1 = 1 := by rw [iI1 h1]; omega
    rcases emn (1 ≤ z2 ∧ z2 ≤ 20) with c2 | c2
    · refine ⟨-1000, s, hs, OX_no fun S c => ?_, OM_no fun S c => ?_⟩
      · unfold TX6_rule TX6_rule_J37
        rw [if_pos f0, xb, Option.bind_some, ite_b, if_neg c2, if_neg f1]
      · unfold TX7_rule
        rw [m_bit h1, Option.bind_some, ite_b, if_pos (by omega), if_pos f0, m_in120 h2, Option.bind_some, ite_b, if_neg c2]
    obtain ⟨v, rfl⟩ := i_nat (z := z2) (by omega)
    refine ⟨nI (qF (tA s)), (((qN (tA s), qP (tA s), qL (tA s), v, qA (tA s)), (tA s).2), s.2), okS_bar hs ?_, fun S cx => ?_, fun S cm => ?_⟩
    · obtain ⟨h1, h2, h3, h4, h5, h6, h7, h8, h9, h10, h11, h12, h13⟩ := hs.1
      exact ⟨h1, h2, h3, h4, by show 1 ≤ v; omega, by show v ≤ 20; omega, h7, h8, h9, h10, h11, h12, h13⟩
    · unfold TX6_rule TX6_rule_J37
      rw [if_pos f0, xb, Option.bind_some, ite_b, if_pos c2]
      simp only [letS, ← nI_z]
      refine wp_some ⟨(CB1 cx.1).2.2.2.1, FR_FI FR_refl (by unfold pX; omega), CX_bar (P := pB 1) (FR_FI FR_refl (by unfold pB; omega)) pB1' cx ?_⟩
      obtain ⟨d1, d2, d3, d4, d5, d6, d7, d8, d9⟩ := cx.1
      refine ⟨?_, ?_, d3, ?_, ?_, d6, d7, d8, d9⟩
      · simp [up2]; exact d1
      · simp [up2]; exact d2
      · simp [up2]
      · simp [up2]; exact d5
    · unfold TX7_rule TX7_rule_J45
      rw [m_bit h1, Option.bind_some, ite_b, if_pos (by omega), if_pos f0, m_in120 h2, Option.bind_some, ite_b, if_pos c2, d0, show iI 0 = nI 0 from rfl, ← nI_z]
      simp (disch := omega) only [letS, Option.bind_some, aget_n, ite_jin, iI_nat, nI_1, nI_leI', nI_ltI', nI_eqI', up2_s, up2_n, va_up_s, va_up_n]
      refine wp_some ⟨cm.1.1.2.1, FR_AI FR_refl (pM_of (by omega)), CM_bar (P := pMb) (FR_AI FR_refl (by unfold pMb; omega)) pMb' cm ?_⟩
      obtain ⟨⟨d1, d2, d3, d4, d5, d6⟩, f1, f2, f3, f4⟩ := cm.1
      refine ⟨⟨d1, ?_, ?_, ?_, ?_, fun i hi => ?_⟩, f1, f2, f3, fun p hp => ?_⟩
      · simp [up2]
      · simp [up2]; exact d3
      · simp [up2]; exact d4
      · simp [up2]; exact d5
      · simp [up2]; exact d6 i hi
      · simp [up2]; exact f4 p hp
  by_cases f1 : iI z1 = 1
  · have d1 := (iI1 h1).mp f1
    rcases emn (0 ≤ z2 ∧ z2 ≤ 999) with c2 | c2
    · refine ⟨-1000, s, hs, OX_no fun S c => ?_, OM_no fun S c => ?_⟩
      · unfold TX6_rule TX6_rule_J37
        rw [if_neg f0, if_pos f1, x_isHeat h2, Option.bind_some, ite_b, if_neg c2]
      · unfold TX7_rule
        rw [m_bit h1, Option.bind_some, ite_b, if_pos (by omega), if_neg f0, m_in999 h2, Option.bind_some, ite_b, if_neg c2]
    obtain ⟨v, rfl⟩ := i_nat (z := z2) (by omega)
    refine ⟨nI (qA (tA s)), (((qN (tA s), qP (tA s), qL (tA s), qF (tA s), v), (tA s).2), s.2), okS_bar hs ?_, fun S cx => ?_, fun S cm => ?_⟩
    · obtain ⟨h1, h2, h3, h4, h5, h6, h7, h8, h9, h10, h11, h12, h13⟩ := hs.1
      exact ⟨h1, h2, h3, h4, h5, h6, by show v ≤ 999; omega, h8, h9, h10, h11, h12, h13⟩
    · unfold TX6_rule TX6_rule_J37
      rw [if_neg f0, if_pos f1, x_isHeat h2, Option.bind_some, ite_b, if_pos c2]
      simp only [letS, ← nI_z]
      refine wp_some ⟨(CB1 cx.1).2.2.2.2.1, FR_FI FR_refl (by unfold pX; omega), CX_bar (P := pB 1) (FR_FI FR_refl (by unfold pB; omega)) pB1' cx ?_⟩
      obtain ⟨d1, d2, d3, d4, d5, d6, d7, d8, d9⟩ := cx.1
      refine ⟨?_, ?_, d3, ?_, ?_, d6, d7, d8, d9⟩
      · simp [up2]; exact d1
      · simp [up2]; exact d2
      · simp [up2]; exact d4
      · simp [up2]
    · unfold TX7_rule TX7_rule_J45
      rw [m_bit h1, Option.bind_some, ite_b, if_pos (by omega), if_neg f0, m_in999 h2, Option.bind_some, ite_b, if_pos c2, d1, show iI 1 = nI 1 from rfl, ← nI_z]
      simp (disch := omega) only [letS, Option.bind_some, aget_n, ite_jin, iI_nat, nI_1, nI_leI', nI_ltI', nI_eqI', up2_s, up2_n, va_up_s, va_up_n]
      refine wp_some ⟨cm.1.1.2.2.1, FR_AI FR_refl (pM_of (by omega)), CM_bar (P := pMb) (FR_AI FR_refl (by unfold pMb; omega)) pMb' cm ?_⟩
      obtain ⟨⟨d1, d2, d3, d4, d5, d6⟩, f1, f2, f3, f4⟩ := cm.1
      refine ⟨⟨d1, ?_, ?_, ?_, ?_, fun i hi => ?_⟩, f1, f2, f3, fun p hp => ?_⟩
      · simp [up2]; exact d2
      · simp [up2]
      · simp [up2]; exact d4
      · simp [up2]; exact d5
      · simp [up2]; exact d6 i hi
      · simp [up2]; exact f4 p hp
  · have d0 : ¬ (z1 = 0 ∨ z1 = 1) := by
      rw [iI0 h1] at f0
      rw [iI1 h1] at f1
      omega
    refine ⟨-1000, s, hs, OX_no fun S c => ?_, OM_no fun S c => ?_⟩
    · unfold TX6_rule TX6_rule_J37
      rw [if_neg f0, if_neg f1]
    · unfold TX7_rule
      rw [m_bit h1, Option.bind_some, ite_b, if_neg d0]
theorem a_t (hs : okS s) (a1 a2 : Int32) : ∃ v, PXo (TX6_t a1 a2) s v ∧ PMo (TX7_t a1 a2) s v := by
  obtain ⟨z1, h1, rfl⟩ := i_cases a1
  obtain ⟨z2, h2, rfl⟩ := i_cases a2
  have h8 := ok_n hs.1
  have hA := okS_8 hs
  have hl := ok_l hs.1
  rcases emn (0 ≤ z1 ∧ z1 < qN (tA s)) with c1 | c1
  · refine ⟨-9223372036854775808, fun S c => ?_, fun S c => ?_⟩
    · unfold TX6_t
      rw [x_has c.1 h8 h1, Option.bind_some, ite_b, if_neg c1]
    · unfold TX7_t
      rw [m_isCell c.1.1 h8 h1, Option.bind_some, ite_b, if_neg c1]
  rcases emn (z2 = 0 ∨ z2 = 1) with c2 | c2
  · refine ⟨-9223372036854775808, fun S c => ?_, fun S c => ?_⟩
    · unfold TX6_t
      rw [x_has c.1 h8 h1, Option.bind_some, ite_b, if_pos c1, x_bit h2, Option.bind_some, ite_b, if_neg c2]
    · unfold TX7_t
      rw [m_isCell c.1.1 h8 h1, Option.bind_some, ite_b, if_pos c1, m_bit h2, Option.bind_some, ite_b, if_neg c2]
  obtain ⟨i, rfl⟩ := i_nat c1.1
  have hi : i < qN (tA s) := by omega
  have hc := ok_c hA hi
  refine ⟨partZ (qS (tA s) 1 i) (qL (tA s)) z2, fun S c => ?_, fun S c => ?_⟩
  · obtain ⟨g1, g2, g3, g4, g5, g6, g7, g8⟩ := (CB1 c.1).2.2.2.2.2.2.2.1 i hi
    unfold TX6_t
    rw [x_has c.1 h8 h1, Option.bind_some, ite_b, if_pos c1, x_bit h2, Option.bind_some, ite_b, if_pos c2, ← nI_z, aget_n (by omega) (by omega), Option.bind_some, g8, (CB1 c.1).2.2.1, lI_n, x_part (by omega) (by omega) (by omega) h2, Option.bind_some]
  · unfold TX7_t
    rw [m_isCell c.1.1 h8 h1, Option.bind_some, ite_b, if_pos c1, m_bit h2, Option.bind_some, ite_b, if_pos c2, ← nI_z, aget_n (by omega) (by omega), Option.bind_some, c.1.2.2.2.1 i hi, c.1.2.1, lI_n, m_part (by omega) (by omega) (by omega) h2, Option.bind_some]
theorem a_line : ∃ v, PXo TX6_line s v ∧ PMo TX7_line s v :=
  ⟨lN (qL (tA s)), fun S c => congrArg some (CB1 c.1).2.2.1, fun S c => congrArg some c.1.2.1⟩
theorem m_isJoint {S : SS} {A : AB} {z : Int} (h : MC S A) (h8 : qN A ≤ 8) (hz : i31 z) : TX7_isJoint (iI z) S = some (b2i (1 ≤ qN A ∧ -1 ≤ z ∧ z < qN A)) := by
  unfold TX7_isJoint
  rw [h.1]
  by_cases e : qN A = 0
  · rw [e, if_pos (by decide), b2i_f (by omega)]; rfl
  · rw [if_neg (nI_nle (by omega) (by omega)), nI_z, k1, iI_sub, iI_wide (by omega : i31 ((qN A : Int) - 1)), m_inN (a' := -1) (b' := (qN A : Int) - 1) (by decide) rfl (by omega) (by omega) hz, Option.bind_some, ite_b]
    by_cases c : -1 ≤ z ∧ z ≤ (qN A : Int) - 1
    · rw [if_pos c, b2i_t (by omega), ← k1]; rfl
    · rw [if_neg c, b2i_f (by omega)]; rfl
theorem a_joint (hs : okS s) (a1 : Int32) : ∃ v, PXo (TX6_joint a1) s v ∧ PMo (TX7_joint a1) s v := by
  obtain ⟨z1, h1, rfl⟩ := i_cases a1
  have h8 := ok_n hs.1
  have hA := okS_8 hs
  rcases emn (1 ≤ qN (tA s) ∧ -1 ≤ z1 ∧ z1 < qN (tA s)) with c1 | c1
  · refine ⟨-2, fun S c => ?_, fun S c => ?_⟩
    · unfold TX6_joint TX0_leads
      rw [x_hasJoint c.1 hA h1, Option.bind_some, ite_b, if_neg c1]
      rfl
    · unfold TX7_joint
      rw [m_isJoint c.1.1 h8 h1, Option.bind_some, ite_b, if_neg c1]
  obtain ⟨j, hj⟩ := i_nat (z := z1 + 1) (by omega)
  obtain rfl : z1 = (j : Int) - 1 := by omega
  refine ⟨nI (leadA (tA s) j), fun S c => ?_, fun S c => ?_⟩
  · unfold TX6_joint
    rw [x_lead c.1 hA c1.1 (by omega), Option.bind_some]
  · unfold TX7_joint
    rw [m_isJoint c.1.1 h8 h1, Option.bind_some, ite_b, if_pos c1, m_lead c.1.1 hA c1.1 (by omega), Option.bind_some]
theorem a_flow (hs : okS s) (a1 a2 : Int32) : ∃ v, PXo (TX6_flow a1 a2) s v ∧ OM (TX7_flow a1 a2) s v s := by
  obtain ⟨z1, h1, rfl⟩ := i_cases a1
  obtain ⟨z2, h2, rfl⟩ := i_cases a2
  have h8 := ok_n hs.1
  have h12 := ok_p hs.1
  have hA := okS_8 hs
  have hl := ok_l hs.1
  rcases emn (1 ≤ qN (tA s) ∧ -1 ≤ z1 ∧ z1 < qN (tA s)) with c1 | c1
  · refine ⟨-9223372036854775808, fun S c => ?_, OM_no fun S c => ?_⟩
    · unfold TX6_flow
      rw [x_hasJoint c.1 hA h1, Option.bind_some, ite_b, if_neg c1]
    · unfold TX7_flow
      rw [m_isJoint c.1.1 h8 h1, Option.bind_some, ite_b, if_neg c1]
  rcases emn (z2 = 0 ∨ z2 = 1) with c2 | c2
  · refine ⟨-9223372036854775808, fun S c => ?_, OM_no fun S c => ?_⟩
    · unfold TX6_flow
      rw [x_hasJoint c.1 hA h1, Option.bind_some, ite_b, if_pos c1, x_bit h2, Option.bind_some, ite_b, if_neg c2]
    · unfold TX7_flow
      rw [m_isJoint c.1.1 h8 h1, Option.bind_some, ite_b, if_pos c1, m_bit h2, Option.bind_some, ite_b, if_neg c2]
  obtain ⟨j, hj⟩ := i_nat (z := z1 + 1) (by omega)
  obtain rfl : z1 = (j : Int) - 1 := by omega
  have hB := flow_B hA (T := qS (tA s) 1) hl.2 (fun i hi => by have := ok_c hA hi; omega) (j := j) c1.1 (by omega)
  refine ⟨partZ (flowH (tA s) (qS (tA s) 1) (qL (tA s)) j) (qL (tA s)) z2, fun S c => ?_, fun S c => ?_⟩
  · have hT : ∀ i, i < qN (tA s) → S.2.2.2 9 i = lI (qS (tA s) 1 i) := fun i hi => ((CB1 c.1).2.2.2.2.2.2.2.1 i hi).2.2.2.2.2.2.2
    unfold TX6_flow
    rw [x_hasJoint c.1 hA h1, Option.bind_some, ite_b, if_pos c1, x_bit h2, Option.bind_some, ite_b, if_pos c2, (CB1 c.1).2.2.1, lI_n, x_flow c.1 hA (a := 9) (n2 := 8) (T := qS (tA s) 1) (l := qL (tA s)) (by omega) (by omega) hT c1.1 (by omega), Option.bind_some, x_part (by omega) (by omega) (by omega) h2, Option.bind_some]
  · unfold TX7_flow
    rw [m_isJoint c.1.1 h8 h1, Option.bind_some, ite_b, if_pos c1, m_bit h2, Option.bind_some, ite_b, if_pos c2]
    refine wp_bind (m_think c.1 h8 h12) fun r hr => ?_
    have hC := CM_frs (FR_mono hr.1 pMi_s) c
    rw [m_flow hr.2 hA c1.1 (by omega), Option.bind_some, hC.1.2.1, lI_n, m_part (by omega) (by omega) (by omega) h2, Option.bind_some]
    exact wp_some ⟨rfl, FR_mono hr.1 (fun t k j z => pMs_M _ _ _ (pMi_s _ _ _ z)), hC⟩
end PUB3
