/-! Calls: set, heat, of, taken, kin, end, rule, t, line, joint, flow. -/
theorem iIn {z : Int} {n : Nat} (hz : i31 z) (hn : n < 2147483648) : (iI z = nI n) = (z = n) := by rw [nI_z]; exact propext (iI_eq hz (by omega))
theorem iI0 {z : Int} (hz : i31 z) : (iI z = 0) = (z = 0) := by rw [k0]; exact propext (iI_eq hz (by omega))
theorem iI1 {z : Int} (hz : i31 z) : (iI z = 1) = (z = 1) := by rw [k1]; exact propext (iI_eq hz (by omega))
theorem iI2 {z : Int} (hz : i31 z) : (iI z = 2) = (z = 2) := iIn (n := 2) hz (by omega)
theorem iI3 {z : Int} (hz : i31 z) : (iI z = 3) = (z = 3) := iIn (n := 3) hz (by omega)
theorem iI4 {z : Int} (hz : i31 z) : (iI z = 4) = (z = 4) := iIn (n := 4) hz (by omega)
theorem iI5 {z : Int} (hz : i31 z) : (iI z = 5) = (z = 5) := iIn (n := 5) hz (by omega)
theorem iI6 {z : Int} (hz : i31 z) : (iI z = 6) = (z = 6) := iIn (n := 6) hz (by omega)
theorem iI7 {z : Int} (hz : i31 z) : (iI z = 7) = (z = 7) := iIn (n := 7) hz (by omega)
/-- a fraction's part in lowest terms -/
def partZ (a b : Int) (z : Int) : Int64 := lI ((if z = 0 then a else b).tdiv (Int.gcd a b))
theorem gcd_B {a b : Int} (hb : 0 < b) : (0 : Int) < (Int.gcd a b : Int) ∧ (Int.gcd a b : Int) ≤ b := by
  have h1 : 0 < Int.gcd a b := Int.gcd_pos_of_ne_zero_right _ (by omega)
  have h2 : (Int.gcd a b : Int) ∣ b := Int.gcd_dvd_right ..
  exact ⟨by omega, Int.le_of_dvd hb h2⟩
theorem x_part {a b z : Int} (ha : l63 a) (hb : 0 < b) (hb2 : b < 9223372036854775808) (hz : i31 z) : TX6_partOf (lI a) (lI b) (iI z) = some (partZ a b z) := by
  have hg := gcd_B (a := a) hb
  unfold TX6_partOf TX6_partOf_J10 partZ
  rw [x_gcd ha (by omega), Option.bind_some, Option.bind_some, lI_n]
  simp only [iI0 hz]
  by_cases e : z = 0
  · rw [if_pos e, if_pos e, x_quot ha (by omega) (by omega), Option.bind_some]
  · rw [if_neg e, if_neg e, x_quot (by omega) (by omega) (by omega), Option.bind_some]
theorem m_part {a b z : Int} (ha : l63 a) (hb : 0 < b) (hb2 : b < 9223372036854775808) (hz : i31 z) : TX7_part (lI a) (lI b) (iI z) = some (partZ a b z) := by
  have hg := gcd_B (a := a) hb
  unfold TX7_part partZ
  rw [m_gcd ha (by omega), Option.bind_some, lI_n]
  simp only [iI0 hz]
  by_cases e : z = 0
  · rw [if_pos e, if_pos e, m_quot ha (by omega) (by omega), Option.bind_some]
  · rw [if_neg e, if_neg e, m_quot (by omega) (by omega) (by omega), Option.bind_some]
section PUB2
variable {s : ST}
theorem pM_of {t k j : Nat} (h : 64 ≤ k) : pM t k j := h
theorem a_set (hs : okS s) (a1 a2 a3 : Int32) : ∃ v s', okS s' ∧ OX (TX6_set a1 a2 a3) s v s' ∧ OM (TX7_set a1 a2 a3) s v s' := by
  obtain ⟨z1, h1, rfl⟩ := i_cases a1
  obtain ⟨z2, h2, rfl⟩ := i_cases a2
  obtain ⟨z3, h3, rfl⟩ := i_cases a3
  have h8 := ok_n hs.1
  have hA := okS_8 hs
  rcases emn (0 ≤ z1 ∧ z1 < qN (tA s)) with c1 | c1
  · refine ⟨-1000, s, hs, OX_no fun S c => ?_, OM_no fun S c => ?_⟩
    · unfold TX6_set
      rw [x_has c.1 h8 h1, Option.bind_some, ite_b, if_neg c1]
    · unfold TX7_set
      rw [m_isCell c.1.1 h8 h1, Option.bind_some, ite_b, if_neg c1]
  rcases emn (0 ≤ z2 ∧ z2 ≤ 3) with c2 | c2
  · refine ⟨-1000, s, hs, OX_no fun S c => ?_, OM_no fun S c => ?_⟩
    · unfold TX6_set
      rw [x_has c.1 h8 h1, Option.bind_some, ite_b, if_pos c1, if_neg (by rw [iI0 h2]; omega), if_neg (by rw [iI1 h2]; omega), if_neg (by rw [iI2 h2]; omega), if_neg (by rw [iI3 h2]; omega)]
    · unfold TX7_set
      rw [m_isCell c.1.1 h8 h1, Option.bind_some, ite_b, if_pos c1, m_in03 h2, Option.bind_some, ite_b, if_neg c2]
  obtain ⟨i, rfl⟩ := i_nat c1.1
  have hi : i < qN (tA s) := by omega
  by_cases f0 : iI z2 = 0
  · have d0 := (iI0 h2).mp f0
    rcases emn (1 ≤ z3 ∧ z3 ≤ 9) with c3 | c3
    · refine ⟨-1000, s, hs, OX_no fun S c => ?_, OM_no fun S c => ?_⟩
      · unfold TX6_set
        rw [x_has c.1 h8 h1, Option.bind_some, ite_b, if_pos c1, if_pos f0, x_isK h3, Option.bind_some, ite_b, if_neg c3]
      · unfold TX7_set TX7_set_J85
        rw [m_isCell c.1.1 h8 h1, Option.bind_some, ite_b, if_pos c1, m_in03 h2, Option.bind_some, ite_b, if_pos c2, if_pos f0, m_in19 h3, Option.bind_some, ite_b, if_neg c3]
    obtain ⟨v, rfl⟩ := i_nat (z := z3) (by omega)
    refine ⟨nI (qK (tA s) 1 i), (setK (tA s) 1 i v, s.2), okS_bar hs (ok_setK hs.1 (by omega) (by omega)), fun S cx => ?_, fun S cm => ?_⟩
    · unfold TX6_set
      rw [x_has cx.1 h8 h1, Option.bind_some, ite_b, if_pos c1, if_pos f0, x_isK h3, Option.bind_some, ite_b, if_pos c3]
      unfold TX0_changeK
      simp only [← nI_z]
      simp (disch := omega) only [letS, Option.bind_some, aget_n, ite_jin, iI_nat, nI_1, nI_leI', nI_ltI', nI_eqI', up2_s, up2_n, va_up_s, va_up_n]
      refine wp_bind (P := fun r : Int32 × SS => r.1 = nI (qK (tA s) 1 i) ∧ FR (pB 1) S r.2 ∧ CB r.2 1 (setK (tA s) 1 i v)) (wp_bind (x_setK (j := 1) (v := v) cx.1 hA hi (by omega) (by omega)) fun r hr => wp_some ⟨((CB1 cx.1).2.2.2.2.2.2.2.1 i hi).2.1, hr⟩) fun r hr => wp_some ⟨hr.1, FR_mono hr.2.1 pB1, CX_bar hr.2.1 pB1' cx hr.2.2⟩
    · unfold TX7_set TX7_set_J85 TX7_set_J143
      rw [m_isCell cm.1.1 h8 h1, Option.bind_some, ite_b, if_pos c1, m_in03 h2, Option.bind_some, ite_b, if_pos c2, if_pos f0, m_in19 h3, Option.bind_some, ite_b, if_pos c3, if_pos f0]
      simp only [← nI_z]
      simp (disch := omega) only [letS, Option.bind_some, aget_n, ite_jin, iI_nat, nI_1, nI_leI', nI_ltI', nI_eqI', up2_s, up2_n, va_up_s, va_up_n, if_pos f0]
      refine wp_some ⟨(cm.1.1.2.2.2.2.2 i hi).2.1, FR_AI FR_refl (pM_of (by omega)), CM_bar (P := pMb) (FR_AI FR_refl (by unfold pMb; omega)) pMb' cm ?_⟩
      obtain ⟨g1, g2, g3, g4⟩ := cm.1.1.2.2.2.2.2 i hi
      refine MB_upd (i := i) cm.1 (fun q hq _ => hq) cm.1.1.1 rfl rfl (fun r h1 h2 q hq => ?_) (fun _ _ => rfl) (fun r h1 h2 => ?_) rfl rfl (fun j' q hq => ?_) (fun q => ?_) (fun q => ?_) (fun _ _ _ => rfl) (fun _ => rfl) (fun _ => ⟨?_, ?_, ?_, ?_, cm.1.2.2.2.1 i hi⟩)
      · simp [up2, hq]
      · simp (disch := omega) only [up2_s, up2_n, va_up_s, va_up_n]
      · simp [setK, up2, qK, hq]
      · simp [setK, up2, qK]
      · simp [setK, up2, qK]
      · simp [setK, up2, qK]; exact g1
      · simp [setK, up2, qK]
      · simp [setK, up2, qK]; exact g3
      · simp [setK, up2, qK]; exact g4
  by_cases f1 : iI z2 = 1
  · have d1 := (iI1 h2).mp f1
    rcases emn (1 ≤ z3 ∧ z3 ≤ 4) with c3 | c3
    · refine ⟨-1000, s, hs, OX_no fun S c => ?_, OM_no fun S c => ?_⟩
      · unfold TX6_set
        rw [x_has c.1 h8 h1, Option.bind_some, ite_b, if_pos c1, if_neg f0, if_pos f1, x_isC h3, Option.bind_some, ite_b, if_neg c3]
      · unfold TX7_set TX7_set_J85
        rw [m_isCell c.1.1 h8 h1, Option.bind_some, ite_b, if_pos c1, m_in03 h2, Option.bind_some, ite_b, if_pos c2, if_neg f0, if_pos f1, m_in14 h3, Option.bind_some, ite_b, if_neg c3]
    obtain ⟨v, rfl⟩ := i_nat (z := z3) (by omega)
    refine ⟨nI (qK (tA s) 2 i), (setK (tA s) 2 i v, s.2), okS_bar hs (ok_setK hs.1 (by omega) (by omega)), fun S cx => ?_, fun S cm => ?_⟩
    · unfold TX6_set
      rw [x_has cx.1 h8 h1, Option.bind_some, ite_b, if_pos c1, if_neg f0, if_pos f1, x_isC h3, Option.bind_some, ite_b, if_pos c3]
      unfold TX0_changeC
      simp only [← nI_z]
      simp (disch := omega) only [letS, Option.bind_some, aget_n, ite_jin, iI_nat, nI_1, nI_leI', nI_ltI', nI_eqI', up2_s, up2_n, va_up_s, va_up_n]
      refine wp_bind (P := fun r : Int32 × SS => r.1 = nI (qK (tA s) 2 i) ∧ FR (pB 1) S r.2 ∧ CB r.2 1 (setK (tA s) 2 i v)) (wp_bind (x_setK (j := 2) (v := v) cx.1 hA hi (by omega) (by omega)) fun r hr => wp_some ⟨((CB1 cx.1).2.2.2.2.2.2.2.1 i hi).2.2.1, hr⟩) fun r hr => wp_some ⟨hr.1, FR_mono hr.2.1 pB1, CX_bar hr.2.1 pB1' cx hr.2.2⟩
    · unfold TX7_set TX7_set_J85 TX7_set_J143
      rw [m_isCell cm.1.1 h8 h1, Option.bind_some, ite_b, if_pos c1, m_in03 h2, Option.bind_some, ite_b, if_pos c2, if_neg f0, if_pos f1, m_in14 h3, Option.bind_some, ite_b, if_pos c3, if_neg f0, if_pos f1]
      simp only [← nI_z]
      simp (disch := omega) only [letS, Option.bind_some, aget_n, ite_jin, iI_nat, nI_1, nI_leI', nI_ltI', nI_eqI', up2_s, up2_n, va_up_s, va_up_n, if_pos f1, if_neg f0]
      refine wp_some ⟨(cm.1.1.2.2.2.2.2 i hi).2.2.1, FR_AI FR_refl (pM_of (by omega)), CM_bar (P := pMb) (FR_AI FR_refl (by unfold pMb; omega)) pMb' cm ?_⟩
      obtain ⟨g1, g2, g3, g4⟩ := cm.1.1.2.2.2.2.2 i hi
      refine MB_upd (i := i) cm.1 (fun q hq _ => hq) cm.1.1.1 rfl rfl (fun r h1 h2 q hq => ?_) (fun _ _ => rfl) (fun r h1 h2 => ?_) rfl rfl (fun j' q hq => ?_) (fun q => ?_) (fun q => ?_) (fun _ _ _ => rfl) (fun _ => rfl) (fun _ => ⟨?_, ?_, ?_, ?_, cm.1.2.2.2.1 i hi⟩)
      · simp [up2, hq]
      · simp (disch := omega) only [up2_s, up2_n, va_up_s, va_up_n]
      · simp [setK, up2, qK, hq]
      · simp [setK, up2, qK]
      · simp [setK, up2, qK]
      · simp [setK, up2, qK]; exact g1
      · simp [setK, up2, qK]; exact g2
      · simp [setK, up2, qK]
      · simp [setK, up2, qK]; exact g4
  by_cases f2 : iI z2 = 2
  · have d2 := (iI2 h2).mp f2
    rcases emn (0 ≤ z3 ∧ z3 ≤ 5) with c3 | c3
    · refine ⟨-1000, s, hs, OX_no fun S c => ?_, OM_no fun S c => ?_⟩
      · unfold TX6_set
        rw [x_has c.1 h8 h1, Option.bind_some, ite_b, if_pos c1, if_neg f0, if_neg f1, if_pos f2, x_isKind h3, Option.bind_some, ite_b, if_neg c3]
      · unfold TX7_set TX7_set_J85
        rw [m_isCell c.1.1 h8 h1, Option.bind_some, ite_b, if_pos c1, m_in03 h2, Option.bind_some, ite_b, if_pos c2, if_neg f0, if_neg f1, if_pos f2, m_in05 h3, Option.bind_some, ite_b, if_neg c3]
    obtain ⟨v, rfl⟩ := i_nat (z := z3) (by omega)
    refine ⟨nI (qK (tA s) 0 i), (setK (tA s) 0 i v, s.2), okS_bar hs (ok_setK hs.1 (by omega) (by omega)), fun S cx => ?_, fun S cm => ?_⟩
    · unfold TX6_set
      rw [x_has cx.1 h8 h1, Option.bind_some, ite_b, if_pos c1, if_neg f0, if_neg f1, if_pos f2, x_isKind h3, Option.bind_some, ite_b, if_pos c3]
      unfold TX0_changeKind
      simp only [← nI_z]
      simp (disch := omega) only [letS, Option.bind_some, aget_n, ite_jin, iI_nat, nI_1, nI_leI', nI_ltI', nI_eqI', up2_s, up2_n, va_up_s, va_up_n]
      refine wp_bind (P := fun r : Int32 × SS => r.1 = nI (qK (tA s) 0 i) ∧ FR (pB 1) S r.2 ∧ CB r.2 1 (setK (tA s) 0 i v)) (wp_bind (x_setK (j := 0) (v := v) cx.1 hA hi (by omega) (by omega)) fun r hr => wp_some ⟨((CB1 cx.1).2.2.2.2.2.2.2.1 i hi).1, hr⟩) fun r hr => wp_some ⟨hr.1, FR_mono hr.2.1 pB1, CX_bar hr.2.1 pB1' cx hr.2.2⟩
    · unfold TX7_set TX7_set_J85 TX7_set_J143
      rw [m_isCell cm.1.1 h8 h1, Option.bind_some, ite_b, if_pos c1, m_in03 h2, Option.bind_some, ite_b, if_pos c2, if_neg f0, if_neg f1, if_pos f2, m_in05 h3, Option.bind_some, ite_b, if_pos c3, if_neg f0, if_neg f1, if_pos f2]
      simp only [← nI_z]
      simp (disch := omega) only [letS, Option.bind_some, aget_n, ite_jin, iI_nat, nI_1, nI_leI', nI_ltI', nI_eqI', up2_s, up2_n, va_up_s, va_up_n, if_pos f2, if_neg f0, if_neg f1]
      refine wp_some ⟨(cm.1.1.2.2.2.2.2 i hi).1, FR_AI FR_refl (pM_of (by omega)), CM_bar (P := pMb) (FR_AI FR_refl (by unfold pMb; omega)) pMb' cm ?_⟩
      obtain ⟨g1, g2, g3, g4⟩ := cm.1.1.2.2.2.2.2 i hi
      refine MB_upd (i := i) cm.1 (fun q hq _ => hq) cm.1.1.1 rfl rfl (fun r h1 h2 q hq => ?_) (fun _ _ => rfl) (fun r h1 h2 => ?_) rfl rfl (fun j' q hq => ?_) (fun q => ?_) (fun q => ?_) (fun _ _ _ => rfl) (fun _ => rfl) (fun _ => ⟨?_, ?_, ?_, ?_, cm.1.2.2.2.1 i hi⟩)
      · simp [up2, hq]
      · simp (disch := omega) only [up2_s, up2_n, va_up_s, va_up_n]
      · simp [setK, up2, qK, hq]
      · simp [setK, up2, qK]
      · simp [setK, up2, qK]
      · simp [setK, up2, qK]
      · simp [setK, up2, qK]; exact g2
      · simp [setK, up2, qK]; exact g3
      · simp [setK, up2, qK]; exact g4
  rw [iI0 h2] at f0
  rw [iI1 h2] at f1
  rw [iI2 h2] at f2
  have d3 : z2 = 3 := by omega
  have f3 : iI z2 = 3 := by rw [iI3 h2]; exact d3
  rw [← iI0 h2] at f0
  rw [← iI1 h2] at f1
  rw [← iI2 h2] at f2
  rcases emn (-9 ≤ z3 ∧ z3 ≤ 9) with c3 | c3
  · refine ⟨-1000, s, hs, OX_no fun S c => ?_, OM_no fun S c => ?_⟩
    · unfold TX6_set
      rw [x_has c.1 h8 h1, Option.bind_some, ite_b, if_pos c1, if_neg f0, if_neg f1, if_neg f2, if_pos f3, x_isSource h3, Option.bind_some, ite_b, if_neg c3]
    · unfold TX7_set TX7_set_J85
      rw [m_isCell c.1.1 h8 h1, Option.bind_some, ite_b, if_pos c1, m_in03 h2, Option.bind_some, ite_b, if_pos c2, if_neg f0, if_neg f1, if_neg f2, m_in99 h3, Option.bind_some, ite_b, if_neg c3]
  refine ⟨iI (qS (tA s) 0 i), (setS (tA s) 0 i z3, s.2), okS_bar hs (ok_setS hs.1 (by omega)), fun S cx => ?_, fun S cm => ?_⟩
  · unfold TX6_set
    rw [x_has cx.1 h8 h1, Option.bind_some, ite_b, if_pos c1, if_neg f0, if_neg f1, if_neg f2, if_pos f3, x_isSource h3, Option.bind_some, ite_b, if_pos c3]
    unfold TX0_changeSource
    simp only [← nI_z]
    simp (disch := omega) only [letS, Option.bind_some, aget_n, ite_jin, iI_nat, nI_1, nI_leI', nI_ltI', nI_eqI', up2_s, up2_n, va_up_s, va_up_n]
    obtain ⟨g1, g2, g3, g4, g5, g6, g7, g8⟩ := cx.1.2.2.2.2.2.2.2.1 i hi
    refine wp_some ⟨g4, FR_AI FR_refl (by unfold pX; omega), CX_bar (P := pB 1) (FR_AI FR_refl (by unfold pB; omega)) pB1' cx ?_⟩
    refine CB_upd (i := i) cx.1 (fun q hq _ => hq) cx.1.1 rfl rfl rfl rfl (fun r h1 h2 q hq => ?_) (fun _ _ => rfl) (fun r h1 h2 => ?_) rfl rfl (fun _ _ _ => rfl) (fun _ => rfl) (fun _ => rfl) (fun j' q hq => ?_) (fun q => ?_) (fun _ => ⟨?_, ?_, ?_, ?_, ?_, ?_, ?_, ?_⟩)
    · simp [up2, hq]
    · simp (disch := omega) only [up2_s, up2_n, va_up_s, va_up_n]
    · simp [setS, up2, qS, hq]
    · simp [setS, up2, qS]
    · simp [up2]; exact g1
    · simp [up2]; exact g2
    · simp [up2]; exact g3
    · simp [setS, up2, qS]
    · simp [up2]; exact g5
    · simp [up2]; exact g6
    · simp [up2]; exact g7
    · simp [setS, up2, qS]; exact g8
  · unfold TX7_set TX7_set_J85 TX7_set_J143
    rw [m_isCell cm.1.1 h8 h1, Option.bind_some, ite_b, if_pos c1, m_in03 h2, Option.bind_some, ite_b, if_pos c2, if_neg f0, if_neg f1, if_neg f2, m_in99 h3, Option.bind_some, ite_b, if_pos c3, if_neg f0, if_neg f1, if_neg f2]
    simp only [← nI_z]
    simp (disch := omega) only [letS, Option.bind_some, aget_n, ite_jin, iI_nat, nI_1, nI_leI', nI_ltI', nI_eqI', up2_s, up2_n, va_up_s, va_up_n, if_neg f0, if_neg f1, if_neg f2]
    refine wp_some ⟨(cm.1.1.2.2.2.2.2 i hi).2.2.2, FR_AI FR_refl (pM_of (by omega)), CM_bar (P := pMb) (FR_AI FR_refl (by unfold pMb; omega)) pMb' cm ?_⟩
    obtain ⟨g1, g2, g3, g4⟩ := cm.1.1.2.2.2.2.2 i hi
    refine MB_upd (i := i) cm.1 (fun q hq _ => hq) cm.1.1.1 rfl rfl (fun r h1 h2 q hq => ?_) (fun _ _ => rfl) (fun r h1 h2 => ?_) rfl rfl (fun _ _ _ => rfl) (fun _ => rfl) (fun _ => rfl) (fun j' q hq => ?_) (fun q => ?_) (fun _ => ⟨?_, ?_, ?_, ?_, ?_⟩)
    · simp [up2, hq]
    · simp (disch := omega) only [up2_s, up2_n, va_up_s, va_up_n]
    · simp [setS, up2, qS, hq]
    · simp [setS, up2, qS]
    · simp [up2]; exact g1
    · simp [up2]; exact g2
    · simp [up2]; exact g3
    · simp [setS, up2, qS]
    · simp [setS, up2, qS]; exact cm.1.2.2.2.1 i hi
end PUB2
