/-! Calls: cells, ends, rules, heats as they are. -/
def SZ : SS := (fun _ _ => 0, fun _ _ => 0, fun _ _ => 0, fun _ _ => 0)
theorem m_madeK : ∀ kd, kd < 6 → ∀ c, c < 5 → (if nI c = 1 then TX7_made_J25 SZ (nI kd) 132 else TX7_made_J25 SZ (nI kd) 13) = TX1_madeOf (nI kd) (nI c) := by decide +kernel
theorem x_madeS : ∀ kd, kd < 6 → ∀ c, c < 5 → ∃ v, TX1_madeOf (nI kd) (nI c) = some v := fun kd h c h' => by
  have : ∀ kd, kd < 6 → ∀ c, c < 5 → (TX1_madeOf (nI kd) (nI c)).isSome = true := by decide +kernel
  exact Option.isSome_iff_exists.mp (this kd h c h')
theorem m_kinK : ∀ kd, kd < 6 → TX7_kin_L19 SZ fu (nI kd) 0 0 = TX1_lineOf (nI kd) := by decide +kernel
theorem x_lineS : ∀ kd, kd < 6 → ∃ v, TX1_lineOf (nI kd) = some v := fun kd h => by
  have : ∀ kd, kd < 6 → (TX1_lineOf (nI kd)).isSome = true := by decide +kernel
  exact Option.isSome_iff_exists.mp (this kd h)
def undB (kd k : Nat) : Bool := kd == k || k == 0 || (k == 1 && (kd == 3 || kd == 5)) || (k == 2 && kd == 4)
theorem x_under : ∀ kd, kd < 6 → ∀ k, k < 6 → TX1_isUnder (nI kd) (nI k) = some (b2i (undB kd k = true)) := by decide +kernel
theorem i_nat {z : Int} (h : 0 ≤ z) : ∃ n : Nat, z = n := ⟨z.toNat, by omega⟩
theorem okS_bar {s : ST} {A' : AB} (hs : okS s) (h : okA 999000000000000 A') : okS (A', s.2) := ⟨h, hs.2⟩
theorem okS_8 {s : ST} (hs : okS s) : okA 1008000000000000 (tA s) := ok_M (by omega) hs.1
theorem emn (p : Prop) [Decidable p] : ¬ p ∨ p := (Decidable.em p).symm
section PUB1
variable {s : ST}
theorem CB1 {S : SS} {A : AB} (h : CB S 1 A) : S.1 1 0 = nI (qN A) ∧ S.1 11 3 = nI (qP A) ∧ S.2.1 1 9 = lN (qL A) ∧ S.1 1 11 = nI (qF A) ∧ S.1 1 12 = nI (qA A) ∧ S.2.2.1 10 0 = iI (qE0 A) ∧ S.2.2.1 10 1 = iI (qE1 A) ∧
  (∀ i, i < qN A → S.2.2.1 2 i = nI (qK A 0 i) ∧ S.2.2.1 3 i = nI (qK A 1 i) ∧ S.2.2.1 4 i = nI (qK A 2 i) ∧ S.2.2.1 5 i = iI (qS A 0 i) ∧ S.2.2.1 6 i = nI (sideA A i) ∧ S.2.2.1 7 i = nI (holdsA A i) ∧ S.2.2.1 8 i = nI (finA A i) ∧ S.2.2.2 9 i = lI (qS A 1 i)) ∧
  ∀ p, p < qP A → S.2.2.1 12 p = nI (qK A 3 p) ∧ S.2.2.1 13 p = nI (qK A 4 p) ∧ S.2.2.1 14 p = iI (qS A 2 p) := h
/-- nothing happens, the answer is v -/
theorem OX_no {α : Type} {t : SS → Option (α × SS)} {v : α} (h : ∀ S, CX S s → t S = some (v, S)) : OX t s v s := fun S c => wp_eq (h S c) (wp_some ⟨rfl, FR_refl, c⟩)
theorem OM_no {α : Type} {t : SS → Option (α × SS)} {v : α} (h : ∀ S, CM S s → t S = some (v, S)) : OM t s v s := fun S c => wp_eq (h S c) (wp_some ⟨rfl, FR_refl, c⟩)
theorem pB1 : ∀ t k j, pB 1 t k j → pX t k j := fun t k j h => by unfold pB at h; unfold pX; omega
theorem pB1' : ∀ t k j, pB 1 t k j → pXs t k j ∨ 64 ≤ k ∨ (1 ≤ k ∧ k ≤ 15) := fun t k j h => by unfold pB at h; omega
theorem pMb_M : ∀ t k j, pMb t k j → pM t k j := fun t k j h => by unfold pMb at h; unfold pM; omega
theorem pMb' : ∀ t k j, pMb t k j → pMs t k j ∨ k < 64 ∨ pMb t k j := fun t k j h => Or.inr (Or.inr h)
theorem pMt_b : ∀ t k j, pMt t k j → pMb t k j := fun t k j h => by unfold pMt at h; unfold pMb; omega
theorem x_J0 {a b c d : Int32} {S : SS} : TX6_cell_J34 a b c d 0 S = some (-2, S) := if_pos rfl
theorem x_J1 {a b c d : Int32} {S : SS} : TX6_cell_J34 a b c d 1 S = (TX0_append 1 a b c d S).bind fun q => some (q.1, q.2) := if_neg (by decide)
theorem zb1 : ((zb 1).bind fun v => some v) = some (1 : Int32) := rfl
theorem zb0 : ((zb 0).bind fun v => some v) = some (0 : Int32) := rfl
theorem m_isMade {z1 z2 z3 : Int} (h1 : i31 z1) (h2 : i31 z2) (h3 : i31 z3) : TX7_isMade (iI z1) (iI z2) (iI z3) = some (b2i ((0 ≤ z1 ∧ z1 ≤ 5) ∧ (1 ≤ z2 ∧ z2 ≤ 9) ∧ (1 ≤ z3 ∧ z3 ≤ 4))) := by
  unfold TX7_isMade
  simp only [m_in05 h1, m_in19 h2, m_in14 h3, Option.bind_some, ite_b, zb1, zb0]
  by_cases c1 : 0 ≤ z1 ∧ z1 ≤ 5 <;> by_cases c2 : 1 ≤ z2 ∧ z2 ≤ 9 <;> by_cases c3 : 1 ≤ z3 ∧ z3 ≤ 4 <;> simp [c1, c2, c3, b2i]
theorem a_cell (hs : okS s) (a1 a2 a3 a4 : Int32) : ∃ v s', okS s' ∧ OX (TX6_cell a1 a2 a3 a4) s v s' ∧ OM (TX7_cell a1 a2 a3 a4) s v s' := by
  obtain ⟨z1, h1, rfl⟩ := i_cases a1
  obtain ⟨z2, h2, rfl⟩ := i_cases a2
  obtain ⟨z3, h3, rfl⟩ := i_cases a3
  obtain ⟨z4, h4, rfl⟩ := i_cases a4
  have h8 := ok_n hs.1
  have hA := okS_8 hs
  have hl := ok_l hs.1
  rcases emn ((0 ≤ z1 ∧ z1 ≤ 5) ∧ (1 ≤ z2 ∧ z2 ≤ 9) ∧ (1 ≤ z3 ∧ z3 ≤ 4)) with c1 | c1
  · refine ⟨-2, s, hs, OX_no fun S c => ?_, OM_no fun S c => ?_⟩
    · unfold TX6_cell
      simp only [x_isKind h1, x_isK h2, x_isC h3, x_isHeat h4, Option.bind_some, ite_b, x_J0, x_J1]
      by_cases d1 : 0 ≤ z1 ∧ z1 ≤ 5
      · by_cases d2 : 1 ≤ z2 ∧ z2 ≤ 9
        · by_cases d3 : 1 ≤ z3 ∧ z3 ≤ 4
          · exact absurd ⟨d1, d2, d3⟩ c1
          · rw [if_pos d1, if_pos d2, if_neg d3]
        · rw [if_pos d1, if_neg d2]
      · rw [if_neg d1]
    · unfold TX7_cell
      simp only [m_isMade h1 h2 h3, Option.bind_some, ite_b, if_neg c1]
  rcases emn (0 ≤ z4 ∧ z4 ≤ 999) with c4 | c4
  · refine ⟨-2, s, hs, OX_no fun S c => ?_, OM_no fun S c => ?_⟩
    · unfold TX6_cell
      simp only [x_isKind h1, x_isK h2, x_isC h3, x_isHeat h4, Option.bind_some, ite_b, x_J0, x_J1, if_pos c1.1, if_pos c1.2.1, if_pos c1.2.2, if_neg c4]
    · unfold TX7_cell
      simp only [m_isMade h1 h2 h3, m_in999 h4, Option.bind_some, ite_b, if_pos c1, if_neg c4]
  obtain ⟨kd, rfl⟩ := i_nat c1.1.1
  obtain ⟨k, rfl⟩ := i_nat (z := z2) (by omega)
  obtain ⟨c, rfl⟩ := i_nat (z := z3) (by omega)
  refine ⟨if qN (tA s) < 8 then nI (qN (tA s)) else -4, (if qN (tA s) < 8 then addA (tA s) kd k c (z4 * qL (tA s)) else tA s, s.2), okS_bar hs ?_, fun S cx => ?_, fun S cm => ?_⟩
  · split
    · have := eB (e := z4) (a := 999) (L := qL (tA s)) (X := 1000000000000) (by omega) (by omega) (by omega)
      exact ok_addA hs.1 (by assumption) (by omega) (by omega) (by omega) (by omega)
    · exact hs.1
  · unfold TX6_cell
    simp only [x_isKind h1, x_isK h2, x_isC h3, x_isHeat h4, Option.bind_some, ite_b, x_J0, x_J1, if_pos c1.1, if_pos c1.2.1, if_pos c1.2.2, if_pos c4]
    simp only [← nI_z]
    refine wp_bind (x_append0 cx.1 hA (by omega) (by omega) (by omega) c4) fun r hr => ?_
    exact wp_some ⟨hr.1, FR_mono hr.2.1 pB1, CX_bar hr.2.1 pB1' cx hr.2.2⟩
  · unfold TX7_cell
    simp only [m_isMade h1 h2 h3, m_in999 h4, Option.bind_some, ite_b, if_pos c1, if_pos c4]
    simp only [← nI_z]
    rw [cm.1.1.1, show (8 : Int32) = nI 8 from rfl]
    by_cases e : qN (tA s) < 8
    · simp (disch := omega) only [letS, Option.bind_some, aget_n, ite_jin, iI_nat, nI_1, nI_leI', nI_ltI', nI_eqI', up2_s, up2_n, va_up_s, va_up_n, if_neg, iI_wideI]
      have hl' := cm.1.2.1
      rw [hl', lI_n, lI_mul, if_pos e, if_pos e]
      simp (disch := omega) only [letS, Option.bind_some, aget_n, ite_jin, iI_nat, nI_1, nI_leI', nI_ltI', nI_eqI', up2_s, up2_n, va_up_s, va_up_n, cm.1.1.1, iI_wideI]
      refine wp_some ⟨nI_pred _, ?_, ?_⟩
      · exact FR_FI (FR_AL (FR_AI (FR_AI (FR_AI (FR_AI FR_refl (by unfold pM; omega)) (by unfold pM; omega)) (by unfold pM; omega)) (by unfold pM; omega)) (by unfold pM; omega)) (by unfold pM; omega)
      · refine CM_bar (P := pMb) (FR_FI (FR_AL (FR_AI (FR_AI (FR_AI (FR_AI FR_refl (by unfold pMb; omega)) (by unfold pMb; omega)) (by unfold pMb; omega)) (by unfold pMb; omega)) (by unfold pMb; omega)) (by unfold pMb; omega)) pMb' cm ?_
        refine MB_upd (i := qN (tA s)) cm.1 (fun q hq hne => ?_) ?_ ?_ rfl (fun r h1 h2 q hq => ?_) (fun q hq => ?_) (fun r h1 h2 => ?_) rfl rfl (fun j' q hq => ?_) (fun q => ?_) (fun q => ?_) (fun j' q hq => ?_) (fun q => ?_) (fun hi' => ⟨?_, ?_, ?_, ?_, ?_⟩)
        · have : q < qN (tA s) + 1 := hq
          omega
        · simp (disch := omega) only [up2_s, up2_n, va_up_s, va_up_n]
          rfl
        · simp (disch := omega) only [up2_s, up2_n, va_up_s, va_up_n]
        · simp [up2, hq]
        · simp [up2, hq]
        · simp (disch := omega) only [up2_s, up2_n, va_up_s, va_up_n]
        · simp [addA, up2, qK, qS, sideA, holdsA, finA, hq]
        · simp [addA, up2, qK, qS, sideA, holdsA, finA]
        · simp [addA, up2, qK, qS, sideA, holdsA, finA]
        · simp [addA, up2, qK, qS, sideA, holdsA, finA, hq]
        · simp [addA, up2, qK, qS, sideA, holdsA, finA]
        · simp (disch := omega) only [up2_s, up2_n, va_up_s, va_up_n]
          simp [addA, up2, qK, qS, sideA, holdsA, finA]
        · simp (disch := omega) only [up2_s, up2_n, va_up_s, va_up_n]
          simp [addA, up2, qK, qS, sideA, holdsA, finA]
        · simp (disch := omega) only [up2_s, up2_n, va_up_s, va_up_n]
          simp [addA, up2, qK, qS, sideA, holdsA, finA]
        · simp (disch := omega) only [up2_s, up2_n, va_up_s, va_up_n]
          simp [addA, up2, qK, qS, sideA, holdsA, finA, k0]
        · simp (disch := omega) only [up2_s, up2_n, va_up_s, va_up_n]
          simp [addA, up2, qK, qS, sideA, holdsA, finA]
    · simp (disch := omega) only [letS, Option.bind_some, aget_n, ite_jin, iI_nat, nI_1, nI_leI', nI_ltI', nI_eqI', up2_s, up2_n, va_up_s, va_up_n, if_pos]
      rw [if_neg e, if_neg e]
      exact wp_some ⟨rfl, FR_refl, cm⟩
theorem a_drop (hs : okS s) : ∃ v s', okS s' ∧ OX TX6_drop s v s' ∧ OM TX7_drop s v s' := by
  have h8 := ok_n hs.1
  have hA := okS_8 hs
  have hl := ok_l hs.1
  by_cases e : qN (tA s) = 0
  · refine ⟨-3, s, hs, OX_no fun S c => ?_, OM_no fun S c => ?_⟩
    · unfold TX6_drop
      rw [(CB1 c.1).1, e]
      rfl
    · unfold TX7_drop
      rw [c.1.1.1, e]
      rfl
  have hok := ok_pop hs.1 (by omega)
  have hok8 := ok_M (M' := 1008000000000000) (by omega) hok
  refine ⟨nI (qN (tA s) - 1), (redA (setP (popA (tA s)) (hushP (tA s) (qN (tA s) - 1))), s.2), okS_bar hs (ok_red hok (by omega)), fun S cx => ?_, fun S cm => ?_⟩
  · have hb := CB1 cx.1
    unfold TX6_drop TX0_removeLatest
    rw [hb.1]
    have e0 : ¬ nI (qN (tA s)) = 0 := nI_ne0 (by omega) (by omega)
    have e1 : ¬ nI (qN (tA s)) ≤ 0 := nI_nle (by omega) (by omega)
    have ep : nI (qN (tA s)) - 1 = nI (qN (tA s) - 1) := by rw [show (1 : Int32) = nI 1 from rfl, pk_sub (by omega)]
    rw [if_neg e0, if_neg e1, ep]
    have hC : CB (sFI S 1 0 (nI (qN (tA s) - 1))) 1 (popA (tA s)) := by
      obtain ⟨c1, c2, c3, c4, c5, c6, c7, c8, c9⟩ := cx.1
      refine ⟨?_, ?_, c3, ?_, ?_, c6, c7, fun i hi => c8 i (by have : i < qN (tA s) - 1 := hi; omega), c9⟩
      · simp (disch := omega) only [up2_s, up2_n, va_up_s, va_up_n]
        rfl
      · simp (disch := omega) only [up2_s, up2_n, va_up_s, va_up_n]
        exact c2
      · simp (disch := omega) only [up2_s, up2_n, va_up_s, va_up_n]
        exact c4
      · simp (disch := omega) only [up2_s, up2_n, va_up_s, va_up_n]
        exact c5
    have hF : FR (pB 1) S (sFI S 1 0 (nI (qN (tA s) - 1))) := FR_FI FR_refl (by unfold pB; omega)
    simp only [letS, up2_s, va_up_s]
    revert hC hF
    generalize sFI S 1 0 (nI (qN (tA s) - 1)) = S3
    intro hC hF
    have hr := x_removeOf (p := 1 + 10) (A := tA s) (x := qN (tA s) - 1) hC.2.1 (show PC S3 (1 + 11) (tA s) from CB_PC (A := popA (tA s)) hC) (ok_p hA) (fun r hr => by have := (ok_q hA hr).1; omega) (by omega)
    rw [hr, Option.bind_some]
    have hC2 := CB_pset (hushP (tA s) (qN (tA s) - 1)) hC
    obtain ⟨x1, x2⟩ := x_red hC2 hok8
    show WP (((TX0_reduce 1 (1 + 8) 8 ((pSet S3 (1 + 10) (hushP (tA s) (qN (tA s) - 1))).2.1 1 9) (pSet S3 (1 + 10) (hushP (tA s) (qN (tA s) - 1)))).bind _).bind _) _
    rw [hC2.2.2.1, x1, Option.bind_some, Option.bind_some]
    refine wp_some ⟨?_, ?_, ?_⟩
    · exact x2.1
    · refine FR_mono ?_ pB1
      exact FR_FL (FR_RL (FR_pset hF (by unfold pB; omega) (by unfold pB; omega) (by unfold pB; omega) (by unfold pB; omega)) (by unfold pB; omega)) (by unfold pB; omega)
    · refine CX_bar (P := pB 1) ?_ pB1' cx x2
      exact FR_FL (FR_RL (FR_pset hF (by unfold pB; omega) (by unfold pB; omega) (by unfold pB; omega) (by unfold pB; omega)) (by unfold pB; omega)) (by unfold pB; omega)
  · unfold TX7_drop
    have e0 : ¬ nI (qN (tA s)) = 0 := nI_ne0 (by omega) (by omega)
    have ep : nI (qN (tA s)) - 1 = nI (qN (tA s) - 1) := by rw [show (1 : Int32) = nI 1 from rfl, pk_sub (by omega)]
    rw [cm.1.1.1, if_neg e0, ep]
    refine wp_bind (m_hushed cm.1 hA (by omega)) fun r hr => ?_
    obtain ⟨-, r2⟩ := hr
    have hM : MB r.2 (setP (tA s) (hushP (tA s) (qN (tA s) - 1))) := by
      rw [r2]
      exact ⟨MC_pset _ (by omega) (by omega) cm.1.1, MH_pset _ (by omega) cm.1.2⟩
    have hF : FR pMb S r.2 := by
      rw [r2]
      refine ⟨fun k j hk => ?_, fun _ _ _ => rfl, fun k hk => ?_, fun _ _ => rfl⟩
      · exact if_neg (fun z => hk (by rw [z.1, z.2]; unfold pMb; omega))
      · exact pRows_ne _ _ _ (by unfold pMb at hk; omega)
    have hn : r.2.1 64 0 = nI (qN (tA s)) := hM.1.1
    simp only [letS]
    rw [hn, ep]
    have hM2 : MB (sFI r.2 64 0 (nI (qN (tA s) - 1))) (setP (popA (tA s)) (hushP (tA s) (qN (tA s) - 1))) := by
      obtain ⟨⟨c1, c2, c3, c4, c5, c6⟩, d1, d2, d3, d4⟩ := hM
      refine ⟨⟨?_, c2, c3, c4, c5, fun i hi => c6 i (by have : i < qN (tA s) - 1 := hi; show i < qN (tA s); omega)⟩, d1, ?_, fun i hi => d3 i (by have : i < qN (tA s) - 1 := hi; show i < qN (tA s); omega), d4⟩
      · simp (disch := omega) only [up2_s, up2_n, va_up_s, va_up_n]
        rfl
      · simp (disch := omega) only [up2_s, up2_n, va_up_s, va_up_n]
        exact d2
    refine wp_bind (m_shorten hM2 hok8) fun r' hr' => ?_
    have F2 : FR pMb S r' := FR_trans (FR_FI hF (by unfold pMb; omega)) (FR_mono hr'.1 pMt_b)
    exact wp_some ⟨hr'.2.1.1, FR_mono F2 pMb_M, CM_bar F2 pMb' cm hr'.2⟩
end PUB1
