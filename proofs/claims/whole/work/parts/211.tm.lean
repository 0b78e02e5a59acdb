/-! Terms over the four pictures. Written by wip/whole/decompT.py. -/
def TX2_become (a0 : Nat) (a1 : Nat) (S : SS) : Option (SS) := (if cpok 0 0 12 12 12 then letS (sRI S (a0 + 1) (va_cpy (S.2.2.1 (a1 + 1)) (S.2.2.1 (a0 + 1)) (Int32.toNatClampNeg 0) (Int32.toNatClampNeg 0) (Int32.toNatClampNeg 12))) fun S3 =>
  (if cpok 0 0 12 12 12 then letS (sRI S3 (a0 + 2) (va_cpy (S3.2.2.1 (a1 + 2)) (S3.2.2.1 (a0 + 2)) (Int32.toNatClampNeg 0) (Int32.toNatClampNeg 0) (Int32.toNatClampNeg 12))) fun S6 =>
  (if cpok 0 0 12 12 12 then letS (sRI S6 (a0 + 3) (va_cpy (S6.2.2.1 (a1 + 3)) (S6.2.2.1 (a0 + 3)) (Int32.toNatClampNeg 0) (Int32.toNatClampNeg 0) (Int32.toNatClampNeg 12))) fun S9 =>
  letS (sFI S9 a0 3 (S9.1 a1 3)) fun S11 =>
  some S11 else
  none) else
  none) else
  none)
theorem eqX2_become (t : Nat) (ct : Nat → ClassId) (a0 : Nat) (a1 : Nat) (h0 : isP a0) (h1 : isP a1) (S : SS) : X2_become (t + a0) (t + a1) (HH t ct S) = (TX2_become a0 a1 S).map (HH t ct) := by
  show EQ _ _ _
  unfold X2_become TX2_become
  refine e_get (HH_vO h0.1) ?_
  refine e_get (HH_gR h1.1 rfl) ?_
  refine e_get (HH_gR h0.1 rfl) ?_
  refine e_wrS (HH_cpIE h1.2.1 h0.2.1) ?_
  intro S3
  refine e_get (HH_gR h1.1 rfl) ?_
  refine e_get (HH_gR h0.1 rfl) ?_
  refine e_wrS (HH_cpIE h1.2.2.1 h0.2.2.1) ?_
  intro S6
  refine e_get (HH_gR h1.1 rfl) ?_
  refine e_get (HH_gR h0.1 rfl) ?_
  refine e_wrS (HH_cpIE h1.2.2.2 h0.2.2.2) ?_
  intro S9
  refine e_get (HH_gI h1.1 rfl) ?_
  refine e_put (HH_pI h0.1 rfl) ?_
  intro S11
  exact e_ret rfl
def TX0_become (a0 : Nat) (a1 : Nat) (S : SS) : Option (SS) := letS (sFI S a0 0 (S.1 a1 0)) fun S2 =>
  (if cpok 0 0 8 8 8 then letS (sRI S2 (a0 + 1) (va_cpy (S2.2.2.1 (a1 + 1)) (S2.2.2.1 (a0 + 1)) (Int32.toNatClampNeg 0) (Int32.toNatClampNeg 0) (Int32.toNatClampNeg 8))) fun S5 =>
  (if cpok 0 0 8 8 8 then letS (sRI S5 (a0 + 2) (va_cpy (S5.2.2.1 (a1 + 2)) (S5.2.2.1 (a0 + 2)) (Int32.toNatClampNeg 0) (Int32.toNatClampNeg 0) (Int32.toNatClampNeg 8))) fun S8 =>
  (if cpok 0 0 8 8 8 then letS (sRI S8 (a0 + 3) (va_cpy (S8.2.2.1 (a1 + 3)) (S8.2.2.1 (a0 + 3)) (Int32.toNatClampNeg 0) (Int32.toNatClampNeg 0) (Int32.toNatClampNeg 8))) fun S11 =>
  (if cpok 0 0 8 8 8 then letS (sRI S11 (a0 + 4) (va_cpy (S11.2.2.1 (a1 + 4)) (S11.2.2.1 (a0 + 4)) (Int32.toNatClampNeg 0) (Int32.toNatClampNeg 0) (Int32.toNatClampNeg 8))) fun S14 =>
  (if cpok 0 0 8 8 8 then letS (sRI S14 (a0 + 5) (va_cpy (S14.2.2.1 (a1 + 5)) (S14.2.2.1 (a0 + 5)) (Int32.toNatClampNeg 0) (Int32.toNatClampNeg 0) (Int32.toNatClampNeg 8))) fun S17 =>
  (if cpok 0 0 8 8 8 then letS (sRI S17 (a0 + 6) (va_cpy (S17.2.2.1 (a1 + 6)) (S17.2.2.1 (a0 + 6)) (Int32.toNatClampNeg 0) (Int32.toNatClampNeg 0) (Int32.toNatClampNeg 8))) fun S20 =>
  (if cpok 0 0 8 8 8 then letS (sRI S20 (a0 + 7) (va_cpy (S20.2.2.1 (a1 + 7)) (S20.2.2.1 (a0 + 7)) (Int32.toNatClampNeg 0) (Int32.toNatClampNeg 0) (Int32.toNatClampNeg 8))) fun S23 =>
  (if cpok 0 0 8 8 8 then letS (sRL S23 (a0 + 8) (va_cpy (S23.2.2.2 (a1 + 8)) (S23.2.2.2 (a0 + 8)) (Int32.toNatClampNeg 0) (Int32.toNatClampNeg 0) (Int32.toNatClampNeg 8))) fun S26 =>
  letS (sFL S26 a0 9 (S26.2.1 a1 9)) fun S28 =>
  (if cpok 0 0 (Int32.ofNat 2) 2 2 then letS (sRI S28 (a0 + 9) (va_cpy (S28.2.2.1 (a1 + 9)) (S28.2.2.1 (a0 + 9)) (Int32.toNatClampNeg 0) (Int32.toNatClampNeg 0) (Int32.toNatClampNeg (Int32.ofNat 2)))) fun S32 =>
  letS (sFI S32 a0 11 (S32.1 a1 11)) fun S34 =>
  letS (sFI S34 a0 12 (S34.1 a1 12)) fun S36 =>
  (TX2_become (a0 + 10) (a1 + 10) S36).bind fun q39 =>
  some q39 else
  none) else
  none) else
  none) else
  none) else
  none) else
  none) else
  none) else
  none) else
  none)
theorem eqX0_become (t : Nat) (ct : Nat → ClassId) (a0 : Nat) (a1 : Nat) (h0 : isB a0) (h1 : isB a1) (S : SS) : X0_become (t + a0) (t + a1) (HH t ct S) = (TX0_become a0 a1 S).map (HH t ct) := by
  show EQ _ _ _
  unfold X0_become TX0_become
  refine e_get (HH_vO h0.1) ?_
  refine e_get (HH_gI h1.1 rfl) ?_
  refine e_put (HH_pI h0.1 rfl) ?_
  intro S2
  refine e_get (HH_gR h1.1 rfl) ?_
  refine e_get (HH_gR h0.1 rfl) ?_
  refine e_wrS (HH_cpIE h1.2.1 h0.2.1) ?_
  intro S5
  refine e_get (HH_gR h1.1 rfl) ?_
  refine e_get (HH_gR h0.1 rfl) ?_
  refine e_wrS (HH_cpIE h1.2.2.1 h0.2.2.1) ?_
  intro S8
  refine e_get (HH_gR h1.1 rfl) ?_
  refine e_get (HH_gR h0.1 rfl) ?_
  refine e_wrS (HH_cpIE h1.2.2.2.1 h0.2.2.2.1) ?_
  intro S11
  refine e_get (HH_gR h1.1 rfl) ?_
  refine e_get (HH_gR h0.1 rfl) ?_
  refine e_wrS (HH_cpIE h1.2.2.2.2.1 h0.2.2.2.2.1) ?_
  intro S14
  refine e_get (HH_gR h1.1 rfl) ?_
  refine e_get (HH_gR h0.1 rfl) ?_
  refine e_wrS (HH_cpIE h1.2.2.2.2.2.1 h0.2.2.2.2.2.1) ?_
  intro S17
  refine e_get (HH_gR h1.1 rfl) ?_
  refine e_get (HH_gR h0.1 rfl) ?_
  refine e_wrS (HH_cpIE h1.2.2.2.2.2.2.1 h0.2.2.2.2.2.2.1) ?_
  intro S20
  refine e_get (HH_gR h1.1 rfl) ?_
  refine e_get (HH_gR h0.1 rfl) ?_
  refine e_wrS (HH_cpIE h1.2.2.2.2.2.2.2.1 h0.2.2.2.2.2.2.2.1) ?_
  intro S23
  refine e_get (HH_gR h1.1 rfl) ?_
  refine e_get (HH_gR h0.1 rfl) ?_
  refine e_wrS (HH_cpLE h1.2.2.2.2.2.2.2.2.1 h0.2.2.2.2.2.2.2.2.1) ?_
  intro S26
  refine e_get (HH_gL h1.1 rfl) ?_
  refine e_put (HH_pL h0.1 rfl) ?_
  intro S28
  refine e_get (HH_gR h1.1 rfl) ?_
  refine e_get (HH_gR h0.1 rfl) ?_
  refine e_get (HH_gR h0.1 rfl) ?_
  refine e_get (HH_aN h0.2.2.2.2.2.2.2.2.2.1) ?_
  refine e_wrS (HH_cpIE h1.2.2.2.2.2.2.2.2.2.1 h0.2.2.2.2.2.2.2.2.2.1) ?_
  intro S32
  refine e_get (HH_gI h1.1 rfl) ?_
  refine e_put (HH_pI h0.1 rfl) ?_
  intro S34
  refine e_get (HH_gI h1.1 rfl) ?_
  refine e_put (HH_pI h0.1 rfl) ?_
  intro S36
  refine e_get (HH_gR h0.1 rfl) ?_
  refine e_get (HH_gR h1.1 rfl) ?_
  refine e_call (eqX2_become t ct (a0 + 10) (a1 + 10) h0.2.2.2.2.2.2.2.2.2.2.1 h1.2.2.2.2.2.2.2.2.2.2.1 S36) ?_
  intro q39
  exact e_ret rfl
def TX0_has (a0 : Nat) (a1 : Int32) (S : SS) : Option (Int32) := (if a1 < 0 then (zb 0).bind fun v1 => some v1 else
  (if (S.1 a0 0) ≤ a1 then (zb 0).bind fun v3 => some v3 else
  (zb 1).bind fun v4 => some v4))
theorem eqX0_has (t : Nat) (ct : Nat → ClassId) (a0 : Nat) (a1 : Int32) (h0 : isB a0) (S : SS) : X0_has (t + a0) a1 (HH t ct S) = (TX0_has a0 a1 S).map id := by
  show EQ _ _ _
  unfold X0_has TX0_has
  refine e_get (HH_vO h0.1) ?_
  refine e_ite ?_ ?_
  · exact e_bind rfl (fun _ => e_ret rfl)
  · refine e_get (HH_gI h0.1 rfl) ?_
    refine e_ite ?_ ?_
    · exact e_bind rfl (fun _ => e_ret rfl)
    · exact e_bind rfl (fun _ => e_ret rfl)
def TJ9_min_7cf53 (a0 : Int32) (a1 : Int32) : Option (Int32) := (if a1 < a0 then some a1 else
  some a0)
theorem eqJ9_min_7cf53 (t : Nat) (ct : Nat → ClassId) (a0 : Int32) (a1 : Int32) : J9_min_7cf53 a0 a1 = (TJ9_min_7cf53 a0 a1).map id := by
  show EQ _ _ _
  unfold J9_min_7cf53 TJ9_min_7cf53
  refine e_ite ?_ ?_
  · exact e_ret rfl
  · exact e_ret rfl
def TX1_sideOf (a0 : Int32) (a1 : Int32) : Option (Int32) := (o_idiv (a1 + 1) 2).bind fun v1 =>
  (if a0 = 1 then some v1 else
  (if a0 = 2 then some a1 else
  (if a0 = 3 then some v1 else
  (if a0 = 4 then some (10 - a1) else
  (if a0 = 5 then (TJ9_min_7cf53 2 v1).bind fun v6 =>
  some v6 else
  some a1)))))
theorem eqX1_sideOf (t : Nat) (ct : Nat → ClassId) (a0 : Int32) (a1 : Int32) : X1_sideOf a0 a1 = (TX1_sideOf a0 a1).map id := by
  show EQ _ _ _
  unfold X1_sideOf TX1_sideOf
  refine e_bind rfl ?_
  intro v1
  refine e_ite ?_ ?_
  · exact e_ret rfl
  refine e_ite ?_ ?_
  · exact e_ret rfl
  refine e_ite ?_ ?_
  · exact e_ret rfl
  refine e_ite ?_ ?_
  · exact e_ret rfl
  refine e_ite ?_ ?_
  · refine e_call (eqJ9_min_7cf53 t ct 2 v1) ?_
    intro v6
    exact e_ret rfl
  exact e_ret rfl
def TX1_holdsOf_J10 (l1 : Int32) : Option (Int32) := some (2 * l1)
theorem eqX1_holdsOf_J10 (t : Nat) (ct : Nat → ClassId) : ∀ (l1 : Int32), EQ (X1_holdsOf_J10 l1) (TX1_holdsOf_J10 l1) id := by
  intro l1
  unfold X1_holdsOf_J10 TX1_holdsOf_J10
  exact e_ret rfl
def TX1_holdsOf (a0 : Int32) (a1 : Int32) : Option (Int32) := (if a0 = 2 then TX1_holdsOf_J10 a1 else
  (if a0 = 4 then TX1_holdsOf_J10 a1 else
  some a1))
theorem eqX1_holdsOf (t : Nat) (ct : Nat → ClassId) (a0 : Int32) (a1 : Int32) : X1_holdsOf a0 a1 = (TX1_holdsOf a0 a1).map id := by
  show EQ _ _ _
  unfold X1_holdsOf TX1_holdsOf
  refine e_ite ?_ ?_
  · exact eqX1_holdsOf_J10 t ct a1
  · refine e_ite ?_ ?_
    · exact eqX1_holdsOf_J10 t ct a1
    · exact e_ret rfl
def TX1_finOf (a0 : Int32) : Option (Int32) := (if a0 = 3 then some 1 else
  some 0)
theorem eqX1_finOf (t : Nat) (ct : Nat → ClassId) (a0 : Int32) : X1_finOf a0 = (TX1_finOf a0).map id := by
  show EQ _ _ _
  unfold X1_finOf TX1_finOf
  refine e_ite ?_ ?_
  · exact e_ret rfl
  · exact e_ret rfl
def TX0_make (a0 : Nat) (a1 : Int32) (S : SS) : Option (SS) := (aget 8 (S.2.2.1 (a0 + 1)) a1).bind fun v3 =>
  (aget 8 (S.2.2.1 (a0 + 2)) a1).bind fun v5 =>
  (TX1_sideOf v3 v5).bind fun v6 =>
  (if jin a1 8 then letS (sAI S (a0 + 5) (Int32.toNatClampNeg a1) v6) fun S7 =>
  (aget 8 (S7.2.2.1 (a0 + 1)) a1).bind fun v10 =>
  (aget 8 (S7.2.2.1 (a0 + 3)) a1).bind fun v12 =>
  (TX1_holdsOf v10 v12).bind fun v13 =>
  (if jin a1 8 then letS (sAI S7 (a0 + 6) (Int32.toNatClampNeg a1) v13) fun S14 =>
  (aget 8 (S14.2.2.1 (a0 + 1)) a1).bind fun v17 =>
  (TX1_finOf v17).bind fun v18 =>
  (if jin a1 8 then letS (sAI S14 (a0 + 7) (Int32.toNatClampNeg a1) v18) fun S19 =>
  some S19 else
  none) else
  none) else
  none)
theorem eqX0_make (t : Nat) (ct : Nat → ClassId) (a0 : Nat) (a1 : Int32) (h0 : isB a0) (S : SS) : X0_make (t + a0) a1 (HH t ct S) = (TX0_make a0 a1 S).map (HH t ct) := by
  show EQ _ _ _
  unfold X0_make TX0_make
  refine e_get (HH_vO h0.1) ?_
  refine e_get (HH_gR h0.1 rfl) ?_
  refine e_get (HH_gR h0.1 rfl) ?_
  refine e_bind (HH_aI h0.2.1) ?_
  intro v3
  refine e_get (HH_gR h0.1 rfl) ?_
  refine e_bind (HH_aI h0.2.2.1) ?_
  intro v5
  refine e_call (eqX1_sideOf t ct v3 v5) ?_
  intro v6
  refine e_wrS (HH_wI h0.2.2.2.2.2.1) ?_
  intro S7
  refine e_get (HH_gR h0.1 rfl) ?_
  refine e_get (HH_gR h0.1 rfl) ?_
  refine e_bind (HH_aI h0.2.1) ?_
  intro v10
  refine e_get (HH_gR h0.1 rfl) ?_
  refine e_bind (HH_aI h0.2.2.2.1) ?_
  intro v12
  refine e_call (eqX1_holdsOf t ct v10 v12) ?_
  intro v13
  refine e_wrS (HH_wI h0.2.2.2.2.2.2.1) ?_
  intro S14
  refine e_get (HH_gR h0.1 rfl) ?_
  refine e_get (HH_gR h0.1 rfl) ?_
  refine e_bind (HH_aI h0.2.1) ?_
  intro v17
  refine e_call (eqX1_finOf t ct v17) ?_
  intro v18
  refine e_wrS (HH_wI h0.2.2.2.2.2.2.2.1) ?_
  intro S19
  exact e_ret rfl
def TX0_append (a0 : Nat) (a1 : Int32) (a2 : Int32) (a3 : Int32) (a4 : Int32) (S : SS) : Option (Int32 × SS) := (if (S.1 a0 0) < 8 then letS (sFI S a0 0 ((S.1 a0 0) + 1)) fun S4 =>
  (if jin (S.1 a0 0) 8 then letS (sAI S4 (a0 + 1) (Int32.toNatClampNeg (S.1 a0 0)) a1) fun S6 =>
  (if jin (S.1 a0 0) 8 then letS (sAI S6 (a0 + 2) (Int32.toNatClampNeg (S.1 a0 0)) a2) fun S8 =>
  (if jin (S.1 a0 0) 8 then letS (sAI S8 (a0 + 3) (Int32.toNatClampNeg (S.1 a0 0)) a3) fun S10 =>
  (if jin (S.1 a0 0) 8 then letS (sAI S10 (a0 + 4) (Int32.toNatClampNeg (S.1 a0 0)) 0) fun S12 =>
  (if jin (S.1 a0 0) 8 then letS (sAL S12 (a0 + 8) (Int32.toNatClampNeg (S.1 a0 0)) ((Int32.toInt64 a4) * (S12.2.1 a0 9))) fun S15 =>
  (TX0_make a0 (S.1 a0 0) S15).bind fun q16 =>
  some ((S.1 a0 0), q16) else
  none) else
  none) else
  none) else
  none) else
  none) else
  some ((-4), S))
theorem eqX0_append (t : Nat) (ct : Nat → ClassId) (a0 : Nat) (a1 : Int32) (a2 : Int32) (a3 : Int32) (a4 : Int32) (h0 : isB a0) (S : SS) : X0_append (t + a0) a1 a2 a3 a4 (HH t ct S) = (TX0_append a0 a1 a2 a3 a4 S).map (hwI t ct) := by
  show EQ _ _ _
  unfold X0_append TX0_append
  refine e_get (HH_vO h0.1) ?_
  refine e_get (HH_gI h0.1 rfl) ?_
  refine e_ite ?_ ?_
  · refine e_get (HH_gI h0.1 rfl) ?_
    refine e_get (HH_gI h0.1 rfl) ?_
    refine e_put (HH_pI h0.1 rfl) ?_
    intro S4
    refine e_get (HH_gR h0.1 rfl) ?_
    refine e_wrS (HH_wI h0.2.1) ?_
    intro S6
    refine e_get (HH_gR h0.1 rfl) ?_
    refine e_wrS (HH_wI h0.2.2.1) ?_
    intro S8
    refine e_get (HH_gR h0.1 rfl) ?_
    refine e_wrS (HH_wI h0.2.2.2.1) ?_
    intro S10
    refine e_get (HH_gR h0.1 rfl) ?_
    refine e_wrS (HH_wI h0.2.2.2.2.1) ?_
    intro S12
    refine e_get (HH_gR h0.1 rfl) ?_
    refine e_get (HH_gL h0.1 rfl) ?_
    refine e_wrS (HH_wL h0.2.2.2.2.2.2.2.2.1) ?_
    intro S15
    refine e_call (eqX0_make t ct a0 (S.1 a0 0) h0 S15) ?_
    intro q16
    exact e_ret rfl
  · exact e_ret rfl
def TX2_append (a0 : Nat) (a1 : Int32) (a2 : Int32) (a3 : Int32) (S : SS) : Option (Int32 × SS) := (if (S.1 a0 3) < 12 then (if jin (S.1 a0 3) 12 then letS (sAI S (a0 + 1) (Int32.toNatClampNeg (S.1 a0 3)) a1) fun S4 =>
  (if jin (S4.1 a0 3) 12 then letS (sAI S4 (a0 + 2) (Int32.toNatClampNeg (S4.1 a0 3)) a2) fun S7 =>
  (if jin (S7.1 a0 3) 12 then letS (sAI S7 (a0 + 3) (Int32.toNatClampNeg (S7.1 a0 3)) a3) fun S10 =>
  letS (sFI S10 a0 3 ((S10.1 a0 3) + 1)) fun S12 =>
  some ((S12.1 a0 3), S12) else
  none) else
  none) else
  none) else
  some ((-4), S))
theorem eqX2_append (t : Nat) (ct : Nat → ClassId) (a0 : Nat) (a1 : Int32) (a2 : Int32) (a3 : Int32) (h0 : isP a0) (S : SS) : X2_append (t + a0) a1 a2 a3 (HH t ct S) = (TX2_append a0 a1 a2 a3 S).map (hwI t ct) := by
  show EQ _ _ _
  unfold X2_append TX2_append
  refine e_get (HH_vO h0.1) ?_
  refine e_get (HH_gI h0.1 rfl) ?_
  refine e_ite ?_ ?_
  · refine e_get (HH_gR h0.1 rfl) ?_
    refine e_get (HH_gI h0.1 rfl) ?_
    refine e_wrS (HH_wI h0.2.1) ?_
    intro S4
    refine e_get (HH_gR h0.1 rfl) ?_
    refine e_get (HH_gI h0.1 rfl) ?_
    refine e_wrS (HH_wI h0.2.2.1) ?_
    intro S7
    refine e_get (HH_gR h0.1 rfl) ?_
    refine e_get (HH_gI h0.1 rfl) ?_
    refine e_wrS (HH_wI h0.2.2.2) ?_
    intro S10
    refine e_get (HH_gI h0.1 rfl) ?_
    refine e_put (HH_pI h0.1 rfl) ?_
    intro S12
    refine e_get (HH_gI h0.1 rfl) ?_
    exact e_ret rfl
  · exact e_ret rfl
def TX2_removeOf_L12 (a0 : Nat) : Nat → Int32 → Int32 → Int32 → SS → Option (Int32 × SS)
  | 0, _, _, _, _ => none
  | n + 1, l1, l2, l3, S => (if l2 ≤ l3 then some ((l2 - (S.1 a0 3)), S) else
  (aget 12 (S.2.2.1 (a0 + 1)) l3).bind fun v5 =>
  (if v5 = l1 then TX2_removeOf_L12 a0 n l1 l2 (l3 + 1) S else
  (aget 12 (S.2.2.1 (a0 + 1)) l3).bind fun v7 =>
  (aget 12 (S.2.2.1 (a0 + 2)) l3).bind fun v9 =>
  (aget 12 (S.2.2.1 (a0 + 3)) l3).bind fun v11 =>
  (TX2_append a0 v7 v9 v11 S).bind fun q12 =>
  TX2_removeOf_L12 a0 n l1 l2 (l3 + 1) q12.2))
theorem eqX2_removeOf_L12 (t : Nat) (ct : Nat → ClassId) (a0 : Nat) (h0 : isP a0) : ∀ (n : Nat), ∀ (l1 : Int32) (l2 : Int32) (l3 : Int32) (S : SS), EQ (X2_removeOf_L12 n (t + a0) l1 l2 l3 (HH t ct S)) (TX2_removeOf_L12 a0 n l1 l2 l3 S) (hwI t ct) := by
  intro n
  induction n with
  | zero => intro l1 l2 l3 S; exact e_none
  | succ n ih =>
    intro l1 l2 l3 S
    unfold X2_removeOf_L12 TX2_removeOf_L12
    refine e_ite ?_ ?_
    · refine e_get (HH_gI h0.1 rfl) ?_
      exact e_ret rfl
    · refine e_get (HH_gR h0.1 rfl) ?_
      refine e_bind (HH_aI h0.2.1) ?_
      intro v5
      refine e_ite ?_ ?_
      · exact ih l1 l2 (l3 + 1) S
      · refine e_get (HH_gR h0.1 rfl) ?_
        refine e_bind (HH_aI h0.2.1) ?_
        intro v7
        refine e_get (HH_gR h0.1 rfl) ?_
        refine e_bind (HH_aI h0.2.2.1) ?_
        intro v9
        refine e_get (HH_gR h0.1 rfl) ?_
        refine e_bind (HH_aI h0.2.2.2) ?_
        intro v11
        refine e_call (eqX2_append t ct a0 v7 v9 v11 h0 S) ?_
        intro q12
        exact ih l1 l2 (l3 + 1) q12.2
def TX2_removeOf (a0 : Nat) (a1 : Int32) (S : SS) : Option (Int32 × SS) := letS (sFI S a0 3 0) fun S2 =>
  TX2_removeOf_L12 a0 fu a1 (S.1 a0 3) 0 S2
theorem eqX2_removeOf (t : Nat) (ct : Nat → ClassId) (a0 : Nat) (a1 : Int32) (h0 : isP a0) (S : SS) : X2_removeOf (t + a0) a1 (HH t ct S) = (TX2_removeOf a0 a1 S).map (hwI t ct) := by
  show EQ _ _ _
  unfold X2_removeOf TX2_removeOf
  refine e_get (HH_vO h0.1) ?_
  refine e_get (HH_gI h0.1 rfl) ?_
  refine e_put (HH_pI h0.1 rfl) ?_
  intro S2
  exact eqX2_removeOf_L12 t ct a0 h0 fu a1 (S.1 a0 3) 0 S2
def TJ9_abs_067f4 (a0 : Int64) : Option (Int64) := (if 0 ≤ a0 then some a0 else
  some (-a0))
theorem eqJ9_abs_067f4 (t : Nat) (ct : Nat → ClassId) (a0 : Int64) : J9_abs_067f4 a0 = (TJ9_abs_067f4 a0).map id := by
  show EQ _ _ _
  unfold J9_abs_067f4 TJ9_abs_067f4
  refine e_ite ?_ ?_
  · exact e_ret rfl
  · exact e_ret rfl
def TX6_commonDivisor_L15 : Nat → Int64 → Int64 → Int32 → Option (Int64)
  | 0, _, _, _ => none
  | n + 1, l4, l6, l8 => (if 1000 ≤ l8 then some l4 else
  (if l6 = 0 then some l4 else
  (o_lrem l4 l6).bind fun v3 =>
  TX6_commonDivisor_L15 n l6 v3 (l8 + 1)))
theorem eqX6_commonDivisor_L15 (t : Nat) (ct : Nat → ClassId) : ∀ (n : Nat), ∀ (l4 : Int64) (l6 : Int64) (l8 : Int32), EQ (X6_commonDivisor_L15 n l4 l6 l8) (TX6_commonDivisor_L15 n l4 l6 l8) id := by
  intro n
  induction n with
  | zero => intro l4 l6 l8; exact e_none
  | succ n ih =>
    intro l4 l6 l8
    unfold X6_commonDivisor_L15 TX6_commonDivisor_L15
    refine e_ite ?_ ?_
    · exact e_ret rfl
    · refine e_ite ?_ ?_
      · exact e_ret rfl
      · refine e_bind rfl ?_
        intro v3
        exact ih l6 v3 (l8 + 1)
def TX6_commonDivisor (a0 : Int64) (a1 : Int64) : Option (Int64) := (TJ9_abs_067f4 a0).bind fun v1 =>
  (TJ9_abs_067f4 a1).bind fun v2 =>
  TX6_commonDivisor_L15 fu v1 v2 0
theorem eqX6_commonDivisor (t : Nat) (ct : Nat → ClassId) (a0 : Int64) (a1 : Int64) : X6_commonDivisor a0 a1 = (TX6_commonDivisor a0 a1).map id := by
  show EQ _ _ _
  unfold X6_commonDivisor TX6_commonDivisor
  refine e_call (eqJ9_abs_067f4 t ct a0) ?_
  intro v1
  refine e_call (eqJ9_abs_067f4 t ct a1) ?_
  intro v2
  exact eqX6_commonDivisor_L15 t ct fu v1 v2 0
def TX6_quotient (a0 : Int64) (a1 : Int64) : Option (Int64) := (if a1 = 0 then some 0 else
  (o_ldiv a0 a1).bind fun v1 =>
  some v1)
theorem eqX6_quotient (t : Nat) (ct : Nat → ClassId) (a0 : Int64) (a1 : Int64) : X6_quotient a0 a1 = (TX6_quotient a0 a1).map id := by
  show EQ _ _ _
  unfold X6_quotient TX6_quotient
  refine e_ite ?_ ?_
  · exact e_ret rfl
  · refine e_bind rfl ?_
    intro v1
    exact e_ret rfl
def TX0_reduce_L35 (a0 : Nat) (a1 n1 : Nat) : Nat → Int64 → Int64 → Int32 → SS → Option (Int64 × SS)
  | 0, _, _, _, _ => none
  | n + 1, l2, l4, l6, S => (if (S.1 a0 0) ≤ l6 then (TX6_quotient l2 l4).bind fun v3 =>
  some (v3, S) else
  (aget n1 (S.2.2.2 a1) l6).bind fun v4 =>
  (TX6_quotient v4 l4).bind fun v5 =>
  (if jin l6 n1 then letS (sAL S a1 (Int32.toNatClampNeg l6) v5) fun S6 =>
  TX0_reduce_L35 a0 a1 n1 n l2 l4 (l6 + 1) S6 else
  none))
theorem eqX0_reduce_L35 (t : Nat) (ct : Nat → ClassId) (a0 : Nat) (a1 n1 : Nat) {z1 : Nat} (h0 : isB a0) (h1 : SHL[a1]? = some (.inr (1, n1, z1))) : ∀ (n : Nat), ∀ (l2 : Int64) (l4 : Int64) (l6 : Int32) (S : SS), EQ (X0_reduce_L35 n (t + a0) (t + a1) l2 l4 l6 (HH t ct S)) (TX0_reduce_L35 a0 a1 n1 n l2 l4 l6 S) (hwL t ct) := by
  intro n
  induction n with
  | zero => intro l2 l4 l6 S; exact e_none
  | succ n ih =>
    intro l2 l4 l6 S
    unfold X0_reduce_L35 TX0_reduce_L35
    refine e_get (HH_gI h0.1 rfl) ?_
    refine e_ite ?_ ?_
    · refine e_call (eqX6_quotient t ct l2 l4) ?_
      intro v3
      exact e_ret rfl
    · refine e_bind (HH_aL h1) ?_
      intro v4
      refine e_call (eqX6_quotient t ct v4 l4) ?_
      intro v5
      refine e_wrS (HH_wL h1) ?_
      intro S6
      exact ih l2 l4 (l6 + 1) S6
def TX0_reduce_L6 (a0 : Nat) (a1 n1 : Nat) : Nat → Int64 → Int64 → Int32 → SS → Option (Int64 × SS)
  | 0, _, _, _, _ => none
  | n + 1, l2, l4, l6, S => (if (S.1 a0 0) ≤ l6 then TX0_reduce_L35 a0 a1 n1 fu l2 l4 0 S else
  (aget n1 (S.2.2.2 a1) l6).bind fun v7 =>
  (TX6_commonDivisor l4 v7).bind fun v8 =>
  TX0_reduce_L6 a0 a1 n1 n l2 v8 (l6 + 1) S)
theorem eqX0_reduce_L6 (t : Nat) (ct : Nat → ClassId) (a0 : Nat) (a1 n1 : Nat) {z1 : Nat} (h0 : isB a0) (h1 : SHL[a1]? = some (.inr (1, n1, z1))) : ∀ (n : Nat), ∀ (l2 : Int64) (l4 : Int64) (l6 : Int32) (S : SS), EQ (X0_reduce_L6 n (t + a0) (t + a1) l2 l4 l6 (HH t ct S)) (TX0_reduce_L6 a0 a1 n1 n l2 l4 l6 S) (hwL t ct) := by
  intro n
  induction n with
  | zero => intro l2 l4 l6 S; exact e_none
  | succ n ih =>
    intro l2 l4 l6 S
    unfold X0_reduce_L6 TX0_reduce_L6
    refine e_get (HH_gI h0.1 rfl) ?_
    refine e_ite ?_ ?_
    · exact eqX0_reduce_L35 t ct a0 a1 n1 h0 h1 fu l2 l4 0 S
    · refine e_bind (HH_aL h1) ?_
      intro v7
      refine e_call (eqX6_commonDivisor t ct l4 v7) ?_
      intro v8
      exact ih l2 v8 (l6 + 1) S
def TX0_reduce (a0 : Nat) (a1 n1 : Nat) (a2 : Int64) (S : SS) : Option (Int64 × SS) := TX0_reduce_L6 a0 a1 n1 fu a2 a2 0 S
theorem eqX0_reduce (t : Nat) (ct : Nat → ClassId) (a0 : Nat) (a1 n1 : Nat) (a2 : Int64) {z1 : Nat} (h0 : isB a0) (h1 : SHL[a1]? = some (.inr (1, n1, z1))) (S : SS) : X0_reduce (t + a0) (t + a1) a2 (HH t ct S) = (TX0_reduce a0 a1 n1 a2 S).map (hwL t ct) := by
  show EQ _ _ _
  unfold X0_reduce TX0_reduce
  refine e_get (HH_vO h0.1) ?_
  exact eqX0_reduce_L6 t ct a0 a1 n1 h0 h1 fu a2 a2 0 S
def TX0_removeLatest (a0 : Nat) (S : SS) : Option (SS) := (if (S.1 a0 0) ≤ 0 then some S else
  letS (sFI S a0 0 ((S.1 a0 0) - 1)) fun S3 =>
  (TX2_removeOf (a0 + 10) (S3.1 a0 0) S3).bind fun q6 =>
  (TX0_reduce a0 (a0 + 8) 8 (q6.2.2.1 a0 9) q6.2).bind fun q9 =>
  letS (sFL q9.2 a0 9 q9.1) fun S10 =>
  some S10)
theorem eqX0_removeLatest (t : Nat) (ct : Nat → ClassId) (a0 : Nat) (h0 : isB a0) (S : SS) : X0_removeLatest (t + a0) (HH t ct S) = (TX0_removeLatest a0 S).map (HH t ct) := by
  show EQ _ _ _
  unfold X0_removeLatest TX0_removeLatest
  refine e_get (HH_vO h0.1) ?_
  refine e_get (HH_gI h0.1 rfl) ?_
  refine e_ite ?_ ?_
  · exact e_ret rfl
  · refine e_get (HH_gI h0.1 rfl) ?_
    refine e_put (HH_pI h0.1 rfl) ?_
    intro S3
    refine e_get (HH_gR h0.1 rfl) ?_
    refine e_get (HH_gI h0.1 rfl) ?_
    refine e_call (eqX2_removeOf t ct (a0 + 10) (S3.1 a0 0) h0.2.2.2.2.2.2.2.2.2.2.1 S3) ?_
    intro q6
    refine e_get (HH_gR h0.1 rfl) ?_
    refine e_get (HH_gL h0.1 rfl) ?_
    refine e_call (eqX0_reduce t ct a0 (a0 + 8) 8 (q6.2.2.1 a0 9) h0 h0.2.2.2.2.2.2.2.2.1 q6.2) ?_
    intro q9
    refine e_put (HH_pL h0.1 rfl) ?_
    intro S10
    exact e_ret rfl
def TX0_changeKind (a0 : Nat) (a1 : Int32) (a2 : Int32) (S : SS) : Option (Int32 × SS) := (aget 8 (S.2.2.1 (a0 + 1)) a1).bind fun v2 =>
  (if jin a1 8 then letS (sAI S (a0 + 1) (Int32.toNatClampNeg a1) a2) fun S4 =>
  (TX0_make a0 a1 S4).bind fun q5 =>
  some (v2, q5) else
  none)
theorem eqX0_changeKind (t : Nat) (ct : Nat → ClassId) (a0 : Nat) (a1 : Int32) (a2 : Int32) (h0 : isB a0) (S : SS) : X0_changeKind (t + a0) a1 a2 (HH t ct S) = (TX0_changeKind a0 a1 a2 S).map (hwI t ct) := by
  show EQ _ _ _
  unfold X0_changeKind TX0_changeKind
  refine e_get (HH_vO h0.1) ?_
  refine e_get (HH_gR h0.1 rfl) ?_
  refine e_bind (HH_aI h0.2.1) ?_
  intro v2
  refine e_get (HH_gR h0.1 rfl) ?_
  refine e_wrS (HH_wI h0.2.1) ?_
  intro S4
  refine e_call (eqX0_make t ct a0 a1 h0 S4) ?_
  intro q5
  exact e_ret rfl
def TX0_changeK (a0 : Nat) (a1 : Int32) (a2 : Int32) (S : SS) : Option (Int32 × SS) := (aget 8 (S.2.2.1 (a0 + 2)) a1).bind fun v2 =>
  (if jin a1 8 then letS (sAI S (a0 + 2) (Int32.toNatClampNeg a1) a2) fun S4 =>
  (TX0_make a0 a1 S4).bind fun q5 =>
  some (v2, q5) else
  none)
theorem eqX0_changeK (t : Nat) (ct : Nat → ClassId) (a0 : Nat) (a1 : Int32) (a2 : Int32) (h0 : isB a0) (S : SS) : X0_changeK (t + a0) a1 a2 (HH t ct S) = (TX0_changeK a0 a1 a2 S).map (hwI t ct) := by
  show EQ _ _ _
  unfold X0_changeK TX0_changeK
  refine e_get (HH_vO h0.1) ?_
  refine e_get (HH_gR h0.1 rfl) ?_
  refine e_bind (HH_aI h0.2.2.1) ?_
  intro v2
  refine e_get (HH_gR h0.1 rfl) ?_
  refine e_wrS (HH_wI h0.2.2.1) ?_
  intro S4
  refine e_call (eqX0_make t ct a0 a1 h0 S4) ?_
  intro q5
  exact e_ret rfl
def TX0_changeC (a0 : Nat) (a1 : Int32) (a2 : Int32) (S : SS) : Option (Int32 × SS) := (aget 8 (S.2.2.1 (a0 + 3)) a1).bind fun v2 =>
  (if jin a1 8 then letS (sAI S (a0 + 3) (Int32.toNatClampNeg a1) a2) fun S4 =>
  (TX0_make a0 a1 S4).bind fun q5 =>
  some (v2, q5) else
  none)
theorem eqX0_changeC (t : Nat) (ct : Nat → ClassId) (a0 : Nat) (a1 : Int32) (a2 : Int32) (h0 : isB a0) (S : SS) : X0_changeC (t + a0) a1 a2 (HH t ct S) = (TX0_changeC a0 a1 a2 S).map (hwI t ct) := by
  show EQ _ _ _
  unfold X0_changeC TX0_changeC
  refine e_get (HH_vO h0.1) ?_
  refine e_get (HH_gR h0.1 rfl) ?_
  refine e_bind (HH_aI h0.2.2.2.1) ?_
  intro v2
  refine e_get (HH_gR h0.1 rfl) ?_
  refine e_wrS (HH_wI h0.2.2.2.1) ?_
  intro S4
  refine e_call (eqX0_make t ct a0 a1 h0 S4) ?_
  intro q5
  exact e_ret rfl
def TX0_changeSource (a0 : Nat) (a1 : Int32) (a2 : Int32) (S : SS) : Option (Int32 × SS) := (aget 8 (S.2.2.1 (a0 + 4)) a1).bind fun v2 =>
  (if jin a1 8 then letS (sAI S (a0 + 4) (Int32.toNatClampNeg a1) a2) fun S4 =>
  some (v2, S4) else
  none)
theorem eqX0_changeSource (t : Nat) (ct : Nat → ClassId) (a0 : Nat) (a1 : Int32) (a2 : Int32) (h0 : isB a0) (S : SS) : X0_changeSource (t + a0) a1 a2 (HH t ct S) = (TX0_changeSource a0 a1 a2 S).map (hwI t ct) := by
  show EQ _ _ _
  unfold X0_changeSource TX0_changeSource
  refine e_get (HH_vO h0.1) ?_
  refine e_get (HH_gR h0.1 rfl) ?_
  refine e_bind (HH_aI h0.2.2.2.2.1) ?_
  intro v2
  refine e_get (HH_gR h0.1 rfl) ?_
  refine e_wrS (HH_wI h0.2.2.2.2.1) ?_
  intro S4
  exact e_ret rfl
def TX0_changeHeat (a0 : Nat) (a1 : Int32) (a2 : Int32) (S : SS) : Option (SS) := (if jin a1 8 then letS (sAL S (a0 + 8) (Int32.toNatClampNeg a1) ((Int32.toInt64 a2) * (S.2.1 a0 9))) fun S3 =>
  (TX0_reduce a0 (a0 + 8) 8 (S3.2.1 a0 9) S3).bind fun q6 =>
  letS (sFL q6.2 a0 9 q6.1) fun S7 =>
  some S7 else
  none)
theorem eqX0_changeHeat (t : Nat) (ct : Nat → ClassId) (a0 : Nat) (a1 : Int32) (a2 : Int32) (h0 : isB a0) (S : SS) : X0_changeHeat (t + a0) a1 a2 (HH t ct S) = (TX0_changeHeat a0 a1 a2 S).map (HH t ct) := by
  show EQ _ _ _
  unfold X0_changeHeat TX0_changeHeat
  refine e_get (HH_vO h0.1) ?_
  refine e_get (HH_gR h0.1 rfl) ?_
  refine e_get (HH_gL h0.1 rfl) ?_
  refine e_wrS (HH_wL h0.2.2.2.2.2.2.2.2.1) ?_
  intro S3
  refine e_get (HH_gR h0.1 rfl) ?_
  refine e_get (HH_gL h0.1 rfl) ?_
  refine e_call (eqX0_reduce t ct a0 (a0 + 8) 8 (S3.2.1 a0 9) h0 h0.2.2.2.2.2.2.2.2.1 S3) ?_
  intro q6
  refine e_put (HH_pL h0.1 rfl) ?_
  intro S7
  exact e_ret rfl
def TX0_warm (a0 : Nat) (a1 : Int32) (a2 : Int32) (S : SS) : Option (SS) := (aget 8 (S.2.2.2 (a0 + 8)) a1).bind fun v2 =>
  (if jin a1 8 then letS (sAL S (a0 + 8) (Int32.toNatClampNeg a1) (v2 + ((Int32.toInt64 a2) * (S.2.1 a0 9)))) fun S4 =>
  some S4 else
  none)
theorem eqX0_warm (t : Nat) (ct : Nat → ClassId) (a0 : Nat) (a1 : Int32) (a2 : Int32) (h0 : isB a0) (S : SS) : X0_warm (t + a0) a1 a2 (HH t ct S) = (TX0_warm a0 a1 a2 S).map (HH t ct) := by
  show EQ _ _ _
  unfold X0_warm TX0_warm
  refine e_get (HH_vO h0.1) ?_
  refine e_get (HH_gR h0.1 rfl) ?_
  refine e_bind (HH_aL h0.2.2.2.2.2.2.2.2.1) ?_
  intro v2
  refine e_get (HH_gL h0.1 rfl) ?_
  refine e_wrS (HH_wL h0.2.2.2.2.2.2.2.2.1) ?_
  intro S4
  exact e_ret rfl
def TX6_firstGreatest_L4 (S : SS) (a0 n0 : Nat) : Nat → Int32 → Int32 → Int32 → Option (Int32)
  | 0, _, _, _ => none
  | n + 1, l1, l2, l3 => (if l1 ≤ l3 then some l2 else
  (if l2 = (-1) then TX6_firstGreatest_L4 S a0 n0 n l1 l3 (l3 + 1) else
  (aget n0 (S.2.2.2 a0) l3).bind fun v1 =>
  (aget n0 (S.2.2.2 a0) l2).bind fun v2 =>
  (if v1 ≤ v2 then TX6_firstGreatest_L4 S a0 n0 n l1 l2 (l3 + 1) else
  TX6_firstGreatest_L4 S a0 n0 n l1 l3 (l3 + 1))))
theorem eqX6_firstGreatest_L4 (t : Nat) (ct : Nat → ClassId) (a0 n0 : Nat) {z0 : Nat} (h0 : SHL[a0]? = some (.inr (1, n0, z0))) (S : SS) : ∀ (n : Nat), ∀ (l1 : Int32) (l2 : Int32) (l3 : Int32), EQ (X6_firstGreatest_L4 (HH t ct S) n (t + a0) l1 l2 l3) (TX6_firstGreatest_L4 S a0 n0 n l1 l2 l3) id := by
  intro n
  induction n with
  | zero => intro l1 l2 l3; exact e_none
  | succ n ih =>
    intro l1 l2 l3
    unfold X6_firstGreatest_L4 TX6_firstGreatest_L4
    refine e_ite ?_ ?_
    · exact e_ret rfl
    · refine e_ite ?_ ?_
      · exact ih l1 l3 (l3 + 1)
      · refine e_bind (HH_aL h0) ?_
        intro v1
        refine e_bind (HH_aL h0) ?_
        intro v2
        refine e_ite ?_ ?_
        · exact ih l1 l2 (l3 + 1)
        · exact ih l1 l3 (l3 + 1)
def TX6_firstGreatest (a0 n0 : Nat) (a1 : Int32) (S : SS) : Option (Int32) := TX6_firstGreatest_L4 S a0 n0 fu a1 (-1) 0
theorem eqX6_firstGreatest (t : Nat) (ct : Nat → ClassId) (a0 n0 : Nat) (a1 : Int32) {z0 : Nat} (h0 : SHL[a0]? = some (.inr (1, n0, z0))) (S : SS) : X6_firstGreatest (t + a0) a1 (HH t ct S) = (TX6_firstGreatest a0 n0 a1 S).map id := by
  show EQ _ _ _
  unfold X6_firstGreatest TX6_firstGreatest
  exact eqX6_firstGreatest_L4 t ct a0 n0 h0 S fu a1 (-1) 0
def TX0_hottestCell (a0 : Nat) (S : SS) : Option (Int32) := (TX6_firstGreatest (a0 + 8) 8 (S.1 a0 0) S).bind fun v3 =>
  some v3
theorem eqX0_hottestCell (t : Nat) (ct : Nat → ClassId) (a0 : Nat) (h0 : isB a0) (S : SS) : X0_hottestCell (t + a0) (HH t ct S) = (TX0_hottestCell a0 S).map id := by
  show EQ _ _ _
  unfold X0_hottestCell TX0_hottestCell
  refine e_get (HH_vO h0.1) ?_
  refine e_get (HH_gR h0.1 rfl) ?_
  refine e_get (HH_gI h0.1 rfl) ?_
  refine e_call (eqX6_firstGreatest t ct (a0 + 8) 8 (S.1 a0 0) h0.2.2.2.2.2.2.2.2.1 S) ?_
  intro v3
  exact e_ret rfl
def TX0_coldestCell_L4 (S : SS) (a0 : Nat) : Nat → Int32 → Int32 → Option (Int32)
  | 0, _, _ => none
  | n + 1, l1, l2 => (if (S.1 a0 0) ≤ l2 then some l1 else
  (if l1 = (-1) then TX0_coldestCell_L4 S a0 n l2 (l2 + 1) else
  (aget 8 (S.2.2.2 (a0 + 8)) l2).bind fun v3 =>
  (aget 8 (S.2.2.2 (a0 + 8)) l1).bind fun v5 =>
  (if v5 ≤ v3 then TX0_coldestCell_L4 S a0 n l1 (l2 + 1) else
  TX0_coldestCell_L4 S a0 n l2 (l2 + 1))))
theorem eqX0_coldestCell_L4 (t : Nat) (ct : Nat → ClassId) (a0 : Nat) (h0 : isB a0) (S : SS) : ∀ (n : Nat), ∀ (l1 : Int32) (l2 : Int32), EQ (X0_coldestCell_L4 (HH t ct S) n (t + a0) l1 l2) (TX0_coldestCell_L4 S a0 n l1 l2) id := by
  intro n
  induction n with
  | zero => intro l1 l2; exact e_none
  | succ n ih =>
    intro l1 l2
    unfold X0_coldestCell_L4 TX0_coldestCell_L4
    refine e_get (HH_gI h0.1 rfl) ?_
    refine e_ite ?_ ?_
    · exact e_ret rfl
    · refine e_ite ?_ ?_
      · exact ih l2 (l2 + 1)
      · refine e_get (HH_gR h0.1 rfl) ?_
        refine e_bind (HH_aL h0.2.2.2.2.2.2.2.2.1) ?_
        intro v3
        refine e_get (HH_gR h0.1 rfl) ?_
        refine e_bind (HH_aL h0.2.2.2.2.2.2.2.2.1) ?_
        intro v5
        refine e_ite ?_ ?_
        · exact ih l1 (l2 + 1)
        · exact ih l2 (l2 + 1)
def TX0_coldestCell (a0 : Nat) (S : SS) : Option (Int32) := TX0_coldestCell_L4 S a0 fu (-1) 0
theorem eqX0_coldestCell (t : Nat) (ct : Nat → ClassId) (a0 : Nat) (h0 : isB a0) (S : SS) : X0_coldestCell (t + a0) (HH t ct S) = (TX0_coldestCell a0 S).map id := by
  show EQ _ _ _
  unfold X0_coldestCell TX0_coldestCell
  refine e_get (HH_vO h0.1) ?_
  exact eqX0_coldestCell_L4 t ct a0 h0 S fu (-1) 0
def TX0_greatest (a0 : Nat) (S : SS) : Option (Int64) := (TX0_hottestCell a0 S).bind fun v1 =>
  (if v1 = (-1) then some 0 else
  (aget 8 (S.2.2.2 (a0 + 8)) v1).bind fun v3 =>
  some v3)
theorem eqX0_greatest (t : Nat) (ct : Nat → ClassId) (a0 : Nat) (h0 : isB a0) (S : SS) : X0_greatest (t + a0) (HH t ct S) = (TX0_greatest a0 S).map id := by
  show EQ _ _ _
  unfold X0_greatest TX0_greatest
  refine e_get (HH_vO h0.1) ?_
  refine e_call (eqX0_hottestCell t ct a0 h0 S) ?_
  intro v1
  refine e_ite ?_ ?_
  · exact e_ret rfl
  · refine e_get (HH_gR h0.1 rfl) ?_
    refine e_bind (HH_aL h0.2.2.2.2.2.2.2.2.1) ?_
    intro v3
    exact e_ret rfl
def TX0_least (a0 : Nat) (S : SS) : Option (Int64) := (TX0_coldestCell a0 S).bind fun v1 =>
  (if v1 = (-1) then some 0 else
  (aget 8 (S.2.2.2 (a0 + 8)) v1).bind fun v3 =>
  some v3)
theorem eqX0_least (t : Nat) (ct : Nat → ClassId) (a0 : Nat) (h0 : isB a0) (S : SS) : X0_least (t + a0) (HH t ct S) = (TX0_least a0 S).map id := by
  show EQ _ _ _
  unfold X0_least TX0_least
  refine e_get (HH_vO h0.1) ?_
  refine e_call (eqX0_coldestCell t ct a0 h0 S) ?_
  intro v1
  refine e_ite ?_ ?_
  · exact e_ret rfl
  · refine e_get (HH_gR h0.1 rfl) ?_
    refine e_bind (HH_aL h0.2.2.2.2.2.2.2.2.1) ?_
    intro v3
    exact e_ret rfl
def TX0_hasJoint (a0 : Nat) (a1 : Int32) (S : SS) : Option (Int32) := (if (S.1 a0 0) ≤ 0 then (zb 0).bind fun v2 => some v2 else
  (if a1 < (-1) then (zb 0).bind fun v3 => some v3 else
  (if (S.1 a0 0) ≤ a1 then (zb 0).bind fun v5 => some v5 else
  (zb 1).bind fun v6 => some v6)))
theorem eqX0_hasJoint (t : Nat) (ct : Nat → ClassId) (a0 : Nat) (a1 : Int32) (h0 : isB a0) (S : SS) : X0_hasJoint (t + a0) a1 (HH t ct S) = (TX0_hasJoint a0 a1 S).map id := by
  show EQ _ _ _
  unfold X0_hasJoint TX0_hasJoint
  refine e_get (HH_vO h0.1) ?_
  refine e_get (HH_gI h0.1 rfl) ?_
  refine e_ite ?_ ?_
  · exact e_bind rfl (fun _ => e_ret rfl)
  · refine e_ite ?_ ?_
    · exact e_bind rfl (fun _ => e_ret rfl)
    · refine e_get (HH_gI h0.1 rfl) ?_
      refine e_ite ?_ ?_
      · exact e_bind rfl (fun _ => e_ret rfl)
      · exact e_bind rfl (fun _ => e_ret rfl)
def TX0_leads (a0 : Nat) (a1 : Int32) (S : SS) : Option (Int32) := (TX0_hasJoint a0 a1 S).bind fun v1 =>
  (if v1 = 0 then some (-2) else
  (if 0 ≤ a1 then (if a1 = ((S.1 a0 0) - 1) then (aget 2 (S.2.2.1 (a0 + 9)) 1).bind fun v9 =>
  (if v9 = (-1) then some 0 else
  (aget 8 (S.2.2.1 (a0 + 5)) a1).bind fun v11 =>
  some v11) else
  (aget 8 (S.2.2.1 (a0 + 5)) a1).bind fun v4 =>
  (aget 8 (S.2.2.1 (a0 + 5)) (a1 + 1)).bind fun v6 =>
  (TJ9_min_7cf53 v4 v6).bind fun v7 =>
  some v7) else
  (aget 2 (S.2.2.1 (a0 + 9)) 0).bind fun v13 =>
  (if v13 = (-1) then some 0 else
  (aget 8 (S.2.2.1 (a0 + 5)) 0).bind fun v15 =>
  some v15)))
theorem eqX0_leads (t : Nat) (ct : Nat → ClassId) (a0 : Nat) (a1 : Int32) (h0 : isB a0) (S : SS) : X0_leads (t + a0) a1 (HH t ct S) = (TX0_leads a0 a1 S).map id := by
  show EQ _ _ _
  unfold X0_leads TX0_leads
  refine e_get (HH_vO h0.1) ?_
  refine e_call (eqX0_hasJoint t ct a0 a1 h0 S) ?_
  intro v1
  refine e_ite ?_ ?_
  · exact e_ret rfl
  · refine e_ite ?_ ?_
    · refine e_get (HH_gI h0.1 rfl) ?_
      refine e_ite ?_ ?_
      · refine e_get (HH_gR h0.1 rfl) ?_
        refine e_bind (HH_aI h0.2.2.2.2.2.2.2.2.2.1) ?_
        intro v9
        refine e_ite ?_ ?_
        · exact e_ret rfl
        · refine e_get (HH_gR h0.1 rfl) ?_
          refine e_bind (HH_aI h0.2.2.2.2.2.1) ?_
          intro v11
          exact e_ret rfl
      · refine e_get (HH_gR h0.1 rfl) ?_
        refine e_bind (HH_aI h0.2.2.2.2.2.1) ?_
        intro v4
        refine e_get (HH_gR h0.1 rfl) ?_
        refine e_bind (HH_aI h0.2.2.2.2.2.1) ?_
        intro v6
        refine e_call (eqJ9_min_7cf53 t ct v4 v6) ?_
        intro v7
        exact e_ret rfl
    · refine e_get (HH_gR h0.1 rfl) ?_
      refine e_bind (HH_aI h0.2.2.2.2.2.2.2.2.2.1) ?_
      intro v13
      refine e_ite ?_ ?_
      · exact e_ret rfl
      · refine e_get (HH_gR h0.1 rfl) ?_
        refine e_bind (HH_aI h0.2.2.2.2.2.1) ?_
        intro v15
        exact e_ret rfl
def TX0_flowAbove_J48 (S : SS) (a0 : Nat) (a2 n2 : Nat) (l1 : Int32) (l5 : Int64) (s0 : Int64) : Option (Int64) := (TX0_leads a0 l1 S).bind fun v4 =>
  some ((Int32.toInt64 v4) * (l5 - s0))
theorem eqX0_flowAbove_J48 (t : Nat) (ct : Nat → ClassId) (a0 : Nat) (a2 n2 : Nat) {z2 : Nat} (h0 : isB a0) (h2 : SHL[a2]? = some (.inr (1, n2, z2))) (S : SS) : ∀ (l1 : Int32) (l5 : Int64) (s0 : Int64), EQ (X0_flowAbove_J48 (HH t ct S) (t + a0) l1 l5 s0) (TX0_flowAbove_J48 S a0 a2 n2 l1 l5 s0) id := by
  intro l1 l5 s0
  unfold X0_flowAbove_J48 TX0_flowAbove_J48
  refine e_call (eqX0_leads t ct a0 l1 h0 S) ?_
  intro v4
  exact e_ret rfl
def TX0_flowAbove_J19 (S : SS) (a0 : Nat) (a2 n2 : Nat) (l1 : Int32) (l3 : Int64) (s0 : Int64) : Option (Int64) := (if l1 < ((S.1 a0 0) - 1) then (aget n2 (S.2.2.2 a2) (l1 + 1)).bind fun v3 =>
  TX0_flowAbove_J48 S a0 a2 n2 l1 s0 v3 else
  (aget 2 (S.2.2.1 (a0 + 9)) 1).bind fun v6 =>
  TX0_flowAbove_J48 S a0 a2 n2 l1 s0 ((Int32.toInt64 v6) * l3))
theorem eqX0_flowAbove_J19 (t : Nat) (ct : Nat → ClassId) (a0 : Nat) (a2 n2 : Nat) {z2 : Nat} (h0 : isB a0) (h2 : SHL[a2]? = some (.inr (1, n2, z2))) (S : SS) : ∀ (l1 : Int32) (l3 : Int64) (s0 : Int64), EQ (X0_flowAbove_J19 (HH t ct S) (t + a0) l1 (t + a2) l3 s0) (TX0_flowAbove_J19 S a0 a2 n2 l1 l3 s0) id := by
  intro l1 l3 s0
  unfold X0_flowAbove_J19 TX0_flowAbove_J19
  refine e_get (HH_gI h0.1 rfl) ?_
  refine e_ite ?_ ?_
  · refine e_bind (HH_aL h2) ?_
    intro v3
    exact eqX0_flowAbove_J48 t ct a0 a2 n2 h0 h2 S l1 s0 v3
  · refine e_get (HH_gR h0.1 rfl) ?_
    refine e_bind (HH_aI h0.2.2.2.2.2.2.2.2.2.1) ?_
    intro v6
    exact eqX0_flowAbove_J48 t ct a0 a2 n2 h0 h2 S l1 s0 ((Int32.toInt64 v6) * l3)
def TX0_flowAbove (a0 : Nat) (a1 : Int32) (a2 n2 : Nat) (a3 : Int64) (S : SS) : Option (Int64) := (if 0 ≤ a1 then (aget n2 (S.2.2.2 a2) a1).bind fun v1 =>
  TX0_flowAbove_J19 S a0 a2 n2 a1 a3 v1 else
  (aget 2 (S.2.2.1 (a0 + 9)) 0).bind fun v8 =>
  TX0_flowAbove_J19 S a0 a2 n2 a1 a3 ((Int32.toInt64 v8) * a3))
theorem eqX0_flowAbove (t : Nat) (ct : Nat → ClassId) (a0 : Nat) (a1 : Int32) (a2 n2 : Nat) (a3 : Int64) {z2 : Nat} (h0 : isB a0) (h2 : SHL[a2]? = some (.inr (1, n2, z2))) (S : SS) : X0_flowAbove (t + a0) a1 (t + a2) a3 (HH t ct S) = (TX0_flowAbove a0 a1 a2 n2 a3 S).map id := by
  show EQ _ _ _
  unfold X0_flowAbove TX0_flowAbove
  refine e_get (HH_vO h0.1) ?_
  refine e_ite ?_ ?_
  · refine e_bind (HH_aL h2) ?_
    intro v1
    exact eqX0_flowAbove_J19 t ct a0 a2 n2 h0 h2 S a1 a3 v1
  · refine e_get (HH_gR h0.1 rfl) ?_
    refine e_bind (HH_aI h0.2.2.2.2.2.2.2.2.2.1) ?_
    intro v8
    exact eqX0_flowAbove_J19 t ct a0 a2 n2 h0 h2 S a1 a3 ((Int32.toInt64 v8) * a3)
def TX0_loss (a0 : Nat) (a1 : Int32) (S : SS) : Option (Int32) := (TX0_leads a0 (a1 - 1) S).bind fun v1 =>
  (TX0_leads a0 a1 S).bind fun v2 =>
  (aget 8 (S.2.2.1 (a0 + 7)) a1).bind fun v4 =>
  some ((v1 + v2) + v4)
theorem eqX0_loss (t : Nat) (ct : Nat → ClassId) (a0 : Nat) (a1 : Int32) (h0 : isB a0) (S : SS) : X0_loss (t + a0) a1 (HH t ct S) = (TX0_loss a0 a1 S).map id := by
  show EQ _ _ _
  unfold X0_loss TX0_loss
  refine e_get (HH_vO h0.1) ?_
  refine e_call (eqX0_leads t ct a0 (a1 - 1) h0 S) ?_
  intro v1
  refine e_call (eqX0_leads t ct a0 a1 h0 S) ?_
  intro v2
  refine e_get (HH_gR h0.1 rfl) ?_
  refine e_bind (HH_aI h0.2.2.2.2.2.2.2.1) ?_
  intro v4
  exact e_ret rfl
def TX0_supply_J47 (S : SS) (a0 : Nat) (l1 : Int32) (l2 : Int32) (s0 : Int32) : Option (Int32) := (aget 8 (S.2.2.1 (a0 + 4)) l1).bind fun v3 =>
  (aget 8 (S.2.2.1 (a0 + 7)) l1).bind fun v5 =>
  some (((v3 + (v5 * (S.1 a0 12))) + l2) + s0)
theorem eqX0_supply_J47 (t : Nat) (ct : Nat → ClassId) (a0 : Nat) (h0 : isB a0) (S : SS) : ∀ (l1 : Int32) (l2 : Int32) (s0 : Int32), EQ (X0_supply_J47 (HH t ct S) (t + a0) l1 l2 s0) (TX0_supply_J47 S a0 l1 l2 s0) id := by
  intro l1 l2 s0
  unfold X0_supply_J47 TX0_supply_J47
  refine e_get (HH_gR h0.1 rfl) ?_
  refine e_bind (HH_aI h0.2.2.2.2.1) ?_
  intro v3
  refine e_get (HH_gR h0.1 rfl) ?_
  refine e_bind (HH_aI h0.2.2.2.2.2.2.2.1) ?_
  intro v5
  refine e_get (HH_gI h0.1 rfl) ?_
  exact e_ret rfl
def TX0_supply_J20 (S : SS) (a0 : Nat) (l1 : Int32) (s0 : Int32) : Option (Int32) := (if l1 = ((S.1 a0 0) - 1) then (TX0_leads a0 l1 S).bind fun v7 =>
  (aget 2 (S.2.2.1 (a0 + 9)) 1).bind fun v9 =>
  TX0_supply_J47 S a0 l1 s0 (v7 * v9) else
  TX0_supply_J47 S a0 l1 s0 0)
theorem eqX0_supply_J20 (t : Nat) (ct : Nat → ClassId) (a0 : Nat) (h0 : isB a0) (S : SS) : ∀ (l1 : Int32) (s0 : Int32), EQ (X0_supply_J20 (HH t ct S) (t + a0) l1 s0) (TX0_supply_J20 S a0 l1 s0) id := by
  intro l1 s0
  unfold X0_supply_J20 TX0_supply_J20
  refine e_get (HH_gI h0.1 rfl) ?_
  refine e_ite ?_ ?_
  · refine e_call (eqX0_leads t ct a0 l1 h0 S) ?_
    intro v7
    refine e_get (HH_gR h0.1 rfl) ?_
    refine e_bind (HH_aI h0.2.2.2.2.2.2.2.2.2.1) ?_
    intro v9
    exact eqX0_supply_J47 t ct a0 h0 S l1 s0 (v7 * v9)
  · exact eqX0_supply_J47 t ct a0 h0 S l1 s0 0
def TX0_supply (a0 : Nat) (a1 : Int32) (S : SS) : Option (Int32) := (if a1 = 0 then (TX0_leads a0 (-1) S).bind fun v10 =>
  (aget 2 (S.2.2.1 (a0 + 9)) 0).bind fun v12 =>
  TX0_supply_J20 S a0 a1 (v10 * v12) else
  TX0_supply_J20 S a0 a1 0)
theorem eqX0_supply (t : Nat) (ct : Nat → ClassId) (a0 : Nat) (a1 : Int32) (h0 : isB a0) (S : SS) : X0_supply (t + a0) a1 (HH t ct S) = (TX0_supply a0 a1 S).map id := by
  show EQ _ _ _
  unfold X0_supply TX0_supply
  refine e_get (HH_vO h0.1) ?_
  refine e_ite ?_ ?_
  · refine e_call (eqX0_leads t ct a0 (-1) h0 S) ?_
    intro v10
    refine e_get (HH_gR h0.1 rfl) ?_
    refine e_bind (HH_aI h0.2.2.2.2.2.2.2.2.2.1) ?_
    intro v12
    exact eqX0_supply_J20 t ct a0 h0 S a1 (v10 * v12)
  · exact eqX0_supply_J20 t ct a0 h0 S a1 0
def TX0_gain (a0 : Nat) (a1 : Int32) (S : SS) : Option (Int64) := (TX0_flowAbove a0 (a1 - 1) (a0 + 8) 8 (S.2.1 a0 9) S).bind fun v3 =>
  (TX0_flowAbove a0 a1 (a0 + 8) 8 (S.2.1 a0 9) S).bind fun v6 =>
  (aget 8 (S.2.2.1 (a0 + 7)) a1).bind fun v8 =>
  (aget 8 (S.2.2.2 (a0 + 8)) a1).bind fun v12 =>
  (aget 8 (S.2.2.1 (a0 + 4)) a1).bind fun v14 =>
  some (((v3 - v6) + ((Int32.toInt64 v8) * (((Int32.toInt64 (S.1 a0 12)) * (S.2.1 a0 9)) - v12))) + ((Int32.toInt64 v14) * (S.2.1 a0 9)))
theorem eqX0_gain (t : Nat) (ct : Nat → ClassId) (a0 : Nat) (a1 : Int32) (h0 : isB a0) (S : SS) : X0_gain (t + a0) a1 (HH t ct S) = (TX0_gain a0 a1 S).map id := by
  show EQ _ _ _
  unfold X0_gain TX0_gain
  refine e_get (HH_vO h0.1) ?_
  refine e_get (HH_gR h0.1 rfl) ?_
  refine e_get (HH_gL h0.1 rfl) ?_
  refine e_call (eqX0_flowAbove t ct a0 (a1 - 1) (a0 + 8) 8 (S.2.1 a0 9) h0 h0.2.2.2.2.2.2.2.2.1 S) ?_
  intro v3
  refine e_get (HH_gR h0.1 rfl) ?_
  refine e_get (HH_gL h0.1 rfl) ?_
  refine e_call (eqX0_flowAbove t ct a0 a1 (a0 + 8) 8 (S.2.1 a0 9) h0 h0.2.2.2.2.2.2.2.2.1 S) ?_
  intro v6
  refine e_get (HH_gR h0.1 rfl) ?_
  refine e_bind (HH_aI h0.2.2.2.2.2.2.2.1) ?_
  intro v8
  refine e_get (HH_gI h0.1 rfl) ?_
  refine e_get (HH_gL h0.1 rfl) ?_
  refine e_get (HH_gR h0.1 rfl) ?_
  refine e_bind (HH_aL h0.2.2.2.2.2.2.2.2.1) ?_
  intro v12
  refine e_get (HH_gR h0.1 rfl) ?_
  refine e_bind (HH_aI h0.2.2.2.2.1) ?_
  intro v14
  refine e_get (HH_gL h0.1 rfl) ?_
  exact e_ret rfl
def TX2_warmNext_L3 (a0 : Nat) (a1 n1 : Nat) : Nat → Int64 → Int32 → SS → Option (SS)
  | 0, _, _, _ => none
  | n + 1, l2, l4, S => (if (S.1 a0 3) ≤ l4 then some S else
  (aget 12 (S.2.2.1 (a0 + 1)) l4).bind fun v3 =>
  (aget 12 (S.2.2.1 (a0 + 2)) l4).bind fun v5 =>
  (if v5 = 1 then (if v3 < 0 then TX2_warmNext_L3 a0 a1 n1 n l2 (l4 + 1) S else
  (if (Int32.ofNat n1) ≤ v3 then TX2_warmNext_L3 a0 a1 n1 n l2 (l4 + 1) S else
  (aget n1 (S.2.2.2 a1) v3).bind fun v6 =>
  (aget 12 (S.2.2.1 (a0 + 3)) l4).bind fun v8 =>
  (if jin v3 n1 then letS (sAL S a1 (Int32.toNatClampNeg v3) (v6 + ((Int32.toInt64 v8) * l2))) fun S9 =>
  TX2_warmNext_L3 a0 a1 n1 n l2 (l4 + 1) S9 else
  none))) else
  TX2_warmNext_L3 a0 a1 n1 n l2 (l4 + 1) S))
theorem eqX2_warmNext_L3 (t : Nat) (ct : Nat → ClassId) (a0 : Nat) (a1 n1 : Nat) {z1 : Nat} (h0 : isP a0) (h1 : SHL[a1]? = some (.inr (1, n1, z1))) : ∀ (n : Nat), ∀ (l2 : Int64) (l4 : Int32) (S : SS), EQ (X2_warmNext_L3 n (t + a0) (t + a1) l2 l4 (HH t ct S)) (TX2_warmNext_L3 a0 a1 n1 n l2 l4 S) (HH t ct) := by
  intro n
  induction n with
  | zero => intro l2 l4 S; exact e_none
  | succ n ih =>
    intro l2 l4 S
    unfold X2_warmNext_L3 TX2_warmNext_L3
    refine e_get (HH_gI h0.1 rfl) ?_
    refine e_ite ?_ ?_
    · exact e_ret rfl
    · refine e_get (HH_gR h0.1 rfl) ?_
      refine e_bind (HH_aI h0.2.1) ?_
      intro v3
      refine e_get (HH_gR h0.1 rfl) ?_
      refine e_bind (HH_aI h0.2.2.1) ?_
      intro v5
      refine e_ite ?_ ?_
      · refine e_ite ?_ ?_
        · exact ih l2 (l4 + 1) S
        · refine e_get (HH_aM h1) ?_
          refine e_ite ?_ ?_
          · exact ih l2 (l4 + 1) S
          · refine e_bind (HH_aL h1) ?_
            intro v6
            refine e_get (HH_gR h0.1 rfl) ?_
            refine e_bind (HH_aI h0.2.2.2) ?_
            intro v8
            refine e_wrS (HH_wL h1) ?_
            intro S9
            exact ih l2 (l4 + 1) S9
      · exact ih l2 (l4 + 1) S
def TX2_warmNext (a0 : Nat) (a1 n1 : Nat) (a2 : Int64) (S : SS) : Option (SS) := TX2_warmNext_L3 a0 a1 n1 fu a2 0 S
theorem eqX2_warmNext (t : Nat) (ct : Nat → ClassId) (a0 : Nat) (a1 n1 : Nat) (a2 : Int64) {z1 : Nat} (h0 : isP a0) (h1 : SHL[a1]? = some (.inr (1, n1, z1))) (S : SS) : X2_warmNext (t + a0) (t + a1) a2 (HH t ct S) = (TX2_warmNext a0 a1 n1 a2 S).map (HH t ct) := by
  show EQ _ _ _
  unfold X2_warmNext TX2_warmNext
  refine e_get (HH_vO h0.1) ?_
  exact eqX2_warmNext_L3 t ct a0 a1 n1 h0 h1 fu a2 0 S
def TX0_takeHeats_L22 (a0 : Nat) (a1 n1 : Nat) : Nat → Int64 → Int32 → SS → Option (Int32 × SS)
  | 0, _, _, _ => none
  | n + 1, l4, l6, S => (if (S.1 a0 0) ≤ l6 then (if cpok 0 0 8 n1 8 then letS (sRL S (a0 + 8) (va_cpy (S.2.2.2 a1) (S.2.2.2 (a0 + 8)) (Int32.toNatClampNeg 0) (Int32.toNatClampNeg 0) (Int32.toNatClampNeg 8))) fun S4 =>
  letS (sFL S4 a0 9 l4) fun S5 =>
  some ((-2), S5) else
  none) else
  (aget n1 (S.2.2.2 a1) l6).bind fun v6 =>
  (TJ9_abs_067f4 v6).bind fun v7 =>
  (if v7 ≤ 1000000000000 then TX0_takeHeats_L22 a0 a1 n1 n l4 (l6 + 1) S else
  some (l6, S)))
theorem eqX0_takeHeats_L22 (t : Nat) (ct : Nat → ClassId) (a0 : Nat) (a1 n1 : Nat) {z1 : Nat} (h0 : isB a0) (h1 : SHL[a1]? = some (.inr (1, n1, z1))) : ∀ (n : Nat), ∀ (l4 : Int64) (l6 : Int32) (S : SS), EQ (X0_takeHeats_L22 n (t + a0) (t + a1) l4 l6 (HH t ct S)) (TX0_takeHeats_L22 a0 a1 n1 n l4 l6 S) (hwI t ct) := by
  intro n
  induction n with
  | zero => intro l4 l6 S; exact e_none
  | succ n ih =>
    intro l4 l6 S
    unfold X0_takeHeats_L22 TX0_takeHeats_L22
    refine e_get (HH_gI h0.1 rfl) ?_
    refine e_ite ?_ ?_
    · refine e_get (HH_gR h0.1 rfl) ?_
      refine e_wrS (HH_cpLE h1 h0.2.2.2.2.2.2.2.2.1) ?_
      intro S4
      refine e_put (HH_pL h0.1 rfl) ?_
      intro S5
      exact e_ret rfl
    · refine e_bind (HH_aL h1) ?_
      intro v6
      refine e_call (eqJ9_abs_067f4 t ct v6) ?_
      intro v7
      refine e_ite ?_ ?_
      · exact ih l4 (l6 + 1) S
      · exact e_ret rfl
def TX0_takeHeats (a0 : Nat) (a1 n1 : Nat) (a2 : Int64) (S : SS) : Option (Int32 × SS) := (TX0_reduce a0 a1 n1 a2 S).bind fun q1 =>
  (if q1.1 ≤ 1000000000000 then TX0_takeHeats_L22 a0 a1 n1 fu q1.1 0 q1.2 else
  some ((-1), q1.2))
theorem eqX0_takeHeats (t : Nat) (ct : Nat → ClassId) (a0 : Nat) (a1 n1 : Nat) (a2 : Int64) {z1 : Nat} (h0 : isB a0) (h1 : SHL[a1]? = some (.inr (1, n1, z1))) (S : SS) : X0_takeHeats (t + a0) (t + a1) a2 (HH t ct S) = (TX0_takeHeats a0 a1 n1 a2 S).map (hwI t ct) := by
  show EQ _ _ _
  unfold X0_takeHeats TX0_takeHeats
  refine e_get (HH_vO h0.1) ?_
  refine e_call (eqX0_reduce t ct a0 a1 n1 a2 h0 h1 S) ?_
  intro q1
  refine e_ite ?_ ?_
  · exact eqX0_takeHeats_L22 t ct a0 a1 n1 h0 h1 fu q1.1 0 q1.2
  · exact e_ret rfl
