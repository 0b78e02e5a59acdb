/-! Terms over the four pictures. Written by wip/whole/decompT.py. -/
def TX2_passOne_L12 (a0 : Nat) : Nat → Int32 → Int32 → SS → Option (SS)
  | 0, _, _, _ => none
  | n + 1, l1, l2, S => (if l1 ≤ l2 then some S else
  (aget 12 (S.2.2.1 (a0 + 2)) l2).bind fun v4 =>
  (if v4 ≤ 1 then TX2_passOne_L12 a0 n l1 (l2 + 1) S else
  (aget 12 (S.2.2.1 (a0 + 1)) l2).bind fun v6 =>
  (aget 12 (S.2.2.1 (a0 + 2)) l2).bind fun v8 =>
  (aget 12 (S.2.2.1 (a0 + 3)) l2).bind fun v10 =>
  (TX2_append a0 v6 (v8 - 1) v10 S).bind fun q11 =>
  TX2_passOne_L12 a0 n l1 (l2 + 1) q11.2))
theorem eqX2_passOne_L12 (t : Nat) (ct : Nat → ClassId) (a0 : Nat) (h0 : isP a0) : ∀ (n : Nat), ∀ (l1 : Int32) (l2 : Int32) (S : SS), EQ (X2_passOne_L12 n (t + a0) l1 l2 (HH t ct S)) (TX2_passOne_L12 a0 n l1 l2 S) (HH t ct) := by
  intro n
  induction n with
  | zero => intro l1 l2 S; exact e_none
  | succ n ih =>
    intro l1 l2 S
    unfold X2_passOne_L12 TX2_passOne_L12
    refine e_ite ?_ ?_
    · exact e_ret rfl
    · refine e_get (HH_gR h0.1 rfl) ?_
      refine e_bind (HH_aI h0.2.2.1) ?_
      intro v4
      refine e_ite ?_ ?_
      · exact ih l1 (l2 + 1) S
      · refine e_get (HH_gR h0.1 rfl) ?_
        refine e_bind (HH_aI h0.2.1) ?_
        intro v6
        refine e_get (HH_gR h0.1 rfl) ?_
        refine e_bind (HH_aI h0.2.2.1) ?_
        intro v8
        refine e_get (HH_gR h0.1 rfl) ?_
        refine e_bind (HH_aI h0.2.2.2) ?_
        intro v10
        refine e_call (eqX2_append t ct a0 v6 (v8 - 1) v10 h0 S) ?_
        intro q11
        exact ih l1 (l2 + 1) q11.2
def TX2_passOne (a0 : Nat) (S : SS) : Option (SS) := letS (sFI S a0 3 0) fun S2 =>
  TX2_passOne_L12 a0 fu (S.1 a0 3) 0 S2
theorem eqX2_passOne (t : Nat) (ct : Nat → ClassId) (a0 : Nat) (h0 : isP a0) (S : SS) : X2_passOne (t + a0) (HH t ct S) = (TX2_passOne a0 S).map (HH t ct) := by
  show EQ _ _ _
  unfold X2_passOne TX2_passOne
  refine e_get (HH_vO h0.1) ?_
  refine e_get (HH_gI h0.1 rfl) ?_
  refine e_put (HH_pI h0.1 rfl) ?_
  intro S2
  exact eqX2_passOne_L12 t ct a0 h0 fu (S.1 a0 3) 0 S2
def TX0_advance_L11 (a0 : Nat) : Nat → Int64 → Int32 → SS → Option (Int32 × SS)
  | 0, _, _, _ => none
  | n + 1, l1, l3, S => (if (S.1 a0 0) ≤ l3 then (TX2_warmNext (a0 + 10) (a0 + 14) 8 ((S.2.1 a0 9) * l1) S).bind fun q6 =>
  (TX0_takeHeats a0 (a0 + 14) 8 ((q6.2.1 a0 9) * l1) q6).bind fun q9 =>
  (if q9.1 = (-2) then (TX2_passOne (a0 + 10) q9.2).bind fun q11 =>
  some (q9.1, q11) else
  some (q9.1, q9.2)) else
  (aget 8 (S.2.2.2 (a0 + 8)) l3).bind fun v14 =>
  (TX0_gain a0 l3 S).bind fun v15 =>
  (aget 8 (S.2.2.1 (a0 + 6)) l3).bind fun v17 =>
  (TX6_quotient 24 (Int32.toInt64 v17)).bind fun v18 =>
  (if jin l3 8 then letS (sAL S (a0 + 14) (Int32.toNatClampNeg l3) ((v14 * l1) + (v15 * v18))) fun S19 =>
  TX0_advance_L11 a0 n l1 (l3 + 1) S19 else
  none))
theorem eqX0_advance_L11 (t : Nat) (ct : Nat → ClassId) (a0 : Nat) (h0 : isB a0) : ∀ (n : Nat), ∀ (l1 : Int64) (l3 : Int32) (S : SS), EQ (X0_advance_L11 n (t + a0) l1 l3 (HH t ct S)) (TX0_advance_L11 a0 n l1 l3 S) (hwI t ct) := by
  intro n
  induction n with
  | zero => intro l1 l3 S; exact e_none
  | succ n ih =>
    intro l1 l3 S
    unfold X0_advance_L11 TX0_advance_L11
    refine e_get (HH_gI h0.1 rfl) ?_
    refine e_ite ?_ ?_
    · refine e_get (HH_gR h0.1 rfl) ?_
      refine e_get (HH_gR h0.1 rfl) ?_
      refine e_get (HH_gL h0.1 rfl) ?_
      refine e_call (eqX2_warmNext t ct (a0 + 10) (a0 + 14) 8 ((S.2.1 a0 9) * l1) h0.2.2.2.2.2.2.2.2.2.2.1 h0.2.2.2.2.2.2.2.2.2.2.2 S) ?_
      intro q6
      refine e_get (HH_gR h0.1 rfl) ?_
      refine e_get (HH_gL h0.1 rfl) ?_
      refine e_call (eqX0_takeHeats t ct a0 (a0 + 14) 8 ((q6.2.1 a0 9) * l1) h0 h0.2.2.2.2.2.2.2.2.2.2.2 q6) ?_
      intro q9
      refine e_ite ?_ ?_
      · refine e_get (HH_gR h0.1 rfl) ?_
        refine e_call (eqX2_passOne t ct (a0 + 10) h0.2.2.2.2.2.2.2.2.2.2.1 q9.2) ?_
        intro q11
        exact e_ret rfl
      · exact e_ret rfl
    · refine e_get (HH_gR h0.1 rfl) ?_
      refine e_get (HH_gR h0.1 rfl) ?_
      refine e_bind (HH_aL h0.2.2.2.2.2.2.2.2.1) ?_
      intro v14
      refine e_call (eqX0_gain t ct a0 l3 h0 S) ?_
      intro v15
      refine e_get (HH_gR h0.1 rfl) ?_
      refine e_bind (HH_aI h0.2.2.2.2.2.2.1) ?_
      intro v17
      refine e_call (eqX6_quotient t ct 24 (Int32.toInt64 v17)) ?_
      intro v18
      refine e_wrS (HH_wL h0.2.2.2.2.2.2.2.2.2.2.2) ?_
      intro S19
      exact ih l1 (l3 + 1) S19
def TX0_advance (a0 : Nat) (S : SS) : Option (Int32 × SS) := TX0_advance_L11 a0 fu (Int32.toInt64 (24 * (S.1 a0 11))) 0 S
theorem eqX0_advance (t : Nat) (ct : Nat → ClassId) (a0 : Nat) (h0 : isB a0) (S : SS) : X0_advance (t + a0) (HH t ct S) = (TX0_advance a0 S).map (hwI t ct) := by
  show EQ _ _ _
  unfold X0_advance TX0_advance
  refine e_get (HH_vO h0.1) ?_
  refine e_get (HH_gI h0.1 rfl) ?_
  exact eqX0_advance_L11 t ct a0 h0 fu (Int32.toInt64 (24 * (S.1 a0 11))) 0 S
def TX0_isRisenFrom (a0 : Nat) (a1 : Int64) (a2 : Int64) (S : SS) : Option (Int32) := (TX0_greatest a0 S).bind fun v2 =>
  (TX6_quotient (a2 * (Int32.toInt64 (24 * (S.1 a0 11)))) (S.2.1 a0 9)).bind fun v4 =>
  (if (v2 * v4) ≤ (a1 * (Int32.toInt64 (24 * (S.1 a0 11)))) then (zb 0).bind fun v5 => some v5 else
  (zb 1).bind fun v6 => some v6)
theorem eqX0_isRisenFrom (t : Nat) (ct : Nat → ClassId) (a0 : Nat) (a1 : Int64) (a2 : Int64) (h0 : isB a0) (S : SS) : X0_isRisenFrom (t + a0) a1 a2 (HH t ct S) = (TX0_isRisenFrom a0 a1 a2 S).map id := by
  show EQ _ _ _
  unfold X0_isRisenFrom TX0_isRisenFrom
  refine e_get (HH_vO h0.1) ?_
  refine e_get (HH_gI h0.1 rfl) ?_
  refine e_call (eqX0_greatest t ct a0 h0 S) ?_
  intro v2
  refine e_get (HH_gL h0.1 rfl) ?_
  refine e_call (eqX6_quotient t ct (a2 * (Int32.toInt64 (24 * (S.1 a0 11)))) (S.2.1 a0 9)) ?_
  intro v4
  refine e_ite ?_ ?_
  · exact e_bind rfl (fun _ => e_ret rfl)
  · exact e_bind rfl (fun _ => e_ret rfl)
def TX6_total_L4 (S : SS) (a0 n0 : Nat) : Nat → Int32 → Int32 → Int32 → Option (Int32)
  | 0, _, _, _ => none
  | n + 1, l1, l2, l3 => (if l1 ≤ l3 then some l2 else
  (aget n0 (S.2.2.1 a0) l3).bind fun v1 =>
  TX6_total_L4 S a0 n0 n l1 (l2 + v1) (l3 + 1))
theorem eqX6_total_L4 (t : Nat) (ct : Nat → ClassId) (a0 n0 : Nat) {z0 : Nat} (h0 : SHL[a0]? = some (.inr (0, n0, z0))) (S : SS) : ∀ (n : Nat), ∀ (l1 : Int32) (l2 : Int32) (l3 : Int32), EQ (X6_total_L4 (HH t ct S) n (t + a0) l1 l2 l3) (TX6_total_L4 S a0 n0 n l1 l2 l3) id := by
  intro n
  induction n with
  | zero => intro l1 l2 l3; exact e_none
  | succ n ih =>
    intro l1 l2 l3
    unfold X6_total_L4 TX6_total_L4
    refine e_ite ?_ ?_
    · exact e_ret rfl
    · refine e_bind (HH_aI h0) ?_
      intro v1
      exact ih l1 (l2 + v1) (l3 + 1)
def TX6_total (a0 n0 : Nat) (a1 : Int32) (S : SS) : Option (Int32) := TX6_total_L4 S a0 n0 fu a1 0 0
theorem eqX6_total (t : Nat) (ct : Nat → ClassId) (a0 n0 : Nat) (a1 : Int32) {z0 : Nat} (h0 : SHL[a0]? = some (.inr (0, n0, z0))) (S : SS) : X6_total (t + a0) a1 (HH t ct S) = (TX6_total a0 n0 a1 S).map id := by
  show EQ _ _ _
  unfold X6_total TX6_total
  exact eqX6_total_L4 t ct a0 n0 h0 S fu a1 0 0
def TX0_canRest_J25 (S : SS) (a0 : Nat) (s0 : Int32) : Option (Int32) := (if (S.1 a0 0) ≤ 0 then (zb 0).bind fun v4 => some v4 else
  (if s0 = 0 then (TX6_total (a0 + 7) 8 (S.1 a0 0) S).bind fun v8 =>
  (if v8 ≤ 0 then (zb 0).bind fun v9 => some v9 else
  (zb 1).bind fun v10 => some v10) else
  (zb 1).bind fun v5 => some v5))
theorem eqX0_canRest_J25 (t : Nat) (ct : Nat → ClassId) (a0 : Nat) (h0 : isB a0) (S : SS) : ∀ (s0 : Int32), EQ (X0_canRest_J25 (HH t ct S) (t + a0) s0) (TX0_canRest_J25 S a0 s0) id := by
  intro s0
  unfold X0_canRest_J25 TX0_canRest_J25
  refine e_get (HH_gI h0.1 rfl) ?_
  refine e_ite ?_ ?_
  · exact e_bind rfl (fun _ => e_ret rfl)
  · refine e_ite ?_ ?_
    · refine e_get (HH_gR h0.1 rfl) ?_
      refine e_get (HH_gI h0.1 rfl) ?_
      refine e_call (eqX6_total t ct (a0 + 7) 8 (S.1 a0 0) h0.2.2.2.2.2.2.2.1 S) ?_
      intro v8
      refine e_ite ?_ ?_
      · exact e_bind rfl (fun _ => e_ret rfl)
      · exact e_bind rfl (fun _ => e_ret rfl)
    · exact e_bind rfl (fun _ => e_ret rfl)
def TX0_canRest (a0 : Nat) (S : SS) : Option (Int32) := (aget 2 (S.2.2.1 (a0 + 9)) 0).bind fun v2 =>
  (if v2 = (-1) then (aget 2 (S.2.2.1 (a0 + 9)) 1).bind fun v12 =>
  (if v12 = (-1) then TX0_canRest_J25 S a0 0 else
  TX0_canRest_J25 S a0 1) else
  TX0_canRest_J25 S a0 1)
theorem eqX0_canRest (t : Nat) (ct : Nat → ClassId) (a0 : Nat) (h0 : isB a0) (S : SS) : X0_canRest (t + a0) (HH t ct S) = (TX0_canRest a0 S).map id := by
  show EQ _ _ _
  unfold X0_canRest TX0_canRest
  refine e_get (HH_vO h0.1) ?_
  refine e_get (HH_gR h0.1 rfl) ?_
  refine e_bind (HH_aI h0.2.2.2.2.2.2.2.2.2.1) ?_
  intro v2
  refine e_ite ?_ ?_
  · refine e_get (HH_gR h0.1 rfl) ?_
    refine e_bind (HH_aI h0.2.2.2.2.2.2.2.2.2.1) ?_
    intro v12
    refine e_ite ?_ ?_
    · exact eqX0_canRest_J25 t ct a0 h0 S 0
    · exact eqX0_canRest_J25 t ct a0 h0 S 1
  · exact eqX0_canRest_J25 t ct a0 h0 S 1
def TX1_lineOf (a0 : Int32) : Option (Int32) := (if a0 = 1 then some 3 else
  (if a0 = 2 then some 5 else
  (if a0 = 3 then some 11 else
  (if a0 = 4 then some 21 else
  (if a0 = 5 then some 35 else
  some 1)))))
theorem eqX1_lineOf (t : Nat) (ct : Nat → ClassId) (a0 : Int32) : X1_lineOf a0 = (TX1_lineOf a0).map id := by
  show EQ _ _ _
  unfold X1_lineOf TX1_lineOf
  refine e_ite ?_ ?_
  · exact e_ret rfl
  refine e_ite ?_ ?_
  · exact e_ret rfl
  refine e_ite ?_ ?_
  · exact e_ret rfl
  refine e_ite ?_ ?_
  · exact e_ret rfl
  refine e_ite ?_ ?_
  · exact e_ret rfl
  exact e_ret rfl
def TX1_isUnder (a0 : Int32) (a1 : Int32) : Option (Int32) := (TX1_lineOf a0).bind fun v1 =>
  (if ((v1 >>> (a1 &&& 31)) &&& 1) = 1 then (zb 1).bind fun v3 => some v3 else
  (zb 0).bind fun v2 => some v2)
theorem eqX1_isUnder (t : Nat) (ct : Nat → ClassId) (a0 : Int32) (a1 : Int32) : X1_isUnder a0 a1 = (TX1_isUnder a0 a1).map id := by
  show EQ _ _ _
  unfold X1_isUnder TX1_isUnder
  refine e_call (eqX1_lineOf t ct a0) ?_
  intro v1
  refine e_ite ?_ ?_
  · exact e_bind rfl (fun _ => e_ret rfl)
  · exact e_bind rfl (fun _ => e_ret rfl)
def TX1_madeOf_J59 (l0 : Int32) (l2 : Int32) : Option (Int32) := some (((l2 * 10) + 3) + l0)
theorem eqX1_madeOf_J59 (t : Nat) (ct : Nat → ClassId) : ∀ (l0 : Int32) (l2 : Int32), EQ (X1_madeOf_J59 l0 l2) (TX1_madeOf_J59 l0 l2) id := by
  intro l0 l2
  unfold X1_madeOf_J59 TX1_madeOf_J59
  exact e_ret rfl
def TX1_madeOf_J44 (l0 : Int32) (l2 : Int32) : Option (Int32) := (if l0 = 3 then TX1_madeOf_J59 l0 l2 else
  (if l0 = 4 then TX1_madeOf_J59 l0 l2 else
  (if l0 = 5 then TX1_madeOf_J59 l0 l2 else
  some l2)))
theorem eqX1_madeOf_J44 (t : Nat) (ct : Nat → ClassId) : ∀ (l0 : Int32) (l2 : Int32), EQ (X1_madeOf_J44 l0 l2) (TX1_madeOf_J44 l0 l2) id := by
  intro l0 l2
  unfold X1_madeOf_J44 TX1_madeOf_J44
  refine e_ite ?_ ?_
  · exact eqX1_madeOf_J59 t ct l0 l2
  · refine e_ite ?_ ?_
    · exact eqX1_madeOf_J59 t ct l0 l2
    · refine e_ite ?_ ?_
      · exact eqX1_madeOf_J59 t ct l0 l2
      · exact e_ret rfl
def TX1_madeOf_J29 (l0 : Int32) (l2 : Int32) : Option (Int32) := (TX1_isUnder l0 2).bind fun v2 =>
  (if v2 = 0 then TX1_madeOf_J44 l0 l2 else
  TX1_madeOf_J44 l0 ((l2 * 10) + 5))
theorem eqX1_madeOf_J29 (t : Nat) (ct : Nat → ClassId) : ∀ (l0 : Int32) (l2 : Int32), EQ (X1_madeOf_J29 l0 l2) (TX1_madeOf_J29 l0 l2) id := by
  intro l0 l2
  unfold X1_madeOf_J29 TX1_madeOf_J29
  refine e_call (eqX1_isUnder t ct l0 2) ?_
  intro v2
  refine e_ite ?_ ?_
  · exact eqX1_madeOf_J44 t ct l0 l2
  · exact eqX1_madeOf_J44 t ct l0 ((l2 * 10) + 5)
def TX1_madeOf_J13 (l0 : Int32) (s0 : Int32) : Option (Int32) := (TX1_isUnder l0 1).bind fun v1 =>
  (if v1 = 0 then TX1_madeOf_J29 l0 s0 else
  TX1_madeOf_J29 l0 ((s0 * 10) + 4))
theorem eqX1_madeOf_J13 (t : Nat) (ct : Nat → ClassId) : ∀ (l0 : Int32) (s0 : Int32), EQ (X1_madeOf_J13 l0 s0) (TX1_madeOf_J13 l0 s0) id := by
  intro l0 s0
  unfold X1_madeOf_J13 TX1_madeOf_J13
  refine e_call (eqX1_isUnder t ct l0 1) ?_
  intro v1
  refine e_ite ?_ ?_
  · exact eqX1_madeOf_J29 t ct l0 s0
  · exact eqX1_madeOf_J29 t ct l0 ((s0 * 10) + 4)
def TX1_madeOf (a0 : Int32) (a1 : Int32) : Option (Int32) := (if a1 = 1 then TX1_madeOf_J13 a0 132 else
  TX1_madeOf_J13 a0 13)
theorem eqX1_madeOf (t : Nat) (ct : Nat → ClassId) (a0 : Int32) (a1 : Int32) : X1_madeOf a0 a1 = (TX1_madeOf a0 a1).map id := by
  show EQ _ _ _
  unfold X1_madeOf TX1_madeOf
  refine e_ite ?_ ?_
  · exact eqX1_madeOf_J13 t ct a0 132
  · exact eqX1_madeOf_J13 t ct a0 13
def TX3_isMissing (a1 : Int32) (S : SS) : Option (Int32) := (aget 4 (S.2.2.1 53) a1).bind fun v2 =>
  (if v2 = (-1) then (zb 1).bind fun v4 => some v4 else
  (zb 0).bind fun v3 => some v3)
theorem eqX3_isMissing (t : Nat) (ct : Nat → ClassId) (a1 : Int32) (S : SS) : X3_isMissing (t + 52) a1 (HH t ct S) = (TX3_isMissing a1 S).map id := by
  show EQ _ _ _
  unfold X3_isMissing TX3_isMissing
  refine e_get (HH_vO rfl) ?_
  refine e_get (HH_gR rfl rfl) ?_
  refine e_bind (HH_aI rfl) ?_
  intro v2
  refine e_ite ?_ ?_
  · exact e_bind rfl (fun _ => e_ret rfl)
  · exact e_bind rfl (fun _ => e_ret rfl)
def TX3_has (a1 : Int32) (a2 : Int32) (S : SS) : Option (Int32) := (if a2 < 0 then (zb 0).bind fun v1 => some v1 else
  (aget 4 (S.2.2.1 54) a1).bind fun v3 =>
  (if v3 ≤ a2 then (zb 0).bind fun v4 => some v4 else
  (zb 1).bind fun v5 => some v5))
theorem eqX3_has (t : Nat) (ct : Nat → ClassId) (a1 : Int32) (a2 : Int32) (S : SS) : X3_has (t + 52) a1 a2 (HH t ct S) = (TX3_has a1 a2 S).map id := by
  show EQ _ _ _
  unfold X3_has TX3_has
  refine e_get (HH_vO rfl) ?_
  refine e_ite ?_ ?_
  · exact e_bind rfl (fun _ => e_ret rfl)
  · refine e_get (HH_gR rfl rfl) ?_
    refine e_bind (HH_aI rfl) ?_
    intro v3
    refine e_ite ?_ ?_
    · exact e_bind rfl (fun _ => e_ret rfl)
    · exact e_bind rfl (fun _ => e_ret rfl)
def TX3_hasRun (a1 : Int32) (a2 : Int32) (a3 : Int32) (S : SS) : Option (Int32) := (if a2 < 0 then (zb 0).bind fun v1 => some v1 else
  (if a3 < 0 then (zb 0).bind fun v2 => some v2 else
  (aget 4 (S.2.2.1 54) a1).bind fun v4 =>
  (if (v4 - a3) < a2 then (zb 0).bind fun v5 => some v5 else
  (zb 1).bind fun v6 => some v6)))
theorem eqX3_hasRun (t : Nat) (ct : Nat → ClassId) (a1 : Int32) (a2 : Int32) (a3 : Int32) (S : SS) : X3_hasRun (t + 52) a1 a2 a3 (HH t ct S) = (TX3_hasRun a1 a2 a3 S).map id := by
  show EQ _ _ _
  unfold X3_hasRun TX3_hasRun
  refine e_get (HH_vO rfl) ?_
  refine e_ite ?_ ?_
  · exact e_bind rfl (fun _ => e_ret rfl)
  · refine e_ite ?_ ?_
    · exact e_bind rfl (fun _ => e_ret rfl)
    · refine e_get (HH_gR rfl rfl) ?_
      refine e_bind (HH_aI rfl) ?_
      intro v4
      refine e_ite ?_ ?_
      · exact e_bind rfl (fun _ => e_ret rfl)
      · exact e_bind rfl (fun _ => e_ret rfl)
def TX3_renew_L17 : Nat → Int32 → Int32 → SS → Option (SS)
  | 0, _, _, _ => none
  | n + 1, l1, l4, S => (if 40 ≤ l4 then some S else
  (if jin l1 4 then (if jin l4 40 then letS (sAI S (56 + (l1).toNatClampNeg) (Int32.toNatClampNeg l4) 0) fun S7 =>
  TX3_renew_L17 n l1 (l4 + 1) S7 else
  none) else
  none))
theorem eqX3_renew_L17 (t : Nat) (ct : Nat → ClassId) : ∀ (n : Nat), ∀ (l1 : Int32) (l4 : Int32) (S : SS), EQ (X3_renew_L17 n (t + 52) l1 l4 (HH t ct S)) (TX3_renew_L17 n l1 l4 S) (HH t ct) := by
  intro n
  induction n with
  | zero => intro l1 l4 S; exact e_none
  | succ n ih =>
    intro l1 l4 S
    unfold X3_renew_L17 TX3_renew_L17
    refine e_ite ?_ ?_
    · exact e_ret rfl
    · refine e_get (HH_gR rfl rfl) ?_
      refine e_row (HH_aR rfl) ?_
      intro hj6
      rw [Nat.add_assoc]
      refine e_wrS (HH_wI (row_ok hj6)) ?_
      intro S7
      exact ih l1 (l4 + 1) S7
def TX3_renew (a1 : Int32) (a2 : Int32) (a3 : Int32) (S : SS) : Option (SS) := (if jin a1 4 then letS (sAI S 53 (Int32.toNatClampNeg a1) a2) fun S2 =>
  (if jin a1 4 then letS (sAI S2 54 (Int32.toNatClampNeg a1) a3) fun S4 =>
  TX3_renew_L17 fu a1 0 S4 else
  none) else
  none)
theorem eqX3_renew (t : Nat) (ct : Nat → ClassId) (a1 : Int32) (a2 : Int32) (a3 : Int32) (S : SS) : X3_renew (t + 52) a1 a2 a3 (HH t ct S) = (TX3_renew a1 a2 a3 S).map (HH t ct) := by
  show EQ _ _ _
  unfold X3_renew TX3_renew
  refine e_get (HH_vO rfl) ?_
  refine e_get (HH_gR rfl rfl) ?_
  refine e_wrS (HH_wI rfl) ?_
  intro S2
  refine e_get (HH_gR rfl rfl) ?_
  refine e_wrS (HH_wI rfl) ?_
  intro S4
  exact eqX3_renew_L17 t ct fu a1 0 S4
def TX4_sweepRight_J47 (a1 : Nat) (r16 : Int32 → Int32 → SS → Option (SS)) (l2 : Int32) (l3 : Int32) (l4 : Int64) (s0 : Int64) (S : SS) : Option (SS) := (TX0_loss a1 l3 S).bind fun v7 =>
  (aget 9 (S.2.2.2 48) l3).bind fun v9 =>
  (if jin (l3 + 1) 9 then letS (sAL S 48 (Int32.toNatClampNeg (l3 + 1)) (((Int32.toInt64 v7) * v9) - ((l4 * l4) * s0))) fun S10 =>
  (TX0_supply a1 l3 S10).bind fun v12 =>
  (aget 9 (S10.2.2.2 48) l3).bind fun v14 =>
  (aget 9 (S10.2.2.2 50) l3).bind fun v16 =>
  (if jin (l3 + 1) 9 then letS (sAL S10 50 (Int32.toNatClampNeg (l3 + 1)) (((Int32.toInt64 v12) * v14) + (l4 * v16))) fun S17 =>
  r16 l2 (l3 + 1) S17 else
  none) else
  none)
theorem eqX4_sweepRight_J47 (t : Nat) (ct : Nat → ClassId) (a1 : Nat) (h1 : isB a1) (g16 : Nat → Nat → Int32 → Int32 → Hs → Option (Hs)) (r16 : Int32 → Int32 → SS → Option (SS)) (hr16 : ∀ (l2 : Int32) (l3 : Int32) (S : SS), EQ (g16 (t + 46) (t + a1) l2 l3 (HH t ct S)) (r16 l2 l3 S) (HH t ct)) : ∀ (l2 : Int32) (l3 : Int32) (l4 : Int64) (s0 : Int64) (S : SS), EQ (X4_sweepRight_J47 g16 (t + 46) (t + a1) l2 l3 l4 s0 (HH t ct S)) (TX4_sweepRight_J47 a1 r16 l2 l3 l4 s0 S) (HH t ct) := by
  intro l2 l3 l4 s0 S
  unfold X4_sweepRight_J47 TX4_sweepRight_J47
  refine e_get (HH_gR rfl rfl) ?_
  refine e_call (eqX0_loss t ct a1 l3 h1 S) ?_
  intro v7
  refine e_get (HH_gR rfl rfl) ?_
  refine e_bind (HH_aL rfl) ?_
  intro v9
  refine e_wrS (HH_wL rfl) ?_
  intro S10
  refine e_get (HH_gR rfl rfl) ?_
  refine e_call (eqX0_supply t ct a1 l3 h1 S10) ?_
  intro v12
  refine e_get (HH_gR rfl rfl) ?_
  refine e_bind (HH_aL rfl) ?_
  intro v14
  refine e_get (HH_gR rfl rfl) ?_
  refine e_bind (HH_aL rfl) ?_
  intro v16
  refine e_wrS (HH_wL rfl) ?_
  intro S17
  exact hr16 l2 (l3 + 1) S17
def TX4_sweepRight_L16 (a1 : Nat) : Nat → Int32 → Int32 → SS → Option (SS)
  | 0, _, _, _ => none
  | n + 1, l2, l3, S => (if l2 ≤ l3 then some S else
  (TX0_leads a1 (l3 - 1) S).bind fun v5 =>
  (if l3 ≤ 0 then TX4_sweepRight_J47 a1 (fun l2 l3 S => TX4_sweepRight_L16 a1 n l2 l3 S) l2 l3 (Int32.toInt64 v5) 0 S else
  (aget 9 (S.2.2.2 48) (l3 - 1)).bind fun v19 =>
  TX4_sweepRight_J47 a1 (fun l2 l3 S => TX4_sweepRight_L16 a1 n l2 l3 S) l2 l3 (Int32.toInt64 v5) v19 S))
theorem eqX4_sweepRight_L16 (t : Nat) (ct : Nat → ClassId) (a1 : Nat) (h1 : isB a1) : ∀ (n : Nat), ∀ (l2 : Int32) (l3 : Int32) (S : SS), EQ (X4_sweepRight_L16 n (t + 46) (t + a1) l2 l3 (HH t ct S)) (TX4_sweepRight_L16 a1 n l2 l3 S) (HH t ct) := by
  intro n
  induction n with
  | zero => intro l2 l3 S; exact e_none
  | succ n ih =>
    intro l2 l3 S
    unfold X4_sweepRight_L16 TX4_sweepRight_L16
    refine e_ite ?_ ?_
    · exact e_ret rfl
    · refine e_call (eqX0_leads t ct a1 (l3 - 1) h1 S) ?_
      intro v5
      refine e_ite ?_ ?_
      · exact eqX4_sweepRight_J47 t ct a1 h1 _ (fun l2 l3 S => TX4_sweepRight_L16 a1 n l2 l3 S) ih l2 l3 (Int32.toInt64 v5) 0 S
      · refine e_get (HH_gR rfl rfl) ?_
        refine e_bind (HH_aL rfl) ?_
        intro v19
        exact eqX4_sweepRight_J47 t ct a1 h1 _ (fun l2 l3 S => TX4_sweepRight_L16 a1 n l2 l3 S) ih l2 l3 (Int32.toInt64 v5) v19 S
def TX4_sweepRight (a1 : Nat) (a2 : Int32) (S : SS) : Option (SS) := (if jin 0 9 then letS (sAL S 48 (Int32.toNatClampNeg 0) 1) fun S2 =>
  (if jin 0 9 then letS (sAL S2 50 (Int32.toNatClampNeg 0) 0) fun S4 =>
  TX4_sweepRight_L16 a1 fu a2 0 S4 else
  none) else
  none)
theorem eqX4_sweepRight (t : Nat) (ct : Nat → ClassId) (a1 : Nat) (a2 : Int32) (h1 : isB a1) (S : SS) : X4_sweepRight (t + 46) (t + a1) a2 (HH t ct S) = (TX4_sweepRight a1 a2 S).map (HH t ct) := by
  show EQ _ _ _
  unfold X4_sweepRight TX4_sweepRight
  refine e_get (HH_vO rfl) ?_
  refine e_get (HH_gR rfl rfl) ?_
  refine e_wrS (HH_wL rfl) ?_
  intro S2
  refine e_get (HH_gR rfl rfl) ?_
  refine e_wrS (HH_wL rfl) ?_
  intro S4
  exact eqX4_sweepRight_L16 t ct a1 h1 fu a2 0 S4
def TX4_sweepLeft_L27 (a1 : Nat) : Nat → Int32 → SS → Option (SS)
  | 0, _, _ => none
  | n + 1, l3, S => (if l3 < 0 then some S else
  (TX0_leads a1 l3 S).bind fun v7 =>
  (TX0_loss a1 l3 S).bind fun v9 =>
  (aget 10 (S.2.2.2 49) (l3 + 1)).bind fun v11 =>
  (aget 10 (S.2.2.2 49) (l3 + 2)).bind fun v13 =>
  (if jin l3 10 then letS (sAL S 49 (Int32.toNatClampNeg l3) (((Int32.toInt64 v9) * v11) - (((Int32.toInt64 v7) * (Int32.toInt64 v7)) * v13))) fun S14 =>
  (TX0_supply a1 l3 S14).bind fun v16 =>
  (aget 10 (S14.2.2.2 49) (l3 + 1)).bind fun v18 =>
  (aget 9 (S14.2.2.2 51) (l3 + 1)).bind fun v20 =>
  (if jin l3 9 then letS (sAL S14 51 (Int32.toNatClampNeg l3) (((Int32.toInt64 v16) * v18) + ((Int32.toInt64 v7) * v20))) fun S21 =>
  TX4_sweepLeft_L27 a1 n (l3 + (-1)) S21 else
  none) else
  none))
theorem eqX4_sweepLeft_L27 (t : Nat) (ct : Nat → ClassId) (a1 : Nat) (h1 : isB a1) : ∀ (n : Nat), ∀ (l3 : Int32) (S : SS), EQ (X4_sweepLeft_L27 n (t + 46) (t + a1) l3 (HH t ct S)) (TX4_sweepLeft_L27 a1 n l3 S) (HH t ct) := by
  intro n
  induction n with
  | zero => intro l3 S; exact e_none
  | succ n ih =>
    intro l3 S
    unfold X4_sweepLeft_L27 TX4_sweepLeft_L27
    refine e_ite ?_ ?_
    · exact e_ret rfl
    · refine e_call (eqX0_leads t ct a1 l3 h1 S) ?_
      intro v7
      refine e_get (HH_gR rfl rfl) ?_
      refine e_call (eqX0_loss t ct a1 l3 h1 S) ?_
      intro v9
      refine e_get (HH_gR rfl rfl) ?_
      refine e_bind (HH_aL rfl) ?_
      intro v11
      refine e_get (HH_gR rfl rfl) ?_
      refine e_bind (HH_aL rfl) ?_
      intro v13
      refine e_wrS (HH_wL rfl) ?_
      intro S14
      refine e_get (HH_gR rfl rfl) ?_
      refine e_call (eqX0_supply t ct a1 l3 h1 S14) ?_
      intro v16
      refine e_get (HH_gR rfl rfl) ?_
      refine e_bind (HH_aL rfl) ?_
      intro v18
      refine e_get (HH_gR rfl rfl) ?_
      refine e_bind (HH_aL rfl) ?_
      intro v20
      refine e_wrS (HH_wL rfl) ?_
      intro S21
      exact ih (l3 + (-1)) S21
def TX4_sweepLeft (a1 : Nat) (a2 : Int32) (S : SS) : Option (SS) := (if jin a2 10 then letS (sAL S 49 (Int32.toNatClampNeg a2) 1) fun S2 =>
  (if jin (a2 + 1) 10 then letS (sAL S2 49 (Int32.toNatClampNeg (a2 + 1)) 0) fun S4 =>
  (if jin a2 9 then letS (sAL S4 51 (Int32.toNatClampNeg a2) 0) fun S6 =>
  TX4_sweepLeft_L27 a1 fu (a2 - 1) S6 else
  none) else
  none) else
  none)
theorem eqX4_sweepLeft (t : Nat) (ct : Nat → ClassId) (a1 : Nat) (a2 : Int32) (h1 : isB a1) (S : SS) : X4_sweepLeft (t + 46) (t + a1) a2 (HH t ct S) = (TX4_sweepLeft a1 a2 S).map (HH t ct) := by
  show EQ _ _ _
  unfold X4_sweepLeft TX4_sweepLeft
  refine e_get (HH_vO rfl) ?_
  refine e_get (HH_gR rfl rfl) ?_
  refine e_wrS (HH_wL rfl) ?_
  intro S2
  refine e_get (HH_gR rfl rfl) ?_
  refine e_wrS (HH_wL rfl) ?_
  intro S4
  refine e_get (HH_gR rfl rfl) ?_
  refine e_wrS (HH_wL rfl) ?_
  intro S6
  exact eqX4_sweepLeft_L27 t ct a1 h1 fu (a2 - 1) S6
def TX4_solve_L19 (a1 : Nat) : Nat → Int32 → Int32 → SS → Option (SS)
  | 0, _, _, _ => none
  | n + 1, l2, l3, S => (if l2 ≤ l3 then (aget 9 (S.2.2.2 48) l2).bind fun v5 =>
  letS (sFL S 46 1 v5) fun S6 =>
  some S6 else
  (aget 9 (S.2.2.2 50) (l3 + 1)).bind fun v9 =>
  (aget 10 (S.2.2.2 49) (l3 + 1)).bind fun v11 =>
  (aget 9 (S.2.2.2 48) l3).bind fun v13 =>
  (TX0_leads a1 l3 S).bind fun v14 =>
  (aget 9 (S.2.2.2 51) (l3 + 1)).bind fun v16 =>
  (if jin l3 8 then letS (sAL S 47 (Int32.toNatClampNeg l3) ((v9 * v11) + ((v13 * (Int32.toInt64 v14)) * v16))) fun S17 =>
  TX4_solve_L19 a1 n l2 (l3 + 1) S17 else
  none))
theorem eqX4_solve_L19 (t : Nat) (ct : Nat → ClassId) (a1 : Nat) (h1 : isB a1) : ∀ (n : Nat), ∀ (l2 : Int32) (l3 : Int32) (S : SS), EQ (X4_solve_L19 n (t + 46) (t + a1) l2 l3 (HH t ct S)) (TX4_solve_L19 a1 n l2 l3 S) (HH t ct) := by
  intro n
  induction n with
  | zero => intro l2 l3 S; exact e_none
  | succ n ih =>
    intro l2 l3 S
    unfold X4_solve_L19 TX4_solve_L19
    refine e_ite ?_ ?_
    · refine e_get (HH_gR rfl rfl) ?_
      refine e_bind (HH_aL rfl) ?_
      intro v5
      refine e_put (HH_pL rfl rfl) ?_
      intro S6
      exact e_ret rfl
    · refine e_get (HH_gR rfl rfl) ?_
      refine e_get (HH_gR rfl rfl) ?_
      refine e_bind (HH_aL rfl) ?_
      intro v9
      refine e_get (HH_gR rfl rfl) ?_
      refine e_bind (HH_aL rfl) ?_
      intro v11
      refine e_get (HH_gR rfl rfl) ?_
      refine e_bind (HH_aL rfl) ?_
      intro v13
      refine e_call (eqX0_leads t ct a1 l3 h1 S) ?_
      intro v14
      refine e_get (HH_gR rfl rfl) ?_
      refine e_bind (HH_aL rfl) ?_
      intro v16
      refine e_wrS (HH_wL rfl) ?_
      intro S17
      exact ih l2 (l3 + 1) S17
def TX4_solve (a1 : Nat) (S : SS) : Option (SS) := (TX4_sweepRight a1 (S.1 a1 0) S).bind fun q2 =>
  (TX4_sweepLeft a1 (S.1 a1 0) q2).bind fun q3 =>
  TX4_solve_L19 a1 fu (S.1 a1 0) 0 q3
theorem eqX4_solve (t : Nat) (ct : Nat → ClassId) (a1 : Nat) (h1 : isB a1) (S : SS) : X4_solve (t + 46) (t + a1) (HH t ct S) = (TX4_solve a1 S).map (HH t ct) := by
  show EQ _ _ _
  unfold X4_solve TX4_solve
  refine e_get (HH_vO rfl) ?_
  refine e_get (HH_gI h1.1 rfl) ?_
  refine e_call (eqX4_sweepRight t ct a1 (S.1 a1 0) h1 S) ?_
  intro q2
  refine e_call (eqX4_sweepLeft t ct a1 (S.1 a1 0) h1 q2) ?_
  intro q3
  exact eqX4_solve_L19 t ct a1 h1 fu (S.1 a1 0) 0 q3
def TX5_append (a1 : Int32) (a2 : Int32) (S : SS) : Option (SS) := (if a2 ≤ (S.1 60 1) then some S else
  (if 60 ≤ (S.1 60 1) then some S else
  (if jin (S.1 60 1) 60 then letS (sAI S 61 (Int32.toNatClampNeg (S.1 60 1)) a1) fun S5 =>
  letS (sFI S5 60 1 ((S5.1 60 1) + 1)) fun S7 =>
  some S7 else
  none)))
theorem eqX5_append (t : Nat) (ct : Nat → ClassId) (a1 : Int32) (a2 : Int32) (S : SS) : X5_append (t + 60) a1 a2 (HH t ct S) = (TX5_append a1 a2 S).map (HH t ct) := by
  show EQ _ _ _
  unfold X5_append TX5_append
  refine e_get (HH_vO rfl) ?_
  refine e_get (HH_gI rfl rfl) ?_
  refine e_ite ?_ ?_
  · exact e_ret rfl
  · refine e_get (HH_gI rfl rfl) ?_
    refine e_ite ?_ ?_
    · exact e_ret rfl
    · refine e_get (HH_gR rfl rfl) ?_
      refine e_get (HH_gI rfl rfl) ?_
      refine e_wrS (HH_wI rfl) ?_
      intro S5
      refine e_get (HH_gI rfl rfl) ?_
      refine e_put (HH_pI rfl rfl) ?_
      intro S7
      exact e_ret rfl
def TX5_planAt (a1 : Int32) (S : SS) : Option (Int32) := (if a1 < 0 then some 0 else
  (if (S.1 60 3) ≤ a1 then some 0 else
  (aget 60 (S.2.2.1 62) a1).bind fun v3 =>
  some v3))
theorem eqX5_planAt (t : Nat) (ct : Nat → ClassId) (a1 : Int32) (S : SS) : X5_planAt (t + 60) a1 (HH t ct S) = (TX5_planAt a1 S).map id := by
  show EQ _ _ _
  unfold X5_planAt TX5_planAt
  refine e_get (HH_vO rfl) ?_
  refine e_ite ?_ ?_
  · exact e_ret rfl
  · refine e_get (HH_gI rfl rfl) ?_
    refine e_ite ?_ ?_
    · exact e_ret rfl
    · refine e_get (HH_gR rfl rfl) ?_
      refine e_bind (HH_aI rfl) ?_
      intro v3
      exact e_ret rfl
def TX5_numbersOf (a0 : Int32) : Option (Int32) := (if a0 = 0 then some 4 else
  (if a0 = 1 then some 2 else
  (if a0 = 2 then some 2 else
  (if a0 = 3 then some 1 else
  (if a0 = 4 then some 1 else
  (if a0 = 5 then some 1 else
  (if a0 = 6 then some 3 else
  some 0)))))))
theorem eqX5_numbersOf (t : Nat) (ct : Nat → ClassId) (a0 : Int32) : X5_numbersOf a0 = (TX5_numbersOf a0).map id := by
  show EQ _ _ _
  unfold X5_numbersOf TX5_numbersOf
  refine e_ite ?_ ?_
  · exact e_ret rfl
  refine e_ite ?_ ?_
  · exact e_ret rfl
  refine e_ite ?_ ?_
  · exact e_ret rfl
  refine e_ite ?_ ?_
  · exact e_ret rfl
  refine e_ite ?_ ?_
  · exact e_ret rfl
  refine e_ite ?_ ?_
  · exact e_ret rfl
  refine e_ite ?_ ?_
  · exact e_ret rfl
  exact e_ret rfl
def TX5_nameOf (ct : Nat → ClassId) (a0 : Int32) (S : SS) : Option (Nat) := (if a0 = 0 then some ((ct (100 + 0))) else
  (if a0 = 1 then some ((ct (100 + 1))) else
  (if a0 = 2 then some ((ct (100 + 2))) else
  (if a0 = 3 then some ((ct (100 + 3))) else
  (if a0 = 4 then some ((ct (100 + 4))) else
  (if a0 = 5 then some ((ct (100 + 5))) else
  (if a0 = 6 then some ((ct (100 + 6))) else
  some ((ct (100 + 7))))))))))
theorem eqX5_nameOf (t : Nat) (ct : Nat → ClassId) (a0 : Int32) (S : SS) : X5_nameOf a0 (HH t ct S) = (TX5_nameOf ct a0 S).map id := by
  show EQ _ _ _
  unfold X5_nameOf TX5_nameOf
  refine e_ite ?_ ?_
  · exact e_ret rfl
  refine e_ite ?_ ?_
  · exact e_ret rfl
  refine e_ite ?_ ?_
  · exact e_ret rfl
  refine e_ite ?_ ?_
  · exact e_ret rfl
  refine e_ite ?_ ?_
  · exact e_ret rfl
  refine e_ite ?_ ?_
  · exact e_ret rfl
  refine e_ite ?_ ?_
  · exact e_ret rfl
  exact e_ret rfl
def TX5_skipBlanks_J39 (r0 : SS → Option (SS)) (S : SS) : Option (SS) := letS (sFI S 60 4 ((S.1 60 4) + 1)) fun S7 =>
  r0 S7
theorem eqX5_skipBlanks_J39 (t : Nat) (ct : Nat → ClassId) (g0 : Nat → Hs → Option (Hs)) (r0 : SS → Option (SS)) (hr0 : ∀ (S : SS), EQ (g0 (t + 60) (HH t ct S)) (r0 S) (HH t ct)) : ∀ (S : SS), EQ (X5_skipBlanks_J39 g0 (t + 60) (HH t ct S)) (TX5_skipBlanks_J39 r0 S) (HH t ct) := by
  intro S
  unfold X5_skipBlanks_J39 TX5_skipBlanks_J39
  refine e_get (HH_gI rfl rfl) ?_
  refine e_put (HH_pI rfl rfl) ?_
  intro S7
  exact hr0 S7
def TX5_skipBlanks_L0 : Nat → SS → Option (SS)
  | 0, _ => none
  | n + 1, S => (if (S.1 60 1) ≤ (S.1 60 4) then some S else
  (aget 60 (S.2.2.1 61) (S.1 60 4)).bind fun v5 =>
  (if v5 = 32 then TX5_skipBlanks_J39 (fun S => TX5_skipBlanks_L0 n S) S else
  (aget 60 (S.2.2.1 61) (S.1 60 4)).bind fun v10 =>
  (if v10 = 10 then TX5_skipBlanks_J39 (fun S => TX5_skipBlanks_L0 n S) S else
  some S)))
theorem eqX5_skipBlanks_L0 (t : Nat) (ct : Nat → ClassId) : ∀ (n : Nat), ∀ (S : SS), EQ (X5_skipBlanks_L0 n (t + 60) (HH t ct S)) (TX5_skipBlanks_L0 n S) (HH t ct) := by
  intro n
  induction n with
  | zero => intro S; exact e_none
  | succ n ih =>
    intro S
    unfold X5_skipBlanks_L0 TX5_skipBlanks_L0
    refine e_get (HH_gI rfl rfl) ?_
    refine e_get (HH_gI rfl rfl) ?_
    refine e_ite ?_ ?_
    · exact e_ret rfl
    · refine e_get (HH_gR rfl rfl) ?_
      refine e_get (HH_gI rfl rfl) ?_
      refine e_bind (HH_aI rfl) ?_
      intro v5
      refine e_ite ?_ ?_
      · exact eqX5_skipBlanks_J39 t ct _ (fun S => TX5_skipBlanks_L0 n S) ih S
      · refine e_get (HH_gR rfl rfl) ?_
        refine e_get (HH_gI rfl rfl) ?_
        refine e_bind (HH_aI rfl) ?_
        intro v10
        refine e_ite ?_ ?_
        · exact eqX5_skipBlanks_J39 t ct _ (fun S => TX5_skipBlanks_L0 n S) ih S
        · exact e_ret rfl
def TX5_skipBlanks (S : SS) : Option (SS) := TX5_skipBlanks_L0 fu S
theorem eqX5_skipBlanks (t : Nat) (ct : Nat → ClassId) (S : SS) : X5_skipBlanks (t + 60) (HH t ct S) = (TX5_skipBlanks S).map (HH t ct) := by
  show EQ _ _ _
  unfold X5_skipBlanks TX5_skipBlanks
  refine e_get (HH_vO rfl) ?_
  exact eqX5_skipBlanks_L0 t ct fu S
def TX5_lettersHere_J41 (S : SS) (l1 : Int32) : Option (Int32) := some (l1 - (S.1 60 4))
theorem eqX5_lettersHere_J41 (t : Nat) (ct : Nat → ClassId) (S : SS) : ∀ (l1 : Int32), EQ (X5_lettersHere_J41 (HH t ct S) (t + 60) l1) (TX5_lettersHere_J41 S l1) id := by
  intro l1
  unfold X5_lettersHere_J41 TX5_lettersHere_J41
  refine e_get (HH_gI rfl rfl) ?_
  exact e_ret rfl
def TX5_lettersHere_L5 (S : SS) : Nat → Int32 → Option (Int32)
  | 0, _ => none
  | n + 1, l1 => (if (S.1 60 1) ≤ l1 then TX5_lettersHere_J41 S l1 else
  (aget 60 (S.2.2.1 61) l1).bind fun v5 =>
  (if v5 < 97 then TX5_lettersHere_J41 S l1 else
  (aget 60 (S.2.2.1 61) l1).bind fun v7 =>
  (if 122 < v7 then TX5_lettersHere_J41 S l1 else
  TX5_lettersHere_L5 S n (l1 + 1))))
theorem eqX5_lettersHere_L5 (t : Nat) (ct : Nat → ClassId) (S : SS) : ∀ (n : Nat), ∀ (l1 : Int32), EQ (X5_lettersHere_L5 (HH t ct S) n (t + 60) l1) (TX5_lettersHere_L5 S n l1) id := by
  intro n
  induction n with
  | zero => intro l1; exact e_none
  | succ n ih =>
    intro l1
    unfold X5_lettersHere_L5 TX5_lettersHere_L5
    refine e_get (HH_gI rfl rfl) ?_
    refine e_ite ?_ ?_
    · exact eqX5_lettersHere_J41 t ct S l1
    · refine e_get (HH_gR rfl rfl) ?_
      refine e_bind (HH_aI rfl) ?_
      intro v5
      refine e_ite ?_ ?_
      · exact eqX5_lettersHere_J41 t ct S l1
      · refine e_get (HH_gR rfl rfl) ?_
        refine e_bind (HH_aI rfl) ?_
        intro v7
        refine e_ite ?_ ?_
        · exact eqX5_lettersHere_J41 t ct S l1
        · exact ih (l1 + 1)
def TX5_lettersHere (S : SS) : Option (Int32) := TX5_lettersHere_L5 S fu (S.1 60 4)
theorem eqX5_lettersHere (t : Nat) (ct : Nat → ClassId) (S : SS) : X5_lettersHere (t + 60) (HH t ct S) = (TX5_lettersHere S).map id := by
  show EQ _ _ _
  unfold X5_lettersHere TX5_lettersHere
  refine e_get (HH_vO rfl) ?_
  refine e_get (HH_gI rfl rfl) ?_
  exact eqX5_lettersHere_L5 t ct S fu (S.1 60 4)
def TX5_isHere_L25 (ct : Nat → ClassId) (S : SS) (a1 : Nat) : Nat → Int32 → Int32 → Option (Int32)
  | 0, _, _ => none
  | n + 1, l2, l3 => (if l2 ≤ l3 then (zb 1).bind fun v5 => some v5 else
  (aget 60 (S.2.2.1 61) ((S.1 60 4) + l3)).bind fun v8 =>
  (tChr ct a1 l3).bind fun v9 =>
  (if v8 = v9 then TX5_isHere_L25 ct S a1 n l2 (l3 + 1) else
  (zb 0).bind fun v10 => some v10))
theorem eqX5_isHere_L25 (t : Nat) (ct : Nat → ClassId) (a1 : Nat) (S : SS) : ∀ (n : Nat), ∀ (l2 : Int32) (l3 : Int32), EQ (X5_isHere_L25 (HH t ct S) n (t + 60) a1 l2 l3) (TX5_isHere_L25 ct S a1 n l2 l3) id := by
  intro n
  induction n with
  | zero => intro l2 l3; exact e_none
  | succ n ih =>
    intro l2 l3
    unfold X5_isHere_L25 TX5_isHere_L25
    refine e_ite ?_ ?_
    · exact e_bind rfl (fun _ => e_ret rfl)
    · refine e_get (HH_gR rfl rfl) ?_
      refine e_get (HH_gI rfl rfl) ?_
      refine e_bind (HH_aI rfl) ?_
      intro v8
      refine e_bind rfl ?_
      intro v9
      refine e_ite ?_ ?_
      · exact ih l2 (l3 + 1)
      · exact e_bind rfl (fun _ => e_ret rfl)
def TX5_isHere (ct : Nat → ClassId) (a1 : Nat) (a2 : Int32) (S : SS) : Option (Int32) := (tLen ct a1).bind fun v1 =>
  (if v1 = a2 then (if ((S.1 60 4) + a2) ≤ (S.1 60 1) then TX5_isHere_L25 ct S a1 fu a2 0 else
  (zb 0).bind fun v11 => some v11) else
  (zb 0).bind fun v2 => some v2)
theorem eqX5_isHere (t : Nat) (ct : Nat → ClassId) (a1 : Nat) (a2 : Int32) (S : SS) : X5_isHere (t + 60) a1 a2 (HH t ct S) = (TX5_isHere ct a1 a2 S).map id := by
  show EQ _ _ _
  unfold X5_isHere TX5_isHere
  refine e_get (HH_vO rfl) ?_
  refine e_bind rfl ?_
  intro v1
  refine e_ite ?_ ?_
  · refine e_get (HH_gI rfl rfl) ?_
    refine e_get (HH_gI rfl rfl) ?_
    refine e_ite ?_ ?_
    · exact eqX5_isHere_L25 t ct a1 S fu a2 0
    · exact e_bind rfl (fun _ => e_ret rfl)
  · exact e_bind rfl (fun _ => e_ret rfl)
def TX5_wordHere_L2 (ct : Nat → ClassId) (S : SS) : Nat → Int32 → Int32 → Option (Int32)
  | 0, _, _ => none
  | n + 1, l1, l2 => (if 8 ≤ l2 then some (-1) else
  (TX5_nameOf ct l2 S).bind fun v1 =>
  (TX5_isHere ct v1 l1 S).bind fun v2 =>
  (if v2 = 0 then TX5_wordHere_L2 ct S n l1 (l2 + 1) else
  some l2))
theorem eqX5_wordHere_L2 (t : Nat) (ct : Nat → ClassId) (S : SS) : ∀ (n : Nat), ∀ (l1 : Int32) (l2 : Int32), EQ (X5_wordHere_L2 (HH t ct S) n (t + 60) l1 l2) (TX5_wordHere_L2 ct S n l1 l2) id := by
  intro n
  induction n with
  | zero => intro l1 l2; exact e_none
  | succ n ih =>
    intro l1 l2
    unfold X5_wordHere_L2 TX5_wordHere_L2
    refine e_ite ?_ ?_
    · exact e_ret rfl
    · refine e_call (eqX5_nameOf t ct l2 S) ?_
      intro v1
      refine e_call (eqX5_isHere t ct v1 l1 S) ?_
      intro v2
      refine e_ite ?_ ?_
      · exact ih l1 (l2 + 1)
      · exact e_ret rfl
def TX5_wordHere (ct : Nat → ClassId) (a1 : Int32) (S : SS) : Option (Int32) := TX5_wordHere_L2 ct S fu a1 0
theorem eqX5_wordHere (t : Nat) (ct : Nat → ClassId) (a1 : Int32) (S : SS) : X5_wordHere (t + 60) a1 (HH t ct S) = (TX5_wordHere ct a1 S).map id := by
  show EQ _ _ _
  unfold X5_wordHere TX5_wordHere
  refine e_get (HH_vO rfl) ?_
  exact eqX5_wordHere_L2 t ct S fu a1 0
def TX5_planNext (a1 : Int32) (S : SS) : Option (SS) := (if 60 ≤ (S.1 60 3) then some S else
  (if jin (S.1 60 3) 60 then letS (sAI S 62 (Int32.toNatClampNeg (S.1 60 3)) a1) fun S4 =>
  letS (sFI S4 60 3 ((S4.1 60 3) + 1)) fun S6 =>
  some S6 else
  none))
theorem eqX5_planNext (t : Nat) (ct : Nat → ClassId) (a1 : Int32) (S : SS) : X5_planNext (t + 60) a1 (HH t ct S) = (TX5_planNext a1 S).map (HH t ct) := by
  show EQ _ _ _
  unfold X5_planNext TX5_planNext
  refine e_get (HH_vO rfl) ?_
  refine e_get (HH_gI rfl rfl) ?_
  refine e_ite ?_ ?_
  · exact e_ret rfl
  · refine e_get (HH_gR rfl rfl) ?_
    refine e_get (HH_gI rfl rfl) ?_
    refine e_wrS (HH_wI rfl) ?_
    intro S4
    refine e_get (HH_gI rfl rfl) ?_
    refine e_put (HH_pI rfl rfl) ?_
    intro S6
    exact e_ret rfl
def TX5_readNumber_J134 (l3 : Int32) (s0 : Int32) (S : SS) : Option (Int32 × SS) := (TX5_planNext s0 S).bind fun q6 =>
  letS (sFI q6 60 4 l3) fun S7 =>
  (zb 1).bind fun v8 => some (v8, S7)
theorem eqX5_readNumber_J134 (t : Nat) (ct : Nat → ClassId) : ∀ (l3 : Int32) (s0 : Int32) (S : SS), EQ (X5_readNumber_J134 (t + 60) l3 s0 (t + 60) (HH t ct S)) (TX5_readNumber_J134 l3 s0 S) (hwI t ct) := by
  intro l3 s0 S
  unfold X5_readNumber_J134 TX5_readNumber_J134
  refine e_call (eqX5_planNext t ct s0 S) ?_
  intro q6
  refine e_put (HH_pI rfl rfl) ?_
  intro S7
  exact e_bind rfl (fun _ => e_ret rfl)
def TX5_readNumber_J107 (l1 : Int32) (l2 : Int32) (l3 : Int32) (l4 : Int32) (S : SS) : Option (Int32 × SS) := (if l3 = l2 then (zb 0).bind fun v5 => some (v5, S) else
  (if (l3 - l2) ≤ 3 then (if l1 = 0 then TX5_readNumber_J134 l3 l4 S else
  TX5_readNumber_J134 l3 (-l4) S) else
  (zb 0).bind fun v9 => some (v9, S)))
theorem eqX5_readNumber_J107 (t : Nat) (ct : Nat → ClassId) : ∀ (l1 : Int32) (l2 : Int32) (l3 : Int32) (l4 : Int32) (S : SS), EQ (X5_readNumber_J107 (t + 60) l1 l2 l3 l4 (HH t ct S)) (TX5_readNumber_J107 l1 l2 l3 l4 S) (hwI t ct) := by
  intro l1 l2 l3 l4 S
  unfold X5_readNumber_J107 TX5_readNumber_J107
  refine e_ite ?_ ?_
  · exact e_bind rfl (fun _ => e_ret rfl)
  · refine e_ite ?_ ?_
    · refine e_ite ?_ ?_
      · exact eqX5_readNumber_J134 t ct l3 l4 S
      · exact eqX5_readNumber_J134 t ct l3 (-l4) S
    · exact e_bind rfl (fun _ => e_ret rfl)
def TX5_readNumber_L54 : Nat → Int32 → Int32 → Int32 → Int32 → SS → Option (Int32 × SS)
  | 0, _, _, _, _, _ => none
  | n + 1, l1, l2, l3, l4, S => (if (S.1 60 1) ≤ l3 then TX5_readNumber_J107 l1 l2 l3 l4 S else
  (aget 60 (S.2.2.1 61) l3).bind fun v11 =>
  (if v11 < 48 then TX5_readNumber_J107 l1 l2 l3 l4 S else
  (aget 60 (S.2.2.1 61) l3).bind fun v13 =>
  (if 57 < v13 then TX5_readNumber_J107 l1 l2 l3 l4 S else
  (aget 60 (S.2.2.1 61) l3).bind fun v15 =>
  TX5_readNumber_L54 n l1 l2 (l3 + 1) (((l4 * 10) + v15) - 48) S)))
theorem eqX5_readNumber_L54 (t : Nat) (ct : Nat → ClassId) : ∀ (n : Nat), ∀ (l1 : Int32) (l2 : Int32) (l3 : Int32) (l4 : Int32) (S : SS), EQ (X5_readNumber_L54 n (t + 60) l1 l2 l3 l4 (HH t ct S)) (TX5_readNumber_L54 n l1 l2 l3 l4 S) (hwI t ct) := by
  intro n
  induction n with
  | zero => intro l1 l2 l3 l4 S; exact e_none
  | succ n ih =>
    intro l1 l2 l3 l4 S
    unfold X5_readNumber_L54 TX5_readNumber_L54
    refine e_get (HH_gI rfl rfl) ?_
    refine e_ite ?_ ?_
    · exact eqX5_readNumber_J107 t ct l1 l2 l3 l4 S
    · refine e_get (HH_gR rfl rfl) ?_
      refine e_bind (HH_aI rfl) ?_
      intro v11
      refine e_ite ?_ ?_
      · exact eqX5_readNumber_J107 t ct l1 l2 l3 l4 S
      · refine e_get (HH_gR rfl rfl) ?_
        refine e_bind (HH_aI rfl) ?_
        intro v13
        refine e_ite ?_ ?_
        · exact eqX5_readNumber_J107 t ct l1 l2 l3 l4 S
        · refine e_get (HH_gR rfl rfl) ?_
          refine e_bind (HH_aI rfl) ?_
          intro v15
          exact ih l1 l2 (l3 + 1) (((l4 * 10) + v15) - 48) S
def TX5_readNumber_J48 (l1 : Int32) (s0 : Int32) (S : SS) : Option (Int32 × SS) := TX5_readNumber_L54 fu l1 s0 s0 0 S
theorem eqX5_readNumber_J48 (t : Nat) (ct : Nat → ClassId) : ∀ (l1 : Int32) (s0 : Int32) (S : SS), EQ (X5_readNumber_J48 (t + 60) l1 s0 (HH t ct S)) (TX5_readNumber_J48 l1 s0 S) (hwI t ct) := by
  intro l1 s0 S
  unfold X5_readNumber_J48 TX5_readNumber_J48
  exact eqX5_readNumber_L54 t ct fu l1 s0 s0 0 S
def TX5_readNumber_J30 (s0 : Int32) (S : SS) : Option (Int32 × SS) := (if s0 = 0 then TX5_readNumber_J48 s0 (S.1 60 4) S else
  TX5_readNumber_J48 s0 ((S.1 60 4) + 1) S)
theorem eqX5_readNumber_J30 (t : Nat) (ct : Nat → ClassId) : ∀ (s0 : Int32) (S : SS), EQ (X5_readNumber_J30 (t + 60) s0 (HH t ct S)) (TX5_readNumber_J30 s0 S) (hwI t ct) := by
  intro s0 S
  unfold X5_readNumber_J30 TX5_readNumber_J30
  refine e_ite ?_ ?_
  · refine e_get (HH_gI rfl rfl) ?_
    exact eqX5_readNumber_J48 t ct s0 (S.1 60 4) S
  · refine e_get (HH_gI rfl rfl) ?_
    exact eqX5_readNumber_J48 t ct s0 ((S.1 60 4) + 1) S
def TX5_readNumber (S : SS) : Option (Int32 × SS) := (if (S.1 60 1) ≤ (S.1 60 4) then TX5_readNumber_J30 0 S else
  (aget 60 (S.2.2.1 61) (S.1 60 4)).bind fun v19 =>
  (if v19 = 45 then TX5_readNumber_J30 1 S else
  TX5_readNumber_J30 0 S))
theorem eqX5_readNumber (t : Nat) (ct : Nat → ClassId) (S : SS) : X5_readNumber (t + 60) (HH t ct S) = (TX5_readNumber S).map (hwI t ct) := by
  show EQ _ _ _
  unfold X5_readNumber TX5_readNumber
  refine e_get (HH_vO rfl) ?_
  refine e_get (HH_gI rfl rfl) ?_
  refine e_get (HH_gI rfl rfl) ?_
  refine e_ite ?_ ?_
  · exact eqX5_readNumber_J30 t ct 0 S
  · refine e_get (HH_gR rfl rfl) ?_
    refine e_get (HH_gI rfl rfl) ?_
    refine e_bind (HH_aI rfl) ?_
    intro v19
    refine e_ite ?_ ?_
    · exact eqX5_readNumber_J30 t ct 1 S
    · exact eqX5_readNumber_J30 t ct 0 S
def TX5_readClause_L39 (ct : Nat → ClassId) : Nat → Int32 → Int32 → SS → Option (Int32 × SS)
  | 0, _, _, _ => none
  | n + 1, l2, l3, S => (TX5_numbersOf l2).bind fun v7 =>
  (if v7 ≤ l3 then (zb 1).bind fun v8 => some (v8, S) else
  (TX5_skipBlanks S).bind fun q9 =>
  (TX5_readNumber q9).bind fun q10 =>
  (if q10.1 = 0 then (zb 0).bind fun v11 => some (v11, q10.2) else
  TX5_readClause_L39 ct n l2 (l3 + 1) q10.2))
theorem eqX5_readClause_L39 (t : Nat) (ct : Nat → ClassId) : ∀ (n : Nat), ∀ (l2 : Int32) (l3 : Int32) (S : SS), EQ (X5_readClause_L39 n (t + 60) l2 l3 (HH t ct S)) (TX5_readClause_L39 ct n l2 l3 S) (hwI t ct) := by
  intro n
  induction n with
  | zero => intro l2 l3 S; exact e_none
  | succ n ih =>
    intro l2 l3 S
    unfold X5_readClause_L39 TX5_readClause_L39
    refine e_call (eqX5_numbersOf t ct l2) ?_
    intro v7
    refine e_ite ?_ ?_
    · exact e_bind rfl (fun _ => e_ret rfl)
    · refine e_call (eqX5_skipBlanks t ct S) ?_
      intro q9
      refine e_call (eqX5_readNumber t ct q9) ?_
      intro q10
      refine e_ite ?_ ?_
      · exact e_bind rfl (fun _ => e_ret rfl)
      · exact ih l2 (l3 + 1) q10.2
def TX5_readClause (ct : Nat → ClassId) (S : SS) : Option (Int32 × SS) := (TX5_skipBlanks S).bind fun q1 =>
  (TX5_lettersHere q1).bind fun v2 =>
  (TX5_wordHere ct v2 q1).bind fun v3 =>
  (if v3 = (-1) then (zb 0).bind fun v12 => some (v12, q1) else
  letS (sFI q1 60 4 ((q1.1 60 4) + v2)) fun S5 =>
  (TX5_planNext v3 S5).bind fun q6 =>
  TX5_readClause_L39 ct fu v3 0 q6)
theorem eqX5_readClause (t : Nat) (ct : Nat → ClassId) (S : SS) : X5_readClause (t + 60) (HH t ct S) = (TX5_readClause ct S).map (hwI t ct) := by
  show EQ _ _ _
  unfold X5_readClause TX5_readClause
  refine e_get (HH_vO rfl) ?_
  refine e_call (eqX5_skipBlanks t ct S) ?_
  intro q1
  refine e_call (eqX5_lettersHere t ct q1) ?_
  intro v2
  refine e_call (eqX5_wordHere t ct v2 q1) ?_
  intro v3
  refine e_ite ?_ ?_
  · exact e_bind rfl (fun _ => e_ret rfl)
  · refine e_get (HH_gI rfl rfl) ?_
    refine e_put (HH_pI rfl rfl) ?_
    intro S5
    refine e_call (eqX5_planNext t ct v3 S5) ?_
    intro q6
    exact eqX5_readClause_L39 t ct fu v3 0 q6
def TX5_read_L12 (ct : Nat → ClassId) : Nat → Int32 → SS → Option (Int32 × SS)
  | 0, _, _ => none
  | n + 1, l1, S => (if 60 ≤ l1 then some ((S.1 60 4), S) else
  (TX5_readClause ct S).bind fun q4 =>
  (if q4.1 = 0 then some ((q4.2.1 60 4), q4.2) else
  (TX5_skipBlanks q4.2).bind fun q5 =>
  (if (q5.1 60 4) < (q5.1 60 1) then (aget 60 (q5.2.2.1 61) (q5.1 60 4)).bind fun v10 =>
  (if v10 = 59 then letS (sFI q5 60 4 ((q5.1 60 4) + 1)) fun S12 =>
  TX5_read_L12 ct n (l1 + 1) S12 else
  some ((q5.1 60 4), q5)) else
  some ((-1), q5))))
theorem eqX5_read_L12 (t : Nat) (ct : Nat → ClassId) : ∀ (n : Nat), ∀ (l1 : Int32) (S : SS), EQ (X5_read_L12 n (t + 60) l1 (HH t ct S)) (TX5_read_L12 ct n l1 S) (hwI t ct) := by
  intro n
  induction n with
  | zero => intro l1 S; exact e_none
  | succ n ih =>
    intro l1 S
    unfold X5_read_L12 TX5_read_L12
    refine e_ite ?_ ?_
    · refine e_get (HH_gI rfl rfl) ?_
      exact e_ret rfl
    · refine e_call (eqX5_readClause t ct S) ?_
      intro q4
      refine e_ite ?_ ?_
      · refine e_get (HH_gI rfl rfl) ?_
        exact e_ret rfl
      · refine e_call (eqX5_skipBlanks t ct q4.2) ?_
        intro q5
        refine e_get (HH_gI rfl rfl) ?_
        refine e_get (HH_gI rfl rfl) ?_
        refine e_ite ?_ ?_
        · refine e_get (HH_gR rfl rfl) ?_
          refine e_get (HH_gI rfl rfl) ?_
          refine e_bind (HH_aI rfl) ?_
          intro v10
          refine e_ite ?_ ?_
          · refine e_get (HH_gI rfl rfl) ?_
            refine e_put (HH_pI rfl rfl) ?_
            intro S12
            exact ih (l1 + 1) S12
          · refine e_get (HH_gI rfl rfl) ?_
            exact e_ret rfl
        · exact e_ret rfl
def TX5_read (ct : Nat → ClassId) (S : SS) : Option (Int32 × SS) := letS (sFI S 60 4 0) fun S1 =>
  letS (sFI S1 60 3 0) fun S2 =>
  TX5_read_L12 ct fu 0 S2
theorem eqX5_read (t : Nat) (ct : Nat → ClassId) (S : SS) : X5_read (t + 60) (HH t ct S) = (TX5_read ct S).map (hwI t ct) := by
  show EQ _ _ _
  unfold X5_read TX5_read
  refine e_get (HH_vO rfl) ?_
  refine e_put (HH_pI rfl rfl) ?_
  intro S1
  refine e_put (HH_pI rfl rfl) ?_
  intro S2
  exact eqX5_read_L12 t ct fu 0 S2
def TX6_between (a0 : Int32) (a1 : Int32) (a2 : Int32) : Option (Int32) := (if a0 < a1 then (zb 0).bind fun v1 => some v1 else
  (if a2 < a0 then (zb 0).bind fun v2 => some v2 else
  (zb 1).bind fun v3 => some v3))
theorem eqX6_between (t : Nat) (ct : Nat → ClassId) (a0 : Int32) (a1 : Int32) (a2 : Int32) : X6_between a0 a1 a2 = (TX6_between a0 a1 a2).map id := by
  show EQ _ _ _
  unfold X6_between TX6_between
  refine e_ite ?_ ?_
  · exact e_bind rfl (fun _ => e_ret rfl)
  · refine e_ite ?_ ?_
    · exact e_bind rfl (fun _ => e_ret rfl)
    · exact e_bind rfl (fun _ => e_ret rfl)
def TX6_isKind (a0 : Int32) : Option (Int32) := (TX6_between a0 0 5).bind fun v1 =>
  (zb v1).bind fun v2 => some v2
theorem eqX6_isKind (t : Nat) (ct : Nat → ClassId) (a0 : Int32) : X6_isKind a0 = (TX6_isKind a0).map id := by
  show EQ _ _ _
  unfold X6_isKind TX6_isKind
  refine e_call (eqX6_between t ct a0 0 5) ?_
  intro v1
  exact e_bind rfl (fun _ => e_ret rfl)
def TX6_isK (a0 : Int32) : Option (Int32) := (TX6_between a0 1 9).bind fun v1 =>
  (zb v1).bind fun v2 => some v2
theorem eqX6_isK (t : Nat) (ct : Nat → ClassId) (a0 : Int32) : X6_isK a0 = (TX6_isK a0).map id := by
  show EQ _ _ _
  unfold X6_isK TX6_isK
  refine e_call (eqX6_between t ct a0 1 9) ?_
  intro v1
  exact e_bind rfl (fun _ => e_ret rfl)
def TX6_isC (a0 : Int32) : Option (Int32) := (TX6_between a0 1 4).bind fun v1 =>
  (zb v1).bind fun v2 => some v2
theorem eqX6_isC (t : Nat) (ct : Nat → ClassId) (a0 : Int32) : X6_isC a0 = (TX6_isC a0).map id := by
  show EQ _ _ _
  unfold X6_isC TX6_isC
  refine e_call (eqX6_between t ct a0 1 4) ?_
  intro v1
  exact e_bind rfl (fun _ => e_ret rfl)
