/-! Terms over the four pictures. Written by wip/whole/decompT.py. -/
def TX6_sheet (a1 : Int32) (a2 : Int32) (a3 : Int32) (S : SS) : Option (Int32 × SS) := (TX6_isSheet a1).bind fun v1 =>
  (if v1 = 0 then some ((-2), S) else
  (TX6_between a2 (-1) 1).bind fun v2 =>
  (if v2 = 0 then some ((-2), S) else
  (if a2 = (-1) then (TX3_renew a1 (-1) 0 S).bind fun q6 =>
  some (1, q6) else
  (if a3 ≤ 40 then (if 0 ≤ a3 then (TX3_renew a1 a2 a3 S).bind fun q4 =>
  some (1, q4) else
  some ((-14), S)) else
  some ((-2), S)))))
theorem eqX6_sheet (t : Nat) (ct : Nat → ClassId) (a1 : Int32) (a2 : Int32) (a3 : Int32) (S : SS) : X6_sheet (t + 0) a1 a2 a3 (HH t ct S) = (TX6_sheet a1 a2 a3 S).map (hwI t ct) := by
  show EQ _ _ _
  unfold X6_sheet TX6_sheet
  refine e_get (HH_vO rfl) ?_
  refine e_call (eqX6_isSheet t ct a1) ?_
  intro v1
  refine e_ite ?_ ?_
  · exact e_ret rfl
  · refine e_call (eqX6_between t ct a2 (-1) 1) ?_
    intro v2
    refine e_ite ?_ ?_
    · exact e_ret rfl
    · refine e_ite ?_ ?_
      · refine e_get (HH_gR rfl rfl) ?_
        refine e_call (eqX3_renew t ct a1 (-1) 0 S) ?_
        intro q6
        exact e_ret rfl
      · refine e_ite ?_ ?_
        · refine e_ite ?_ ?_
          · refine e_get (HH_gR rfl rfl) ?_
            refine e_call (eqX3_renew t ct a1 a2 a3 S) ?_
            intro q4
            exact e_ret rfl
          · exact e_ret rfl
        · exact e_ret rfl
def TX6_put (a1 : Int32) (a2 : Int32) (a3 : Int32) (S : SS) : Option (Int32 × SS) := (TX6_isSheet a1).bind fun v1 =>
  (if v1 = 0 then some ((-2), S) else
  (TX3_isMissing a1 S).bind fun v3 =>
  (if v3 = 0 then (TX3_has a1 a2 S).bind fun v5 =>
  (if v5 = 0 then some ((-12), S) else
  (if jin a1 4 then (aget 4 (S.2.2.1 53) a1).bind fun v11 =>
  (if v11 = 0 then (if jin a2 40 then letS (sAI S (56 + (a1).toNatClampNeg) (Int32.toNatClampNeg a2) ((Int32.toInt16 a3).toInt32)) fun S13 =>
  some (1, S13) else
  none) else
  (if jin a2 40 then letS (sAI S (56 + (a1).toNatClampNeg) (Int32.toNatClampNeg a2) a3) fun S12 =>
  some (1, S12) else
  none)) else
  none)) else
  some ((-11), S)))
theorem eqX6_put (t : Nat) (ct : Nat → ClassId) (a1 : Int32) (a2 : Int32) (a3 : Int32) (S : SS) : X6_put (t + 0) a1 a2 a3 (HH t ct S) = (TX6_put a1 a2 a3 S).map (hwI t ct) := by
  show EQ _ _ _
  unfold X6_put TX6_put
  refine e_get (HH_vO rfl) ?_
  refine e_call (eqX6_isSheet t ct a1) ?_
  intro v1
  refine e_ite ?_ ?_
  · exact e_ret rfl
  · refine e_get (HH_gR rfl rfl) ?_
    refine e_call (eqX3_isMissing t ct a1 S) ?_
    intro v3
    refine e_ite ?_ ?_
    · refine e_get (HH_gR rfl rfl) ?_
      refine e_call (eqX3_has t ct a1 a2 S) ?_
      intro v5
      refine e_ite ?_ ?_
      · exact e_ret rfl
      · refine e_get (HH_gR rfl rfl) ?_
        refine e_get (HH_gR rfl rfl) ?_
        refine e_row (HH_aR rfl) ?_
        intro hj8
        rw [Nat.add_assoc]
        refine e_get (HH_gR rfl rfl) ?_
        refine e_get (HH_gR rfl rfl) ?_
        refine e_bind (HH_aI rfl) ?_
        intro v11
        refine e_ite ?_ ?_
        · refine e_wrS (HH_wI (row_ok hj8)) ?_
          intro S13
          exact e_ret rfl
        · refine e_wrS (HH_wI (row_ok hj8)) ?_
          intro S12
          exact e_ret rfl
    · exact e_ret rfl
def TX6_copy (a1 : Int32) (a2 : Int32) (a3 : Int32) (a4 : Int32) (a5 : Int32) (S : SS) : Option (Int32 × SS) := (TX6_isSheet a1).bind fun v1 =>
  (if v1 = 0 then some ((-2), S) else
  (TX6_isSheet a3).bind fun v2 =>
  (if v2 = 0 then some ((-2), S) else
  (TX3_isMissing a1 S).bind fun v4 =>
  (if v4 = 0 then (TX3_isMissing a3 S).bind fun v6 =>
  (if v6 = 0 then (aget 4 (S.2.2.1 53) a1).bind fun v9 =>
  (aget 4 (S.2.2.1 53) a3).bind fun v12 =>
  (if v9 = v12 then (TX3_hasRun a1 a2 a5 S).bind fun v14 =>
  (if v14 = 0 then some ((-12), S) else
  (TX3_hasRun a3 a4 a5 S).bind fun v16 =>
  (if v16 = 0 then some ((-12), S) else
  (if jin a1 4 then (if jin a3 4 then (if cpok a2 a4 a5 40 40 then letS (sRI S (56 + (a3).toNatClampNeg) (va_cpy (S.2.2.1 (56 + (a1).toNatClampNeg)) (S.2.2.1 (56 + (a3).toNatClampNeg)) (Int32.toNatClampNeg a2) (Int32.toNatClampNeg a4) (Int32.toNatClampNeg a5))) fun S23 =>
  some (a5, S23) else
  none) else
  none) else
  none))) else
  some ((-13), S)) else
  some ((-11), S)) else
  some ((-11), S))))
theorem eqX6_copy (t : Nat) (ct : Nat → ClassId) (a1 : Int32) (a2 : Int32) (a3 : Int32) (a4 : Int32) (a5 : Int32) (S : SS) : X6_copy (t + 0) a1 a2 a3 a4 a5 (HH t ct S) = (TX6_copy a1 a2 a3 a4 a5 S).map (hwI t ct) := by
  show EQ _ _ _
  unfold X6_copy TX6_copy
  refine e_get (HH_vO rfl) ?_
  refine e_call (eqX6_isSheet t ct a1) ?_
  intro v1
  refine e_ite ?_ ?_
  · exact e_ret rfl
  · refine e_call (eqX6_isSheet t ct a3) ?_
    intro v2
    refine e_ite ?_ ?_
    · exact e_ret rfl
    · refine e_get (HH_gR rfl rfl) ?_
      refine e_call (eqX3_isMissing t ct a1 S) ?_
      intro v4
      refine e_ite ?_ ?_
      · refine e_get (HH_gR rfl rfl) ?_
        refine e_call (eqX3_isMissing t ct a3 S) ?_
        intro v6
        refine e_ite ?_ ?_
        · refine e_get (HH_gR rfl rfl) ?_
          refine e_get (HH_gR rfl rfl) ?_
          refine e_bind (HH_aI rfl) ?_
          intro v9
          refine e_get (HH_gR rfl rfl) ?_
          refine e_get (HH_gR rfl rfl) ?_
          refine e_bind (HH_aI rfl) ?_
          intro v12
          refine e_ite ?_ ?_
          · refine e_get (HH_gR rfl rfl) ?_
            refine e_call (eqX3_hasRun t ct a1 a2 a5 S) ?_
            intro v14
            refine e_ite ?_ ?_
            · exact e_ret rfl
            · refine e_get (HH_gR rfl rfl) ?_
              refine e_call (eqX3_hasRun t ct a3 a4 a5 S) ?_
              intro v16
              refine e_ite ?_ ?_
              · exact e_ret rfl
              · refine e_get (HH_gR rfl rfl) ?_
                refine e_get (HH_gR rfl rfl) ?_
                refine e_row (HH_aR rfl) ?_
                intro hj19
                rw [Nat.add_assoc]
                refine e_get (HH_gR rfl rfl) ?_
                refine e_get (HH_gR rfl rfl) ?_
                refine e_row (HH_aR rfl) ?_
                intro hj22
                rw [Nat.add_assoc]
                refine e_wrS (HH_cpIE (row_ok hj19) (row_ok hj22)) ?_
                intro S23
                exact e_ret rfl
          · exact e_ret rfl
        · exact e_ret rfl
      · exact e_ret rfl
def TX7_isIn (a0 : Int64) (a1 : Int64) (a2 : Int64) : Option (Int32) := (if a0 < a1 then (zb 0).bind fun v1 => some v1 else
  (if a2 < a0 then (zb 0).bind fun v2 => some v2 else
  (zb 1).bind fun v3 => some v3))
theorem eqX7_isIn (t : Nat) (ct : Nat → ClassId) (a0 : Int64) (a1 : Int64) (a2 : Int64) : X7_isIn a0 a1 a2 = (TX7_isIn a0 a1 a2).map id := by
  show EQ _ _ _
  unfold X7_isIn TX7_isIn
  refine e_ite ?_ ?_
  · exact e_bind rfl (fun _ => e_ret rfl)
  · refine e_ite ?_ ?_
    · exact e_bind rfl (fun _ => e_ret rfl)
    · exact e_bind rfl (fun _ => e_ret rfl)
def TX7_isCell (a1 : Int32) (S : SS) : Option (Int32) := (TX7_isIn (Int32.toInt64 a1) 0 (Int32.toInt64 ((S.1 64 0) - 1))).bind fun v2 =>
  (zb v2).bind fun v3 => some v3
theorem eqX7_isCell (t : Nat) (ct : Nat → ClassId) (a1 : Int32) (S : SS) : X7_isCell (t + 64) a1 (HH t ct S) = (TX7_isCell a1 S).map id := by
  show EQ _ _ _
  unfold X7_isCell TX7_isCell
  refine e_get (HH_vO rfl) ?_
  refine e_get (HH_gI rfl rfl) ?_
  refine e_call (eqX7_isIn t ct (Int32.toInt64 a1) 0 (Int32.toInt64 ((S.1 64 0) - 1))) ?_
  intro v2
  exact e_bind rfl (fun _ => e_ret rfl)
def TX7_divisor_L12 : Nat → Int64 → Int64 → Option (Int64)
  | 0, _, _ => none
  | n + 1, l4, l6 => (if l6 = 0 then some l4 else
  (o_lrem l4 l6).bind fun v3 =>
  TX7_divisor_L12 n l6 v3)
theorem eqX7_divisor_L12 (t : Nat) (ct : Nat → ClassId) : ∀ (n : Nat), ∀ (l4 : Int64) (l6 : Int64), EQ (X7_divisor_L12 n l4 l6) (TX7_divisor_L12 n l4 l6) id := by
  intro n
  induction n with
  | zero => intro l4 l6; exact e_none
  | succ n ih =>
    intro l4 l6
    unfold X7_divisor_L12 TX7_divisor_L12
    refine e_ite ?_ ?_
    · exact e_ret rfl
    · refine e_bind rfl ?_
      intro v3
      exact ih l6 v3
def TX7_divisor (a0 : Int64) (a1 : Int64) : Option (Int64) := (TJ9_abs_067f4 a0).bind fun v1 =>
  (TJ9_abs_067f4 a1).bind fun v2 =>
  TX7_divisor_L12 fu v1 v2
theorem eqX7_divisor (t : Nat) (ct : Nat → ClassId) (a0 : Int64) (a1 : Int64) : X7_divisor a0 a1 = (TX7_divisor a0 a1).map id := by
  show EQ _ _ _
  unfold X7_divisor TX7_divisor
  refine e_call (eqJ9_abs_067f4 t ct a0) ?_
  intro v1
  refine e_call (eqJ9_abs_067f4 t ct a1) ?_
  intro v2
  exact eqX7_divisor_L12 t ct fu v1 v2
def TX7_part (a0 : Int64) (a1 : Int64) (a2 : Int32) : Option (Int64) := (TX7_divisor a0 a1).bind fun v1 =>
  (if a2 = 0 then (o_ldiv a0 v1).bind fun v3 =>
  some v3 else
  (o_ldiv a1 v1).bind fun v2 =>
  some v2)
theorem eqX7_part (t : Nat) (ct : Nat → ClassId) (a0 : Int64) (a1 : Int64) (a2 : Int32) : X7_part a0 a1 a2 = (TX7_part a0 a1 a2).map id := by
  show EQ _ _ _
  unfold X7_part TX7_part
  refine e_call (eqX7_divisor t ct a0 a1) ?_
  intro v1
  refine e_ite ?_ ?_
  · refine e_bind rfl ?_
    intro v3
    exact e_ret rfl
  · refine e_bind rfl ?_
    intro v2
    exact e_ret rfl
def TX7_lesser (a0 : Int64) (a1 : Int64) : Option (Int64) := (if a1 ≤ a0 then some a1 else
  some a0)
theorem eqX7_lesser (t : Nat) (ct : Nat → ClassId) (a0 : Int64) (a1 : Int64) : X7_lesser a0 a1 = (TX7_lesser a0 a1).map id := by
  show EQ _ _ _
  unfold X7_lesser TX7_lesser
  refine e_ite ?_ ?_
  · exact e_ret rfl
  · exact e_ret rfl
def TX7_above (a0 : Int32) : Option (Int32) := (if a0 = 0 then some (-1) else
  (if 3 ≤ a0 then (if a0 = 4 then some 2 else
  some 1) else
  some 0))
theorem eqX7_above (t : Nat) (ct : Nat → ClassId) (a0 : Int32) : X7_above a0 = (TX7_above a0).map id := by
  show EQ _ _ _
  unfold X7_above TX7_above
  refine e_ite ?_ ?_
  · exact e_ret rfl
  · refine e_ite ?_ ?_
    · refine e_ite ?_ ?_
      · exact e_ret rfl
      · exact e_ret rfl
    · exact e_ret rfl
def TX7_isUnder_J20 (l1 : Int32) (l2 : Int32) : Option (Int32) := (if l2 = l1 then (zb 1).bind fun v2 => some v2 else
  (zb 0).bind fun v1 => some v1)
theorem eqX7_isUnder_J20 (t : Nat) (ct : Nat → ClassId) : ∀ (l1 : Int32) (l2 : Int32), EQ (X7_isUnder_J20 l1 l2) (TX7_isUnder_J20 l1 l2) id := by
  intro l1 l2
  unfold X7_isUnder_J20 TX7_isUnder_J20
  refine e_ite ?_ ?_
  · exact e_bind rfl (fun _ => e_ret rfl)
  · exact e_bind rfl (fun _ => e_ret rfl)
def TX7_isUnder_L2 : Nat → Int32 → Int32 → Option (Int32)
  | 0, _, _ => none
  | n + 1, l1, l2 => (if l2 = (-1) then TX7_isUnder_J20 l1 l2 else
  (if l2 = l1 then TX7_isUnder_J20 l1 l2 else
  (TX7_above l2).bind fun v3 =>
  TX7_isUnder_L2 n l1 v3))
theorem eqX7_isUnder_L2 (t : Nat) (ct : Nat → ClassId) : ∀ (n : Nat), ∀ (l1 : Int32) (l2 : Int32), EQ (X7_isUnder_L2 n l1 l2) (TX7_isUnder_L2 n l1 l2) id := by
  intro n
  induction n with
  | zero => intro l1 l2; exact e_none
  | succ n ih =>
    intro l1 l2
    unfold X7_isUnder_L2 TX7_isUnder_L2
    refine e_ite ?_ ?_
    · exact eqX7_isUnder_J20 t ct l1 l2
    · refine e_ite ?_ ?_
      · exact eqX7_isUnder_J20 t ct l1 l2
      · refine e_call (eqX7_above t ct l2) ?_
        intro v3
        exact ih l1 v3
def TX7_isUnder (a0 : Int32) (a1 : Int32) : Option (Int32) := TX7_isUnder_L2 fu a1 a0
theorem eqX7_isUnder (t : Nat) (ct : Nat → ClassId) (a0 : Int32) (a1 : Int32) : X7_isUnder a0 a1 = (TX7_isUnder a0 a1).map id := by
  show EQ _ _ _
  unfold X7_isUnder TX7_isUnder
  exact eqX7_isUnder_L2 t ct fu a1 a0
def TX7_side (a1 : Int32) (S : SS) : Option (Int32) := (aget 8 (S.2.2.1 66) a1).bind fun v2 =>
  (aget 8 (S.2.2.1 65) a1).bind fun v4 =>
  (if v4 = 1 then (o_idiv (v2 + 1) 2).bind fun v5 =>
  some v5 else
  (if v4 = 2 then some v2 else
  (if v4 = 3 then (o_idiv (v2 + 1) 2).bind fun v8 =>
  some v8 else
  (if v4 = 4 then some (10 - v2) else
  (if v4 = 5 then (o_idiv (v2 + 1) 2).bind fun v11 =>
  (TJ9_min_7cf53 2 v11).bind fun v12 =>
  some v12 else
  some v2)))))
theorem eqX7_side (t : Nat) (ct : Nat → ClassId) (a1 : Int32) (S : SS) : X7_side (t + 64) a1 (HH t ct S) = (TX7_side a1 S).map id := by
  show EQ _ _ _
  unfold X7_side TX7_side
  refine e_get (HH_vO rfl) ?_
  refine e_get (HH_gR rfl rfl) ?_
  refine e_bind (HH_aI rfl) ?_
  intro v2
  refine e_get (HH_gR rfl rfl) ?_
  refine e_bind (HH_aI rfl) ?_
  intro v4
  refine e_ite ?_ ?_
  · refine e_bind rfl ?_
    intro v5
    exact e_ret rfl
  refine e_ite ?_ ?_
  · exact e_ret rfl
  refine e_ite ?_ ?_
  · refine e_bind rfl ?_
    intro v8
    exact e_ret rfl
  refine e_ite ?_ ?_
  · exact e_ret rfl
  refine e_ite ?_ ?_
  · refine e_bind rfl ?_
    intro v11
    refine e_call (eqJ9_min_7cf53 t ct 2 v11) ?_
    intro v12
    exact e_ret rfl
  exact e_ret rfl
def TX7_holds (a1 : Int32) (S : SS) : Option (Int32) := (aget 8 (S.2.2.1 65) a1).bind fun v2 =>
  (TX7_isUnder v2 2).bind fun v3 =>
  (if v3 = 0 then (aget 8 (S.2.2.1 67) a1).bind fun v5 =>
  some v5 else
  (aget 8 (S.2.2.1 67) a1).bind fun v7 =>
  some (2 * v7))
theorem eqX7_holds (t : Nat) (ct : Nat → ClassId) (a1 : Int32) (S : SS) : X7_holds (t + 64) a1 (HH t ct S) = (TX7_holds a1 S).map id := by
  show EQ _ _ _
  unfold X7_holds TX7_holds
  refine e_get (HH_vO rfl) ?_
  refine e_get (HH_gR rfl rfl) ?_
  refine e_bind (HH_aI rfl) ?_
  intro v2
  refine e_call (eqX7_isUnder t ct v2 2) ?_
  intro v3
  refine e_ite ?_ ?_
  · refine e_get (HH_gR rfl rfl) ?_
    refine e_bind (HH_aI rfl) ?_
    intro v5
    exact e_ret rfl
  · refine e_get (HH_gR rfl rfl) ?_
    refine e_bind (HH_aI rfl) ?_
    intro v7
    exact e_ret rfl
def TX7_fin (a1 : Int32) (S : SS) : Option (Int32) := (aget 8 (S.2.2.1 65) a1).bind fun v2 =>
  (if v2 = 3 then some 1 else
  some 0)
theorem eqX7_fin (t : Nat) (ct : Nat → ClassId) (a1 : Int32) (S : SS) : X7_fin (t + 64) a1 (HH t ct S) = (TX7_fin a1 S).map id := by
  show EQ _ _ _
  unfold X7_fin TX7_fin
  refine e_get (HH_vO rfl) ?_
  refine e_get (HH_gR rfl rfl) ?_
  refine e_bind (HH_aI rfl) ?_
  intro v2
  refine e_ite ?_ ?_
  · exact e_ret rfl
  · exact e_ret rfl
def TX7_made_J61 (S : SS) (l2 : Int32) (s0 : Int32) : Option (Int32) := (if l2 ≤ 2 then some s0 else
  some (((10 * s0) + l2) + 3))
theorem eqX7_made_J61 (t : Nat) (ct : Nat → ClassId) (S : SS) : ∀ (l2 : Int32) (s0 : Int32), EQ (X7_made_J61 (HH t ct S) l2 s0) (TX7_made_J61 S l2 s0) id := by
  intro l2 s0
  unfold X7_made_J61 TX7_made_J61
  refine e_ite ?_ ?_
  · exact e_ret rfl
  · exact e_ret rfl
def TX7_made_J25 (S : SS) (l2 : Int32) (s0 : Int32) : Option (Int32) := (TX7_isUnder l2 1).bind fun v5 =>
  (if v5 = 0 then (TX7_isUnder l2 2).bind fun v6 =>
  (if v6 = 0 then TX7_made_J61 S l2 s0 else
  TX7_made_J61 S l2 ((10 * s0) + 5)) else
  TX7_made_J61 S l2 ((10 * s0) + 4))
theorem eqX7_made_J25 (t : Nat) (ct : Nat → ClassId) (S : SS) : ∀ (l2 : Int32) (s0 : Int32), EQ (X7_made_J25 (HH t ct S) l2 s0) (TX7_made_J25 S l2 s0) id := by
  intro l2 s0
  unfold X7_made_J25 TX7_made_J25
  refine e_call (eqX7_isUnder t ct l2 1) ?_
  intro v5
  refine e_ite ?_ ?_
  · refine e_call (eqX7_isUnder t ct l2 2) ?_
    intro v6
    refine e_ite ?_ ?_
    · exact eqX7_made_J61 t ct S l2 s0
    · exact eqX7_made_J61 t ct S l2 ((10 * s0) + 5)
  · exact eqX7_made_J61 t ct S l2 ((10 * s0) + 4)
def TX7_made (a1 : Int32) (S : SS) : Option (Int32) := (aget 8 (S.2.2.1 65) a1).bind fun v2 =>
  (aget 8 (S.2.2.1 67) a1).bind fun v4 =>
  (if v4 = 1 then TX7_made_J25 S v2 132 else
  TX7_made_J25 S v2 13)
theorem eqX7_made (t : Nat) (ct : Nat → ClassId) (a1 : Int32) (S : SS) : X7_made (t + 64) a1 (HH t ct S) = (TX7_made a1 S).map id := by
  show EQ _ _ _
  unfold X7_made TX7_made
  refine e_get (HH_vO rfl) ?_
  refine e_get (HH_gR rfl rfl) ?_
  refine e_bind (HH_aI rfl) ?_
  intro v2
  refine e_get (HH_gR rfl rfl) ?_
  refine e_bind (HH_aI rfl) ?_
  intro v4
  refine e_ite ?_ ?_
  · exact eqX7_made_J25 t ct S v2 132
  · exact eqX7_made_J25 t ct S v2 13
def TX7_shorten_L44 : Nat → Int64 → Int32 → SS → Option (SS)
  | 0, _, _, _ => none
  | n + 1, l1, l3, S => (if (S.1 64 0) ≤ l3 then some S else
  (aget 8 (S.2.2.2 69) l3).bind fun v8 =>
  (o_ldiv v8 l1).bind fun v9 =>
  (if jin l3 8 then letS (sAL S 69 (Int32.toNatClampNeg l3) v9) fun S10 =>
  TX7_shorten_L44 n l1 (l3 + 1) S10 else
  none))
theorem eqX7_shorten_L44 (t : Nat) (ct : Nat → ClassId) : ∀ (n : Nat), ∀ (l1 : Int64) (l3 : Int32) (S : SS), EQ (X7_shorten_L44 n (t + 64) l1 l3 (HH t ct S)) (TX7_shorten_L44 n l1 l3 S) (HH t ct) := by
  intro n
  induction n with
  | zero => intro l1 l3 S; exact e_none
  | succ n ih =>
    intro l1 l3 S
    unfold X7_shorten_L44 TX7_shorten_L44
    refine e_get (HH_gI rfl rfl) ?_
    refine e_ite ?_ ?_
    · exact e_ret rfl
    · refine e_get (HH_gR rfl rfl) ?_
      refine e_bind (HH_aL rfl) ?_
      intro v8
      refine e_bind rfl ?_
      intro v9
      refine e_wrS (HH_wL rfl) ?_
      intro S10
      exact ih l1 (l3 + 1) S10
def TX7_shorten_L7 : Nat → Int64 → Int32 → SS → Option (SS)
  | 0, _, _, _ => none
  | n + 1, l1, l3, S => (if (S.1 64 0) ≤ l3 then (o_ldiv (S.2.1 64 6) l1).bind fun v4 =>
  letS (sFL S 64 6 v4) fun S5 =>
  TX7_shorten_L44 fu l1 0 S5 else
  (aget 8 (S.2.2.2 69) l3).bind fun v12 =>
  (TX7_divisor v12 l1).bind fun v13 =>
  TX7_shorten_L7 n v13 (l3 + 1) S)
theorem eqX7_shorten_L7 (t : Nat) (ct : Nat → ClassId) : ∀ (n : Nat), ∀ (l1 : Int64) (l3 : Int32) (S : SS), EQ (X7_shorten_L7 n (t + 64) l1 l3 (HH t ct S)) (TX7_shorten_L7 n l1 l3 S) (HH t ct) := by
  intro n
  induction n with
  | zero => intro l1 l3 S; exact e_none
  | succ n ih =>
    intro l1 l3 S
    unfold X7_shorten_L7 TX7_shorten_L7
    refine e_get (HH_gI rfl rfl) ?_
    refine e_ite ?_ ?_
    · refine e_get (HH_gL rfl rfl) ?_
      refine e_bind rfl ?_
      intro v4
      refine e_put (HH_pL rfl rfl) ?_
      intro S5
      exact eqX7_shorten_L44 t ct fu l1 0 S5
    · refine e_get (HH_gR rfl rfl) ?_
      refine e_bind (HH_aL rfl) ?_
      intro v12
      refine e_call (eqX7_divisor t ct v12 l1) ?_
      intro v13
      exact ih v13 (l3 + 1) S
def TX7_shorten (S : SS) : Option (SS) := TX7_shorten_L7 fu (S.2.1 64 6) 0 S
theorem eqX7_shorten (t : Nat) (ct : Nat → ClassId) (S : SS) : X7_shorten (t + 64) (HH t ct S) = (TX7_shorten S).map (HH t ct) := by
  show EQ _ _ _
  unfold X7_shorten TX7_shorten
  refine e_get (HH_vO rfl) ?_
  refine e_get (HH_gL rfl rfl) ?_
  exact eqX7_shorten_L7 t ct fu (S.2.1 64 6) 0 S
def TX7_isMade (a0 : Int32) (a1 : Int32) (a2 : Int32) : Option (Int32) := (TX7_isIn (Int32.toInt64 a0) 0 5).bind fun v1 =>
  (if v1 = 0 then (zb 0).bind fun v2 => some v2 else
  (TX7_isIn (Int32.toInt64 a1) 1 9).bind fun v3 =>
  (if v3 = 0 then (zb 0).bind fun v4 => some v4 else
  (TX7_isIn (Int32.toInt64 a2) 1 4).bind fun v5 =>
  (if v5 = 0 then (zb 0).bind fun v6 => some v6 else
  (zb 1).bind fun v7 => some v7)))
theorem eqX7_isMade (t : Nat) (ct : Nat → ClassId) (a0 : Int32) (a1 : Int32) (a2 : Int32) : X7_isMade a0 a1 a2 = (TX7_isMade a0 a1 a2).map id := by
  show EQ _ _ _
  unfold X7_isMade TX7_isMade
  refine e_call (eqX7_isIn t ct (Int32.toInt64 a0) 0 5) ?_
  intro v1
  refine e_ite ?_ ?_
  · exact e_bind rfl (fun _ => e_ret rfl)
  · refine e_call (eqX7_isIn t ct (Int32.toInt64 a1) 1 9) ?_
    intro v3
    refine e_ite ?_ ?_
    · exact e_bind rfl (fun _ => e_ret rfl)
    · refine e_call (eqX7_isIn t ct (Int32.toInt64 a2) 1 4) ?_
      intro v5
      refine e_ite ?_ ?_
      · exact e_bind rfl (fun _ => e_ret rfl)
      · exact e_bind rfl (fun _ => e_ret rfl)
def TX7_cell (a1 : Int32) (a2 : Int32) (a3 : Int32) (a4 : Int32) (S : SS) : Option (Int32 × SS) := (TX7_isMade a1 a2 a3).bind fun v1 =>
  (if v1 = 0 then some ((-2), S) else
  (TX7_isIn (Int32.toInt64 a4) 0 999).bind fun v2 =>
  (if v2 = 0 then some ((-2), S) else
  (if (S.1 64 0) = 8 then some ((-4), S) else
  (if jin (S.1 64 0) 8 then letS (sAI S 65 (Int32.toNatClampNeg (S.1 64 0)) a1) fun S6 =>
  (if jin (S6.1 64 0) 8 then letS (sAI S6 66 (Int32.toNatClampNeg (S6.1 64 0)) a2) fun S9 =>
  (if jin (S9.1 64 0) 8 then letS (sAI S9 67 (Int32.toNatClampNeg (S9.1 64 0)) a3) fun S12 =>
  (if jin (S12.1 64 0) 8 then letS (sAI S12 68 (Int32.toNatClampNeg (S12.1 64 0)) 0) fun S15 =>
  (if jin (S15.1 64 0) 8 then letS (sAL S15 69 (Int32.toNatClampNeg (S15.1 64 0)) ((Int32.toInt64 a4) * (S15.2.1 64 6))) fun S19 =>
  letS (sFI S19 64 0 ((S19.1 64 0) + 1)) fun S21 =>
  some (((S21.1 64 0) - 1), S21) else
  none) else
  none) else
  none) else
  none) else
  none))))
theorem eqX7_cell (t : Nat) (ct : Nat → ClassId) (a1 : Int32) (a2 : Int32) (a3 : Int32) (a4 : Int32) (S : SS) : X7_cell (t + 64) a1 a2 a3 a4 (HH t ct S) = (TX7_cell a1 a2 a3 a4 S).map (hwI t ct) := by
  show EQ _ _ _
  unfold X7_cell TX7_cell
  refine e_get (HH_vO rfl) ?_
  refine e_call (eqX7_isMade t ct a1 a2 a3) ?_
  intro v1
  refine e_ite ?_ ?_
  · exact e_ret rfl
  · refine e_call (eqX7_isIn t ct (Int32.toInt64 a4) 0 999) ?_
    intro v2
    refine e_ite ?_ ?_
    · exact e_ret rfl
    · refine e_get (HH_gI rfl rfl) ?_
      refine e_ite ?_ ?_
      · exact e_ret rfl
      · refine e_get (HH_gR rfl rfl) ?_
        refine e_get (HH_gI rfl rfl) ?_
        refine e_wrS (HH_wI rfl) ?_
        intro S6
        refine e_get (HH_gR rfl rfl) ?_
        refine e_get (HH_gI rfl rfl) ?_
        refine e_wrS (HH_wI rfl) ?_
        intro S9
        refine e_get (HH_gR rfl rfl) ?_
        refine e_get (HH_gI rfl rfl) ?_
        refine e_wrS (HH_wI rfl) ?_
        intro S12
        refine e_get (HH_gR rfl rfl) ?_
        refine e_get (HH_gI rfl rfl) ?_
        refine e_wrS (HH_wI rfl) ?_
        intro S15
        refine e_get (HH_gR rfl rfl) ?_
        refine e_get (HH_gI rfl rfl) ?_
        refine e_get (HH_gL rfl rfl) ?_
        refine e_wrS (HH_wL rfl) ?_
        intro S19
        refine e_get (HH_gI rfl rfl) ?_
        refine e_put (HH_pI rfl rfl) ?_
        intro S21
        refine e_get (HH_gI rfl rfl) ?_
        exact e_ret rfl
def TX7_hushed_L4 : Nat → Int32 → Int32 → Int32 → SS → Option (Int32 × SS)
  | 0, _, _, _, _ => none
  | n + 1, l1, l2, l3, S => (if (S.1 64 9) ≤ l3 then letS (sFI S 64 9 l2) fun S3 =>
  some (((S.1 64 9) - l2), S3) else
  (aget 12 (S.2.2.1 72) l3).bind fun v5 =>
  (if v5 = l1 then TX7_hushed_L4 n l1 l2 (l3 + 1) S else
  (aget 12 (S.2.2.1 72) l3).bind fun v8 =>
  (if jin l2 12 then letS (sAI S 72 (Int32.toNatClampNeg l2) v8) fun S9 =>
  (aget 12 (S9.2.2.1 73) l3).bind fun v12 =>
  (if jin l2 12 then letS (sAI S9 73 (Int32.toNatClampNeg l2) v12) fun S13 =>
  (aget 12 (S13.2.2.1 74) l3).bind fun v16 =>
  (if jin l2 12 then letS (sAI S13 74 (Int32.toNatClampNeg l2) v16) fun S17 =>
  TX7_hushed_L4 n l1 (l2 + 1) (l3 + 1) S17 else
  none) else
  none) else
  none)))
theorem eqX7_hushed_L4 (t : Nat) (ct : Nat → ClassId) : ∀ (n : Nat), ∀ (l1 : Int32) (l2 : Int32) (l3 : Int32) (S : SS), EQ (X7_hushed_L4 n (t + 64) l1 l2 l3 (HH t ct S)) (TX7_hushed_L4 n l1 l2 l3 S) (hwI t ct) := by
  intro n
  induction n with
  | zero => intro l1 l2 l3 S; exact e_none
  | succ n ih =>
    intro l1 l2 l3 S
    unfold X7_hushed_L4 TX7_hushed_L4
    refine e_get (HH_gI rfl rfl) ?_
    refine e_ite ?_ ?_
    · refine e_get (HH_gI rfl rfl) ?_
      refine e_put (HH_pI rfl rfl) ?_
      intro S3
      exact e_ret rfl
    · refine e_get (HH_gR rfl rfl) ?_
      refine e_bind (HH_aI rfl) ?_
      intro v5
      refine e_ite ?_ ?_
      · exact ih l1 l2 (l3 + 1) S
      · refine e_get (HH_gR rfl rfl) ?_
        refine e_get (HH_gR rfl rfl) ?_
        refine e_bind (HH_aI rfl) ?_
        intro v8
        refine e_wrS (HH_wI rfl) ?_
        intro S9
        refine e_get (HH_gR rfl rfl) ?_
        refine e_get (HH_gR rfl rfl) ?_
        refine e_bind (HH_aI rfl) ?_
        intro v12
        refine e_wrS (HH_wI rfl) ?_
        intro S13
        refine e_get (HH_gR rfl rfl) ?_
        refine e_get (HH_gR rfl rfl) ?_
        refine e_bind (HH_aI rfl) ?_
        intro v16
        refine e_wrS (HH_wI rfl) ?_
        intro S17
        exact ih l1 (l2 + 1) (l3 + 1) S17
def TX7_hushed (a1 : Int32) (S : SS) : Option (Int32 × SS) := TX7_hushed_L4 fu a1 0 0 S
theorem eqX7_hushed (t : Nat) (ct : Nat → ClassId) (a1 : Int32) (S : SS) : X7_hushed (t + 64) a1 (HH t ct S) = (TX7_hushed a1 S).map (hwI t ct) := by
  show EQ _ _ _
  unfold X7_hushed TX7_hushed
  refine e_get (HH_vO rfl) ?_
  exact eqX7_hushed_L4 t ct fu a1 0 0 S
def TX7_drop (S : SS) : Option (Int32 × SS) := (if (S.1 64 0) = 0 then some ((-3), S) else
  (TX7_hushed ((S.1 64 0) - 1) S).bind fun q3 =>
  letS (sFI q3.2 64 0 ((q3.2.1 64 0) - 1)) fun S5 =>
  (TX7_shorten S5).bind fun q6 =>
  some ((q6.1 64 0), q6))
theorem eqX7_drop (t : Nat) (ct : Nat → ClassId) (S : SS) : X7_drop (t + 64) (HH t ct S) = (TX7_drop S).map (hwI t ct) := by
  show EQ _ _ _
  unfold X7_drop TX7_drop
  refine e_get (HH_vO rfl) ?_
  refine e_get (HH_gI rfl rfl) ?_
  refine e_ite ?_ ?_
  · exact e_ret rfl
  · refine e_get (HH_gI rfl rfl) ?_
    refine e_call (eqX7_hushed t ct ((S.1 64 0) - 1) S) ?_
    intro q3
    refine e_get (HH_gI rfl rfl) ?_
    refine e_put (HH_pI rfl rfl) ?_
    intro S5
    refine e_call (eqX7_shorten t ct S5) ?_
    intro q6
    refine e_get (HH_gI rfl rfl) ?_
    exact e_ret rfl
def TX7_set_J143 (l1 : Int32) (l2 : Int32) (l3 : Int32) (s0 : Int32) (S : SS) : Option (Int32 × SS) := (if l2 = 0 then (if jin l1 8 then letS (sAI S 66 (Int32.toNatClampNeg l1) l3) fun S13 =>
  some (s0, S13) else
  none) else
  (if l2 = 1 then (if jin l1 8 then letS (sAI S 67 (Int32.toNatClampNeg l1) l3) fun S11 =>
  some (s0, S11) else
  none) else
  (if l2 = 2 then (if jin l1 8 then letS (sAI S 65 (Int32.toNatClampNeg l1) l3) fun S9 =>
  some (s0, S9) else
  none) else
  (if jin l1 8 then letS (sAI S 68 (Int32.toNatClampNeg l1) l3) fun S7 =>
  some (s0, S7) else
  none))))
theorem eqX7_set_J143 (t : Nat) (ct : Nat → ClassId) : ∀ (l1 : Int32) (l2 : Int32) (l3 : Int32) (s0 : Int32) (S : SS), EQ (X7_set_J143 (t + 64) l1 l2 l3 s0 (HH t ct S)) (TX7_set_J143 l1 l2 l3 s0 S) (hwI t ct) := by
  intro l1 l2 l3 s0 S
  unfold X7_set_J143 TX7_set_J143
  refine e_ite ?_ ?_
  · refine e_get (HH_gR rfl rfl) ?_
    refine e_wrS (HH_wI rfl) ?_
    intro S13
    exact e_ret rfl
  · refine e_ite ?_ ?_
    · refine e_get (HH_gR rfl rfl) ?_
      refine e_wrS (HH_wI rfl) ?_
      intro S11
      exact e_ret rfl
    · refine e_ite ?_ ?_
      · refine e_get (HH_gR rfl rfl) ?_
        refine e_wrS (HH_wI rfl) ?_
        intro S9
        exact e_ret rfl
      · refine e_get (HH_gR rfl rfl) ?_
        refine e_wrS (HH_wI rfl) ?_
        intro S7
        exact e_ret rfl
def TX7_set_J85 (l1 : Int32) (l2 : Int32) (l3 : Int32) (s0 : Int32) (S : SS) : Option (Int32 × SS) := (if s0 = 0 then some ((-1000), S) else
  (if l2 = 0 then (aget 8 (S.2.2.1 66) l1).bind fun v19 =>
  TX7_set_J143 l1 l2 l3 v19 S else
  (if l2 = 1 then (aget 8 (S.2.2.1 67) l1).bind fun v17 =>
  TX7_set_J143 l1 l2 l3 v17 S else
  (if l2 = 2 then (aget 8 (S.2.2.1 65) l1).bind fun v15 =>
  TX7_set_J143 l1 l2 l3 v15 S else
  (aget 8 (S.2.2.1 68) l1).bind fun v5 =>
  TX7_set_J143 l1 l2 l3 v5 S))))
theorem eqX7_set_J85 (t : Nat) (ct : Nat → ClassId) : ∀ (l1 : Int32) (l2 : Int32) (l3 : Int32) (s0 : Int32) (S : SS), EQ (X7_set_J85 (t + 64) l1 l2 l3 s0 (HH t ct S)) (TX7_set_J85 l1 l2 l3 s0 S) (hwI t ct) := by
  intro l1 l2 l3 s0 S
  unfold X7_set_J85 TX7_set_J85
  refine e_ite ?_ ?_
  · exact e_ret rfl
  · refine e_ite ?_ ?_
    · refine e_get (HH_gR rfl rfl) ?_
      refine e_bind (HH_aI rfl) ?_
      intro v19
      exact eqX7_set_J143 t ct l1 l2 l3 v19 S
    · refine e_ite ?_ ?_
      · refine e_get (HH_gR rfl rfl) ?_
        refine e_bind (HH_aI rfl) ?_
        intro v17
        exact eqX7_set_J143 t ct l1 l2 l3 v17 S
      · refine e_ite ?_ ?_
        · refine e_get (HH_gR rfl rfl) ?_
          refine e_bind (HH_aI rfl) ?_
          intro v15
          exact eqX7_set_J143 t ct l1 l2 l3 v15 S
        · refine e_get (HH_gR rfl rfl) ?_
          refine e_bind (HH_aI rfl) ?_
          intro v5
          exact eqX7_set_J143 t ct l1 l2 l3 v5 S
def TX7_set (a1 : Int32) (a2 : Int32) (a3 : Int32) (S : SS) : Option (Int32 × SS) := (TX7_isCell a1 S).bind fun v1 =>
  (if v1 = 0 then some ((-1000), S) else
  (TX7_isIn (Int32.toInt64 a2) 0 3).bind fun v2 =>
  (if v2 = 0 then some ((-1000), S) else
  (if a2 = 0 then (TX7_isIn (Int32.toInt64 a3) 1 9).bind fun v22 =>
  TX7_set_J85 a1 a2 a3 v22 S else
  (if a2 = 1 then (TX7_isIn (Int32.toInt64 a3) 1 4).bind fun v21 =>
  TX7_set_J85 a1 a2 a3 v21 S else
  (if a2 = 2 then (TX7_isIn (Int32.toInt64 a3) 0 5).bind fun v20 =>
  TX7_set_J85 a1 a2 a3 v20 S else
  (TX7_isIn (Int32.toInt64 a3) (-9) 9).bind fun v3 =>
  TX7_set_J85 a1 a2 a3 v3 S)))))
theorem eqX7_set (t : Nat) (ct : Nat → ClassId) (a1 : Int32) (a2 : Int32) (a3 : Int32) (S : SS) : X7_set (t + 64) a1 a2 a3 (HH t ct S) = (TX7_set a1 a2 a3 S).map (hwI t ct) := by
  show EQ _ _ _
  unfold X7_set TX7_set
  refine e_get (HH_vO rfl) ?_
  refine e_call (eqX7_isCell t ct a1 S) ?_
  intro v1
  refine e_ite ?_ ?_
  · exact e_ret rfl
  · refine e_call (eqX7_isIn t ct (Int32.toInt64 a2) 0 3) ?_
    intro v2
    refine e_ite ?_ ?_
    · exact e_ret rfl
    · refine e_ite ?_ ?_
      · refine e_call (eqX7_isIn t ct (Int32.toInt64 a3) 1 9) ?_
        intro v22
        exact eqX7_set_J85 t ct a1 a2 a3 v22 S
      · refine e_ite ?_ ?_
        · refine e_call (eqX7_isIn t ct (Int32.toInt64 a3) 1 4) ?_
          intro v21
          exact eqX7_set_J85 t ct a1 a2 a3 v21 S
        · refine e_ite ?_ ?_
          · refine e_call (eqX7_isIn t ct (Int32.toInt64 a3) 0 5) ?_
            intro v20
            exact eqX7_set_J85 t ct a1 a2 a3 v20 S
          · refine e_call (eqX7_isIn t ct (Int32.toInt64 a3) (-9) 9) ?_
            intro v3
            exact eqX7_set_J85 t ct a1 a2 a3 v3 S
def TX7_heat (a1 : Int32) (a2 : Int32) (S : SS) : Option (Int32 × SS) := (TX7_isCell a1 S).bind fun v1 =>
  (if v1 = 0 then some ((-2), S) else
  (TX7_isIn (Int32.toInt64 a2) 0 999).bind fun v2 =>
  (if v2 = 0 then some ((-2), S) else
  (if jin a1 8 then letS (sAL S 69 (Int32.toNatClampNeg a1) ((Int32.toInt64 a2) * (S.2.1 64 6))) fun S5 =>
  (TX7_shorten S5).bind fun q6 =>
  some (1, q6) else
  none)))
theorem eqX7_heat (t : Nat) (ct : Nat → ClassId) (a1 : Int32) (a2 : Int32) (S : SS) : X7_heat (t + 64) a1 a2 (HH t ct S) = (TX7_heat a1 a2 S).map (hwI t ct) := by
  show EQ _ _ _
  unfold X7_heat TX7_heat
  refine e_get (HH_vO rfl) ?_
  refine e_call (eqX7_isCell t ct a1 S) ?_
  intro v1
  refine e_ite ?_ ?_
  · exact e_ret rfl
  · refine e_call (eqX7_isIn t ct (Int32.toInt64 a2) 0 999) ?_
    intro v2
    refine e_ite ?_ ?_
    · exact e_ret rfl
    · refine e_get (HH_gR rfl rfl) ?_
      refine e_get (HH_gL rfl rfl) ?_
      refine e_wrS (HH_wL rfl) ?_
      intro S5
      refine e_call (eqX7_shorten t ct S5) ?_
      intro q6
      exact e_ret rfl
def TX7_of (a1 : Int32) (a2 : Int32) (S : SS) : Option (Int32) := (TX7_isCell a1 S).bind fun v1 =>
  (if v1 = 0 then some (-1000) else
  (if a2 = 0 then (aget 8 (S.2.2.1 65) a1).bind fun v3 =>
  some v3 else
  (if a2 = 1 then (aget 8 (S.2.2.1 66) a1).bind fun v6 =>
  some v6 else
  (if a2 = 2 then (aget 8 (S.2.2.1 67) a1).bind fun v9 =>
  some v9 else
  (if a2 = 3 then (aget 8 (S.2.2.1 68) a1).bind fun v12 =>
  some v12 else
  (if a2 = 4 then (TX7_side a1 S).bind fun v14 =>
  some v14 else
  (if a2 = 5 then (TX7_holds a1 S).bind fun v16 =>
  some v16 else
  (if a2 = 6 then (TX7_fin a1 S).bind fun v18 =>
  some v18 else
  (if a2 = 7 then (TX7_made a1 S).bind fun v20 =>
  some v20 else
  some (-1000))))))))))
theorem eqX7_of (t : Nat) (ct : Nat → ClassId) (a1 : Int32) (a2 : Int32) (S : SS) : X7_of (t + 64) a1 a2 (HH t ct S) = (TX7_of a1 a2 S).map id := by
  show EQ _ _ _
  unfold X7_of TX7_of
  refine e_get (HH_vO rfl) ?_
  refine e_call (eqX7_isCell t ct a1 S) ?_
  intro v1
  refine e_ite ?_ ?_
  · exact e_ret rfl
  · refine e_ite ?_ ?_
    · refine e_get (HH_gR rfl rfl) ?_
      refine e_bind (HH_aI rfl) ?_
      intro v3
      exact e_ret rfl
    refine e_ite ?_ ?_
    · refine e_get (HH_gR rfl rfl) ?_
      refine e_bind (HH_aI rfl) ?_
      intro v6
      exact e_ret rfl
    refine e_ite ?_ ?_
    · refine e_get (HH_gR rfl rfl) ?_
      refine e_bind (HH_aI rfl) ?_
      intro v9
      exact e_ret rfl
    refine e_ite ?_ ?_
    · refine e_get (HH_gR rfl rfl) ?_
      refine e_bind (HH_aI rfl) ?_
      intro v12
      exact e_ret rfl
    refine e_ite ?_ ?_
    · refine e_call (eqX7_side t ct a1 S) ?_
      intro v14
      exact e_ret rfl
    refine e_ite ?_ ?_
    · refine e_call (eqX7_holds t ct a1 S) ?_
      intro v16
      exact e_ret rfl
    refine e_ite ?_ ?_
    · refine e_call (eqX7_fin t ct a1 S) ?_
      intro v18
      exact e_ret rfl
    refine e_ite ?_ ?_
    · refine e_call (eqX7_made t ct a1 S) ?_
      intro v20
      exact e_ret rfl
    exact e_ret rfl
def TX7_taken (a1 : Int32) (a2 : Int32) (S : SS) : Option (Int32) := (TX7_isCell a1 S).bind fun v1 =>
  (if v1 = 0 then some (-2) else
  (TX7_isIn (Int32.toInt64 a2) 0 5).bind fun v2 =>
  (if v2 = 0 then some (-2) else
  (aget 8 (S.2.2.1 65) a1).bind fun v4 =>
  (TX7_isUnder v4 a2).bind fun v5 =>
  (if v5 = 0 then some (-13) else
  (aget 8 (S.2.2.1 66) a1).bind fun v7 =>
  some v7)))
theorem eqX7_taken (t : Nat) (ct : Nat → ClassId) (a1 : Int32) (a2 : Int32) (S : SS) : X7_taken (t + 64) a1 a2 (HH t ct S) = (TX7_taken a1 a2 S).map id := by
  show EQ _ _ _
  unfold X7_taken TX7_taken
  refine e_get (HH_vO rfl) ?_
  refine e_call (eqX7_isCell t ct a1 S) ?_
  intro v1
  refine e_ite ?_ ?_
  · exact e_ret rfl
  · refine e_call (eqX7_isIn t ct (Int32.toInt64 a2) 0 5) ?_
    intro v2
    refine e_ite ?_ ?_
    · exact e_ret rfl
    · refine e_get (HH_gR rfl rfl) ?_
      refine e_bind (HH_aI rfl) ?_
      intro v4
      refine e_call (eqX7_isUnder t ct v4 a2) ?_
      intro v5
      refine e_ite ?_ ?_
      · exact e_ret rfl
      · refine e_get (HH_gR rfl rfl) ?_
        refine e_bind (HH_aI rfl) ?_
        intro v7
        exact e_ret rfl
def TX7_kin_J41 (S : SS) (r19 : Int32 → Int32 → Int32 → Option (Int32)) (l1 : Int32) (l3 : Int32) (s0 : Int32) (s1 : Int32) : Option (Int32) := r19 l1 (s1 ||| s0) (l3 + 1)
theorem eqX7_kin_J41 (t : Nat) (ct : Nat → ClassId) (S : SS) (g19 : Int32 → Int32 → Int32 → Option (Int32)) (r19 : Int32 → Int32 → Int32 → Option (Int32)) (hr19 : ∀ (l1 : Int32) (l2 : Int32) (l3 : Int32), EQ (g19 l1 l2 l3) (r19 l1 l2 l3) id) : ∀ (l1 : Int32) (l3 : Int32) (s0 : Int32) (s1 : Int32), EQ (X7_kin_J41 (HH t ct S) g19 l1 l3 s0 s1) (TX7_kin_J41 S r19 l1 l3 s0 s1) id := by
  intro l1 l3 s0 s1
  unfold X7_kin_J41 TX7_kin_J41
  exact hr19 l1 (s1 ||| s0) (l3 + 1)
def TX7_kin_L19 (S : SS) : Nat → Int32 → Int32 → Int32 → Option (Int32)
  | 0, _, _, _ => none
  | n + 1, l1, l2, l3 => (if 6 ≤ l3 then some l2 else
  (TX7_isUnder l1 l3).bind fun v2 =>
  (if v2 = 0 then TX7_kin_J41 S (fun l1 l2 l3 => TX7_kin_L19 S n l1 l2 l3) l1 l3 0 l2 else
  TX7_kin_J41 S (fun l1 l2 l3 => TX7_kin_L19 S n l1 l2 l3) l1 l3 (1 <<< (l3 &&& 31)) l2))
theorem eqX7_kin_L19 (t : Nat) (ct : Nat → ClassId) (S : SS) : ∀ (n : Nat), ∀ (l1 : Int32) (l2 : Int32) (l3 : Int32), EQ (X7_kin_L19 (HH t ct S) n l1 l2 l3) (TX7_kin_L19 S n l1 l2 l3) id := by
  intro n
  induction n with
  | zero => intro l1 l2 l3; exact e_none
  | succ n ih =>
    intro l1 l2 l3
    unfold X7_kin_L19 TX7_kin_L19
    refine e_ite ?_ ?_
    · exact e_ret rfl
    · refine e_call (eqX7_isUnder t ct l1 l3) ?_
      intro v2
      refine e_ite ?_ ?_
      · exact eqX7_kin_J41 t ct S _ (fun l1 l2 l3 => TX7_kin_L19 S n l1 l2 l3) ih l1 l3 0 l2
      · exact eqX7_kin_J41 t ct S _ (fun l1 l2 l3 => TX7_kin_L19 S n l1 l2 l3) ih l1 l3 (1 <<< (l3 &&& 31)) l2
def TX7_kin (a1 : Int32) (S : SS) : Option (Int32) := (TX7_isIn (Int32.toInt64 a1) 0 5).bind fun v1 =>
  (if v1 = 0 then some (-2) else
  TX7_kin_L19 S fu a1 0 0)
theorem eqX7_kin (t : Nat) (ct : Nat → ClassId) (a1 : Int32) (S : SS) : X7_kin (t + 64) a1 (HH t ct S) = (TX7_kin a1 S).map id := by
  show EQ _ _ _
  unfold X7_kin TX7_kin
  refine e_get (HH_vO rfl) ?_
  refine e_call (eqX7_isIn t ct (Int32.toInt64 a1) 0 5) ?_
  intro v1
  refine e_ite ?_ ?_
  · exact e_ret rfl
  · exact eqX7_kin_L19 t ct S fu a1 0 0
def TX7_end (a1 : Int32) (a2 : Int32) (S : SS) : Option (Int32 × SS) := (TX7_isIn (Int32.toInt64 a1) 0 1).bind fun v1 =>
  (if v1 = 0 then some ((-1000), S) else
  (TX7_isIn (Int32.toInt64 a2) (-1) 999).bind fun v2 =>
  (if v2 = 0 then some ((-1000), S) else
  (aget 2 (S.2.2.1 70) a1).bind fun v4 =>
  (if jin a1 2 then letS (sAI S 70 (Int32.toNatClampNeg a1) a2) fun S6 =>
  some (v4, S6) else
  none)))
theorem eqX7_end (t : Nat) (ct : Nat → ClassId) (a1 : Int32) (a2 : Int32) (S : SS) : X7_end (t + 64) a1 a2 (HH t ct S) = (TX7_end a1 a2 S).map (hwI t ct) := by
  show EQ _ _ _
  unfold X7_end TX7_end
  refine e_get (HH_vO rfl) ?_
  refine e_call (eqX7_isIn t ct (Int32.toInt64 a1) 0 1) ?_
  intro v1
  refine e_ite ?_ ?_
  · exact e_ret rfl
  · refine e_call (eqX7_isIn t ct (Int32.toInt64 a2) (-1) 999) ?_
    intro v2
    refine e_ite ?_ ?_
    · exact e_ret rfl
    · refine e_get (HH_gR rfl rfl) ?_
      refine e_bind (HH_aI rfl) ?_
      intro v4
      refine e_get (HH_gR rfl rfl) ?_
      refine e_wrS (HH_wI rfl) ?_
      intro S6
      exact e_ret rfl
def TX7_rule_J45 (l1 : Int32) (l2 : Int32) (S : SS) : Option (Int32 × SS) := (aget 2 (S.2.2.1 71) l1).bind fun v4 =>
  (if jin l1 2 then letS (sAI S 71 (Int32.toNatClampNeg l1) l2) fun S6 =>
  some (v4, S6) else
  none)
theorem eqX7_rule_J45 (t : Nat) (ct : Nat → ClassId) : ∀ (l1 : Int32) (l2 : Int32) (S : SS), EQ (X7_rule_J45 (t + 64) l1 l2 (HH t ct S)) (TX7_rule_J45 l1 l2 S) (hwI t ct) := by
  intro l1 l2 S
  unfold X7_rule_J45 TX7_rule_J45
  refine e_get (HH_gR rfl rfl) ?_
  refine e_bind (HH_aI rfl) ?_
  intro v4
  refine e_get (HH_gR rfl rfl) ?_
  refine e_wrS (HH_wI rfl) ?_
  intro S6
  exact e_ret rfl
def TX7_rule (a1 : Int32) (a2 : Int32) (S : SS) : Option (Int32 × SS) := (TX7_isIn (Int32.toInt64 a1) 0 1).bind fun v1 =>
  (if v1 = 0 then some ((-1000), S) else
  (if a1 = 0 then (TX7_isIn (Int32.toInt64 a2) 1 20).bind fun v7 =>
  (if v7 = 0 then some ((-1000), S) else
  TX7_rule_J45 a1 a2 S) else
  (TX7_isIn (Int32.toInt64 a2) 0 999).bind fun v2 =>
  (if v2 = 0 then some ((-1000), S) else
  TX7_rule_J45 a1 a2 S)))
theorem eqX7_rule (t : Nat) (ct : Nat → ClassId) (a1 : Int32) (a2 : Int32) (S : SS) : X7_rule (t + 64) a1 a2 (HH t ct S) = (TX7_rule a1 a2 S).map (hwI t ct) := by
  show EQ _ _ _
  unfold X7_rule TX7_rule
  refine e_get (HH_vO rfl) ?_
  refine e_call (eqX7_isIn t ct (Int32.toInt64 a1) 0 1) ?_
  intro v1
  refine e_ite ?_ ?_
  · exact e_ret rfl
  · refine e_ite ?_ ?_
    · refine e_call (eqX7_isIn t ct (Int32.toInt64 a2) 1 20) ?_
      intro v7
      refine e_ite ?_ ?_
      · exact e_ret rfl
      · exact eqX7_rule_J45 t ct a1 a2 S
    · refine e_call (eqX7_isIn t ct (Int32.toInt64 a2) 0 999) ?_
      intro v2
      refine e_ite ?_ ?_
      · exact e_ret rfl
      · exact eqX7_rule_J45 t ct a1 a2 S
def TX7_isJoint (a1 : Int32) (S : SS) : Option (Int32) := (if (S.1 64 0) ≤ 0 then (zb 0).bind fun v2 => some v2 else
  (TX7_isIn (Int32.toInt64 a1) (-1) (Int32.toInt64 ((S.1 64 0) - 1))).bind fun v4 =>
  (if v4 = 0 then (zb 0).bind fun v5 => some v5 else
  (zb 1).bind fun v6 => some v6))
theorem eqX7_isJoint (t : Nat) (ct : Nat → ClassId) (a1 : Int32) (S : SS) : X7_isJoint (t + 64) a1 (HH t ct S) = (TX7_isJoint a1 S).map id := by
  show EQ _ _ _
  unfold X7_isJoint TX7_isJoint
  refine e_get (HH_vO rfl) ?_
  refine e_get (HH_gI rfl rfl) ?_
  refine e_ite ?_ ?_
  · exact e_bind rfl (fun _ => e_ret rfl)
  · refine e_get (HH_gI rfl rfl) ?_
    refine e_call (eqX7_isIn t ct (Int32.toInt64 a1) (-1) (Int32.toInt64 ((S.1 64 0) - 1))) ?_
    intro v4
    refine e_ite ?_ ?_
    · exact e_bind rfl (fun _ => e_ret rfl)
    · exact e_bind rfl (fun _ => e_ret rfl)
def TX7_leads (a1 : Int32) (S : SS) : Option (Int32) := (if a1 = (-1) then (aget 2 (S.2.2.1 70) 0).bind fun v9 =>
  (if v9 = (-1) then some 0 else
  (TX7_side 0 S).bind fun v10 =>
  some v10) else
  (if a1 = ((S.1 64 0) - 1) then (aget 2 (S.2.2.1 70) 1).bind fun v6 =>
  (if v6 = (-1) then some 0 else
  (TX7_side a1 S).bind fun v7 =>
  some v7) else
  (TX7_side a1 S).bind fun v2 =>
  (TX7_side (a1 + 1) S).bind fun v3 =>
  (TJ9_min_7cf53 v2 v3).bind fun v4 =>
  some v4))
theorem eqX7_leads (t : Nat) (ct : Nat → ClassId) (a1 : Int32) (S : SS) : X7_leads (t + 64) a1 (HH t ct S) = (TX7_leads a1 S).map id := by
  show EQ _ _ _
  unfold X7_leads TX7_leads
  refine e_get (HH_vO rfl) ?_
  refine e_ite ?_ ?_
  · refine e_get (HH_gR rfl rfl) ?_
    refine e_bind (HH_aI rfl) ?_
    intro v9
    refine e_ite ?_ ?_
    · exact e_ret rfl
    · refine e_call (eqX7_side t ct 0 S) ?_
      intro v10
      exact e_ret rfl
  · refine e_get (HH_gI rfl rfl) ?_
    refine e_ite ?_ ?_
    · refine e_get (HH_gR rfl rfl) ?_
      refine e_bind (HH_aI rfl) ?_
      intro v6
      refine e_ite ?_ ?_
      · exact e_ret rfl
      · refine e_call (eqX7_side t ct a1 S) ?_
        intro v7
        exact e_ret rfl
    · refine e_call (eqX7_side t ct a1 S) ?_
      intro v2
      refine e_call (eqX7_side t ct (a1 + 1) S) ?_
      intro v3
      refine e_call (eqJ9_min_7cf53 t ct v2 v3) ?_
      intro v4
      exact e_ret rfl
