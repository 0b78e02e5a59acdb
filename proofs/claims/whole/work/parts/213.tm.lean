/-! Terms over the four pictures. Written by wip/whole/decompT.py. -/
def TX6_isHeat (a0 : Int32) : Option (Int32) := (TX6_between a0 0 999).bind fun v1 =>
  (zb v1).bind fun v2 => some v2
theorem eqX6_isHeat (t : Nat) (ct : Nat → ClassId) (a0 : Int32) : X6_isHeat a0 = (TX6_isHeat a0).map id := by
  show EQ _ _ _
  unfold X6_isHeat TX6_isHeat
  refine e_call (eqX6_between t ct a0 0 999) ?_
  intro v1
  exact e_bind rfl (fun _ => e_ret rfl)
def TX6_cell_J34 (l1 : Int32) (l2 : Int32) (l3 : Int32) (l4 : Int32) (s0 : Int32) (S : SS) : Option (Int32 × SS) := (if s0 = 0 then some ((-2), S) else
  (TX0_append 1 l1 l2 l3 l4 S).bind fun q3 =>
  some (q3.1, q3.2))
theorem eqX6_cell_J34 (t : Nat) (ct : Nat → ClassId) : ∀ (l1 : Int32) (l2 : Int32) (l3 : Int32) (l4 : Int32) (s0 : Int32) (S : SS), EQ (X6_cell_J34 (t + 0) l1 l2 l3 l4 s0 (HH t ct S)) (TX6_cell_J34 l1 l2 l3 l4 s0 S) (hwI t ct) := by
  intro l1 l2 l3 l4 s0 S
  unfold X6_cell_J34 TX6_cell_J34
  refine e_ite ?_ ?_
  · exact e_ret rfl
  · refine e_get (HH_gR rfl rfl) ?_
    refine e_call (eqX0_append t ct 1 l1 l2 l3 l4 isB_1 S) ?_
    intro q3
    exact e_ret rfl
def TX6_cell (a1 : Int32) (a2 : Int32) (a3 : Int32) (a4 : Int32) (S : SS) : Option (Int32 × SS) := (TX6_isKind a1).bind fun v1 =>
  (if v1 = 0 then TX6_cell_J34 a1 a2 a3 a4 0 S else
  (TX6_isK a2).bind fun v4 =>
  (if v4 = 0 then TX6_cell_J34 a1 a2 a3 a4 0 S else
  (TX6_isC a3).bind fun v5 =>
  (if v5 = 0 then TX6_cell_J34 a1 a2 a3 a4 0 S else
  (TX6_isHeat a4).bind fun v6 =>
  (if v6 = 0 then TX6_cell_J34 a1 a2 a3 a4 0 S else
  TX6_cell_J34 a1 a2 a3 a4 1 S))))
theorem eqX6_cell (t : Nat) (ct : Nat → ClassId) (a1 : Int32) (a2 : Int32) (a3 : Int32) (a4 : Int32) (S : SS) : X6_cell (t + 0) a1 a2 a3 a4 (HH t ct S) = (TX6_cell a1 a2 a3 a4 S).map (hwI t ct) := by
  show EQ _ _ _
  unfold X6_cell TX6_cell
  refine e_get (HH_vO rfl) ?_
  refine e_call (eqX6_isKind t ct a1) ?_
  intro v1
  refine e_ite ?_ ?_
  · exact eqX6_cell_J34 t ct a1 a2 a3 a4 0 S
  · refine e_call (eqX6_isK t ct a2) ?_
    intro v4
    refine e_ite ?_ ?_
    · exact eqX6_cell_J34 t ct a1 a2 a3 a4 0 S
    · refine e_call (eqX6_isC t ct a3) ?_
      intro v5
      refine e_ite ?_ ?_
      · exact eqX6_cell_J34 t ct a1 a2 a3 a4 0 S
      · refine e_call (eqX6_isHeat t ct a4) ?_
        intro v6
        refine e_ite ?_ ?_
        · exact eqX6_cell_J34 t ct a1 a2 a3 a4 0 S
        · exact eqX6_cell_J34 t ct a1 a2 a3 a4 1 S
def TX6_drop (S : SS) : Option (Int32 × SS) := (if (S.1 1 0) = 0 then some ((-3), S) else
  (TX0_removeLatest 1 S).bind fun q4 =>
  some ((q4.1 1 0), q4))
theorem eqX6_drop (t : Nat) (ct : Nat → ClassId) (S : SS) : X6_drop (t + 0) (HH t ct S) = (TX6_drop S).map (hwI t ct) := by
  show EQ _ _ _
  unfold X6_drop TX6_drop
  refine e_get (HH_vO rfl) ?_
  refine e_get (HH_gR rfl rfl) ?_
  refine e_get (HH_gI isB_1.1 rfl) ?_
  refine e_ite ?_ ?_
  · exact e_ret rfl
  · refine e_get (HH_gR rfl rfl) ?_
    refine e_call (eqX0_removeLatest t ct 1 isB_1 S) ?_
    intro q4
    refine e_get (HH_gR rfl rfl) ?_
    refine e_get (HH_gI isB_1.1 rfl) ?_
    exact e_ret rfl
def TX6_isSource (a0 : Int32) : Option (Int32) := (TX6_between a0 (-9) 9).bind fun v1 =>
  (zb v1).bind fun v2 => some v2
theorem eqX6_isSource (t : Nat) (ct : Nat → ClassId) (a0 : Int32) : X6_isSource a0 = (TX6_isSource a0).map id := by
  show EQ _ _ _
  unfold X6_isSource TX6_isSource
  refine e_call (eqX6_between t ct a0 (-9) 9) ?_
  intro v1
  exact e_bind rfl (fun _ => e_ret rfl)
def TX6_set (a1 : Int32) (a2 : Int32) (a3 : Int32) (S : SS) : Option (Int32 × SS) := (TX0_has 1 a1 S).bind fun v2 =>
  (if v2 = 0 then some ((-1000), S) else
  (if a2 = 0 then (TX6_isK a3).bind fun v3 =>
  (if v3 = 0 then some ((-1000), S) else
  (TX0_changeK 1 a1 a3 S).bind fun q5 =>
  some (q5.1, q5.2)) else
  (if a2 = 1 then (TX6_isC a3).bind fun v7 =>
  (if v7 = 0 then some ((-1000), S) else
  (TX0_changeC 1 a1 a3 S).bind fun q9 =>
  some (q9.1, q9.2)) else
  (if a2 = 2 then (TX6_isKind a3).bind fun v11 =>
  (if v11 = 0 then some ((-1000), S) else
  (TX0_changeKind 1 a1 a3 S).bind fun q13 =>
  some (q13.1, q13.2)) else
  (if a2 = 3 then (TX6_isSource a3).bind fun v15 =>
  (if v15 = 0 then some ((-1000), S) else
  (TX0_changeSource 1 a1 a3 S).bind fun q17 =>
  some (q17.1, q17.2)) else
  some ((-1000), S))))))
theorem eqX6_set (t : Nat) (ct : Nat → ClassId) (a1 : Int32) (a2 : Int32) (a3 : Int32) (S : SS) : X6_set (t + 0) a1 a2 a3 (HH t ct S) = (TX6_set a1 a2 a3 S).map (hwI t ct) := by
  show EQ _ _ _
  unfold X6_set TX6_set
  refine e_get (HH_vO rfl) ?_
  refine e_get (HH_gR rfl rfl) ?_
  refine e_call (eqX0_has t ct 1 a1 isB_1 S) ?_
  intro v2
  refine e_ite ?_ ?_
  · exact e_ret rfl
  · refine e_ite ?_ ?_
    · refine e_call (eqX6_isK t ct a3) ?_
      intro v3
      refine e_ite ?_ ?_
      · exact e_ret rfl
      · refine e_get (HH_gR rfl rfl) ?_
        refine e_call (eqX0_changeK t ct 1 a1 a3 isB_1 S) ?_
        intro q5
        exact e_ret rfl
    refine e_ite ?_ ?_
    · refine e_call (eqX6_isC t ct a3) ?_
      intro v7
      refine e_ite ?_ ?_
      · exact e_ret rfl
      · refine e_get (HH_gR rfl rfl) ?_
        refine e_call (eqX0_changeC t ct 1 a1 a3 isB_1 S) ?_
        intro q9
        exact e_ret rfl
    refine e_ite ?_ ?_
    · refine e_call (eqX6_isKind t ct a3) ?_
      intro v11
      refine e_ite ?_ ?_
      · exact e_ret rfl
      · refine e_get (HH_gR rfl rfl) ?_
        refine e_call (eqX0_changeKind t ct 1 a1 a3 isB_1 S) ?_
        intro q13
        exact e_ret rfl
    refine e_ite ?_ ?_
    · refine e_call (eqX6_isSource t ct a3) ?_
      intro v15
      refine e_ite ?_ ?_
      · exact e_ret rfl
      · refine e_get (HH_gR rfl rfl) ?_
        refine e_call (eqX0_changeSource t ct 1 a1 a3 isB_1 S) ?_
        intro q17
        exact e_ret rfl
    exact e_ret rfl
def TX6_heat (a1 : Int32) (a2 : Int32) (S : SS) : Option (Int32 × SS) := (TX0_has 1 a1 S).bind fun v2 =>
  (if v2 = 0 then some ((-2), S) else
  (TX6_isHeat a2).bind fun v3 =>
  (if v3 = 0 then some ((-2), S) else
  (TX0_changeHeat 1 a1 a2 S).bind fun q5 =>
  some (1, q5)))
theorem eqX6_heat (t : Nat) (ct : Nat → ClassId) (a1 : Int32) (a2 : Int32) (S : SS) : X6_heat (t + 0) a1 a2 (HH t ct S) = (TX6_heat a1 a2 S).map (hwI t ct) := by
  show EQ _ _ _
  unfold X6_heat TX6_heat
  refine e_get (HH_vO rfl) ?_
  refine e_get (HH_gR rfl rfl) ?_
  refine e_call (eqX0_has t ct 1 a1 isB_1 S) ?_
  intro v2
  refine e_ite ?_ ?_
  · exact e_ret rfl
  · refine e_call (eqX6_isHeat t ct a2) ?_
    intro v3
    refine e_ite ?_ ?_
    · exact e_ret rfl
    · refine e_get (HH_gR rfl rfl) ?_
      refine e_call (eqX0_changeHeat t ct 1 a1 a2 isB_1 S) ?_
      intro q5
      exact e_ret rfl
def TX6_of (a1 : Int32) (a2 : Int32) (S : SS) : Option (Int32) := (TX0_has 1 a1 S).bind fun v2 =>
  (if v2 = 0 then some (-1000) else
  (if a2 = 0 then (aget 8 (S.2.2.1 2) a1).bind fun v5 =>
  some v5 else
  (if a2 = 1 then (aget 8 (S.2.2.1 3) a1).bind fun v9 =>
  some v9 else
  (if a2 = 2 then (aget 8 (S.2.2.1 4) a1).bind fun v13 =>
  some v13 else
  (if a2 = 3 then (aget 8 (S.2.2.1 5) a1).bind fun v17 =>
  some v17 else
  (if a2 = 4 then (aget 8 (S.2.2.1 6) a1).bind fun v21 =>
  some v21 else
  (if a2 = 5 then (aget 8 (S.2.2.1 7) a1).bind fun v25 =>
  some v25 else
  (if a2 = 6 then (aget 8 (S.2.2.1 8) a1).bind fun v29 =>
  some v29 else
  (if a2 = 7 then (aget 8 (S.2.2.1 2) a1).bind fun v33 =>
  (aget 8 (S.2.2.1 4) a1).bind fun v36 =>
  (TX1_madeOf v33 v36).bind fun v37 =>
  some v37 else
  some (-1000))))))))))
theorem eqX6_of (t : Nat) (ct : Nat → ClassId) (a1 : Int32) (a2 : Int32) (S : SS) : X6_of (t + 0) a1 a2 (HH t ct S) = (TX6_of a1 a2 S).map id := by
  show EQ _ _ _
  unfold X6_of TX6_of
  refine e_get (HH_vO rfl) ?_
  refine e_get (HH_gR rfl rfl) ?_
  refine e_call (eqX0_has t ct 1 a1 isB_1 S) ?_
  intro v2
  refine e_ite ?_ ?_
  · exact e_ret rfl
  · refine e_ite ?_ ?_
    · refine e_get (HH_gR rfl rfl) ?_
      refine e_get (HH_gR isB_1.1 rfl) ?_
      refine e_bind (HH_aI isB_1.2.1) ?_
      intro v5
      exact e_ret rfl
    refine e_ite ?_ ?_
    · refine e_get (HH_gR rfl rfl) ?_
      refine e_get (HH_gR isB_1.1 rfl) ?_
      refine e_bind (HH_aI isB_1.2.2.1) ?_
      intro v9
      exact e_ret rfl
    refine e_ite ?_ ?_
    · refine e_get (HH_gR rfl rfl) ?_
      refine e_get (HH_gR isB_1.1 rfl) ?_
      refine e_bind (HH_aI isB_1.2.2.2.1) ?_
      intro v13
      exact e_ret rfl
    refine e_ite ?_ ?_
    · refine e_get (HH_gR rfl rfl) ?_
      refine e_get (HH_gR isB_1.1 rfl) ?_
      refine e_bind (HH_aI isB_1.2.2.2.2.1) ?_
      intro v17
      exact e_ret rfl
    refine e_ite ?_ ?_
    · refine e_get (HH_gR rfl rfl) ?_
      refine e_get (HH_gR isB_1.1 rfl) ?_
      refine e_bind (HH_aI isB_1.2.2.2.2.2.1) ?_
      intro v21
      exact e_ret rfl
    refine e_ite ?_ ?_
    · refine e_get (HH_gR rfl rfl) ?_
      refine e_get (HH_gR isB_1.1 rfl) ?_
      refine e_bind (HH_aI isB_1.2.2.2.2.2.2.1) ?_
      intro v25
      exact e_ret rfl
    refine e_ite ?_ ?_
    · refine e_get (HH_gR rfl rfl) ?_
      refine e_get (HH_gR isB_1.1 rfl) ?_
      refine e_bind (HH_aI isB_1.2.2.2.2.2.2.2.1) ?_
      intro v29
      exact e_ret rfl
    refine e_ite ?_ ?_
    · refine e_get (HH_gR rfl rfl) ?_
      refine e_get (HH_gR isB_1.1 rfl) ?_
      refine e_bind (HH_aI isB_1.2.1) ?_
      intro v33
      refine e_get (HH_gR rfl rfl) ?_
      refine e_get (HH_gR isB_1.1 rfl) ?_
      refine e_bind (HH_aI isB_1.2.2.2.1) ?_
      intro v36
      refine e_call (eqX1_madeOf t ct v33 v36) ?_
      intro v37
      exact e_ret rfl
    exact e_ret rfl
def TX6_taken (a1 : Int32) (a2 : Int32) (S : SS) : Option (Int32) := (TX0_has 1 a1 S).bind fun v2 =>
  (if v2 = 0 then some (-2) else
  (TX6_isKind a2).bind fun v3 =>
  (if v3 = 0 then some (-2) else
  (aget 8 (S.2.2.1 2) a1).bind fun v6 =>
  (TX1_isUnder v6 a2).bind fun v7 =>
  (if v7 = 0 then some (-13) else
  (aget 8 (S.2.2.1 3) a1).bind fun v10 =>
  some v10)))
theorem eqX6_taken (t : Nat) (ct : Nat → ClassId) (a1 : Int32) (a2 : Int32) (S : SS) : X6_taken (t + 0) a1 a2 (HH t ct S) = (TX6_taken a1 a2 S).map id := by
  show EQ _ _ _
  unfold X6_taken TX6_taken
  refine e_get (HH_vO rfl) ?_
  refine e_get (HH_gR rfl rfl) ?_
  refine e_call (eqX0_has t ct 1 a1 isB_1 S) ?_
  intro v2
  refine e_ite ?_ ?_
  · exact e_ret rfl
  · refine e_call (eqX6_isKind t ct a2) ?_
    intro v3
    refine e_ite ?_ ?_
    · exact e_ret rfl
    · refine e_get (HH_gR rfl rfl) ?_
      refine e_get (HH_gR isB_1.1 rfl) ?_
      refine e_bind (HH_aI isB_1.2.1) ?_
      intro v6
      refine e_call (eqX1_isUnder t ct v6 a2) ?_
      intro v7
      refine e_ite ?_ ?_
      · exact e_ret rfl
      · refine e_get (HH_gR rfl rfl) ?_
        refine e_get (HH_gR isB_1.1 rfl) ?_
        refine e_bind (HH_aI isB_1.2.2.1) ?_
        intro v10
        exact e_ret rfl
def TX6_kin (a1 : Int32) (S : SS) : Option (Int32) := (TX6_isKind a1).bind fun v1 =>
  (if v1 = 0 then some (-2) else
  (TX1_lineOf a1).bind fun v2 =>
  some v2)
theorem eqX6_kin (t : Nat) (ct : Nat → ClassId) (a1 : Int32) (S : SS) : X6_kin (t + 0) a1 (HH t ct S) = (TX6_kin a1 S).map id := by
  show EQ _ _ _
  unfold X6_kin TX6_kin
  refine e_get (HH_vO rfl) ?_
  refine e_call (eqX6_isKind t ct a1) ?_
  intro v1
  refine e_ite ?_ ?_
  · exact e_ret rfl
  · refine e_call (eqX1_lineOf t ct a1) ?_
    intro v2
    exact e_ret rfl
def TX6_isBit (a0 : Int32) : Option (Int32) := (if a0 = 0 then (zb 1).bind fun v1 => some v1 else
  (if a0 = 1 then (zb 1).bind fun v3 => some v3 else
  (zb 0).bind fun v2 => some v2))
theorem eqX6_isBit (t : Nat) (ct : Nat → ClassId) (a0 : Int32) : X6_isBit a0 = (TX6_isBit a0).map id := by
  show EQ _ _ _
  unfold X6_isBit TX6_isBit
  refine e_ite ?_ ?_
  · exact e_bind rfl (fun _ => e_ret rfl)
  · refine e_ite ?_ ?_
    · exact e_bind rfl (fun _ => e_ret rfl)
    · exact e_bind rfl (fun _ => e_ret rfl)
def TX6_end (a1 : Int32) (a2 : Int32) (S : SS) : Option (Int32 × SS) := (TX6_isBit a1).bind fun v1 =>
  (if v1 = 0 then some ((-1000), S) else
  (TX6_between a2 (-1) 999).bind fun v2 =>
  (if v2 = 0 then some ((-1000), S) else
  (aget 2 (S.2.2.1 10) a1).bind fun v5 =>
  (if jin a1 2 then letS (sAI S 10 (Int32.toNatClampNeg a1) a2) fun S8 =>
  some (v5, S8) else
  none)))
theorem eqX6_end (t : Nat) (ct : Nat → ClassId) (a1 : Int32) (a2 : Int32) (S : SS) : X6_end (t + 0) a1 a2 (HH t ct S) = (TX6_end a1 a2 S).map (hwI t ct) := by
  show EQ _ _ _
  unfold X6_end TX6_end
  refine e_get (HH_vO rfl) ?_
  refine e_call (eqX6_isBit t ct a1) ?_
  intro v1
  refine e_ite ?_ ?_
  · exact e_ret rfl
  · refine e_call (eqX6_between t ct a2 (-1) 999) ?_
    intro v2
    refine e_ite ?_ ?_
    · exact e_ret rfl
    · refine e_get (HH_gR rfl rfl) ?_
      refine e_get (HH_gR isB_1.1 rfl) ?_
      refine e_bind (HH_aI isB_1.2.2.2.2.2.2.2.2.2.1) ?_
      intro v5
      refine e_get (HH_gR rfl rfl) ?_
      refine e_get (HH_gR isB_1.1 rfl) ?_
      refine e_wrS (HH_wI isB_1.2.2.2.2.2.2.2.2.2.1) ?_
      intro S8
      exact e_ret rfl
def TX6_rule_J37 (l1 : Int32) (l2 : Int32) (l3 : Int32) (S : SS) : Option (Int32 × SS) := (if l1 = 1 then (TX6_isHeat l2).bind fun v1 =>
  (if v1 = 0 then some (l3, S) else
  letS (sFI S 1 12 l2) fun S5 =>
  some ((S.1 1 12), S5)) else
  some (l3, S))
theorem eqX6_rule_J37 (t : Nat) (ct : Nat → ClassId) : ∀ (l1 : Int32) (l2 : Int32) (l3 : Int32) (S : SS), EQ (X6_rule_J37 (t + 0) l1 l2 l3 (HH t ct S)) (TX6_rule_J37 l1 l2 l3 S) (hwI t ct) := by
  intro l1 l2 l3 S
  unfold X6_rule_J37 TX6_rule_J37
  refine e_ite ?_ ?_
  · refine e_call (eqX6_isHeat t ct l2) ?_
    intro v1
    refine e_ite ?_ ?_
    · exact e_ret rfl
    · refine e_get (HH_gR rfl rfl) ?_
      refine e_get (HH_gI isB_1.1 rfl) ?_
      refine e_get (HH_gR rfl rfl) ?_
      refine e_put (HH_pI isB_1.1 rfl) ?_
      intro S5
      exact e_ret rfl
  · exact e_ret rfl
def TX6_rule (a1 : Int32) (a2 : Int32) (S : SS) : Option (Int32 × SS) := (if a1 = 0 then (TX6_between a2 1 20).bind fun v6 =>
  (if v6 = 0 then TX6_rule_J37 a1 a2 (-1000) S else
  letS (sFI S 1 11 a2) fun S10 =>
  some ((S.1 1 11), S10)) else
  TX6_rule_J37 a1 a2 (-1000) S)
theorem eqX6_rule (t : Nat) (ct : Nat → ClassId) (a1 : Int32) (a2 : Int32) (S : SS) : X6_rule (t + 0) a1 a2 (HH t ct S) = (TX6_rule a1 a2 S).map (hwI t ct) := by
  show EQ _ _ _
  unfold X6_rule TX6_rule
  refine e_get (HH_vO rfl) ?_
  refine e_ite ?_ ?_
  · refine e_call (eqX6_between t ct a2 1 20) ?_
    intro v6
    refine e_ite ?_ ?_
    · exact eqX6_rule_J37 t ct a1 a2 (-1000) S
    · refine e_get (HH_gR rfl rfl) ?_
      refine e_get (HH_gI isB_1.1 rfl) ?_
      refine e_get (HH_gR rfl rfl) ?_
      refine e_put (HH_pI isB_1.1 rfl) ?_
      intro S10
      exact e_ret rfl
  · exact eqX6_rule_J37 t ct a1 a2 (-1000) S
def TX6_partOf_J10 (l0 : Int64) (l2 : Int64) (s0 : Int64) : Option (Int64) := (TX6_commonDivisor l0 l2).bind fun v1 =>
  (TX6_quotient s0 v1).bind fun v2 =>
  some v2
theorem eqX6_partOf_J10 (t : Nat) (ct : Nat → ClassId) : ∀ (l0 : Int64) (l2 : Int64) (s0 : Int64), EQ (X6_partOf_J10 l0 l2 s0) (TX6_partOf_J10 l0 l2 s0) id := by
  intro l0 l2 s0
  unfold X6_partOf_J10 TX6_partOf_J10
  refine e_call (eqX6_commonDivisor t ct l0 l2) ?_
  intro v1
  refine e_call (eqX6_quotient t ct s0 v1) ?_
  intro v2
  exact e_ret rfl
def TX6_partOf (a0 : Int64) (a1 : Int64) (a2 : Int32) : Option (Int64) := (if a2 = 0 then TX6_partOf_J10 a0 a1 a0 else
  TX6_partOf_J10 a0 a1 a1)
theorem eqX6_partOf (t : Nat) (ct : Nat → ClassId) (a0 : Int64) (a1 : Int64) (a2 : Int32) : X6_partOf a0 a1 a2 = (TX6_partOf a0 a1 a2).map id := by
  show EQ _ _ _
  unfold X6_partOf TX6_partOf
  refine e_ite ?_ ?_
  · exact eqX6_partOf_J10 t ct a0 a1 a0
  · exact eqX6_partOf_J10 t ct a0 a1 a1
def TX6_t (a1 : Int32) (a2 : Int32) (S : SS) : Option (Int64) := (TX0_has 1 a1 S).bind fun v2 =>
  (if v2 = 0 then some (-9223372036854775808) else
  (TX6_isBit a2).bind fun v3 =>
  (if v3 = 0 then some (-9223372036854775808) else
  (aget 8 (S.2.2.2 9) a1).bind fun v6 =>
  (TX6_partOf v6 (S.2.1 1 9) a2).bind fun v9 =>
  some v9))
theorem eqX6_t (t : Nat) (ct : Nat → ClassId) (a1 : Int32) (a2 : Int32) (S : SS) : X6_t (t + 0) a1 a2 (HH t ct S) = (TX6_t a1 a2 S).map id := by
  show EQ _ _ _
  unfold X6_t TX6_t
  refine e_get (HH_vO rfl) ?_
  refine e_get (HH_gR rfl rfl) ?_
  refine e_call (eqX0_has t ct 1 a1 isB_1 S) ?_
  intro v2
  refine e_ite ?_ ?_
  · exact e_ret rfl
  · refine e_call (eqX6_isBit t ct a2) ?_
    intro v3
    refine e_ite ?_ ?_
    · exact e_ret rfl
    · refine e_get (HH_gR rfl rfl) ?_
      refine e_get (HH_gR isB_1.1 rfl) ?_
      refine e_bind (HH_aL isB_1.2.2.2.2.2.2.2.2.1) ?_
      intro v6
      refine e_get (HH_gR rfl rfl) ?_
      refine e_get (HH_gL isB_1.1 rfl) ?_
      refine e_call (eqX6_partOf t ct v6 (S.2.1 1 9) a2) ?_
      intro v9
      exact e_ret rfl
def TX6_line (S : SS) : Option (Int64) := some (S.2.1 1 9)
theorem eqX6_line (t : Nat) (ct : Nat → ClassId) (S : SS) : X6_line (t + 0) (HH t ct S) = (TX6_line S).map id := by
  show EQ _ _ _
  unfold X6_line TX6_line
  refine e_get (HH_vO rfl) ?_
  refine e_get (HH_gR rfl rfl) ?_
  refine e_get (HH_gL isB_1.1 rfl) ?_
  exact e_ret rfl
def TX6_joint (a1 : Int32) (S : SS) : Option (Int32) := (TX0_leads 1 a1 S).bind fun v2 =>
  some v2
theorem eqX6_joint (t : Nat) (ct : Nat → ClassId) (a1 : Int32) (S : SS) : X6_joint (t + 0) a1 (HH t ct S) = (TX6_joint a1 S).map id := by
  show EQ _ _ _
  unfold X6_joint TX6_joint
  refine e_get (HH_vO rfl) ?_
  refine e_get (HH_gR rfl rfl) ?_
  refine e_call (eqX0_leads t ct 1 a1 isB_1 S) ?_
  intro v2
  exact e_ret rfl
def TX6_flow (a1 : Int32) (a2 : Int32) (S : SS) : Option (Int64) := (TX0_hasJoint 1 a1 S).bind fun v2 =>
  (if v2 = 0 then some (-9223372036854775808) else
  (TX6_isBit a2).bind fun v3 =>
  (if v3 = 0 then some (-9223372036854775808) else
  (TX0_flowAbove 1 a1 9 8 (S.2.1 1 9) S).bind fun v9 =>
  (TX6_partOf v9 (S.2.1 1 9) a2).bind fun v12 =>
  some v12))
theorem eqX6_flow (t : Nat) (ct : Nat → ClassId) (a1 : Int32) (a2 : Int32) (S : SS) : X6_flow (t + 0) a1 a2 (HH t ct S) = (TX6_flow a1 a2 S).map id := by
  show EQ _ _ _
  unfold X6_flow TX6_flow
  refine e_get (HH_vO rfl) ?_
  refine e_get (HH_gR rfl rfl) ?_
  refine e_call (eqX0_hasJoint t ct 1 a1 isB_1 S) ?_
  intro v2
  refine e_ite ?_ ?_
  · exact e_ret rfl
  · refine e_call (eqX6_isBit t ct a2) ?_
    intro v3
    refine e_ite ?_ ?_
    · exact e_ret rfl
    · refine e_get (HH_gR rfl rfl) ?_
      refine e_get (HH_gR rfl rfl) ?_
      refine e_get (HH_gR isB_1.1 rfl) ?_
      refine e_get (HH_gR rfl rfl) ?_
      refine e_get (HH_gL isB_1.1 rfl) ?_
      refine e_call (eqX0_flowAbove t ct 1 a1 9 8 (S.2.1 1 9) isB_1 isB_1.2.2.2.2.2.2.2.2.1 S) ?_
      intro v9
      refine e_get (HH_gR rfl rfl) ?_
      refine e_get (HH_gL isB_1.1 rfl) ?_
      refine e_call (eqX6_partOf t ct v9 (S.2.1 1 9) a2) ?_
      intro v12
      exact e_ret rfl
def TX6_stable_L52 (S : SS) : Nat → Int32 → Int32 → Option (Int32)
  | 0, _, _ => none
  | n + 1, l3, l4 => (if l3 < l4 then some 1 else
  (TX0_loss 1 l4 S).bind fun v2 =>
  (aget 8 (S.2.2.1 7) l4).bind fun v5 =>
  (if v2 ≤ (v5 * (S.1 1 11)) then TX6_stable_L52 S n l3 (l4 + 1) else
  some 0))
theorem eqX6_stable_L52 (t : Nat) (ct : Nat → ClassId) (S : SS) : ∀ (n : Nat), ∀ (l3 : Int32) (l4 : Int32), EQ (X6_stable_L52 (HH t ct S) n (t + 0) l3 l4) (TX6_stable_L52 S n l3 l4) id := by
  intro n
  induction n with
  | zero => intro l3 l4; exact e_none
  | succ n ih =>
    intro l3 l4
    unfold X6_stable_L52 TX6_stable_L52
    refine e_ite ?_ ?_
    · exact e_ret rfl
    · refine e_get (HH_gR rfl rfl) ?_
      refine e_call (eqX0_loss t ct 1 l4 isB_1 S) ?_
      intro v2
      refine e_get (HH_gR rfl rfl) ?_
      refine e_get (HH_gR isB_1.1 rfl) ?_
      refine e_bind (HH_aI isB_1.2.2.2.2.2.2.1) ?_
      intro v5
      refine e_get (HH_gR rfl rfl) ?_
      refine e_get (HH_gI isB_1.1 rfl) ?_
      refine e_ite ?_ ?_
      · exact ih l3 (l4 + 1)
      · exact e_ret rfl
def TX6_stable_J48 (S : SS) (l2 : Int32) (s0 : Int32) : Option (Int32) := TX6_stable_L52 S fu s0 l2
theorem eqX6_stable_J48 (t : Nat) (ct : Nat → ClassId) (S : SS) : ∀ (l2 : Int32) (s0 : Int32), EQ (X6_stable_J48 (HH t ct S) (t + 0) l2 s0) (TX6_stable_J48 S l2 s0) id := by
  intro l2 s0
  unfold X6_stable_J48 TX6_stable_J48
  exact eqX6_stable_L52 t ct S fu s0 l2
def TX6_stable_J29 (S : SS) (l1 : Int32) (s0 : Int32) : Option (Int32) := (if l1 = (-1) then TX6_stable_J48 S s0 ((S.1 1 0) - 1) else
  TX6_stable_J48 S s0 l1)
theorem eqX6_stable_J29 (t : Nat) (ct : Nat → ClassId) (S : SS) : ∀ (l1 : Int32) (s0 : Int32), EQ (X6_stable_J29 (HH t ct S) (t + 0) l1 s0) (TX6_stable_J29 S l1 s0) id := by
  intro l1 s0
  unfold X6_stable_J29 TX6_stable_J29
  refine e_ite ?_ ?_
  · refine e_get (HH_gR rfl rfl) ?_
    refine e_get (HH_gI isB_1.1 rfl) ?_
    exact eqX6_stable_J48 t ct S s0 ((S.1 1 0) - 1)
  · exact eqX6_stable_J48 t ct S s0 l1
def TX6_stable_J19 (S : SS) (l1 : Int32) : Option (Int32) := (if l1 = (-1) then TX6_stable_J29 S l1 0 else
  TX6_stable_J29 S l1 l1)
theorem eqX6_stable_J19 (t : Nat) (ct : Nat → ClassId) (S : SS) : ∀ (l1 : Int32), EQ (X6_stable_J19 (HH t ct S) (t + 0) l1) (TX6_stable_J19 S l1) id := by
  intro l1
  unfold X6_stable_J19 TX6_stable_J19
  refine e_ite ?_ ?_
  · exact eqX6_stable_J29 t ct S l1 0
  · exact eqX6_stable_J29 t ct S l1 l1
def TX6_stable (a1 : Int32) (S : SS) : Option (Int32) := (if a1 = (-1) then TX6_stable_J19 S a1 else
  (TX0_has 1 a1 S).bind fun v11 =>
  (if v11 = 0 then some (-2) else
  TX6_stable_J19 S a1))
theorem eqX6_stable (t : Nat) (ct : Nat → ClassId) (a1 : Int32) (S : SS) : X6_stable (t + 0) a1 (HH t ct S) = (TX6_stable a1 S).map id := by
  show EQ _ _ _
  unfold X6_stable TX6_stable
  refine e_get (HH_vO rfl) ?_
  refine e_ite ?_ ?_
  · exact eqX6_stable_J19 t ct S a1
  · refine e_get (HH_gR rfl rfl) ?_
    refine e_call (eqX0_has t ct 1 a1 isB_1 S) ?_
    intro v11
    refine e_ite ?_ ?_
    · exact e_ret rfl
    · exact eqX6_stable_J19 t ct S a1
def TJ9_max_7cf53 (a0 : Int32) (a1 : Int32) : Option (Int32) := (if a0 < a1 then some a1 else
  some a0)
theorem eqJ9_max_7cf53 (t : Nat) (ct : Nat → ClassId) (a0 : Int32) (a1 : Int32) : J9_max_7cf53 a0 a1 = (TJ9_max_7cf53 a0 a1).map id := by
  show EQ _ _ _
  unfold J9_max_7cf53 TJ9_max_7cf53
  refine e_ite ?_ ?_
  · exact e_ret rfl
  · exact e_ret rfl
def TX6_need_L4 (S : SS) : Nat → Int32 → Int32 → Option (Int32)
  | 0, _, _ => none
  | n + 1, l1, l2 => (if (S.1 1 0) ≤ l2 then some l1 else
  (aget 8 (S.2.2.1 7) l2).bind fun v5 =>
  (TX0_loss 1 l2 S).bind fun v7 =>
  (TX6_quotient (Int32.toInt64 ((v7 + v5) - 1)) (Int32.toInt64 v5)).bind fun v8 =>
  (TJ9_max_7cf53 l1 (Int64.toInt32 v8)).bind fun v9 =>
  TX6_need_L4 S n v9 (l2 + 1))
theorem eqX6_need_L4 (t : Nat) (ct : Nat → ClassId) (S : SS) : ∀ (n : Nat), ∀ (l1 : Int32) (l2 : Int32), EQ (X6_need_L4 (HH t ct S) n (t + 0) l1 l2) (TX6_need_L4 S n l1 l2) id := by
  intro n
  induction n with
  | zero => intro l1 l2; exact e_none
  | succ n ih =>
    intro l1 l2
    unfold X6_need_L4 TX6_need_L4
    refine e_get (HH_gR rfl rfl) ?_
    refine e_get (HH_gI isB_1.1 rfl) ?_
    refine e_ite ?_ ?_
    · exact e_ret rfl
    · refine e_get (HH_gR rfl rfl) ?_
      refine e_get (HH_gR isB_1.1 rfl) ?_
      refine e_bind (HH_aI isB_1.2.2.2.2.2.2.1) ?_
      intro v5
      refine e_get (HH_gR rfl rfl) ?_
      refine e_call (eqX0_loss t ct 1 l2 isB_1 S) ?_
      intro v7
      refine e_call (eqX6_quotient t ct (Int32.toInt64 ((v7 + v5) - 1)) (Int32.toInt64 v5)) ?_
      intro v8
      refine e_call (eqJ9_max_7cf53 t ct l1 (Int64.toInt32 v8)) ?_
      intro v9
      exact ih v9 (l2 + 1)
def TX6_need (S : SS) : Option (Int32) := TX6_need_L4 S fu 1 0
theorem eqX6_need (t : Nat) (ct : Nat → ClassId) (S : SS) : X6_need (t + 0) (HH t ct S) = (TX6_need S).map id := by
  show EQ _ _ _
  unfold X6_need TX6_need
  refine e_get (HH_vO rfl) ?_
  exact eqX6_need_L4 t ct S fu 1 0
def TX6_sum_L16 (S : SS) : Nat → Int32 → Int64 → Int32 → Option (Int64)
  | 0, _, _, _ => none
  | n + 1, l1, l2, l4 => (if (S.1 1 0) ≤ l4 then (TX6_partOf l2 (S.2.1 1 9) l1).bind fun v6 =>
  some v6 else
  (aget 8 (S.2.2.1 7) l4).bind fun v9 =>
  (aget 8 (S.2.2.2 9) l4).bind fun v12 =>
  TX6_sum_L16 S n l1 (l2 + ((Int32.toInt64 v9) * v12)) (l4 + 1))
theorem eqX6_sum_L16 (t : Nat) (ct : Nat → ClassId) (S : SS) : ∀ (n : Nat), ∀ (l1 : Int32) (l2 : Int64) (l4 : Int32), EQ (X6_sum_L16 (HH t ct S) n (t + 0) l1 l2 l4) (TX6_sum_L16 S n l1 l2 l4) id := by
  intro n
  induction n with
  | zero => intro l1 l2 l4; exact e_none
  | succ n ih =>
    intro l1 l2 l4
    unfold X6_sum_L16 TX6_sum_L16
    refine e_get (HH_gR rfl rfl) ?_
    refine e_get (HH_gI isB_1.1 rfl) ?_
    refine e_ite ?_ ?_
    · refine e_get (HH_gR rfl rfl) ?_
      refine e_get (HH_gL isB_1.1 rfl) ?_
      refine e_call (eqX6_partOf t ct l2 (S.2.1 1 9) l1) ?_
      intro v6
      exact e_ret rfl
    · refine e_get (HH_gR rfl rfl) ?_
      refine e_get (HH_gR isB_1.1 rfl) ?_
      refine e_bind (HH_aI isB_1.2.2.2.2.2.2.1) ?_
      intro v9
      refine e_get (HH_gR rfl rfl) ?_
      refine e_get (HH_gR isB_1.1 rfl) ?_
      refine e_bind (HH_aL isB_1.2.2.2.2.2.2.2.2.1) ?_
      intro v12
      exact ih l1 (l2 + ((Int32.toInt64 v9) * v12)) (l4 + 1)
def TX6_sum (a1 : Int32) (S : SS) : Option (Int64) := (TX6_isBit a1).bind fun v1 =>
  (if v1 = 0 then some (-9223372036854775808) else
  TX6_sum_L16 S fu a1 0 0)
theorem eqX6_sum (t : Nat) (ct : Nat → ClassId) (a1 : Int32) (S : SS) : X6_sum (t + 0) a1 (HH t ct S) = (TX6_sum a1 S).map id := by
  show EQ _ _ _
  unfold X6_sum TX6_sum
  refine e_get (HH_vO rfl) ?_
  refine e_call (eqX6_isBit t ct a1) ?_
  intro v1
  refine e_ite ?_ ?_
  · exact e_ret rfl
  · exact eqX6_sum_L16 t ct S fu a1 0 0
def TX6_most (a1 : Int32) (S : SS) : Option (Int32) := (TX6_isBit a1).bind fun v1 =>
  (if v1 = 0 then some (-2) else
  (if a1 = 0 then (TX0_hottestCell 1 S).bind fun v5 =>
  some v5 else
  (TX0_coldestCell 1 S).bind fun v3 =>
  some v3))
theorem eqX6_most (t : Nat) (ct : Nat → ClassId) (a1 : Int32) (S : SS) : X6_most (t + 0) a1 (HH t ct S) = (TX6_most a1 S).map id := by
  show EQ _ _ _
  unfold X6_most TX6_most
  refine e_get (HH_vO rfl) ?_
  refine e_call (eqX6_isBit t ct a1) ?_
  intro v1
  refine e_ite ?_ ?_
  · exact e_ret rfl
  · refine e_ite ?_ ?_
    · refine e_get (HH_gR rfl rfl) ?_
      refine e_call (eqX0_hottestCell t ct 1 isB_1 S) ?_
      intro v5
      exact e_ret rfl
    · refine e_get (HH_gR rfl rfl) ?_
      refine e_call (eqX0_coldestCell t ct 1 isB_1 S) ?_
      intro v3
      exact e_ret rfl
def TX6_stepsDone_L2 (a0 : Nat) : Nat → Int32 → Int32 → SS → Option (Int32 × SS)
  | 0, _, _, _ => none
  | n + 1, l1, l2, S => (if l1 ≤ l2 then some (l2, S) else
  (TX0_advance a0 S).bind fun q1 =>
  (if q1.1 = (-2) then TX6_stepsDone_L2 a0 n l1 (l2 + 1) q1.2 else
  some (l2, q1.2)))
theorem eqX6_stepsDone_L2 (t : Nat) (ct : Nat → ClassId) (a0 : Nat) (h0 : isB a0) : ∀ (n : Nat), ∀ (l1 : Int32) (l2 : Int32) (S : SS), EQ (X6_stepsDone_L2 n (t + a0) l1 l2 (HH t ct S)) (TX6_stepsDone_L2 a0 n l1 l2 S) (hwI t ct) := by
  intro n
  induction n with
  | zero => intro l1 l2 S; exact e_none
  | succ n ih =>
    intro l1 l2 S
    unfold X6_stepsDone_L2 TX6_stepsDone_L2
    refine e_ite ?_ ?_
    · exact e_ret rfl
    · refine e_call (eqX0_advance t ct a0 h0 S) ?_
      intro q1
      refine e_ite ?_ ?_
      · exact ih l1 (l2 + 1) q1.2
      · exact e_ret rfl
def TX6_stepsDone (a0 : Nat) (a1 : Int32) (S : SS) : Option (Int32 × SS) := TX6_stepsDone_L2 a0 fu a1 0 S
theorem eqX6_stepsDone (t : Nat) (ct : Nat → ClassId) (a0 : Nat) (a1 : Int32) (h0 : isB a0) (S : SS) : X6_stepsDone (t + a0) a1 (HH t ct S) = (TX6_stepsDone a0 a1 S).map (hwI t ct) := by
  show EQ _ _ _
  unfold X6_stepsDone TX6_stepsDone
  exact eqX6_stepsDone_L2 t ct a0 h0 fu a1 0 S
def TX6_step (a1 : Int32) (S : SS) : Option (Int32 × SS) := (TX6_between a1 1 40).bind fun v1 =>
  (if v1 = 0 then some ((-2), S) else
  (if (S.1 1 0) = 0 then some ((-3), S) else
  (TX6_stepsDone 1 a1 S).bind fun q5 =>
  some (q5.1, q5.2)))
theorem eqX6_step (t : Nat) (ct : Nat → ClassId) (a1 : Int32) (S : SS) : X6_step (t + 0) a1 (HH t ct S) = (TX6_step a1 S).map (hwI t ct) := by
  show EQ _ _ _
  unfold X6_step TX6_step
  refine e_get (HH_vO rfl) ?_
  refine e_call (eqX6_between t ct a1 1 40) ?_
  intro v1
  refine e_ite ?_ ?_
  · exact e_ret rfl
  · refine e_get (HH_gR rfl rfl) ?_
    refine e_get (HH_gI isB_1.1 rfl) ?_
    refine e_ite ?_ ?_
    · exact e_ret rfl
    · refine e_get (HH_gR rfl rfl) ?_
      refine e_call (eqX6_stepsDone t ct 1 a1 isB_1 S) ?_
      intro q5
      exact e_ret rfl
def TX6_then (a1 : Int32) (a2 : Int32) (a3 : Int32) (S : SS) : Option (Int64 × SS) := (TX6_between a1 0 40).bind fun v1 =>
  (if v1 = 0 then some ((-9223372036854775808), S) else
  (TX0_has 1 a2 S).bind fun v3 =>
  (if v3 = 0 then some ((-9223372036854775808), S) else
  (TX6_isBit a3).bind fun v4 =>
  (if v4 = 0 then some ((-9223372036854775808), S) else
  (TX0_become 16 1 S).bind fun q7 =>
  (TX6_stepsDone 16 a1 q7).bind fun q9 =>
  (if a1 ≤ q9.1 then (aget 8 (q9.2.2.2.2 24) a2).bind fun v12 =>
  (TX6_partOf v12 (q9.2.2.1 16 9) a3).bind fun v15 =>
  some (v15, q9.2) else
  some ((-9223372036854775808), q9.2)))))
theorem eqX6_then (t : Nat) (ct : Nat → ClassId) (a1 : Int32) (a2 : Int32) (a3 : Int32) (S : SS) : X6_then (t + 0) a1 a2 a3 (HH t ct S) = (TX6_then a1 a2 a3 S).map (hwL t ct) := by
  show EQ _ _ _
  unfold X6_then TX6_then
  refine e_get (HH_vO rfl) ?_
  refine e_call (eqX6_between t ct a1 0 40) ?_
  intro v1
  refine e_ite ?_ ?_
  · exact e_ret rfl
  · refine e_get (HH_gR rfl rfl) ?_
    refine e_call (eqX0_has t ct 1 a2 isB_1 S) ?_
    intro v3
    refine e_ite ?_ ?_
    · exact e_ret rfl
    · refine e_call (eqX6_isBit t ct a3) ?_
      intro v4
      refine e_ite ?_ ?_
      · exact e_ret rfl
      · refine e_get (HH_gR rfl rfl) ?_
        refine e_get (HH_gR rfl rfl) ?_
        refine e_call (eqX0_become t ct 16 1 isB_16 isB_1 S) ?_
        intro q7
        refine e_get (HH_gR rfl rfl) ?_
        refine e_call (eqX6_stepsDone t ct 16 a1 isB_16 q7) ?_
        intro q9
        refine e_ite ?_ ?_
        · refine e_get (HH_gR rfl rfl) ?_
          refine e_get (HH_gR isB_16.1 rfl) ?_
          refine e_bind (HH_aL isB_16.2.2.2.2.2.2.2.2.1) ?_
          intro v12
          refine e_get (HH_gR rfl rfl) ?_
          refine e_get (HH_gL isB_16.1 rfl) ?_
          refine e_call (eqX6_partOf t ct v12 (q9.2.2.1 16 9) a3) ?_
          intro v15
          exact e_ret rfl
        · exact e_ret rfl
def TX6_spent_L23 : Nat → Int32 → Int32 → SS → Option (Int32 × SS)
  | 0, _, _, _ => none
  | n + 1, l1, l2, S => (if 40 < l2 then some ((-1), S) else
  (TX0_advance 16 S).bind fun q6 =>
  (if q6.1 = (-2) then TX6_spent_L23 n l1 (l2 + 1) q6.2 else
  (if l1 = 0 then some (l2, q6.2) else
  some (q6.1, q6.2))))
theorem eqX6_spent_L23 (t : Nat) (ct : Nat → ClassId) : ∀ (n : Nat), ∀ (l1 : Int32) (l2 : Int32) (S : SS), EQ (X6_spent_L23 n (t + 0) l1 l2 (HH t ct S)) (TX6_spent_L23 n l1 l2 S) (hwI t ct) := by
  intro n
  induction n with
  | zero => intro l1 l2 S; exact e_none
  | succ n ih =>
    intro l1 l2 S
    unfold X6_spent_L23 TX6_spent_L23
    refine e_ite ?_ ?_
    · exact e_ret rfl
    · refine e_get (HH_gR rfl rfl) ?_
      refine e_call (eqX0_advance t ct 16 isB_16 S) ?_
      intro q6
      refine e_ite ?_ ?_
      · exact ih l1 (l2 + 1) q6.2
      · refine e_ite ?_ ?_
        · exact e_ret rfl
        · exact e_ret rfl
def TX6_spent (a1 : Int32) (S : SS) : Option (Int32 × SS) := (TX6_isBit a1).bind fun v1 =>
  (if v1 = 0 then some ((-2), S) else
  (TX0_become 16 1 S).bind fun q4 =>
  TX6_spent_L23 fu a1 1 q4)
theorem eqX6_spent (t : Nat) (ct : Nat → ClassId) (a1 : Int32) (S : SS) : X6_spent (t + 0) a1 (HH t ct S) = (TX6_spent a1 S).map (hwI t ct) := by
  show EQ _ _ _
  unfold X6_spent TX6_spent
  refine e_get (HH_vO rfl) ?_
  refine e_call (eqX6_isBit t ct a1) ?_
  intro v1
  refine e_ite ?_ ?_
  · exact e_ret rfl
  · refine e_get (HH_gR rfl rfl) ?_
    refine e_get (HH_gR rfl rfl) ?_
    refine e_call (eqX0_become t ct 16 1 isB_16 isB_1 S) ?_
    intro q4
    exact eqX6_spent_L23 t ct fu a1 1 q4
def TX6_rises_L39 : Nat → Int32 → Int32 → SS → Option (Int32 × SS)
  | 0, _, _, _ => none
  | n + 1, l1, l2, S => (if l1 < l2 then some ((-1), S) else
  (TX0_greatest 16 S).bind fun v8 =>
  (TX0_advance 16 S).bind fun q12 =>
  (if q12.1 = (-2) then (TX0_isRisenFrom 16 v8 (S.2.1 16 9) q12.2).bind fun v14 =>
  (if v14 = 0 then TX6_rises_L39 n l1 (l2 + 1) q12.2 else
  some (l2, q12.2)) else
  some ((-1), q12.2)))
theorem eqX6_rises_L39 (t : Nat) (ct : Nat → ClassId) : ∀ (n : Nat), ∀ (l1 : Int32) (l2 : Int32) (S : SS), EQ (X6_rises_L39 n (t + 0) l1 l2 (HH t ct S)) (TX6_rises_L39 n l1 l2 S) (hwI t ct) := by
  intro n
  induction n with
  | zero => intro l1 l2 S; exact e_none
  | succ n ih =>
    intro l1 l2 S
    unfold X6_rises_L39 TX6_rises_L39
    refine e_ite ?_ ?_
    · exact e_ret rfl
    · refine e_get (HH_gR rfl rfl) ?_
      refine e_call (eqX0_greatest t ct 16 isB_16 S) ?_
      intro v8
      refine e_get (HH_gR rfl rfl) ?_
      refine e_get (HH_gL isB_16.1 rfl) ?_
      refine e_get (HH_gR rfl rfl) ?_
      refine e_call (eqX0_advance t ct 16 isB_16 S) ?_
      intro q12
      refine e_ite ?_ ?_
      · refine e_get (HH_gR rfl rfl) ?_
        refine e_call (eqX0_isRisenFrom t ct 16 v8 (S.2.1 16 9) isB_16 q12.2) ?_
        intro v14
        refine e_ite ?_ ?_
        · exact ih l1 (l2 + 1) q12.2
        · exact e_ret rfl
      · exact e_ret rfl
def TX6_rises (a1 : Int32) (S : SS) : Option (Int32 × SS) := (TX6_between a1 1 40).bind fun v1 =>
  (if v1 = 0 then some ((-2), S) else
  (if (S.1 1 0) = 0 then some ((-3), S) else
  (TX0_become 16 1 S).bind fun q6 =>
  TX6_rises_L39 fu a1 1 q6))
theorem eqX6_rises (t : Nat) (ct : Nat → ClassId) (a1 : Int32) (S : SS) : X6_rises (t + 0) a1 (HH t ct S) = (TX6_rises a1 S).map (hwI t ct) := by
  show EQ _ _ _
  unfold X6_rises TX6_rises
  refine e_get (HH_vO rfl) ?_
  refine e_call (eqX6_between t ct a1 1 40) ?_
  intro v1
  refine e_ite ?_ ?_
  · exact e_ret rfl
  · refine e_get (HH_gR rfl rfl) ?_
    refine e_get (HH_gI isB_1.1 rfl) ?_
    refine e_ite ?_ ?_
    · exact e_ret rfl
    · refine e_get (HH_gR rfl rfl) ?_
      refine e_get (HH_gR rfl rfl) ?_
      refine e_call (eqX0_become t ct 16 1 isB_16 isB_1 S) ?_
      intro q6
      exact eqX6_rises_L39 t ct fu a1 1 q6
def TX6_calm_L36 : Nat → Int32 → Int32 → SS → Option (Int32 × SS)
  | 0, _, _, _ => none
  | n + 1, l1, l2, S => (if 40 < l2 then some ((-1), S) else
  (TX0_greatest 16 S).bind fun v8 =>
  (TX0_least 16 S).bind fun v10 =>
  (if ((Int32.toInt64 l1) * (S.2.1 16 9)) < (v8 - v10) then (TX0_advance 16 S).bind fun q14 =>
  (if q14.1 = (-2) then TX6_calm_L36 n l1 (l2 + 1) q14.2 else
  some ((-1), q14.2)) else
  some (l2, S)))
theorem eqX6_calm_L36 (t : Nat) (ct : Nat → ClassId) : ∀ (n : Nat), ∀ (l1 : Int32) (l2 : Int32) (S : SS), EQ (X6_calm_L36 n (t + 0) l1 l2 (HH t ct S)) (TX6_calm_L36 n l1 l2 S) (hwI t ct) := by
  intro n
  induction n with
  | zero => intro l1 l2 S; exact e_none
  | succ n ih =>
    intro l1 l2 S
    unfold X6_calm_L36 TX6_calm_L36
    refine e_ite ?_ ?_
    · exact e_ret rfl
    · refine e_get (HH_gR rfl rfl) ?_
      refine e_call (eqX0_greatest t ct 16 isB_16 S) ?_
      intro v8
      refine e_get (HH_gR rfl rfl) ?_
      refine e_call (eqX0_least t ct 16 isB_16 S) ?_
      intro v10
      refine e_get (HH_gR rfl rfl) ?_
      refine e_get (HH_gL isB_16.1 rfl) ?_
      refine e_ite ?_ ?_
      · refine e_get (HH_gR rfl rfl) ?_
        refine e_call (eqX0_advance t ct 16 isB_16 S) ?_
        intro q14
        refine e_ite ?_ ?_
        · exact ih l1 (l2 + 1) q14.2
        · exact e_ret rfl
      · exact e_ret rfl
def TX6_calm (a1 : Int32) (S : SS) : Option (Int32 × SS) := (TX6_isHeat a1).bind fun v1 =>
  (if v1 = 0 then some ((-2), S) else
  (if (S.1 1 0) = 0 then some ((-3), S) else
  (TX0_become 16 1 S).bind fun q6 =>
  TX6_calm_L36 fu a1 0 q6))
theorem eqX6_calm (t : Nat) (ct : Nat → ClassId) (a1 : Int32) (S : SS) : X6_calm (t + 0) a1 (HH t ct S) = (TX6_calm a1 S).map (hwI t ct) := by
  show EQ _ _ _
  unfold X6_calm TX6_calm
  refine e_get (HH_vO rfl) ?_
  refine e_call (eqX6_isHeat t ct a1) ?_
  intro v1
  refine e_ite ?_ ?_
  · exact e_ret rfl
  · refine e_get (HH_gR rfl rfl) ?_
    refine e_get (HH_gI isB_1.1 rfl) ?_
    refine e_ite ?_ ?_
    · exact e_ret rfl
    · refine e_get (HH_gR rfl rfl) ?_
      refine e_get (HH_gR rfl rfl) ?_
      refine e_call (eqX0_become t ct 16 1 isB_16 isB_1 S) ?_
      intro q6
      exact eqX6_calm_L36 t ct fu a1 0 q6
def TX6_pulse_J37 (l1 : Int32) (l2 : Int32) (l3 : Int32) (s0 : Int32) (S : SS) : Option (Int32 × SS) := (if s0 = 0 then some ((-2), S) else
  (TX2_append 11 l1 l2 l3 S).bind fun q5 =>
  some (q5.1, q5.2))
theorem eqX6_pulse_J37 (t : Nat) (ct : Nat → ClassId) : ∀ (l1 : Int32) (l2 : Int32) (l3 : Int32) (s0 : Int32) (S : SS), EQ (X6_pulse_J37 (t + 0) l1 l2 l3 s0 (HH t ct S)) (TX6_pulse_J37 l1 l2 l3 s0 S) (hwI t ct) := by
  intro l1 l2 l3 s0 S
  unfold X6_pulse_J37 TX6_pulse_J37
  refine e_ite ?_ ?_
  · exact e_ret rfl
  · refine e_get (HH_gR rfl rfl) ?_
    refine e_get (HH_gR isB_1.1 rfl) ?_
    refine e_call (eqX2_append t ct 11 l1 l2 l3 isB_1.2.2.2.2.2.2.2.2.2.2.1 S) ?_
    intro q5
    exact e_ret rfl
def TX6_pulse (a1 : Int32) (a2 : Int32) (a3 : Int32) (S : SS) : Option (Int32 × SS) := (TX0_has 1 a1 S).bind fun v2 =>
  (if v2 = 0 then TX6_pulse_J37 a1 a2 a3 0 S else
  (TX6_between a2 1 20).bind fun v6 =>
  (if v6 = 0 then TX6_pulse_J37 a1 a2 a3 0 S else
  (TX6_between a3 (-99) 99).bind fun v7 =>
  (if v7 = 0 then TX6_pulse_J37 a1 a2 a3 0 S else
  TX6_pulse_J37 a1 a2 a3 1 S)))
theorem eqX6_pulse (t : Nat) (ct : Nat → ClassId) (a1 : Int32) (a2 : Int32) (a3 : Int32) (S : SS) : X6_pulse (t + 0) a1 a2 a3 (HH t ct S) = (TX6_pulse a1 a2 a3 S).map (hwI t ct) := by
  show EQ _ _ _
  unfold X6_pulse TX6_pulse
  refine e_get (HH_vO rfl) ?_
  refine e_get (HH_gR rfl rfl) ?_
  refine e_call (eqX0_has t ct 1 a1 isB_1 S) ?_
  intro v2
  refine e_ite ?_ ?_
  · exact eqX6_pulse_J37 t ct a1 a2 a3 0 S
  · refine e_call (eqX6_between t ct a2 1 20) ?_
    intro v6
    refine e_ite ?_ ?_
    · exact eqX6_pulse_J37 t ct a1 a2 a3 0 S
    · refine e_call (eqX6_between t ct a3 (-99) 99) ?_
      intro v7
      refine e_ite ?_ ?_
      · exact eqX6_pulse_J37 t ct a1 a2 a3 0 S
      · exact eqX6_pulse_J37 t ct a1 a2 a3 1 S
def TX6_pulseOf (a1 : Int32) (a2 : Int32) (S : SS) : Option (Int32) := (if a1 < 0 then some (-1000) else
  (if a1 < (S.1 11 3) then (if a2 = 0 then (aget 12 (S.2.2.1 12) a1).bind fun v7 =>
  some v7 else
  (if a2 = 1 then (aget 12 (S.2.2.1 13) a1).bind fun v12 =>
  some v12 else
  (if a2 = 2 then (aget 12 (S.2.2.1 14) a1).bind fun v17 =>
  some v17 else
  some (-1000)))) else
  some (-1000)))
theorem eqX6_pulseOf (t : Nat) (ct : Nat → ClassId) (a1 : Int32) (a2 : Int32) (S : SS) : X6_pulseOf (t + 0) a1 a2 (HH t ct S) = (TX6_pulseOf a1 a2 S).map id := by
  show EQ _ _ _
  unfold X6_pulseOf TX6_pulseOf
  refine e_get (HH_vO rfl) ?_
  refine e_ite ?_ ?_
  · exact e_ret rfl
  · refine e_get (HH_gR rfl rfl) ?_
    refine e_get (HH_gR isB_1.1 rfl) ?_
    refine e_get (HH_gI isB_1.2.2.2.2.2.2.2.2.2.2.1.1 rfl) ?_
    refine e_ite ?_ ?_
    · refine e_ite ?_ ?_
      · refine e_get (HH_gR rfl rfl) ?_
        refine e_get (HH_gR isB_1.1 rfl) ?_
        refine e_get (HH_gR isB_1.2.2.2.2.2.2.2.2.2.2.1.1 rfl) ?_
        refine e_bind (HH_aI isB_1.2.2.2.2.2.2.2.2.2.2.1.2.1) ?_
        intro v7
        exact e_ret rfl
      refine e_ite ?_ ?_
      · refine e_get (HH_gR rfl rfl) ?_
        refine e_get (HH_gR isB_1.1 rfl) ?_
        refine e_get (HH_gR isB_1.2.2.2.2.2.2.2.2.2.2.1.1 rfl) ?_
        refine e_bind (HH_aI isB_1.2.2.2.2.2.2.2.2.2.2.1.2.2.1) ?_
        intro v12
        exact e_ret rfl
      refine e_ite ?_ ?_
      · refine e_get (HH_gR rfl rfl) ?_
        refine e_get (HH_gR isB_1.1 rfl) ?_
        refine e_get (HH_gR isB_1.2.2.2.2.2.2.2.2.2.2.1.1 rfl) ?_
        refine e_bind (HH_aI isB_1.2.2.2.2.2.2.2.2.2.2.1.2.2.2) ?_
        intro v17
        exact e_ret rfl
      exact e_ret rfl
    · exact e_ret rfl
def TX6_hush (a1 : Int32) (S : SS) : Option (Int32 × SS) := (TX0_has 1 a1 S).bind fun v2 =>
  (if v2 = 0 then some ((-2), S) else
  (TX2_removeOf 11 a1 S).bind fun q5 =>
  some (q5.1, q5.2))
theorem eqX6_hush (t : Nat) (ct : Nat → ClassId) (a1 : Int32) (S : SS) : X6_hush (t + 0) a1 (HH t ct S) = (TX6_hush a1 S).map (hwI t ct) := by
  show EQ _ _ _
  unfold X6_hush TX6_hush
  refine e_get (HH_vO rfl) ?_
  refine e_get (HH_gR rfl rfl) ?_
  refine e_call (eqX0_has t ct 1 a1 isB_1 S) ?_
  intro v2
  refine e_ite ?_ ?_
  · exact e_ret rfl
  · refine e_get (HH_gR rfl rfl) ?_
    refine e_get (HH_gR isB_1.1 rfl) ?_
    refine e_call (eqX2_removeOf t ct 11 a1 isB_1.2.2.2.2.2.2.2.2.2.2.1 S) ?_
    intro q5
    exact e_ret rfl
def TX6_steady (a1 : Int32) (a2 : Int32) (S : SS) : Option (Int64 × SS) := (TX0_has 1 a1 S).bind fun v2 =>
  (if v2 = 0 then some ((-9223372036854775808), S) else
  (TX6_isBit a2).bind fun v3 =>
  (if v3 = 0 then some ((-9223372036854775808), S) else
  (TX0_canRest 1 S).bind fun v5 =>
  (if v5 = 0 then some ((-9223372036854775808), S) else
  (TX4_solve 1 S).bind fun q8 =>
  (aget 8 (q8.2.2.2 47) a1).bind fun v11 =>
  (TX6_partOf v11 (q8.2.1 46 1) a2).bind fun v14 =>
  some (v14, q8))))
theorem eqX6_steady (t : Nat) (ct : Nat → ClassId) (a1 : Int32) (a2 : Int32) (S : SS) : X6_steady (t + 0) a1 a2 (HH t ct S) = (TX6_steady a1 a2 S).map (hwL t ct) := by
  show EQ _ _ _
  unfold X6_steady TX6_steady
  refine e_get (HH_vO rfl) ?_
  refine e_get (HH_gR rfl rfl) ?_
  refine e_call (eqX0_has t ct 1 a1 isB_1 S) ?_
  intro v2
  refine e_ite ?_ ?_
  · exact e_ret rfl
  · refine e_call (eqX6_isBit t ct a2) ?_
    intro v3
    refine e_ite ?_ ?_
    · exact e_ret rfl
    · refine e_get (HH_gR rfl rfl) ?_
      refine e_call (eqX0_canRest t ct 1 isB_1 S) ?_
      intro v5
      refine e_ite ?_ ?_
      · exact e_ret rfl
      · refine e_get (HH_gR rfl rfl) ?_
        refine e_get (HH_gR rfl rfl) ?_
        refine e_call (eqX4_solve t ct 1 isB_1 S) ?_
        intro q8
        refine e_get (HH_gR rfl rfl) ?_
        refine e_get (HH_gR rfl rfl) ?_
        refine e_bind (HH_aL rfl) ?_
        intro v11
        refine e_get (HH_gR rfl rfl) ?_
        refine e_get (HH_gL rfl rfl) ?_
        refine e_call (eqX6_partOf t ct v11 (q8.2.1 46 1) a2) ?_
        intro v14
        exact e_ret rfl
def TX6_steadyFlow (a1 : Int32) (a2 : Int32) (S : SS) : Option (Int64 × SS) := (TX0_hasJoint 1 a1 S).bind fun v2 =>
  (if v2 = 0 then some ((-9223372036854775808), S) else
  (TX6_isBit a2).bind fun v3 =>
  (if v3 = 0 then some ((-9223372036854775808), S) else
  (TX0_canRest 1 S).bind fun v5 =>
  (if v5 = 0 then some ((-9223372036854775808), S) else
  (TX4_solve 1 S).bind fun q8 =>
  (TX0_flowAbove 1 a1 47 8 (q8.2.1 46 1) q8).bind fun v14 =>
  (TX6_partOf v14 (q8.2.1 46 1) a2).bind fun v17 =>
  some (v17, q8))))
theorem eqX6_steadyFlow (t : Nat) (ct : Nat → ClassId) (a1 : Int32) (a2 : Int32) (S : SS) : X6_steadyFlow (t + 0) a1 a2 (HH t ct S) = (TX6_steadyFlow a1 a2 S).map (hwL t ct) := by
  show EQ _ _ _
  unfold X6_steadyFlow TX6_steadyFlow
  refine e_get (HH_vO rfl) ?_
  refine e_get (HH_gR rfl rfl) ?_
  refine e_call (eqX0_hasJoint t ct 1 a1 isB_1 S) ?_
  intro v2
  refine e_ite ?_ ?_
  · exact e_ret rfl
  · refine e_call (eqX6_isBit t ct a2) ?_
    intro v3
    refine e_ite ?_ ?_
    · exact e_ret rfl
    · refine e_get (HH_gR rfl rfl) ?_
      refine e_call (eqX0_canRest t ct 1 isB_1 S) ?_
      intro v5
      refine e_ite ?_ ?_
      · exact e_ret rfl
      · refine e_get (HH_gR rfl rfl) ?_
        refine e_get (HH_gR rfl rfl) ?_
        refine e_call (eqX4_solve t ct 1 isB_1 S) ?_
        intro q8
        refine e_get (HH_gR rfl rfl) ?_
        refine e_get (HH_gR rfl rfl) ?_
        refine e_get (HH_gR rfl rfl) ?_
        refine e_get (HH_gR rfl rfl) ?_
        refine e_get (HH_gL rfl rfl) ?_
        refine e_call (eqX0_flowAbove t ct 1 a1 47 8 (q8.2.1 46 1) isB_1 rfl q8) ?_
        intro v14
        refine e_get (HH_gR rfl rfl) ?_
        refine e_get (HH_gL rfl rfl) ?_
        refine e_call (eqX6_partOf t ct v14 (q8.2.1 46 1) a2) ?_
        intro v17
        exact e_ret rfl
def TX6_hottest (S : SS) : Option (Int32 × SS) := (TX0_canRest 1 S).bind fun v2 =>
  (if v2 = 0 then some ((-1), S) else
  (TX4_solve 1 S).bind fun q5 =>
  (TX6_firstGreatest 47 8 (q5.1 1 0) q5).bind fun v10 =>
  some (v10, q5))
theorem eqX6_hottest (t : Nat) (ct : Nat → ClassId) (S : SS) : X6_hottest (t + 0) (HH t ct S) = (TX6_hottest S).map (hwI t ct) := by
  show EQ _ _ _
  unfold X6_hottest TX6_hottest
  refine e_get (HH_vO rfl) ?_
  refine e_get (HH_gR rfl rfl) ?_
  refine e_call (eqX0_canRest t ct 1 isB_1 S) ?_
  intro v2
  refine e_ite ?_ ?_
  · exact e_ret rfl
  · refine e_get (HH_gR rfl rfl) ?_
    refine e_get (HH_gR rfl rfl) ?_
    refine e_call (eqX4_solve t ct 1 isB_1 S) ?_
    intro q5
    refine e_get (HH_gR rfl rfl) ?_
    refine e_get (HH_gR rfl rfl) ?_
    refine e_get (HH_gR rfl rfl) ?_
    refine e_get (HH_gI isB_1.1 rfl) ?_
    refine e_call (eqX6_firstGreatest t ct 47 8 (q5.1 1 0) rfl q5) ?_
    intro v10
    exact e_ret rfl
def TX6_lay (S : SS) : Option (Int32 × SS) := (TX0_canRest 1 S).bind fun v2 =>
  (if v2 = 0 then some ((-3), S) else
  (TX4_solve 1 S).bind fun q5 =>
  (TX0_takeHeats 1 47 8 (q5.2.1 46 1) q5).bind fun q11 =>
  (if q11.1 = (-2) then some (1, q11.2) else
  some ((-4), q11.2)))
theorem eqX6_lay (t : Nat) (ct : Nat → ClassId) (S : SS) : X6_lay (t + 0) (HH t ct S) = (TX6_lay S).map (hwI t ct) := by
  show EQ _ _ _
  unfold X6_lay TX6_lay
  refine e_get (HH_vO rfl) ?_
  refine e_get (HH_gR rfl rfl) ?_
  refine e_call (eqX0_canRest t ct 1 isB_1 S) ?_
  intro v2
  refine e_ite ?_ ?_
  · exact e_ret rfl
  · refine e_get (HH_gR rfl rfl) ?_
    refine e_get (HH_gR rfl rfl) ?_
    refine e_call (eqX4_solve t ct 1 isB_1 S) ?_
    intro q5
    refine e_get (HH_gR rfl rfl) ?_
    refine e_get (HH_gR rfl rfl) ?_
    refine e_get (HH_gR rfl rfl) ?_
    refine e_get (HH_gR rfl rfl) ?_
    refine e_get (HH_gL rfl rfl) ?_
    refine e_call (eqX0_takeHeats t ct 1 47 8 (q5.2.1 46 1) isB_1 rfl q5) ?_
    intro q11
    refine e_ite ?_ ?_
    · exact e_ret rfl
    · exact e_ret rfl
def TX6_isSteady_L2 (S : SS) : Nat → Int32 → Option (Int32)
  | 0, _ => none
  | n + 1, l1 => (if (S.1 1 0) ≤ l1 then some 1 else
  (TX0_gain 1 l1 S).bind fun v4 =>
  (if v4 = 0 then TX6_isSteady_L2 S n (l1 + 1) else
  some 0))
theorem eqX6_isSteady_L2 (t : Nat) (ct : Nat → ClassId) (S : SS) : ∀ (n : Nat), ∀ (l1 : Int32), EQ (X6_isSteady_L2 (HH t ct S) n (t + 0) l1) (TX6_isSteady_L2 S n l1) id := by
  intro n
  induction n with
  | zero => intro l1; exact e_none
  | succ n ih =>
    intro l1
    unfold X6_isSteady_L2 TX6_isSteady_L2
    refine e_get (HH_gR rfl rfl) ?_
    refine e_get (HH_gI isB_1.1 rfl) ?_
    refine e_ite ?_ ?_
    · exact e_ret rfl
    · refine e_get (HH_gR rfl rfl) ?_
      refine e_call (eqX0_gain t ct 1 l1 isB_1 S) ?_
      intro v4
      refine e_ite ?_ ?_
      · exact ih (l1 + 1)
      · exact e_ret rfl
def TX6_isSteady (S : SS) : Option (Int32) := TX6_isSteady_L2 S fu 0
theorem eqX6_isSteady (t : Nat) (ct : Nat → ClassId) (S : SS) : X6_isSteady (t + 0) (HH t ct S) = (TX6_isSteady S).map id := by
  show EQ _ _ _
  unfold X6_isSteady TX6_isSteady
  refine e_get (HH_vO rfl) ?_
  exact eqX6_isSteady_L2 t ct S fu 0
