/-! Terms over the four pictures. Written by wip/whole/decompT.py. -/
def TX6_isSheet (a0 : Int32) : Option (Int32) := (TX6_between a0 0 3).bind fun v1 =>
  (zb v1).bind fun v2 => some v2
theorem eqX6_isSheet (t : Nat) (ct : Nat → ClassId) (a0 : Int32) : X6_isSheet a0 = (TX6_isSheet a0).map id := by
  show EQ _ _ _
  unfold X6_isSheet TX6_isSheet
  refine e_call (eqX6_between t ct a0 0 3) ?_
  intro v1
  exact e_bind rfl (fun _ => e_ret rfl)
def TJ9_floorDiv_f86c9 (a0 : Int64) (a1 : Int64) : Option (Int64) := (o_ldiv a0 a1).bind fun v1 =>
  (if 0 ≤ (a0 ^^^ a1) then some v1 else
  (if (v1 * a1) = a0 then some v1 else
  some (v1 - 1)))
theorem eqJ9_floorDiv_f86c9 (t : Nat) (ct : Nat → ClassId) (a0 : Int64) (a1 : Int64) : J9_floorDiv_f86c9 a0 a1 = (TJ9_floorDiv_f86c9 a0 a1).map id := by
  show EQ _ _ _
  unfold J9_floorDiv_f86c9 TJ9_floorDiv_f86c9
  refine e_bind rfl ?_
  intro v1
  refine e_ite ?_ ?_
  · exact e_ret rfl
  · refine e_ite ?_ ?_
    · exact e_ret rfl
    · exact e_ret rfl
def TX6_wholePart (a0 : Int64) (a1 : Int64) : Option (Int64) := (if a1 = 0 then some 0 else
  (TJ9_floorDiv_f86c9 a0 a1).bind fun v1 =>
  some v1)
theorem eqX6_wholePart (t : Nat) (ct : Nat → ClassId) (a0 : Int64) (a1 : Int64) : X6_wholePart a0 a1 = (TX6_wholePart a0 a1).map id := by
  show EQ _ _ _
  unfold X6_wholePart TX6_wholePart
  refine e_ite ?_ ?_
  · exact e_ret rfl
  · refine e_call (eqJ9_floorDiv_f86c9 t ct a0 a1) ?_
    intro v1
    exact e_ret rfl
def TX6_mayBeBuried_L24 : Nat → Int32 → Int32 → SS → Option (Int32 × SS)
  | 0, _, _, _ => none
  | n + 1, l1, l4, S => (aget 4 (S.2.2.1 54) l1).bind fun v9 =>
  (if v9 ≤ l4 then (zb 1).bind fun v10 => some (v10, S) else
  (aget 8 (S.2.2.2 47) l4).bind fun v13 =>
  (TX6_wholePart v13 (S.2.1 46 1)).bind fun v16 =>
  (if jin l1 4 then (aget 40 (S.2.2.1 (56 + (l1).toNatClampNeg)) l4).bind fun v20 =>
  (if v16 = (Int32.toInt64 v20) then TX6_mayBeBuried_L24 n l1 (l4 + 1) S else
  (zb 0).bind fun v21 => some (v21, S)) else
  none))
theorem eqX6_mayBeBuried_L24 (t : Nat) (ct : Nat → ClassId) : ∀ (n : Nat), ∀ (l1 : Int32) (l4 : Int32) (S : SS), EQ (X6_mayBeBuried_L24 n (t + 0) l1 l4 (HH t ct S)) (TX6_mayBeBuried_L24 n l1 l4 S) (hwI t ct) := by
  intro n
  induction n with
  | zero => intro l1 l4 S; exact e_none
  | succ n ih =>
    intro l1 l4 S
    unfold X6_mayBeBuried_L24 TX6_mayBeBuried_L24
    refine e_get (HH_gR rfl rfl) ?_
    refine e_get (HH_gR rfl rfl) ?_
    refine e_bind (HH_aI rfl) ?_
    intro v9
    refine e_ite ?_ ?_
    · exact e_bind rfl (fun _ => e_ret rfl)
    · refine e_get (HH_gR rfl rfl) ?_
      refine e_get (HH_gR rfl rfl) ?_
      refine e_bind (HH_aL rfl) ?_
      intro v13
      refine e_get (HH_gR rfl rfl) ?_
      refine e_get (HH_gL rfl rfl) ?_
      refine e_call (eqX6_wholePart t ct v13 (S.2.1 46 1)) ?_
      intro v16
      refine e_get (HH_gR rfl rfl) ?_
      refine e_get (HH_gR rfl rfl) ?_
      refine e_row (HH_aR rfl) ?_
      intro hj19
      rw [Nat.add_assoc]
      refine e_bind (HH_aI (row_ok hj19)) ?_
      intro v20
      refine e_ite ?_ ?_
      · exact ih l1 (l4 + 1) S
      · exact e_bind rfl (fun _ => e_ret rfl)
def TX6_mayBeBuried (a1 : Int32) (a2 : Int32) (a3 : Int32) (S : SS) : Option (Int32 × SS) := (if jin a2 8 then letS (sAI S 20 (Int32.toNatClampNeg a2) a3) fun S3 =>
  (TX4_solve 16 S3).bind fun q6 =>
  TX6_mayBeBuried_L24 fu a1 0 q6 else
  none)
theorem eqX6_mayBeBuried (t : Nat) (ct : Nat → ClassId) (a1 : Int32) (a2 : Int32) (a3 : Int32) (S : SS) : X6_mayBeBuried (t + 0) a1 a2 a3 (HH t ct S) = (TX6_mayBeBuried a1 a2 a3 S).map (hwI t ct) := by
  show EQ _ _ _
  unfold X6_mayBeBuried TX6_mayBeBuried
  refine e_get (HH_vO rfl) ?_
  refine e_get (HH_gR rfl rfl) ?_
  refine e_get (HH_gR isB_16.1 rfl) ?_
  refine e_wrS (HH_wI isB_16.2.2.2.2.1) ?_
  intro S3
  refine e_get (HH_gR rfl rfl) ?_
  refine e_get (HH_gR rfl rfl) ?_
  refine e_call (eqX4_solve t ct 16 isB_16 S3) ?_
  intro q6
  exact eqX6_mayBeBuried_L24 t ct fu a1 0 q6
def TX6_firstBuried_L27 (r13 : Int32 → Int32 → SS → Option (Int32 × SS)) : Nat → Int32 → Int32 → Int32 → SS → Option (Int32 × SS)
  | 0, _, _, _, _ => none
  | n + 1, l1, l2, l3, S => (if 9 < l3 then (aget 8 (S.2.2.1 5) l2).bind fun v10 =>
  (if jin l2 8 then letS (sAI S 20 (Int32.toNatClampNeg l2) v10) fun S11 =>
  r13 l1 (l2 + 1) S11 else
  none) else
  (TX6_mayBeBuried l1 l2 l3 S).bind fun q12 =>
  (if q12.1 = 0 then TX6_firstBuried_L27 r13 n l1 l2 (l3 + 1) q12.2 else
  some ((((100 * l2) + l3) + 9), q12.2)))
theorem eqX6_firstBuried_L27 (t : Nat) (ct : Nat → ClassId) (g13 : Nat → Int32 → Int32 → Hs → Option (Int32 × Hs)) (r13 : Int32 → Int32 → SS → Option (Int32 × SS)) (hr13 : ∀ (l1 : Int32) (l2 : Int32) (S : SS), EQ (g13 (t + 0) l1 l2 (HH t ct S)) (r13 l1 l2 S) (hwI t ct)) : ∀ (n : Nat), ∀ (l1 : Int32) (l2 : Int32) (l3 : Int32) (S : SS), EQ (X6_firstBuried_L27 g13 n (t + 0) l1 l2 l3 (HH t ct S)) (TX6_firstBuried_L27 r13 n l1 l2 l3 S) (hwI t ct) := by
  intro n
  induction n with
  | zero => intro l1 l2 l3 S; exact e_none
  | succ n ih =>
    intro l1 l2 l3 S
    unfold X6_firstBuried_L27 TX6_firstBuried_L27
    refine e_ite ?_ ?_
    · refine e_get (HH_gR rfl rfl) ?_
      refine e_get (HH_gR isB_16.1 rfl) ?_
      refine e_get (HH_gR rfl rfl) ?_
      refine e_get (HH_gR isB_1.1 rfl) ?_
      refine e_bind (HH_aI isB_1.2.2.2.2.1) ?_
      intro v10
      refine e_wrS (HH_wI isB_16.2.2.2.2.1) ?_
      intro S11
      exact hr13 l1 (l2 + 1) S11
    · refine e_call (eqX6_mayBeBuried t ct l1 l2 l3 S) ?_
      intro q12
      refine e_ite ?_ ?_
      · exact ih l1 l2 (l3 + 1) q12.2
      · exact e_ret rfl
def TX6_firstBuried_L13 : Nat → Int32 → Int32 → SS → Option (Int32 × SS)
  | 0, _, _, _ => none
  | n + 1, l1, l2, S => (if (S.1 1 0) ≤ l2 then some ((-1), S) else
  TX6_firstBuried_L27 (fun l1 l2 S => TX6_firstBuried_L13 n l1 l2 S) fu l1 l2 (-9) S)
theorem eqX6_firstBuried_L13 (t : Nat) (ct : Nat → ClassId) : ∀ (n : Nat), ∀ (l1 : Int32) (l2 : Int32) (S : SS), EQ (X6_firstBuried_L13 n (t + 0) l1 l2 (HH t ct S)) (TX6_firstBuried_L13 n l1 l2 S) (hwI t ct) := by
  intro n
  induction n with
  | zero => intro l1 l2 S; exact e_none
  | succ n ih =>
    intro l1 l2 S
    unfold X6_firstBuried_L13 TX6_firstBuried_L13
    refine e_get (HH_gR rfl rfl) ?_
    refine e_get (HH_gI isB_1.1 rfl) ?_
    refine e_ite ?_ ?_
    · exact e_ret rfl
    · exact eqX6_firstBuried_L27 t ct _ (fun l1 l2 S => TX6_firstBuried_L13 n l1 l2 S) ih fu l1 l2 (-9) S
def TX6_firstBuried (a1 : Int32) (S : SS) : Option (Int32 × SS) := (TX0_become 16 1 S).bind fun q3 =>
  TX6_firstBuried_L13 fu a1 0 q3
theorem eqX6_firstBuried (t : Nat) (ct : Nat → ClassId) (a1 : Int32) (S : SS) : X6_firstBuried (t + 0) a1 (HH t ct S) = (TX6_firstBuried a1 S).map (hwI t ct) := by
  show EQ _ _ _
  unfold X6_firstBuried TX6_firstBuried
  refine e_get (HH_vO rfl) ?_
  refine e_get (HH_gR rfl rfl) ?_
  refine e_get (HH_gR rfl rfl) ?_
  refine e_call (eqX0_become t ct 16 1 isB_16 isB_1 S) ?_
  intro q3
  exact eqX6_firstBuried_L13 t ct fu a1 0 q3
def TX6_howManyBuried_J54 (r15 : Int32 → Int32 → Int32 → SS → Option (Int32 × SS)) (r30 : Int32 → Int32 → Int32 → Int32 → SS → Option (Int32 × SS)) (l1 : Int32) (l3 : Int32) (l4 : Int32) (s0 : Int32) (s1 : Int32) (S : SS) : Option (Int32 × SS) := r30 l1 (s1 + s0) l3 (l4 + 1) S
theorem eqX6_howManyBuried_J54 (t : Nat) (ct : Nat → ClassId) (g15 : Nat → Int32 → Int32 → Int32 → Hs → Option (Int32 × Hs)) (g30 : Nat → Int32 → Int32 → Int32 → Int32 → Hs → Option (Int32 × Hs)) (r15 : Int32 → Int32 → Int32 → SS → Option (Int32 × SS)) (r30 : Int32 → Int32 → Int32 → Int32 → SS → Option (Int32 × SS)) (hr15 : ∀ (l1 : Int32) (l2 : Int32) (l3 : Int32) (S : SS), EQ (g15 (t + 0) l1 l2 l3 (HH t ct S)) (r15 l1 l2 l3 S) (hwI t ct)) (hr30 : ∀ (l1 : Int32) (l2 : Int32) (l3 : Int32) (l4 : Int32) (S : SS), EQ (g30 (t + 0) l1 l2 l3 l4 (HH t ct S)) (r30 l1 l2 l3 l4 S) (hwI t ct)) : ∀ (l1 : Int32) (l3 : Int32) (l4 : Int32) (s0 : Int32) (s1 : Int32) (S : SS), EQ (X6_howManyBuried_J54 g15 g30 (t + 0) l1 l3 l4 s0 s1 (HH t ct S)) (TX6_howManyBuried_J54 r15 r30 l1 l3 l4 s0 s1 S) (hwI t ct) := by
  intro l1 l3 l4 s0 s1 S
  unfold X6_howManyBuried_J54 TX6_howManyBuried_J54
  exact hr30 l1 (s1 + s0) l3 (l4 + 1) S
def TX6_howManyBuried_L30 (r15 : Int32 → Int32 → Int32 → SS → Option (Int32 × SS)) : Nat → Int32 → Int32 → Int32 → Int32 → SS → Option (Int32 × SS)
  | 0, _, _, _, _, _ => none
  | n + 1, l1, l2, l3, l4, S => (if 9 < l4 then (aget 8 (S.2.2.1 5) l3).bind fun v10 =>
  (if jin l3 8 then letS (sAI S 20 (Int32.toNatClampNeg l3) v10) fun S11 =>
  r15 l1 l2 (l3 + 1) S11 else
  none) else
  (TX6_mayBeBuried l1 l3 l4 S).bind fun q12 =>
  (if q12.1 = 0 then TX6_howManyBuried_J54 r15 (fun l1 l2 l3 l4 S => TX6_howManyBuried_L30 r15 n l1 l2 l3 l4 S) l1 l3 l4 0 l2 q12.2 else
  TX6_howManyBuried_J54 r15 (fun l1 l2 l3 l4 S => TX6_howManyBuried_L30 r15 n l1 l2 l3 l4 S) l1 l3 l4 1 l2 q12.2))
theorem eqX6_howManyBuried_L30 (t : Nat) (ct : Nat → ClassId) (g15 : Nat → Int32 → Int32 → Int32 → Hs → Option (Int32 × Hs)) (r15 : Int32 → Int32 → Int32 → SS → Option (Int32 × SS)) (hr15 : ∀ (l1 : Int32) (l2 : Int32) (l3 : Int32) (S : SS), EQ (g15 (t + 0) l1 l2 l3 (HH t ct S)) (r15 l1 l2 l3 S) (hwI t ct)) : ∀ (n : Nat), ∀ (l1 : Int32) (l2 : Int32) (l3 : Int32) (l4 : Int32) (S : SS), EQ (X6_howManyBuried_L30 g15 n (t + 0) l1 l2 l3 l4 (HH t ct S)) (TX6_howManyBuried_L30 r15 n l1 l2 l3 l4 S) (hwI t ct) := by
  intro n
  induction n with
  | zero => intro l1 l2 l3 l4 S; exact e_none
  | succ n ih =>
    intro l1 l2 l3 l4 S
    unfold X6_howManyBuried_L30 TX6_howManyBuried_L30
    refine e_ite ?_ ?_
    · refine e_get (HH_gR rfl rfl) ?_
      refine e_get (HH_gR isB_16.1 rfl) ?_
      refine e_get (HH_gR rfl rfl) ?_
      refine e_get (HH_gR isB_1.1 rfl) ?_
      refine e_bind (HH_aI isB_1.2.2.2.2.1) ?_
      intro v10
      refine e_wrS (HH_wI isB_16.2.2.2.2.1) ?_
      intro S11
      exact hr15 l1 l2 (l3 + 1) S11
    · refine e_call (eqX6_mayBeBuried t ct l1 l3 l4 S) ?_
      intro q12
      refine e_ite ?_ ?_
      · exact eqX6_howManyBuried_J54 t ct _ _ r15 (fun l1 l2 l3 l4 S => TX6_howManyBuried_L30 r15 n l1 l2 l3 l4 S) hr15 ih l1 l3 l4 0 l2 q12.2
      · exact eqX6_howManyBuried_J54 t ct _ _ r15 (fun l1 l2 l3 l4 S => TX6_howManyBuried_L30 r15 n l1 l2 l3 l4 S) hr15 ih l1 l3 l4 1 l2 q12.2
def TX6_howManyBuried_L15 : Nat → Int32 → Int32 → Int32 → SS → Option (Int32 × SS)
  | 0, _, _, _, _ => none
  | n + 1, l1, l2, l3, S => (if (S.1 1 0) ≤ l3 then some (l2, S) else
  TX6_howManyBuried_L30 (fun l1 l2 l3 S => TX6_howManyBuried_L15 n l1 l2 l3 S) fu l1 l2 l3 (-9) S)
theorem eqX6_howManyBuried_L15 (t : Nat) (ct : Nat → ClassId) : ∀ (n : Nat), ∀ (l1 : Int32) (l2 : Int32) (l3 : Int32) (S : SS), EQ (X6_howManyBuried_L15 n (t + 0) l1 l2 l3 (HH t ct S)) (TX6_howManyBuried_L15 n l1 l2 l3 S) (hwI t ct) := by
  intro n
  induction n with
  | zero => intro l1 l2 l3 S; exact e_none
  | succ n ih =>
    intro l1 l2 l3 S
    unfold X6_howManyBuried_L15 TX6_howManyBuried_L15
    refine e_get (HH_gR rfl rfl) ?_
    refine e_get (HH_gI isB_1.1 rfl) ?_
    refine e_ite ?_ ?_
    · exact e_ret rfl
    · exact eqX6_howManyBuried_L30 t ct _ (fun l1 l2 l3 S => TX6_howManyBuried_L15 n l1 l2 l3 S) ih fu l1 l2 l3 (-9) S
def TX6_howManyBuried (a1 : Int32) (S : SS) : Option (Int32 × SS) := (TX0_become 16 1 S).bind fun q3 =>
  TX6_howManyBuried_L15 fu a1 0 0 q3
theorem eqX6_howManyBuried (t : Nat) (ct : Nat → ClassId) (a1 : Int32) (S : SS) : X6_howManyBuried (t + 0) a1 (HH t ct S) = (TX6_howManyBuried a1 S).map (hwI t ct) := by
  show EQ _ _ _
  unfold X6_howManyBuried TX6_howManyBuried
  refine e_get (HH_vO rfl) ?_
  refine e_get (HH_gR rfl rfl) ?_
  refine e_get (HH_gR rfl rfl) ?_
  refine e_call (eqX0_become t ct 16 1 isB_16 isB_1 S) ?_
  intro q3
  exact eqX6_howManyBuried_L15 t ct fu a1 0 0 q3
def TX6_buried_J76 (l1 : Int32) (l2 : Int32) (S : SS) : Option (Int32 × SS) := (if l2 = 0 then (TX6_firstBuried l1 S).bind fun q13 =>
  some (q13.1, q13.2) else
  (TX6_howManyBuried l1 S).bind fun q12 =>
  some (q12.1, q12.2))
theorem eqX6_buried_J76 (t : Nat) (ct : Nat → ClassId) : ∀ (l1 : Int32) (l2 : Int32) (S : SS), EQ (X6_buried_J76 (t + 0) l1 l2 (HH t ct S)) (TX6_buried_J76 l1 l2 S) (hwI t ct) := by
  intro l1 l2 S
  unfold X6_buried_J76 TX6_buried_J76
  refine e_ite ?_ ?_
  · refine e_call (eqX6_firstBuried t ct l1 S) ?_
    intro q13
    exact e_ret rfl
  · refine e_call (eqX6_howManyBuried t ct l1 S) ?_
    intro q12
    exact e_ret rfl
def TX6_buried (a1 : Int32) (a2 : Int32) (S : SS) : Option (Int32 × SS) := (TX6_isSheet a1).bind fun v1 =>
  (if v1 = 0 then some ((-2), S) else
  (TX6_isBit a2).bind fun v2 =>
  (if v2 = 0 then some ((-2), S) else
  (TX3_isMissing a1 S).bind fun v4 =>
  (if v4 = 0 then (aget 4 (S.2.2.1 54) a1).bind fun v7 =>
  (if v7 ≤ (S.1 1 0) then (if (S.1 1 0) ≤ 0 then TX6_buried_J76 a1 a2 S else
  (TX0_canRest 1 S).bind fun v15 =>
  (if v15 = 0 then some ((-3), S) else
  TX6_buried_J76 a1 a2 S)) else
  some ((-2), S)) else
  some ((-11), S))))
theorem eqX6_buried (t : Nat) (ct : Nat → ClassId) (a1 : Int32) (a2 : Int32) (S : SS) : X6_buried (t + 0) a1 a2 (HH t ct S) = (TX6_buried a1 a2 S).map (hwI t ct) := by
  show EQ _ _ _
  unfold X6_buried TX6_buried
  refine e_get (HH_vO rfl) ?_
  refine e_call (eqX6_isSheet t ct a1) ?_
  intro v1
  refine e_ite ?_ ?_
  · exact e_ret rfl
  · refine e_call (eqX6_isBit t ct a2) ?_
    intro v2
    refine e_ite ?_ ?_
    · exact e_ret rfl
    · refine e_get (HH_gR rfl rfl) ?_
      refine e_call (eqX3_isMissing t ct a1 S) ?_
      intro v4
      refine e_ite ?_ ?_
      · refine e_get (HH_gR rfl rfl) ?_
        refine e_get (HH_gR rfl rfl) ?_
        refine e_bind (HH_aI rfl) ?_
        intro v7
        refine e_get (HH_gR rfl rfl) ?_
        refine e_get (HH_gI isB_1.1 rfl) ?_
        refine e_ite ?_ ?_
        · refine e_get (HH_gR rfl rfl) ?_
          refine e_get (HH_gI isB_1.1 rfl) ?_
          refine e_ite ?_ ?_
          · exact eqX6_buried_J76 t ct a1 a2 S
          · refine e_get (HH_gR rfl rfl) ?_
            refine e_call (eqX0_canRest t ct 1 isB_1 S) ?_
            intro v15
            refine e_ite ?_ ?_
            · exact e_ret rfl
            · exact eqX6_buried_J76 t ct a1 a2 S
        · exact e_ret rfl
      · exact e_ret rfl
def TX6_firstOtherwise_J58 (r24 : Int32 → Int32 → Int32 → SS → Option (Int32 × SS)) (l1 : Int32) (l2 : Int32) (l4 : Int32) (S : SS) : Option (Int32 × SS) := (aget 8 (S.2.2.2 24) l2).bind fun v11 =>
  (TX6_wholePart v11 (S.2.1 16 9)).bind fun v14 =>
  (if jin l1 4 then (aget 40 (S.2.2.1 (56 + (l1).toNatClampNeg)) l4).bind fun v18 =>
  (if v14 = (Int32.toInt64 v18) then r24 l1 l2 (l4 + 1) S else
  some (l4, S)) else
  none)
theorem eqX6_firstOtherwise_J58 (t : Nat) (ct : Nat → ClassId) (g24 : Nat → Int32 → Int32 → Int32 → Hs → Option (Int32 × Hs)) (r24 : Int32 → Int32 → Int32 → SS → Option (Int32 × SS)) (hr24 : ∀ (l1 : Int32) (l2 : Int32) (l4 : Int32) (S : SS), EQ (g24 (t + 0) l1 l2 l4 (HH t ct S)) (r24 l1 l2 l4 S) (hwI t ct)) : ∀ (l1 : Int32) (l2 : Int32) (l4 : Int32) (S : SS), EQ (X6_firstOtherwise_J58 g24 (t + 0) l1 l2 l4 (HH t ct S)) (TX6_firstOtherwise_J58 r24 l1 l2 l4 S) (hwI t ct) := by
  intro l1 l2 l4 S
  unfold X6_firstOtherwise_J58 TX6_firstOtherwise_J58
  refine e_get (HH_gR rfl rfl) ?_
  refine e_get (HH_gR isB_16.1 rfl) ?_
  refine e_bind (HH_aL isB_16.2.2.2.2.2.2.2.2.1) ?_
  intro v11
  refine e_get (HH_gR rfl rfl) ?_
  refine e_get (HH_gL isB_16.1 rfl) ?_
  refine e_call (eqX6_wholePart t ct v11 (S.2.1 16 9)) ?_
  intro v14
  refine e_get (HH_gR rfl rfl) ?_
  refine e_get (HH_gR rfl rfl) ?_
  refine e_row (HH_aR rfl) ?_
  intro hj17
  rw [Nat.add_assoc]
  refine e_bind (HH_aI (row_ok hj17)) ?_
  intro v18
  refine e_ite ?_ ?_
  · exact hr24 l1 l2 (l4 + 1) S
  · exact e_ret rfl
def TX6_firstOtherwise_L24 : Nat → Int32 → Int32 → Int32 → SS → Option (Int32 × SS)
  | 0, _, _, _, _ => none
  | n + 1, l1, l2, l4, S => (aget 4 (S.2.2.1 54) l1).bind fun v8 =>
  (if v8 ≤ l4 then some ((-1), S) else
  (if l4 ≤ 0 then TX6_firstOtherwise_J58 (fun l1 l2 l4 S => TX6_firstOtherwise_L24 n l1 l2 l4 S) l1 l2 l4 S else
  (TX0_advance 16 S).bind fun q20 =>
  (if q20.1 = (-2) then TX6_firstOtherwise_J58 (fun l1 l2 l4 S => TX6_firstOtherwise_L24 n l1 l2 l4 S) l1 l2 l4 q20.2 else
  some (l4, q20.2))))
theorem eqX6_firstOtherwise_L24 (t : Nat) (ct : Nat → ClassId) : ∀ (n : Nat), ∀ (l1 : Int32) (l2 : Int32) (l4 : Int32) (S : SS), EQ (X6_firstOtherwise_L24 n (t + 0) l1 l2 l4 (HH t ct S)) (TX6_firstOtherwise_L24 n l1 l2 l4 S) (hwI t ct) := by
  intro n
  induction n with
  | zero => intro l1 l2 l4 S; exact e_none
  | succ n ih =>
    intro l1 l2 l4 S
    unfold X6_firstOtherwise_L24 TX6_firstOtherwise_L24
    refine e_get (HH_gR rfl rfl) ?_
    refine e_get (HH_gR rfl rfl) ?_
    refine e_bind (HH_aI rfl) ?_
    intro v8
    refine e_ite ?_ ?_
    · exact e_ret rfl
    · refine e_ite ?_ ?_
      · exact eqX6_firstOtherwise_J58 t ct _ (fun l1 l2 l4 S => TX6_firstOtherwise_L24 n l1 l2 l4 S) ih l1 l2 l4 S
      · refine e_get (HH_gR rfl rfl) ?_
        refine e_call (eqX0_advance t ct 16 isB_16 S) ?_
        intro q20
        refine e_ite ?_ ?_
        · exact eqX6_firstOtherwise_J58 t ct _ (fun l1 l2 l4 S => TX6_firstOtherwise_L24 n l1 l2 l4 S) ih l1 l2 l4 q20.2
        · exact e_ret rfl
def TX6_firstOtherwise (a1 : Int32) (a2 : Int32) (a3 : Int32) (S : SS) : Option (Int32 × SS) := (TX0_become 16 1 S).bind fun q3 =>
  (TX0_changeKind 16 a2 a3 q3).bind fun q5 =>
  TX6_firstOtherwise_L24 fu a1 a2 0 q5.2
theorem eqX6_firstOtherwise (t : Nat) (ct : Nat → ClassId) (a1 : Int32) (a2 : Int32) (a3 : Int32) (S : SS) : X6_firstOtherwise (t + 0) a1 a2 a3 (HH t ct S) = (TX6_firstOtherwise a1 a2 a3 S).map (hwI t ct) := by
  show EQ _ _ _
  unfold X6_firstOtherwise TX6_firstOtherwise
  refine e_get (HH_vO rfl) ?_
  refine e_get (HH_gR rfl rfl) ?_
  refine e_get (HH_gR rfl rfl) ?_
  refine e_call (eqX0_become t ct 16 1 isB_16 isB_1 S) ?_
  intro q3
  refine e_get (HH_gR rfl rfl) ?_
  refine e_call (eqX0_changeKind t ct 16 a2 a3 isB_16 q3) ?_
  intro q5
  exact eqX6_firstOtherwise_L24 t ct fu a1 a2 0 q5.2
def TX6_tells_L85 : Nat → Int32 → Int32 → Int32 → Int32 → SS → Option (Int32 × SS)
  | 0, _, _, _, _, _ => none
  | n + 1, l1, l2, l4, l5, S => (if 6 ≤ l5 then some (l4, S) else
  (TX6_firstOtherwise l1 l2 l5 S).bind fun q10 =>
  (if q10.1 = (-1) then TX6_tells_L85 n l1 l2 (l4 ||| (1 <<< (l5 &&& 31))) (l5 + 1) q10.2 else
  TX6_tells_L85 n l1 l2 l4 (l5 + 1) q10.2))
theorem eqX6_tells_L85 (t : Nat) (ct : Nat → ClassId) : ∀ (n : Nat), ∀ (l1 : Int32) (l2 : Int32) (l4 : Int32) (l5 : Int32) (S : SS), EQ (X6_tells_L85 n (t + 0) l1 l2 l4 l5 (HH t ct S)) (TX6_tells_L85 n l1 l2 l4 l5 S) (hwI t ct) := by
  intro n
  induction n with
  | zero => intro l1 l2 l4 l5 S; exact e_none
  | succ n ih =>
    intro l1 l2 l4 l5 S
    unfold X6_tells_L85 TX6_tells_L85
    refine e_ite ?_ ?_
    · exact e_ret rfl
    · refine e_call (eqX6_firstOtherwise t ct l1 l2 l5 S) ?_
      intro q10
      refine e_ite ?_ ?_
      · exact ih l1 l2 (l4 ||| (1 <<< (l5 &&& 31))) (l5 + 1) q10.2
      · exact ih l1 l2 l4 (l5 + 1) q10.2
def TX6_tells (a1 : Int32) (a2 : Int32) (a3 : Int32) (S : SS) : Option (Int32 × SS) := (TX6_isSheet a1).bind fun v1 =>
  (if v1 = 0 then some ((-2), S) else
  (TX0_has 1 a2 S).bind fun v3 =>
  (if v3 = 0 then some ((-2), S) else
  (TX6_isBit a3).bind fun v4 =>
  (if v4 = 0 then some ((-2), S) else
  (TX3_isMissing a1 S).bind fun v6 =>
  (if v6 = 0 then (aget 4 (S.2.2.1 54) a1).bind fun v9 =>
  (if v9 ≤ 10 then (if a3 = 0 then (aget 8 (S.2.2.1 2) a2).bind fun v13 =>
  (TX6_firstOtherwise a1 a2 v13 S).bind fun q14 =>
  some (q14.1, q14.2) else
  TX6_tells_L85 fu a1 a2 0 0 S) else
  some ((-2), S)) else
  some ((-11), S)))))
theorem eqX6_tells (t : Nat) (ct : Nat → ClassId) (a1 : Int32) (a2 : Int32) (a3 : Int32) (S : SS) : X6_tells (t + 0) a1 a2 a3 (HH t ct S) = (TX6_tells a1 a2 a3 S).map (hwI t ct) := by
  show EQ _ _ _
  unfold X6_tells TX6_tells
  refine e_get (HH_vO rfl) ?_
  refine e_call (eqX6_isSheet t ct a1) ?_
  intro v1
  refine e_ite ?_ ?_
  · exact e_ret rfl
  · refine e_get (HH_gR rfl rfl) ?_
    refine e_call (eqX0_has t ct 1 a2 isB_1 S) ?_
    intro v3
    refine e_ite ?_ ?_
    · exact e_ret rfl
    · refine e_call (eqX6_isBit t ct a3) ?_
      intro v4
      refine e_ite ?_ ?_
      · exact e_ret rfl
      · refine e_get (HH_gR rfl rfl) ?_
        refine e_call (eqX3_isMissing t ct a1 S) ?_
        intro v6
        refine e_ite ?_ ?_
        · refine e_get (HH_gR rfl rfl) ?_
          refine e_get (HH_gR rfl rfl) ?_
          refine e_bind (HH_aI rfl) ?_
          intro v9
          refine e_ite ?_ ?_
          · refine e_ite ?_ ?_
            · refine e_get (HH_gR rfl rfl) ?_
              refine e_get (HH_gR isB_1.1 rfl) ?_
              refine e_bind (HH_aI isB_1.2.1) ?_
              intro v13
              refine e_call (eqX6_firstOtherwise t ct a1 a2 v13 S) ?_
              intro q14
              exact e_ret rfl
            · exact eqX6_tells_L85 t ct fu a1 a2 0 0 S
          · exact e_ret rfl
        · exact e_ret rfl
def TJ9_min_f86c9 (a0 : Int64) (a1 : Int64) : Option (Int64) := (if a1 < a0 then some a1 else
  some a0)
theorem eqJ9_min_f86c9 (t : Nat) (ct : Nat → ClassId) (a0 : Int64) (a1 : Int64) : J9_min_f86c9 a0 a1 = (TJ9_min_f86c9 a0 a1).map id := by
  show EQ _ _ _
  unfold J9_min_f86c9 TJ9_min_f86c9
  refine e_ite ?_ ?_
  · exact e_ret rfl
  · exact e_ret rfl
def TJ9_max_f86c9 (a0 : Int64) (a1 : Int64) : Option (Int64) := (if a0 < a1 then some a1 else
  some a0)
theorem eqJ9_max_f86c9 (t : Nat) (ct : Nat → ClassId) (a0 : Int64) (a1 : Int64) : J9_max_f86c9 a0 a1 = (TJ9_max_f86c9 a0 a1).map id := by
  show EQ _ _ _
  unfold J9_max_f86c9 TJ9_max_f86c9
  refine e_ite ?_ ?_
  · exact e_ret rfl
  · exact e_ret rfl
def TX6_film_J71 (r45 : Int32 → Int32 → Int32 → Int32 → SS → Option (Int32 × SS)) (l1 : Int32) (l2 : Int32) (l3 : Int32) (l4 : Int32) (S : SS) : Option (Int32 × SS) := (aget 8 (S.2.2.2 24) l2).bind fun v17 =>
  (TX6_wholePart v17 (S.2.1 16 9)).bind fun v20 =>
  (TJ9_min_f86c9 999 v20).bind fun v22 =>
  (TJ9_max_f86c9 (-999) v22).bind fun v23 =>
  (if jin l4 10 then letS (sAI S 63 (Int32.toNatClampNeg l4) (Int64.toInt32 v23)) fun S24 =>
  r45 l1 l2 l3 (l4 + 1) S24 else
  none)
theorem eqX6_film_J71 (t : Nat) (ct : Nat → ClassId) (g45 : Nat → Int32 → Int32 → Int32 → Int32 → Hs → Option (Int32 × Hs)) (r45 : Int32 → Int32 → Int32 → Int32 → SS → Option (Int32 × SS)) (hr45 : ∀ (l1 : Int32) (l2 : Int32) (l3 : Int32) (l4 : Int32) (S : SS), EQ (g45 (t + 0) l1 l2 l3 l4 (HH t ct S)) (r45 l1 l2 l3 l4 S) (hwI t ct)) : ∀ (l1 : Int32) (l2 : Int32) (l3 : Int32) (l4 : Int32) (S : SS), EQ (X6_film_J71 g45 (t + 0) l1 l2 l3 l4 (HH t ct S)) (TX6_film_J71 r45 l1 l2 l3 l4 S) (hwI t ct) := by
  intro l1 l2 l3 l4 S
  unfold X6_film_J71 TX6_film_J71
  refine e_get (HH_gR rfl rfl) ?_
  refine e_get (HH_gR isB_16.1 rfl) ?_
  refine e_bind (HH_aL isB_16.2.2.2.2.2.2.2.2.1) ?_
  intro v17
  refine e_get (HH_gR rfl rfl) ?_
  refine e_get (HH_gL isB_16.1 rfl) ?_
  refine e_call (eqX6_wholePart t ct v17 (S.2.1 16 9)) ?_
  intro v20
  refine e_get (HH_gR rfl rfl) ?_
  refine e_call (eqJ9_min_f86c9 t ct 999 v20) ?_
  intro v22
  refine e_call (eqJ9_max_f86c9 t ct (-999) v22) ?_
  intro v23
  refine e_wrS (HH_wI rfl) ?_
  intro S24
  exact hr45 l1 l2 l3 (l4 + 1) S24
def TX6_film_L45 : Nat → Int32 → Int32 → Int32 → Int32 → SS → Option (Int32 × SS)
  | 0, _, _, _, _, _ => none
  | n + 1, l1, l2, l3, l4, S => (if l3 ≤ l4 then (TX3_renew l1 1 l3 S).bind fun q9 =>
  (if jin l1 4 then (if cpok 0 0 l3 10 40 then letS (sRI q9 (56 + (l1).toNatClampNeg) (va_cpy (q9.2.2.1 63) (q9.2.2.1 (56 + (l1).toNatClampNeg)) (Int32.toNatClampNeg 0) (Int32.toNatClampNeg 0) (Int32.toNatClampNeg l3))) fun S14 =>
  some (l3, S14) else
  none) else
  none) else
  (if l4 ≤ 0 then TX6_film_J71 (fun l1 l2 l3 l4 S => TX6_film_L45 n l1 l2 l3 l4 S) l1 l2 l3 l4 S else
  (TX0_advance 16 S).bind fun q26 =>
  (if q26.1 = (-2) then TX6_film_J71 (fun l1 l2 l3 l4 S => TX6_film_L45 n l1 l2 l3 l4 S) l1 l2 l3 l4 q26.2 else
  some ((-3), q26.2))))
theorem eqX6_film_L45 (t : Nat) (ct : Nat → ClassId) : ∀ (n : Nat), ∀ (l1 : Int32) (l2 : Int32) (l3 : Int32) (l4 : Int32) (S : SS), EQ (X6_film_L45 n (t + 0) l1 l2 l3 l4 (HH t ct S)) (TX6_film_L45 n l1 l2 l3 l4 S) (hwI t ct) := by
  intro n
  induction n with
  | zero => intro l1 l2 l3 l4 S; exact e_none
  | succ n ih =>
    intro l1 l2 l3 l4 S
    unfold X6_film_L45 TX6_film_L45
    refine e_ite ?_ ?_
    · refine e_get (HH_gR rfl rfl) ?_
      refine e_call (eqX3_renew t ct l1 1 l3 S) ?_
      intro q9
      refine e_get (HH_gR rfl rfl) ?_
      refine e_get (HH_gR rfl rfl) ?_
      refine e_get (HH_gR rfl rfl) ?_
      refine e_row (HH_aR rfl) ?_
      intro hj13
      rw [Nat.add_assoc]
      refine e_wrS (HH_cpIE rfl (row_ok hj13)) ?_
      intro S14
      exact e_ret rfl
    · refine e_ite ?_ ?_
      · exact eqX6_film_J71 t ct _ (fun l1 l2 l3 l4 S => TX6_film_L45 n l1 l2 l3 l4 S) ih l1 l2 l3 l4 S
      · refine e_get (HH_gR rfl rfl) ?_
        refine e_call (eqX0_advance t ct 16 isB_16 S) ?_
        intro q26
        refine e_ite ?_ ?_
        · exact eqX6_film_J71 t ct _ (fun l1 l2 l3 l4 S => TX6_film_L45 n l1 l2 l3 l4 S) ih l1 l2 l3 l4 q26.2
        · exact e_ret rfl
def TX6_film (a1 : Int32) (a2 : Int32) (a3 : Int32) (S : SS) : Option (Int32 × SS) := (TX6_isSheet a1).bind fun v1 =>
  (if v1 = 0 then some ((-2), S) else
  (TX0_has 1 a2 S).bind fun v3 =>
  (if v3 = 0 then some ((-2), S) else
  (TX6_between a3 0 10).bind fun v4 =>
  (if v4 = 0 then some ((-2), S) else
  (TX0_become 16 1 S).bind fun q7 =>
  TX6_film_L45 fu a1 a2 a3 0 q7)))
theorem eqX6_film (t : Nat) (ct : Nat → ClassId) (a1 : Int32) (a2 : Int32) (a3 : Int32) (S : SS) : X6_film (t + 0) a1 a2 a3 (HH t ct S) = (TX6_film a1 a2 a3 S).map (hwI t ct) := by
  show EQ _ _ _
  unfold X6_film TX6_film
  refine e_get (HH_vO rfl) ?_
  refine e_call (eqX6_isSheet t ct a1) ?_
  intro v1
  refine e_ite ?_ ?_
  · exact e_ret rfl
  · refine e_get (HH_gR rfl rfl) ?_
    refine e_call (eqX0_has t ct 1 a2 isB_1 S) ?_
    intro v3
    refine e_ite ?_ ?_
    · exact e_ret rfl
    · refine e_call (eqX6_between t ct a3 0 10) ?_
      intro v4
      refine e_ite ?_ ?_
      · exact e_ret rfl
      · refine e_get (HH_gR rfl rfl) ?_
        refine e_get (HH_gR rfl rfl) ?_
        refine e_call (eqX0_become t ct 16 1 isB_16 isB_1 S) ?_
        intro q7
        exact eqX6_film_L45 t ct fu a1 a2 a3 0 q7
def TX6_remainder (a0 : Int64) (a1 : Int64) : Option (Int64) := (if a1 = 0 then some 0 else
  (o_lrem a0 a1).bind fun v1 =>
  some v1)
theorem eqX6_remainder (t : Nat) (ct : Nat → ClassId) (a0 : Int64) (a1 : Int64) : X6_remainder a0 a1 = (TX6_remainder a0 a1).map id := by
  show EQ _ _ _
  unfold X6_remainder TX6_remainder
  refine e_ite ?_ ?_
  · exact e_ret rfl
  · refine e_bind rfl ?_
    intro v1
    exact e_ret rfl
def TX6_drawn_L40 : Nat → Int32 → Int32 → Int32 → SS → Option (Int64 × SS)
  | 0, _, _, _, _ => none
  | n + 1, l2, l3, l4, S => (if l2 ≤ l4 then (TX0_greatest 16 S).bind fun v8 =>
  (TX6_wholePart v8 (S.2.1 16 9)).bind fun v11 =>
  some (v11, S) else
  (TX6_remainder (Int32.toInt64 ((Int32.toUInt32 ((l3 * 1103515245) + 12345) >>> (Int32.toUInt32 9 &&& Int32.toUInt32 31)).toInt32)) (Int32.toInt64 (S.1 1 0))).bind fun v15 =>
  (o_irem ((Int32.toUInt32 ((l3 * 1103515245) + 12345) >>> (Int32.toUInt32 20 &&& Int32.toUInt32 31)).toInt32) 10).bind fun v16 =>
  (TX0_warm 16 (Int64.toInt32 v15) v16 S).bind fun q17 =>
  (TX0_advance 16 q17).bind fun q19 =>
  (if q19.1 = (-2) then TX6_drawn_L40 n l2 ((l3 * 1103515245) + 12345) (l4 + 1) q19.2 else
  some ((-9223372036854775808), q19.2)))
theorem eqX6_drawn_L40 (t : Nat) (ct : Nat → ClassId) : ∀ (n : Nat), ∀ (l2 : Int32) (l3 : Int32) (l4 : Int32) (S : SS), EQ (X6_drawn_L40 n (t + 0) l2 l3 l4 (HH t ct S)) (TX6_drawn_L40 n l2 l3 l4 S) (hwL t ct) := by
  intro n
  induction n with
  | zero => intro l2 l3 l4 S; exact e_none
  | succ n ih =>
    intro l2 l3 l4 S
    unfold X6_drawn_L40 TX6_drawn_L40
    refine e_ite ?_ ?_
    · refine e_get (HH_gR rfl rfl) ?_
      refine e_call (eqX0_greatest t ct 16 isB_16 S) ?_
      intro v8
      refine e_get (HH_gR rfl rfl) ?_
      refine e_get (HH_gL isB_16.1 rfl) ?_
      refine e_call (eqX6_wholePart t ct v8 (S.2.1 16 9)) ?_
      intro v11
      exact e_ret rfl
    · refine e_get (HH_gR rfl rfl) ?_
      refine e_get (HH_gR rfl rfl) ?_
      refine e_get (HH_gI isB_1.1 rfl) ?_
      refine e_call (eqX6_remainder t ct (Int32.toInt64 ((Int32.toUInt32 ((l3 * 1103515245) + 12345) >>> (Int32.toUInt32 9 &&& Int32.toUInt32 31)).toInt32)) (Int32.toInt64 (S.1 1 0))) ?_
      intro v15
      refine e_bind rfl ?_
      intro v16
      refine e_call (eqX0_warm t ct 16 (Int64.toInt32 v15) v16 isB_16 S) ?_
      intro q17
      refine e_get (HH_gR rfl rfl) ?_
      refine e_call (eqX0_advance t ct 16 isB_16 q17) ?_
      intro q19
      refine e_ite ?_ ?_
      · exact ih l2 ((l3 * 1103515245) + 12345) (l4 + 1) q19.2
      · exact e_ret rfl
def TX6_drawn (a1 : Int32) (a2 : Int32) (S : SS) : Option (Int64 × SS) := (TX6_between a2 0 20).bind fun v1 =>
  (if v1 = 0 then some ((-9223372036854775808), S) else
  (if (S.1 1 0) = 0 then some ((-9223372036854775808), S) else
  (TX0_become 16 1 S).bind fun q6 =>
  TX6_drawn_L40 fu a2 a1 0 q6))
theorem eqX6_drawn (t : Nat) (ct : Nat → ClassId) (a1 : Int32) (a2 : Int32) (S : SS) : X6_drawn (t + 0) a1 a2 (HH t ct S) = (TX6_drawn a1 a2 S).map (hwL t ct) := by
  show EQ _ _ _
  unfold X6_drawn TX6_drawn
  refine e_get (HH_vO rfl) ?_
  refine e_call (eqX6_between t ct a2 0 20) ?_
  intro v1
  refine e_ite ?_ ?_
  · exact e_ret rfl
  · refine e_get (HH_gR rfl rfl) ?_
    refine e_get (HH_gI isB_1.1 rfl) ?_
    refine e_ite ?_ ?_
    · exact e_ret rfl
    · refine e_get (HH_gR rfl rfl) ?_
      refine e_get (HH_gR rfl rfl) ?_
      refine e_call (eqX0_become t ct 16 1 isB_16 isB_1 S) ?_
      intro q6
      exact eqX6_drawn_L40 t ct fu a2 a1 0 q6
def TX6_isByte (a0 : Int32) : Option (Int32) := (TX6_between a0 0 255).bind fun v1 =>
  (zb v1).bind fun v2 => some v2
theorem eqX6_isByte (t : Nat) (ct : Nat → ClassId) (a0 : Int32) : X6_isByte a0 = (TX6_isByte a0).map id := by
  show EQ _ _ _
  unfold X6_isByte TX6_isByte
  refine e_call (eqX6_between t ct a0 0 255) ?_
  intro v1
  exact e_bind rfl (fun _ => e_ret rfl)
def TX6_feed_J43 (l1 : Int32) (l2 : Int32) (l3 : Int32) (l4 : Int32) (l5 : Int32) (l6 : Int32) (s0 : Int32) (S : SS) : Option (Int32 × SS) := (TX6_between l1 1 5).bind fun v2 =>
  (if v2 = 0 then some ((-2), S) else
  (if s0 = 0 then some ((-2), S) else
  (if ((S.1 60 1) + l1) ≤ 60 then (TX5_append l2 ((S.1 60 1) + l1) S).bind fun q8 =>
  (TX5_append l3 ((S.1 60 1) + l1) q8).bind fun q10 =>
  (TX5_append l4 ((S.1 60 1) + l1) q10).bind fun q12 =>
  (TX5_append l5 ((S.1 60 1) + l1) q12).bind fun q14 =>
  (TX5_append l6 ((S.1 60 1) + l1) q14).bind fun q16 =>
  some ((q16.1 60 1), q16) else
  some ((-4), S))))
theorem eqX6_feed_J43 (t : Nat) (ct : Nat → ClassId) : ∀ (l1 : Int32) (l2 : Int32) (l3 : Int32) (l4 : Int32) (l5 : Int32) (l6 : Int32) (s0 : Int32) (S : SS), EQ (X6_feed_J43 (t + 0) l1 l2 l3 l4 l5 l6 s0 (HH t ct S)) (TX6_feed_J43 l1 l2 l3 l4 l5 l6 s0 S) (hwI t ct) := by
  intro l1 l2 l3 l4 l5 l6 s0 S
  unfold X6_feed_J43 TX6_feed_J43
  refine e_call (eqX6_between t ct l1 1 5) ?_
  intro v2
  refine e_ite ?_ ?_
  · exact e_ret rfl
  · refine e_ite ?_ ?_
    · exact e_ret rfl
    · refine e_get (HH_gR rfl rfl) ?_
      refine e_get (HH_gI rfl rfl) ?_
      refine e_ite ?_ ?_
      · refine e_get (HH_gR rfl rfl) ?_
        refine e_get (HH_gI rfl rfl) ?_
        refine e_get (HH_gR rfl rfl) ?_
        refine e_call (eqX5_append t ct l2 ((S.1 60 1) + l1) S) ?_
        intro q8
        refine e_get (HH_gR rfl rfl) ?_
        refine e_call (eqX5_append t ct l3 ((S.1 60 1) + l1) q8) ?_
        intro q10
        refine e_get (HH_gR rfl rfl) ?_
        refine e_call (eqX5_append t ct l4 ((S.1 60 1) + l1) q10) ?_
        intro q12
        refine e_get (HH_gR rfl rfl) ?_
        refine e_call (eqX5_append t ct l5 ((S.1 60 1) + l1) q12) ?_
        intro q14
        refine e_get (HH_gR rfl rfl) ?_
        refine e_call (eqX5_append t ct l6 ((S.1 60 1) + l1) q14) ?_
        intro q16
        refine e_get (HH_gR rfl rfl) ?_
        refine e_get (HH_gI rfl rfl) ?_
        exact e_ret rfl
      · exact e_ret rfl
def TX6_feed (a1 : Int32) (a2 : Int32) (a3 : Int32) (a4 : Int32) (a5 : Int32) (a6 : Int32) (S : SS) : Option (Int32 × SS) := (TX6_isByte a2).bind fun v1 =>
  (if v1 = 0 then TX6_feed_J43 a1 a2 a3 a4 a5 a6 0 S else
  (TX6_isByte a3).bind fun v19 =>
  (if v19 = 0 then TX6_feed_J43 a1 a2 a3 a4 a5 a6 0 S else
  (TX6_isByte a4).bind fun v20 =>
  (if v20 = 0 then TX6_feed_J43 a1 a2 a3 a4 a5 a6 0 S else
  (TX6_isByte a5).bind fun v21 =>
  (if v21 = 0 then TX6_feed_J43 a1 a2 a3 a4 a5 a6 0 S else
  (TX6_isByte a6).bind fun v22 =>
  (if v22 = 0 then TX6_feed_J43 a1 a2 a3 a4 a5 a6 0 S else
  TX6_feed_J43 a1 a2 a3 a4 a5 a6 1 S)))))
theorem eqX6_feed (t : Nat) (ct : Nat → ClassId) (a1 : Int32) (a2 : Int32) (a3 : Int32) (a4 : Int32) (a5 : Int32) (a6 : Int32) (S : SS) : X6_feed (t + 0) a1 a2 a3 a4 a5 a6 (HH t ct S) = (TX6_feed a1 a2 a3 a4 a5 a6 S).map (hwI t ct) := by
  show EQ _ _ _
  unfold X6_feed TX6_feed
  refine e_get (HH_vO rfl) ?_
  refine e_call (eqX6_isByte t ct a2) ?_
  intro v1
  refine e_ite ?_ ?_
  · exact eqX6_feed_J43 t ct a1 a2 a3 a4 a5 a6 0 S
  · refine e_call (eqX6_isByte t ct a3) ?_
    intro v19
    refine e_ite ?_ ?_
    · exact eqX6_feed_J43 t ct a1 a2 a3 a4 a5 a6 0 S
    · refine e_call (eqX6_isByte t ct a4) ?_
      intro v20
      refine e_ite ?_ ?_
      · exact eqX6_feed_J43 t ct a1 a2 a3 a4 a5 a6 0 S
      · refine e_call (eqX6_isByte t ct a5) ?_
        intro v21
        refine e_ite ?_ ?_
        · exact eqX6_feed_J43 t ct a1 a2 a3 a4 a5 a6 0 S
        · refine e_call (eqX6_isByte t ct a6) ?_
          intro v22
          refine e_ite ?_ ?_
          · exact eqX6_feed_J43 t ct a1 a2 a3 a4 a5 a6 0 S
          · exact eqX6_feed_J43 t ct a1 a2 a3 a4 a5 a6 1 S
def TX6_isClauseDone (a1 : Int32) (S : SS) : Option (Int32 × SS) := (TX5_planAt (a1 + 1) S).bind fun v2 =>
  (TX5_planAt (a1 + 2) S).bind fun v4 =>
  (TX5_planAt (a1 + 3) S).bind fun v6 =>
  (TX5_planAt a1 S).bind fun v8 =>
  (if v8 = 0 then (TX5_planAt (a1 + 4) S).bind fun v10 =>
  (TX6_cell v2 v4 v6 v10 S).bind fun q11 =>
  (if q11.1 < 0 then (zb 0).bind fun v12 => some (v12, q11.2) else
  (zb 1).bind fun v13 => some (v13, q11.2)) else
  (if v8 = 1 then (TX6_heat v2 v4 S).bind fun q15 =>
  (if q15.1 = 1 then (zb 1).bind fun v17 => some (v17, q15.2) else
  (zb 0).bind fun v16 => some (v16, q15.2)) else
  (if v8 = 2 then (TX6_set v2 3 v4 S).bind fun q19 =>
  (if q19.1 = (-1000) then (zb 0).bind fun v20 => some (v20, q19.2) else
  (zb 1).bind fun v21 => some (v21, q19.2)) else
  (if v8 = 3 then (TX6_end 0 v2 S).bind fun q23 =>
  (if q23.1 = (-1000) then (zb 0).bind fun v24 => some (v24, q23.2) else
  (zb 1).bind fun v25 => some (v25, q23.2)) else
  (if v8 = 4 then (TX6_end 1 v2 S).bind fun q27 =>
  (if q27.1 = (-1000) then (zb 0).bind fun v28 => some (v28, q27.2) else
  (zb 1).bind fun v29 => some (v29, q27.2)) else
  (if v8 = 5 then (TX6_rule 0 v2 S).bind fun q31 =>
  (if q31.1 = (-1000) then (zb 0).bind fun v32 => some (v32, q31.2) else
  (zb 1).bind fun v33 => some (v33, q31.2)) else
  (if v8 = 6 then (TX6_pulse v2 v4 v6 S).bind fun q35 =>
  (if q35.1 < 0 then (zb 0).bind fun v36 => some (v36, q35.2) else
  (zb 1).bind fun v37 => some (v37, q35.2)) else
  (if v8 = 7 then (TX6_drop S).bind fun q39 =>
  (if q39.1 < 0 then (zb 0).bind fun v40 => some (v40, q39.2) else
  (zb 1).bind fun v41 => some (v41, q39.2)) else
  (zb 0).bind fun v43 => some (v43, S)))))))))
theorem eqX6_isClauseDone (t : Nat) (ct : Nat → ClassId) (a1 : Int32) (S : SS) : X6_isClauseDone (t + 0) a1 (HH t ct S) = (TX6_isClauseDone a1 S).map (hwI t ct) := by
  show EQ _ _ _
  unfold X6_isClauseDone TX6_isClauseDone
  refine e_get (HH_vO rfl) ?_
  refine e_get (HH_gR rfl rfl) ?_
  refine e_call (eqX5_planAt t ct (a1 + 1) S) ?_
  intro v2
  refine e_get (HH_gR rfl rfl) ?_
  refine e_call (eqX5_planAt t ct (a1 + 2) S) ?_
  intro v4
  refine e_get (HH_gR rfl rfl) ?_
  refine e_call (eqX5_planAt t ct (a1 + 3) S) ?_
  intro v6
  refine e_get (HH_gR rfl rfl) ?_
  refine e_call (eqX5_planAt t ct a1 S) ?_
  intro v8
  refine e_ite ?_ ?_
  · refine e_get (HH_gR rfl rfl) ?_
    refine e_call (eqX5_planAt t ct (a1 + 4) S) ?_
    intro v10
    refine e_call (eqX6_cell t ct v2 v4 v6 v10 S) ?_
    intro q11
    refine e_ite ?_ ?_
    · exact e_bind rfl (fun _ => e_ret rfl)
    · exact e_bind rfl (fun _ => e_ret rfl)
  refine e_ite ?_ ?_
  · refine e_call (eqX6_heat t ct v2 v4 S) ?_
    intro q15
    refine e_ite ?_ ?_
    · exact e_bind rfl (fun _ => e_ret rfl)
    · exact e_bind rfl (fun _ => e_ret rfl)
  refine e_ite ?_ ?_
  · refine e_call (eqX6_set t ct v2 3 v4 S) ?_
    intro q19
    refine e_ite ?_ ?_
    · exact e_bind rfl (fun _ => e_ret rfl)
    · exact e_bind rfl (fun _ => e_ret rfl)
  refine e_ite ?_ ?_
  · refine e_call (eqX6_end t ct 0 v2 S) ?_
    intro q23
    refine e_ite ?_ ?_
    · exact e_bind rfl (fun _ => e_ret rfl)
    · exact e_bind rfl (fun _ => e_ret rfl)
  refine e_ite ?_ ?_
  · refine e_call (eqX6_end t ct 1 v2 S) ?_
    intro q27
    refine e_ite ?_ ?_
    · exact e_bind rfl (fun _ => e_ret rfl)
    · exact e_bind rfl (fun _ => e_ret rfl)
  refine e_ite ?_ ?_
  · refine e_call (eqX6_rule t ct 0 v2 S) ?_
    intro q31
    refine e_ite ?_ ?_
    · exact e_bind rfl (fun _ => e_ret rfl)
    · exact e_bind rfl (fun _ => e_ret rfl)
  refine e_ite ?_ ?_
  · refine e_call (eqX6_pulse t ct v2 v4 v6 S) ?_
    intro q35
    refine e_ite ?_ ?_
    · exact e_bind rfl (fun _ => e_ret rfl)
    · exact e_bind rfl (fun _ => e_ret rfl)
  refine e_ite ?_ ?_
  · refine e_call (eqX6_drop t ct S) ?_
    intro q39
    refine e_ite ?_ ?_
    · exact e_bind rfl (fun _ => e_ret rfl)
    · exact e_bind rfl (fun _ => e_ret rfl)
  exact e_bind rfl (fun _ => e_ret rfl)
def TX6_clausesDone_J37 (r6 : Int32 → Int32 → Int32 → SS → Option (Int32 × SS)) (l2 : Int32) (l3 : Int32) (s0 : Int32) (s1 : Int32) (S : SS) : Option (Int32 × SS) := (TX5_planAt l2 S).bind fun v5 =>
  (TX5_numbersOf v5).bind fun v6 =>
  r6 (s1 + s0) (l2 + (1 + v6)) (l3 + 1) S
theorem eqX6_clausesDone_J37 (t : Nat) (ct : Nat → ClassId) (g6 : Nat → Int32 → Int32 → Int32 → Hs → Option (Int32 × Hs)) (r6 : Int32 → Int32 → Int32 → SS → Option (Int32 × SS)) (hr6 : ∀ (l1 : Int32) (l2 : Int32) (l3 : Int32) (S : SS), EQ (g6 (t + 0) l1 l2 l3 (HH t ct S)) (r6 l1 l2 l3 S) (hwI t ct)) : ∀ (l2 : Int32) (l3 : Int32) (s0 : Int32) (s1 : Int32) (S : SS), EQ (X6_clausesDone_J37 g6 (t + 0) l2 l3 s0 s1 (HH t ct S)) (TX6_clausesDone_J37 r6 l2 l3 s0 s1 S) (hwI t ct) := by
  intro l2 l3 s0 s1 S
  unfold X6_clausesDone_J37 TX6_clausesDone_J37
  refine e_get (HH_gR rfl rfl) ?_
  refine e_call (eqX5_planAt t ct l2 S) ?_
  intro v5
  refine e_call (eqX5_numbersOf t ct v5) ?_
  intro v6
  exact hr6 (s1 + s0) (l2 + (1 + v6)) (l3 + 1) S
def TX6_clausesDone_L6 : Nat → Int32 → Int32 → Int32 → SS → Option (Int32 × SS)
  | 0, _, _, _, _ => none
  | n + 1, l1, l2, l3, S => (if 60 ≤ l3 then some (l1, S) else
  (if (S.1 60 3) ≤ l2 then some (l1, S) else
  (TX6_isClauseDone l2 S).bind fun q3 =>
  (if q3.1 = 0 then TX6_clausesDone_J37 (fun l1 l2 l3 S => TX6_clausesDone_L6 n l1 l2 l3 S) l2 l3 0 l1 q3.2 else
  TX6_clausesDone_J37 (fun l1 l2 l3 S => TX6_clausesDone_L6 n l1 l2 l3 S) l2 l3 1 l1 q3.2)))
theorem eqX6_clausesDone_L6 (t : Nat) (ct : Nat → ClassId) : ∀ (n : Nat), ∀ (l1 : Int32) (l2 : Int32) (l3 : Int32) (S : SS), EQ (X6_clausesDone_L6 n (t + 0) l1 l2 l3 (HH t ct S)) (TX6_clausesDone_L6 n l1 l2 l3 S) (hwI t ct) := by
  intro n
  induction n with
  | zero => intro l1 l2 l3 S; exact e_none
  | succ n ih =>
    intro l1 l2 l3 S
    unfold X6_clausesDone_L6 TX6_clausesDone_L6
    refine e_ite ?_ ?_
    · exact e_ret rfl
    · refine e_get (HH_gR rfl rfl) ?_
      refine e_get (HH_gI rfl rfl) ?_
      refine e_ite ?_ ?_
      · exact e_ret rfl
      · refine e_call (eqX6_isClauseDone t ct l2 S) ?_
        intro q3
        refine e_ite ?_ ?_
        · exact eqX6_clausesDone_J37 t ct _ (fun l1 l2 l3 S => TX6_clausesDone_L6 n l1 l2 l3 S) ih l2 l3 0 l1 q3.2
        · exact eqX6_clausesDone_J37 t ct _ (fun l1 l2 l3 S => TX6_clausesDone_L6 n l1 l2 l3 S) ih l2 l3 1 l1 q3.2
def TX6_clausesDone (S : SS) : Option (Int32 × SS) := TX6_clausesDone_L6 fu 0 0 0 S
theorem eqX6_clausesDone (t : Nat) (ct : Nat → ClassId) (S : SS) : X6_clausesDone (t + 0) (HH t ct S) = (TX6_clausesDone S).map (hwI t ct) := by
  show EQ _ _ _
  unfold X6_clausesDone TX6_clausesDone
  refine e_get (HH_vO rfl) ?_
  exact eqX6_clausesDone_L6 t ct fu 0 0 0 S
def TX6_text (ct : Nat → ClassId) (S : SS) : Option (Int32 × SS) := (TX5_read ct S).bind fun q2 =>
  letS (sFI q2.2 60 1 0) fun S4 =>
  (if q2.1 = (-1) then (TX6_clausesDone S4).bind fun q5 =>
  some (q5.1, q5.2) else
  some (((-100) - q2.1), S4))
theorem eqX6_text (t : Nat) (ct : Nat → ClassId) (S : SS) : X6_text (t + 0) (HH t ct S) = (TX6_text ct S).map (hwI t ct) := by
  show EQ _ _ _
  unfold X6_text TX6_text
  refine e_get (HH_vO rfl) ?_
  refine e_get (HH_gR rfl rfl) ?_
  refine e_call (eqX5_read t ct S) ?_
  intro q2
  refine e_get (HH_gR rfl rfl) ?_
  refine e_put (HH_pI rfl rfl) ?_
  intro S4
  refine e_ite ?_ ?_
  · refine e_call (eqX6_clausesDone t ct S4) ?_
    intro q5
    exact e_ret rfl
  · exact e_ret rfl
def TX6_image (S : SS) : Option (Int32 × SS) := (TX0_become 31 1 S).bind fun q3 =>
  letS (sFI q3 0 7 1) fun S4 =>
  some ((S4.1 31 0), S4)
theorem eqX6_image (t : Nat) (ct : Nat → ClassId) (S : SS) : X6_image (t + 0) (HH t ct S) = (TX6_image S).map (hwI t ct) := by
  show EQ _ _ _
  unfold X6_image TX6_image
  refine e_get (HH_vO rfl) ?_
  refine e_get (HH_gR rfl rfl) ?_
  refine e_get (HH_gR rfl rfl) ?_
  refine e_call (eqX0_become t ct 31 1 isB_31 isB_1 S) ?_
  intro q3
  refine e_put (HH_pI rfl rfl) ?_
  intro S4
  refine e_get (HH_gR rfl rfl) ?_
  refine e_get (HH_gI isB_31.1 rfl) ?_
  exact e_ret rfl
def TX6_back (S : SS) : Option (Int32 × SS) := (if (S.1 0 7) = 0 then some ((-3), S) else
  (TX0_become 1 31 S).bind fun q4 =>
  some ((q4.1 1 0), q4))
theorem eqX6_back (t : Nat) (ct : Nat → ClassId) (S : SS) : X6_back (t + 0) (HH t ct S) = (TX6_back S).map (hwI t ct) := by
  show EQ _ _ _
  unfold X6_back TX6_back
  refine e_get (HH_vO rfl) ?_
  refine e_get (HH_gI rfl rfl) ?_
  refine e_ite ?_ ?_
  · exact e_ret rfl
  · refine e_get (HH_gR rfl rfl) ?_
    refine e_get (HH_gR rfl rfl) ?_
    refine e_call (eqX0_become t ct 1 31 isB_1 isB_31 S) ?_
    intro q4
    refine e_get (HH_gR rfl rfl) ?_
    refine e_get (HH_gI isB_1.1 rfl) ?_
    exact e_ret rfl
def TX6_load_J161 (r64 : Int32 → Int32 → Int32 → Int32 → Int32 → SS → Option (Int32 × SS)) (l1 : Int32) (l3 : Int32) (l4 : Int32) (l6 : Int32) (s0 : Int32) (s1 : Int32) (S : SS) : Option (Int32 × SS) := r64 l1 l3 l4 (s1 + s0) (l6 + 1) S
theorem eqX6_load_J161 (t : Nat) (ct : Nat → ClassId) (g64 : Nat → Int32 → Int32 → Int32 → Int32 → Int32 → Hs → Option (Int32 × Hs)) (r64 : Int32 → Int32 → Int32 → Int32 → Int32 → SS → Option (Int32 × SS)) (hr64 : ∀ (l1 : Int32) (l3 : Int32) (l4 : Int32) (l5 : Int32) (l6 : Int32) (S : SS), EQ (g64 (t + 0) l1 l3 l4 l5 l6 (HH t ct S)) (r64 l1 l3 l4 l5 l6 S) (hwI t ct)) : ∀ (l1 : Int32) (l3 : Int32) (l4 : Int32) (l6 : Int32) (s0 : Int32) (s1 : Int32) (S : SS), EQ (X6_load_J161 g64 (t + 0) l1 l3 l4 l6 s0 s1 (HH t ct S)) (TX6_load_J161 r64 l1 l3 l4 l6 s0 s1 S) (hwI t ct) := by
  intro l1 l3 l4 l6 s0 s1 S
  unfold X6_load_J161 TX6_load_J161
  exact hr64 l1 l3 l4 (s1 + s0) (l6 + 1) S
def TX6_load_L64 : Nat → Int32 → Int32 → Int32 → Int32 → Int32 → SS → Option (Int32 × SS)
  | 0, _, _, _, _, _, _ => none
  | n + 1, l1, l3, l4, l5, l6, S => (if l4 ≤ l6 then some (l5, S) else
  (TX3_has l1 (l3 + (4 * l6)) S).bind fun v10 =>
  (if v10 = 0 then some ((-12), S) else
  (TX3_has l1 ((l3 + (4 * l6)) + 3) S).bind fun v12 =>
  (if v12 = 0 then some ((-12), S) else
  (if jin l1 4 then (aget 40 (S.2.2.1 (56 + (l1).toNatClampNeg)) (l3 + (4 * l6))).bind fun v16 =>
  (aget 40 (S.2.2.1 (56 + (l1).toNatClampNeg)) ((l3 + (4 * l6)) + 1)).bind fun v17 =>
  (aget 40 (S.2.2.1 (56 + (l1).toNatClampNeg)) ((l3 + (4 * l6)) + 2)).bind fun v18 =>
  (aget 40 (S.2.2.1 (56 + (l1).toNatClampNeg)) ((l3 + (4 * l6)) + 3)).bind fun v19 =>
  (TX6_cell v16 v17 v18 v19 S).bind fun q20 =>
  (if q20.1 < 0 then TX6_load_J161 (fun l1 l3 l4 l5 l6 S => TX6_load_L64 n l1 l3 l4 l5 l6 S) l1 l3 l4 l6 0 l5 q20.2 else
  TX6_load_J161 (fun l1 l3 l4 l5 l6 S => TX6_load_L64 n l1 l3 l4 l5 l6 S) l1 l3 l4 l6 1 l5 q20.2) else
  none))))
theorem eqX6_load_L64 (t : Nat) (ct : Nat → ClassId) : ∀ (n : Nat), ∀ (l1 : Int32) (l3 : Int32) (l4 : Int32) (l5 : Int32) (l6 : Int32) (S : SS), EQ (X6_load_L64 n (t + 0) l1 l3 l4 l5 l6 (HH t ct S)) (TX6_load_L64 n l1 l3 l4 l5 l6 S) (hwI t ct) := by
  intro n
  induction n with
  | zero => intro l1 l3 l4 l5 l6 S; exact e_none
  | succ n ih =>
    intro l1 l3 l4 l5 l6 S
    unfold X6_load_L64 TX6_load_L64
    refine e_ite ?_ ?_
    · exact e_ret rfl
    · refine e_get (HH_gR rfl rfl) ?_
      refine e_call (eqX3_has t ct l1 (l3 + (4 * l6)) S) ?_
      intro v10
      refine e_ite ?_ ?_
      · exact e_ret rfl
      · refine e_get (HH_gR rfl rfl) ?_
        refine e_call (eqX3_has t ct l1 ((l3 + (4 * l6)) + 3) S) ?_
        intro v12
        refine e_ite ?_ ?_
        · exact e_ret rfl
        · refine e_get (HH_gR rfl rfl) ?_
          refine e_get (HH_gR rfl rfl) ?_
          refine e_row (HH_aR rfl) ?_
          intro hj15
          rw [Nat.add_assoc]
          refine e_bind (HH_aI (row_ok hj15)) ?_
          intro v16
          refine e_bind (HH_aI (row_ok hj15)) ?_
          intro v17
          refine e_bind (HH_aI (row_ok hj15)) ?_
          intro v18
          refine e_bind (HH_aI (row_ok hj15)) ?_
          intro v19
          refine e_call (eqX6_cell t ct v16 v17 v18 v19 S) ?_
          intro q20
          refine e_ite ?_ ?_
          · exact eqX6_load_J161 t ct _ (fun l1 l3 l4 l5 l6 S => TX6_load_L64 n l1 l3 l4 l5 l6 S) ih l1 l3 l4 l6 0 l5 q20.2
          · exact eqX6_load_J161 t ct _ (fun l1 l3 l4 l5 l6 S => TX6_load_L64 n l1 l3 l4 l5 l6 S) ih l1 l3 l4 l6 1 l5 q20.2
def TX6_load (a1 : Int32) (a2 : Int32) (a3 : Int32) (a4 : Int32) (S : SS) : Option (Int32 × SS) := (TX6_isSheet a1).bind fun v1 =>
  (if v1 = 0 then some ((-2), S) else
  (TX6_isBit a2).bind fun v2 =>
  (if v2 = 0 then some ((-2), S) else
  (TX6_between a4 0 8).bind fun v3 =>
  (if v3 = 0 then some ((-2), S) else
  (TX3_isMissing a1 S).bind fun v5 =>
  (if v5 = 0 then (aget 4 (S.2.2.1 53) a1).bind fun v8 =>
  (if v8 = a2 then TX6_load_L64 fu a1 a3 a4 0 0 S else
  some ((-13), S)) else
  some ((-11), S)))))
theorem eqX6_load (t : Nat) (ct : Nat → ClassId) (a1 : Int32) (a2 : Int32) (a3 : Int32) (a4 : Int32) (S : SS) : X6_load (t + 0) a1 a2 a3 a4 (HH t ct S) = (TX6_load a1 a2 a3 a4 S).map (hwI t ct) := by
  show EQ _ _ _
  unfold X6_load TX6_load
  refine e_get (HH_vO rfl) ?_
  refine e_call (eqX6_isSheet t ct a1) ?_
  intro v1
  refine e_ite ?_ ?_
  · exact e_ret rfl
  · refine e_call (eqX6_isBit t ct a2) ?_
    intro v2
    refine e_ite ?_ ?_
    · exact e_ret rfl
    · refine e_call (eqX6_between t ct a4 0 8) ?_
      intro v3
      refine e_ite ?_ ?_
      · exact e_ret rfl
      · refine e_get (HH_gR rfl rfl) ?_
        refine e_call (eqX3_isMissing t ct a1 S) ?_
        intro v5
        refine e_ite ?_ ?_
        · refine e_get (HH_gR rfl rfl) ?_
          refine e_get (HH_gR rfl rfl) ?_
          refine e_bind (HH_aI rfl) ?_
          intro v8
          refine e_ite ?_ ?_
          · exact eqX6_load_L64 t ct fu a1 a3 a4 0 0 S
          · exact e_ret rfl
        · exact e_ret rfl
def TX6_count (a1 : Int32) (S : SS) : Option (Int32) := (if a1 = 0 then some (S.1 1 0) else
  (if a1 = 1 then some (S.1 11 3) else
  (if a1 = 2 then some (S.1 60 1) else
  (if a1 = 3 then (TX6_total 14 12 (S.1 11 3) S).bind fun v17 =>
  some v17 else
  (if a1 = 4 then (TX6_total 8 8 (S.1 1 0) S).bind fun v23 =>
  some v23 else
  (if a1 = 5 then (TX6_total 5 8 (S.1 1 0) S).bind fun v29 =>
  some v29 else
  some (-1000)))))))
theorem eqX6_count (t : Nat) (ct : Nat → ClassId) (a1 : Int32) (S : SS) : X6_count (t + 0) a1 (HH t ct S) = (TX6_count a1 S).map id := by
  show EQ _ _ _
  unfold X6_count TX6_count
  refine e_get (HH_vO rfl) ?_
  refine e_ite ?_ ?_
  · refine e_get (HH_gR rfl rfl) ?_
    refine e_get (HH_gI isB_1.1 rfl) ?_
    exact e_ret rfl
  refine e_ite ?_ ?_
  · refine e_get (HH_gR rfl rfl) ?_
    refine e_get (HH_gR isB_1.1 rfl) ?_
    refine e_get (HH_gI isB_1.2.2.2.2.2.2.2.2.2.2.1.1 rfl) ?_
    exact e_ret rfl
  refine e_ite ?_ ?_
  · refine e_get (HH_gR rfl rfl) ?_
    refine e_get (HH_gI rfl rfl) ?_
    exact e_ret rfl
  refine e_ite ?_ ?_
  · refine e_get (HH_gR rfl rfl) ?_
    refine e_get (HH_gR isB_1.1 rfl) ?_
    refine e_get (HH_gR isB_1.2.2.2.2.2.2.2.2.2.2.1.1 rfl) ?_
    refine e_get (HH_gR rfl rfl) ?_
    refine e_get (HH_gR isB_1.1 rfl) ?_
    refine e_get (HH_gI isB_1.2.2.2.2.2.2.2.2.2.2.1.1 rfl) ?_
    refine e_call (eqX6_total t ct 14 12 (S.1 11 3) isB_1.2.2.2.2.2.2.2.2.2.2.1.2.2.2 S) ?_
    intro v17
    exact e_ret rfl
  refine e_ite ?_ ?_
  · refine e_get (HH_gR rfl rfl) ?_
    refine e_get (HH_gR isB_1.1 rfl) ?_
    refine e_get (HH_gR rfl rfl) ?_
    refine e_get (HH_gI isB_1.1 rfl) ?_
    refine e_call (eqX6_total t ct 8 8 (S.1 1 0) isB_1.2.2.2.2.2.2.2.1 S) ?_
    intro v23
    exact e_ret rfl
  refine e_ite ?_ ?_
  · refine e_get (HH_gR rfl rfl) ?_
    refine e_get (HH_gR isB_1.1 rfl) ?_
    refine e_get (HH_gR rfl rfl) ?_
    refine e_get (HH_gI isB_1.1 rfl) ?_
    refine e_call (eqX6_total t ct 5 8 (S.1 1 0) isB_1.2.2.2.2.1 S) ?_
    intro v29
    exact e_ret rfl
  exact e_ret rfl
