/-! Terms over the four pictures. Written by wip/whole/decompT.py. -/
def TX7_joint (a1 : Int32) (S : SS) : Option (Int32) := (TX7_isJoint a1 S).bind fun v1 =>
  (if v1 = 0 then some (-2) else
  (TX7_leads a1 S).bind fun v2 =>
  some v2)
theorem eqX7_joint (t : Nat) (ct : Nat → ClassId) (a1 : Int32) (S : SS) : X7_joint (t + 64) a1 (HH t ct S) = (TX7_joint a1 S).map id := by
  show EQ _ _ _
  unfold X7_joint TX7_joint
  refine e_get (HH_vO rfl) ?_
  refine e_call (eqX7_isJoint t ct a1 S) ?_
  intro v1
  refine e_ite ?_ ?_
  · exact e_ret rfl
  · refine e_call (eqX7_leads t ct a1 S) ?_
    intro v2
    exact e_ret rfl
def TX7_think_L46 : Nat → Int32 → SS → Option (SS)
  | 0, _, _ => none
  | n + 1, l1, S => (if (S.1 64 9) ≤ l1 then some S else
  (aget 12 (S.2.2.1 72) l1).bind fun v9 =>
  (if jin l1 12 then letS (sAI S 76 (Int32.toNatClampNeg l1) v9) fun S10 =>
  (aget 12 (S10.2.2.1 73) l1).bind fun v13 =>
  (if jin l1 12 then letS (sAI S10 77 (Int32.toNatClampNeg l1) v13) fun S14 =>
  (aget 12 (S14.2.2.1 74) l1).bind fun v17 =>
  (if jin l1 12 then letS (sAI S14 78 (Int32.toNatClampNeg l1) v17) fun S18 =>
  TX7_think_L46 n (l1 + 1) S18 else
  none) else
  none) else
  none))
theorem eqX7_think_L46 (t : Nat) (ct : Nat → ClassId) : ∀ (n : Nat), ∀ (l1 : Int32) (S : SS), EQ (X7_think_L46 n (t + 64) l1 (HH t ct S)) (TX7_think_L46 n l1 S) (HH t ct) := by
  intro n
  induction n with
  | zero => intro l1 S; exact e_none
  | succ n ih =>
    intro l1 S
    unfold X7_think_L46 TX7_think_L46
    refine e_get (HH_gI rfl rfl) ?_
    refine e_ite ?_ ?_
    · exact e_ret rfl
    · refine e_get (HH_gR rfl rfl) ?_
      refine e_get (HH_gR rfl rfl) ?_
      refine e_bind (HH_aI rfl) ?_
      intro v9
      refine e_wrS (HH_wI rfl) ?_
      intro S10
      refine e_get (HH_gR rfl rfl) ?_
      refine e_get (HH_gR rfl rfl) ?_
      refine e_bind (HH_aI rfl) ?_
      intro v13
      refine e_wrS (HH_wI rfl) ?_
      intro S14
      refine e_get (HH_gR rfl rfl) ?_
      refine e_get (HH_gR rfl rfl) ?_
      refine e_bind (HH_aI rfl) ?_
      intro v17
      refine e_wrS (HH_wI rfl) ?_
      intro S18
      exact ih (l1 + 1) S18
def TX7_think_L2 : Nat → Int32 → SS → Option (SS)
  | 0, _, _ => none
  | n + 1, l1, S => (if (S.1 64 0) ≤ l1 then letS (sFL S 64 14 (S.2.1 64 6)) fun S3 =>
  letS (sFI S3 64 15 (S3.1 64 9)) fun S5 =>
  TX7_think_L46 fu 0 S5 else
  (aget 8 (S.2.2.2 69) l1).bind fun v21 =>
  (if jin l1 8 then letS (sAL S 75 (Int32.toNatClampNeg l1) v21) fun S22 =>
  TX7_think_L2 n (l1 + 1) S22 else
  none))
theorem eqX7_think_L2 (t : Nat) (ct : Nat → ClassId) : ∀ (n : Nat), ∀ (l1 : Int32) (S : SS), EQ (X7_think_L2 n (t + 64) l1 (HH t ct S)) (TX7_think_L2 n l1 S) (HH t ct) := by
  intro n
  induction n with
  | zero => intro l1 S; exact e_none
  | succ n ih =>
    intro l1 S
    unfold X7_think_L2 TX7_think_L2
    refine e_get (HH_gI rfl rfl) ?_
    refine e_ite ?_ ?_
    · refine e_get (HH_gL rfl rfl) ?_
      refine e_put (HH_pL rfl rfl) ?_
      intro S3
      refine e_get (HH_gI rfl rfl) ?_
      refine e_put (HH_pI rfl rfl) ?_
      intro S5
      exact eqX7_think_L46 t ct fu 0 S5
    · refine e_get (HH_gR rfl rfl) ?_
      refine e_get (HH_gR rfl rfl) ?_
      refine e_bind (HH_aL rfl) ?_
      intro v21
      refine e_wrS (HH_wL rfl) ?_
      intro S22
      exact ih (l1 + 1) S22
def TX7_think (S : SS) : Option (SS) := TX7_think_L2 fu 0 S
theorem eqX7_think (t : Nat) (ct : Nat → ClassId) (S : SS) : X7_think (t + 64) (HH t ct S) = (TX7_think S).map (HH t ct) := by
  show EQ _ _ _
  unfold X7_think TX7_think
  refine e_get (HH_vO rfl) ?_
  exact eqX7_think_L2 t ct fu 0 S
def TX7_keep_L46 : Nat → Int32 → SS → Option (SS)
  | 0, _, _ => none
  | n + 1, l1, S => (if (S.1 64 15) ≤ l1 then some S else
  (aget 12 (S.2.2.1 76) l1).bind fun v9 =>
  (if jin l1 12 then letS (sAI S 72 (Int32.toNatClampNeg l1) v9) fun S10 =>
  (aget 12 (S10.2.2.1 77) l1).bind fun v13 =>
  (if jin l1 12 then letS (sAI S10 73 (Int32.toNatClampNeg l1) v13) fun S14 =>
  (aget 12 (S14.2.2.1 78) l1).bind fun v17 =>
  (if jin l1 12 then letS (sAI S14 74 (Int32.toNatClampNeg l1) v17) fun S18 =>
  TX7_keep_L46 n (l1 + 1) S18 else
  none) else
  none) else
  none))
theorem eqX7_keep_L46 (t : Nat) (ct : Nat → ClassId) : ∀ (n : Nat), ∀ (l1 : Int32) (S : SS), EQ (X7_keep_L46 n (t + 64) l1 (HH t ct S)) (TX7_keep_L46 n l1 S) (HH t ct) := by
  intro n
  induction n with
  | zero => intro l1 S; exact e_none
  | succ n ih =>
    intro l1 S
    unfold X7_keep_L46 TX7_keep_L46
    refine e_get (HH_gI rfl rfl) ?_
    refine e_ite ?_ ?_
    · exact e_ret rfl
    · refine e_get (HH_gR rfl rfl) ?_
      refine e_get (HH_gR rfl rfl) ?_
      refine e_bind (HH_aI rfl) ?_
      intro v9
      refine e_wrS (HH_wI rfl) ?_
      intro S10
      refine e_get (HH_gR rfl rfl) ?_
      refine e_get (HH_gR rfl rfl) ?_
      refine e_bind (HH_aI rfl) ?_
      intro v13
      refine e_wrS (HH_wI rfl) ?_
      intro S14
      refine e_get (HH_gR rfl rfl) ?_
      refine e_get (HH_gR rfl rfl) ?_
      refine e_bind (HH_aI rfl) ?_
      intro v17
      refine e_wrS (HH_wI rfl) ?_
      intro S18
      exact ih (l1 + 1) S18
def TX7_keep_L2 : Nat → Int32 → SS → Option (SS)
  | 0, _, _ => none
  | n + 1, l1, S => (if (S.1 64 0) ≤ l1 then letS (sFL S 64 6 (S.2.1 64 14)) fun S3 =>
  letS (sFI S3 64 9 (S3.1 64 15)) fun S5 =>
  TX7_keep_L46 fu 0 S5 else
  (aget 8 (S.2.2.2 75) l1).bind fun v21 =>
  (if jin l1 8 then letS (sAL S 69 (Int32.toNatClampNeg l1) v21) fun S22 =>
  TX7_keep_L2 n (l1 + 1) S22 else
  none))
theorem eqX7_keep_L2 (t : Nat) (ct : Nat → ClassId) : ∀ (n : Nat), ∀ (l1 : Int32) (S : SS), EQ (X7_keep_L2 n (t + 64) l1 (HH t ct S)) (TX7_keep_L2 n l1 S) (HH t ct) := by
  intro n
  induction n with
  | zero => intro l1 S; exact e_none
  | succ n ih =>
    intro l1 S
    unfold X7_keep_L2 TX7_keep_L2
    refine e_get (HH_gI rfl rfl) ?_
    refine e_ite ?_ ?_
    · refine e_get (HH_gL rfl rfl) ?_
      refine e_put (HH_pL rfl rfl) ?_
      intro S3
      refine e_get (HH_gI rfl rfl) ?_
      refine e_put (HH_pI rfl rfl) ?_
      intro S5
      exact eqX7_keep_L46 t ct fu 0 S5
    · refine e_get (HH_gR rfl rfl) ?_
      refine e_get (HH_gR rfl rfl) ?_
      refine e_bind (HH_aL rfl) ?_
      intro v21
      refine e_wrS (HH_wL rfl) ?_
      intro S22
      exact ih (l1 + 1) S22
def TX7_keep (S : SS) : Option (SS) := TX7_keep_L2 fu 0 S
theorem eqX7_keep (t : Nat) (ct : Nat → ClassId) (S : SS) : X7_keep (t + 64) (HH t ct S) = (TX7_keep S).map (HH t ct) := by
  show EQ _ _ _
  unfold X7_keep TX7_keep
  refine e_get (HH_vO rfl) ?_
  exact eqX7_keep_L2 t ct fu 0 S
def TX7_flows_J60 (S : SS) (l1 : Int32) (l2 : Int64) (s0 : Int64) : Option (Int64) := (TX7_leads l1 S).bind fun v6 =>
  some ((Int32.toInt64 v6) * (l2 - s0))
theorem eqX7_flows_J60 (t : Nat) (ct : Nat → ClassId) (S : SS) : ∀ (l1 : Int32) (l2 : Int64) (s0 : Int64), EQ (X7_flows_J60 (HH t ct S) (t + 64) l1 l2 s0) (TX7_flows_J60 S l1 l2 s0) id := by
  intro l1 l2 s0
  unfold X7_flows_J60 TX7_flows_J60
  refine e_call (eqX7_leads t ct l1 S) ?_
  intro v6
  exact e_ret rfl
def TX7_flows_J26 (S : SS) (l1 : Int32) (s0 : Int64) : Option (Int64) := (if l1 = ((S.1 64 0) - 1) then (aget 2 (S.2.2.1 70) 1).bind fun v8 =>
  TX7_flows_J60 S l1 s0 ((Int32.toInt64 v8) * (S.2.1 64 14)) else
  (aget 8 (S.2.2.2 75) (l1 + 1)).bind fun v5 =>
  TX7_flows_J60 S l1 s0 v5)
theorem eqX7_flows_J26 (t : Nat) (ct : Nat → ClassId) (S : SS) : ∀ (l1 : Int32) (s0 : Int64), EQ (X7_flows_J26 (HH t ct S) (t + 64) l1 s0) (TX7_flows_J26 S l1 s0) id := by
  intro l1 s0
  unfold X7_flows_J26 TX7_flows_J26
  refine e_get (HH_gI rfl rfl) ?_
  refine e_ite ?_ ?_
  · refine e_get (HH_gR rfl rfl) ?_
    refine e_bind (HH_aI rfl) ?_
    intro v8
    refine e_get (HH_gL rfl rfl) ?_
    exact eqX7_flows_J60 t ct S l1 s0 ((Int32.toInt64 v8) * (S.2.1 64 14))
  · refine e_get (HH_gR rfl rfl) ?_
    refine e_bind (HH_aL rfl) ?_
    intro v5
    exact eqX7_flows_J60 t ct S l1 s0 v5
def TX7_flows (a1 : Int32) (S : SS) : Option (Int64) := (if a1 = (-1) then (aget 2 (S.2.2.1 70) 0).bind fun v11 =>
  TX7_flows_J26 S a1 ((Int32.toInt64 v11) * (S.2.1 64 14)) else
  (aget 8 (S.2.2.2 75) a1).bind fun v2 =>
  TX7_flows_J26 S a1 v2)
theorem eqX7_flows (t : Nat) (ct : Nat → ClassId) (a1 : Int32) (S : SS) : X7_flows (t + 64) a1 (HH t ct S) = (TX7_flows a1 S).map id := by
  show EQ _ _ _
  unfold X7_flows TX7_flows
  refine e_get (HH_vO rfl) ?_
  refine e_ite ?_ ?_
  · refine e_get (HH_gR rfl rfl) ?_
    refine e_bind (HH_aI rfl) ?_
    intro v11
    refine e_get (HH_gL rfl rfl) ?_
    exact eqX7_flows_J26 t ct S a1 ((Int32.toInt64 v11) * (S.2.1 64 14))
  · refine e_get (HH_gR rfl rfl) ?_
    refine e_bind (HH_aL rfl) ?_
    intro v2
    exact eqX7_flows_J26 t ct S a1 v2
def TX7_change (a1 : Int32) (S : SS) : Option (Int64) := (TX7_flows (a1 - 1) S).bind fun v1 =>
  (TX7_flows a1 S).bind fun v2 =>
  (TX7_fin a1 S).bind fun v3 =>
  (aget 2 (S.2.2.1 71) 1).bind fun v5 =>
  (aget 8 (S.2.2.2 75) a1).bind fun v8 =>
  (aget 8 (S.2.2.1 68) a1).bind fun v10 =>
  some (((v1 - v2) + ((Int32.toInt64 v3) * (((Int32.toInt64 v5) * (S.2.1 64 14)) - v8))) + ((Int32.toInt64 v10) * (S.2.1 64 14)))
theorem eqX7_change (t : Nat) (ct : Nat → ClassId) (a1 : Int32) (S : SS) : X7_change (t + 64) a1 (HH t ct S) = (TX7_change a1 S).map id := by
  show EQ _ _ _
  unfold X7_change TX7_change
  refine e_get (HH_vO rfl) ?_
  refine e_call (eqX7_flows t ct (a1 - 1) S) ?_
  intro v1
  refine e_call (eqX7_flows t ct a1 S) ?_
  intro v2
  refine e_call (eqX7_fin t ct a1 S) ?_
  intro v3
  refine e_get (HH_gR rfl rfl) ?_
  refine e_bind (HH_aI rfl) ?_
  intro v5
  refine e_get (HH_gL rfl rfl) ?_
  refine e_get (HH_gR rfl rfl) ?_
  refine e_bind (HH_aL rfl) ?_
  intro v8
  refine e_get (HH_gR rfl rfl) ?_
  refine e_bind (HH_aI rfl) ?_
  intro v10
  refine e_get (HH_gL rfl rfl) ?_
  exact e_ret rfl
def TX7_reckons_L199 : Nat → Int64 → Int64 → Int32 → SS → Option (Int64 × SS)
  | 0, _, _, _, _ => none
  | n + 1, l1, l3, l5, S => (if (S.1 64 0) ≤ l5 then (o_ldiv l3 l1).bind fun v7 =>
  some (v7, S) else
  (aget 8 (S.2.2.2 79) l5).bind fun v9 =>
  (o_ldiv v9 l1).bind fun v10 =>
  (if jin l5 8 then letS (sAL S 79 (Int32.toNatClampNeg l5) v10) fun S11 =>
  TX7_reckons_L199 n l1 l3 (l5 + 1) S11 else
  none))
theorem eqX7_reckons_L199 (t : Nat) (ct : Nat → ClassId) : ∀ (n : Nat), ∀ (l1 : Int64) (l3 : Int64) (l5 : Int32) (S : SS), EQ (X7_reckons_L199 n (t + 64) l1 l3 l5 (HH t ct S)) (TX7_reckons_L199 n l1 l3 l5 S) (hwL t ct) := by
  intro n
  induction n with
  | zero => intro l1 l3 l5 S; exact e_none
  | succ n ih =>
    intro l1 l3 l5 S
    unfold X7_reckons_L199 TX7_reckons_L199
    refine e_get (HH_gI rfl rfl) ?_
    refine e_ite ?_ ?_
    · refine e_bind rfl ?_
      intro v7
      exact e_ret rfl
    · refine e_get (HH_gR rfl rfl) ?_
      refine e_bind (HH_aL rfl) ?_
      intro v9
      refine e_bind rfl ?_
      intro v10
      refine e_wrS (HH_wL rfl) ?_
      intro S11
      exact ih l1 l3 (l5 + 1) S11
def TX7_reckons_L169 : Nat → Int64 → Int64 → Int32 → SS → Option (Int64 × SS)
  | 0, _, _, _, _ => none
  | n + 1, l1, l3, l5, S => (if (S.1 64 0) ≤ l5 then TX7_reckons_L199 fu l1 l3 0 S else
  (aget 8 (S.2.2.2 79) l5).bind fun v13 =>
  (TX7_divisor v13 l1).bind fun v14 =>
  TX7_reckons_L169 n v14 l3 (l5 + 1) S)
theorem eqX7_reckons_L169 (t : Nat) (ct : Nat → ClassId) : ∀ (n : Nat), ∀ (l1 : Int64) (l3 : Int64) (l5 : Int32) (S : SS), EQ (X7_reckons_L169 n (t + 64) l1 l3 l5 (HH t ct S)) (TX7_reckons_L169 n l1 l3 l5 S) (hwL t ct) := by
  intro n
  induction n with
  | zero => intro l1 l3 l5 S; exact e_none
  | succ n ih =>
    intro l1 l3 l5 S
    unfold X7_reckons_L169 TX7_reckons_L169
    refine e_get (HH_gI rfl rfl) ?_
    refine e_ite ?_ ?_
    · exact eqX7_reckons_L199 t ct fu l1 l3 0 S
    · refine e_get (HH_gR rfl rfl) ?_
      refine e_bind (HH_aL rfl) ?_
      intro v13
      refine e_call (eqX7_divisor t ct v13 l1) ?_
      intro v14
      exact ih v14 l3 (l5 + 1) S
def TX7_reckons_L113 : Nat → Int64 → Int32 → SS → Option (Int64 × SS)
  | 0, _, _, _ => none
  | n + 1, l3, l5, S => (if (S.1 64 15) ≤ l5 then TX7_reckons_L169 fu l3 l3 0 S else
  (aget 12 (S.2.2.1 77) l5).bind fun v16 =>
  (if v16 = 1 then (aget 12 (S.2.2.1 76) l5).bind fun v19 =>
  (aget 8 (S.2.2.2 79) v19).bind fun v20 =>
  (aget 12 (S.2.2.1 78) l5).bind fun v22 =>
  (if jin v19 8 then letS (sAL S 79 (Int32.toNatClampNeg v19) (v20 + ((Int32.toInt64 v22) * l3))) fun S23 =>
  TX7_reckons_L113 n l3 (l5 + 1) S23 else
  none) else
  TX7_reckons_L113 n l3 (l5 + 1) S))
theorem eqX7_reckons_L113 (t : Nat) (ct : Nat → ClassId) : ∀ (n : Nat), ∀ (l3 : Int64) (l5 : Int32) (S : SS), EQ (X7_reckons_L113 n (t + 64) l3 l5 (HH t ct S)) (TX7_reckons_L113 n l3 l5 S) (hwL t ct) := by
  intro n
  induction n with
  | zero => intro l3 l5 S; exact e_none
  | succ n ih =>
    intro l3 l5 S
    unfold X7_reckons_L113 TX7_reckons_L113
    refine e_get (HH_gI rfl rfl) ?_
    refine e_ite ?_ ?_
    · exact eqX7_reckons_L169 t ct fu l3 l3 0 S
    · refine e_get (HH_gR rfl rfl) ?_
      refine e_bind (HH_aI rfl) ?_
      intro v16
      refine e_ite ?_ ?_
      · refine e_get (HH_gR rfl rfl) ?_
        refine e_get (HH_gR rfl rfl) ?_
        refine e_bind (HH_aI rfl) ?_
        intro v19
        refine e_bind (HH_aL rfl) ?_
        intro v20
        refine e_get (HH_gR rfl rfl) ?_
        refine e_bind (HH_aI rfl) ?_
        intro v22
        refine e_wrS (HH_wL rfl) ?_
        intro S23
        exact ih l3 (l5 + 1) S23
      · exact ih l3 (l5 + 1) S
def TX7_reckons_L55 : Nat → Int64 → Int64 → Int32 → SS → Option (Int64 × SS)
  | 0, _, _, _, _ => none
  | n + 1, l1, l3, l5, S => (if (S.1 64 0) ≤ l5 then TX7_reckons_L113 fu l3 0 S else
  (aget 8 (S.2.2.2 75) l5).bind fun v26 =>
  (TX7_change l5 S).bind fun v27 =>
  (TX7_holds l5 S).bind fun v28 =>
  (aget 2 (S.2.2.1 71) 0).bind fun v30 =>
  (o_ldiv l1 (Int32.toInt64 (v28 * v30))).bind fun v31 =>
  (if jin l5 8 then letS (sAL S 79 (Int32.toNatClampNeg l5) ((v26 * l1) + (v27 * v31))) fun S32 =>
  TX7_reckons_L55 n l1 l3 (l5 + 1) S32 else
  none))
theorem eqX7_reckons_L55 (t : Nat) (ct : Nat → ClassId) : ∀ (n : Nat), ∀ (l1 : Int64) (l3 : Int64) (l5 : Int32) (S : SS), EQ (X7_reckons_L55 n (t + 64) l1 l3 l5 (HH t ct S)) (TX7_reckons_L55 n l1 l3 l5 S) (hwL t ct) := by
  intro n
  induction n with
  | zero => intro l1 l3 l5 S; exact e_none
  | succ n ih =>
    intro l1 l3 l5 S
    unfold X7_reckons_L55 TX7_reckons_L55
    refine e_get (HH_gI rfl rfl) ?_
    refine e_ite ?_ ?_
    · exact eqX7_reckons_L113 t ct fu l3 0 S
    · refine e_get (HH_gR rfl rfl) ?_
      refine e_get (HH_gR rfl rfl) ?_
      refine e_bind (HH_aL rfl) ?_
      intro v26
      refine e_call (eqX7_change t ct l5 S) ?_
      intro v27
      refine e_call (eqX7_holds t ct l5 S) ?_
      intro v28
      refine e_get (HH_gR rfl rfl) ?_
      refine e_bind (HH_aI rfl) ?_
      intro v30
      refine e_bind rfl ?_
      intro v31
      refine e_wrS (HH_wL rfl) ?_
      intro S32
      exact ih l1 l3 (l5 + 1) S32
def TX7_reckons_L4 : Nat → Int64 → Int32 → SS → Option (Int64 × SS)
  | 0, _, _, _ => none
  | n + 1, l1, l3, S => (if (S.1 64 0) ≤ l3 then TX7_reckons_L55 fu l1 ((S.2.1 64 14) * l1) 0 S else
  (TX7_holds l3 S).bind fun v33 =>
  (aget 2 (S.2.2.1 71) 0).bind fun v35 =>
  (TX7_divisor l1 (Int32.toInt64 (v33 * v35))).bind fun v36 =>
  (o_ldiv l1 v36).bind fun v37 =>
  TX7_reckons_L4 n (v37 * (Int32.toInt64 (v33 * v35))) (l3 + 1) S)
theorem eqX7_reckons_L4 (t : Nat) (ct : Nat → ClassId) : ∀ (n : Nat), ∀ (l1 : Int64) (l3 : Int32) (S : SS), EQ (X7_reckons_L4 n (t + 64) l1 l3 (HH t ct S)) (TX7_reckons_L4 n l1 l3 S) (hwL t ct) := by
  intro n
  induction n with
  | zero => intro l1 l3 S; exact e_none
  | succ n ih =>
    intro l1 l3 S
    unfold X7_reckons_L4 TX7_reckons_L4
    refine e_get (HH_gI rfl rfl) ?_
    refine e_ite ?_ ?_
    · refine e_get (HH_gL rfl rfl) ?_
      exact eqX7_reckons_L55 t ct fu l1 ((S.2.1 64 14) * l1) 0 S
    · refine e_call (eqX7_holds t ct l3 S) ?_
      intro v33
      refine e_get (HH_gR rfl rfl) ?_
      refine e_bind (HH_aI rfl) ?_
      intro v35
      refine e_call (eqX7_divisor t ct l1 (Int32.toInt64 (v33 * v35))) ?_
      intro v36
      refine e_bind rfl ?_
      intro v37
      exact ih (v37 * (Int32.toInt64 (v33 * v35))) (l3 + 1) S
def TX7_reckons (S : SS) : Option (Int64 × SS) := TX7_reckons_L4 fu 1 0 S
theorem eqX7_reckons (t : Nat) (ct : Nat → ClassId) (S : SS) : X7_reckons (t + 64) (HH t ct S) = (TX7_reckons S).map (hwL t ct) := by
  show EQ _ _ _
  unfold X7_reckons TX7_reckons
  refine e_get (HH_vO rfl) ?_
  exact eqX7_reckons_L4 t ct fu 1 0 S
def TX7_goes_L97 : Nat → Int32 → Int32 → SS → Option (Int32 × SS)
  | 0, _, _, _ => none
  | n + 1, l3, l4, S => (if (S.1 64 15) ≤ l4 then letS (sFI S 64 15 l3) fun S7 =>
  (zb 1).bind fun v8 => some (v8, S7) else
  (aget 12 (S.2.2.1 77) l4).bind fun v10 =>
  (if v10 ≤ 1 then TX7_goes_L97 n l3 (l4 + 1) S else
  (aget 12 (S.2.2.1 76) l4).bind fun v13 =>
  (if jin l3 12 then letS (sAI S 76 (Int32.toNatClampNeg l3) v13) fun S14 =>
  (aget 12 (S14.2.2.1 77) l4).bind fun v17 =>
  (if jin l3 12 then letS (sAI S14 77 (Int32.toNatClampNeg l3) (v17 - 1)) fun S18 =>
  (aget 12 (S18.2.2.1 78) l4).bind fun v21 =>
  (if jin l3 12 then letS (sAI S18 78 (Int32.toNatClampNeg l3) v21) fun S22 =>
  TX7_goes_L97 n (l3 + 1) (l4 + 1) S22 else
  none) else
  none) else
  none)))
theorem eqX7_goes_L97 (t : Nat) (ct : Nat → ClassId) : ∀ (n : Nat), ∀ (l3 : Int32) (l4 : Int32) (S : SS), EQ (X7_goes_L97 n (t + 64) l3 l4 (HH t ct S)) (TX7_goes_L97 n l3 l4 S) (hwI t ct) := by
  intro n
  induction n with
  | zero => intro l3 l4 S; exact e_none
  | succ n ih =>
    intro l3 l4 S
    unfold X7_goes_L97 TX7_goes_L97
    refine e_get (HH_gI rfl rfl) ?_
    refine e_ite ?_ ?_
    · refine e_put (HH_pI rfl rfl) ?_
      intro S7
      exact e_bind rfl (fun _ => e_ret rfl)
    · refine e_get (HH_gR rfl rfl) ?_
      refine e_bind (HH_aI rfl) ?_
      intro v10
      refine e_ite ?_ ?_
      · exact ih l3 (l4 + 1) S
      · refine e_get (HH_gR rfl rfl) ?_
        refine e_get (HH_gR rfl rfl) ?_
        refine e_bind (HH_aI rfl) ?_
        intro v13
        refine e_wrS (HH_wI rfl) ?_
        intro S14
        refine e_get (HH_gR rfl rfl) ?_
        refine e_get (HH_gR rfl rfl) ?_
        refine e_bind (HH_aI rfl) ?_
        intro v17
        refine e_wrS (HH_wI rfl) ?_
        intro S18
        refine e_get (HH_gR rfl rfl) ?_
        refine e_get (HH_gR rfl rfl) ?_
        refine e_bind (HH_aI rfl) ?_
        intro v21
        refine e_wrS (HH_wI rfl) ?_
        intro S22
        exact ih (l3 + 1) (l4 + 1) S22
def TX7_goes_L61 : Nat → Int64 → Int32 → SS → Option (Int32 × SS)
  | 0, _, _, _ => none
  | n + 1, l1, l3, S => (if (S.1 64 0) ≤ l3 then letS (sFL S 64 14 l1) fun S5 =>
  TX7_goes_L97 fu 0 0 S5 else
  (aget 8 (S.2.2.2 79) l3).bind fun v25 =>
  (if jin l3 8 then letS (sAL S 75 (Int32.toNatClampNeg l3) v25) fun S26 =>
  TX7_goes_L61 n l1 (l3 + 1) S26 else
  none))
theorem eqX7_goes_L61 (t : Nat) (ct : Nat → ClassId) : ∀ (n : Nat), ∀ (l1 : Int64) (l3 : Int32) (S : SS), EQ (X7_goes_L61 n (t + 64) l1 l3 (HH t ct S)) (TX7_goes_L61 n l1 l3 S) (hwI t ct) := by
  intro n
  induction n with
  | zero => intro l1 l3 S; exact e_none
  | succ n ih =>
    intro l1 l3 S
    unfold X7_goes_L61 TX7_goes_L61
    refine e_get (HH_gI rfl rfl) ?_
    refine e_ite ?_ ?_
    · refine e_put (HH_pL rfl rfl) ?_
      intro S5
      exact eqX7_goes_L97 t ct fu 0 0 S5
    · refine e_get (HH_gR rfl rfl) ?_
      refine e_get (HH_gR rfl rfl) ?_
      refine e_bind (HH_aL rfl) ?_
      intro v25
      refine e_wrS (HH_wL rfl) ?_
      intro S26
      exact ih l1 (l3 + 1) S26
def TX7_goes_L22 : Nat → Int64 → Int32 → SS → Option (Int32 × SS)
  | 0, _, _, _ => none
  | n + 1, l1, l3, S => (if (S.1 64 0) ≤ l3 then TX7_goes_L61 fu l1 0 S else
  (aget 8 (S.2.2.2 79) l3).bind fun v28 =>
  (TJ9_abs_067f4 v28).bind fun v29 =>
  (if v29 ≤ 1000000000000 then TX7_goes_L22 n l1 (l3 + 1) S else
  letS (sFI S 64 20 l3) fun S30 =>
  (zb 0).bind fun v31 => some (v31, S30)))
theorem eqX7_goes_L22 (t : Nat) (ct : Nat → ClassId) : ∀ (n : Nat), ∀ (l1 : Int64) (l3 : Int32) (S : SS), EQ (X7_goes_L22 n (t + 64) l1 l3 (HH t ct S)) (TX7_goes_L22 n l1 l3 S) (hwI t ct) := by
  intro n
  induction n with
  | zero => intro l1 l3 S; exact e_none
  | succ n ih =>
    intro l1 l3 S
    unfold X7_goes_L22 TX7_goes_L22
    refine e_get (HH_gI rfl rfl) ?_
    refine e_ite ?_ ?_
    · exact eqX7_goes_L61 t ct fu l1 0 S
    · refine e_get (HH_gR rfl rfl) ?_
      refine e_bind (HH_aL rfl) ?_
      intro v28
      refine e_call (eqJ9_abs_067f4 t ct v28) ?_
      intro v29
      refine e_ite ?_ ?_
      · exact ih l1 (l3 + 1) S
      · refine e_put (HH_pI rfl rfl) ?_
        intro S30
        exact e_bind rfl (fun _ => e_ret rfl)
def TX7_goes (S : SS) : Option (Int32 × SS) := (TX7_reckons S).bind fun q1 =>
  letS (sFI q1.2 64 20 (-1)) fun S2 =>
  (if q1.1 ≤ 1000000000000 then TX7_goes_L22 fu q1.1 0 S2 else
  (zb 0).bind fun v32 => some (v32, S2))
theorem eqX7_goes (t : Nat) (ct : Nat → ClassId) (S : SS) : X7_goes (t + 64) (HH t ct S) = (TX7_goes S).map (hwI t ct) := by
  show EQ _ _ _
  unfold X7_goes TX7_goes
  refine e_get (HH_vO rfl) ?_
  refine e_call (eqX7_reckons t ct S) ?_
  intro q1
  refine e_put (HH_pI rfl rfl) ?_
  intro S2
  refine e_ite ?_ ?_
  · exact eqX7_goes_L22 t ct fu q1.1 0 S2
  · exact e_bind rfl (fun _ => e_ret rfl)
def TX7_goes__L8 : Nat → Int32 → Int32 → Int32 → SS → Option (Int32 × SS)
  | 0, _, _, _, _ => none
  | n + 1, l1, l2, l3, S => (if l1 ≤ l3 then (zb l2).bind fun v2 => some (v2, S) else
  (if l2 = 0 then (zb l2).bind fun v3 => some (v3, S) else
  (TX7_goes S).bind fun q4 =>
  TX7_goes__L8 n l1 q4.1 (l3 + 1) q4.2))
theorem eqX7_goes__L8 (t : Nat) (ct : Nat → ClassId) : ∀ (n : Nat), ∀ (l1 : Int32) (l2 : Int32) (l3 : Int32) (S : SS), EQ (X7_goes__L8 n (t + 64) l1 l2 l3 (HH t ct S)) (TX7_goes__L8 n l1 l2 l3 S) (hwI t ct) := by
  intro n
  induction n with
  | zero => intro l1 l2 l3 S; exact e_none
  | succ n ih =>
    intro l1 l2 l3 S
    unfold X7_goes__L8 TX7_goes__L8
    refine e_ite ?_ ?_
    · exact e_bind rfl (fun _ => e_ret rfl)
    · refine e_ite ?_ ?_
      · exact e_bind rfl (fun _ => e_ret rfl)
      · refine e_call (eqX7_goes t ct S) ?_
        intro q4
        exact ih l1 q4.1 (l3 + 1) q4.2
def TX7_goes_ (a1 : Int32) (S : SS) : Option (Int32 × SS) := (TX7_think S).bind fun q1 =>
  TX7_goes__L8 fu a1 1 0 q1
theorem eqX7_goes_ (t : Nat) (ct : Nat → ClassId) (a1 : Int32) (S : SS) : X7_goes_ (t + 64) a1 (HH t ct S) = (TX7_goes_ a1 S).map (hwI t ct) := by
  show EQ _ _ _
  unfold X7_goes_ TX7_goes_
  refine e_get (HH_vO rfl) ?_
  refine e_call (eqX7_think t ct S) ?_
  intro q1
  exact eqX7_goes__L8 t ct fu a1 1 0 q1
def TX7_greatest_L9 (S : SS) : Nat → Int64 → Int32 → Option (Int64)
  | 0, _, _ => none
  | n + 1, l1, l3 => (if (S.1 64 0) ≤ l3 then some l1 else
  (aget 8 (S.2.2.2 75) l3).bind fun v5 =>
  (TJ9_max_f86c9 l1 v5).bind fun v6 =>
  TX7_greatest_L9 S n v6 (l3 + 1))
theorem eqX7_greatest_L9 (t : Nat) (ct : Nat → ClassId) (S : SS) : ∀ (n : Nat), ∀ (l1 : Int64) (l3 : Int32), EQ (X7_greatest_L9 (HH t ct S) n (t + 64) l1 l3) (TX7_greatest_L9 S n l1 l3) id := by
  intro n
  induction n with
  | zero => intro l1 l3; exact e_none
  | succ n ih =>
    intro l1 l3
    unfold X7_greatest_L9 TX7_greatest_L9
    refine e_get (HH_gI rfl rfl) ?_
    refine e_ite ?_ ?_
    · exact e_ret rfl
    · refine e_get (HH_gR rfl rfl) ?_
      refine e_bind (HH_aL rfl) ?_
      intro v5
      refine e_call (eqJ9_max_f86c9 t ct l1 v5) ?_
      intro v6
      exact ih v6 (l3 + 1)
def TX7_greatest (S : SS) : Option (Int64) := (aget 8 (S.2.2.2 75) 0).bind fun v2 =>
  TX7_greatest_L9 S fu v2 1
theorem eqX7_greatest (t : Nat) (ct : Nat → ClassId) (S : SS) : X7_greatest (t + 64) (HH t ct S) = (TX7_greatest S).map id := by
  show EQ _ _ _
  unfold X7_greatest TX7_greatest
  refine e_get (HH_vO rfl) ?_
  refine e_get (HH_gR rfl rfl) ?_
  refine e_bind (HH_aL rfl) ?_
  intro v2
  exact eqX7_greatest_L9 t ct S fu v2 1
def TX7_least_L9 (S : SS) : Nat → Int64 → Int32 → Option (Int64)
  | 0, _, _ => none
  | n + 1, l1, l3 => (if (S.1 64 0) ≤ l3 then some l1 else
  (aget 8 (S.2.2.2 75) l3).bind fun v5 =>
  (TX7_lesser l1 v5).bind fun v6 =>
  TX7_least_L9 S n v6 (l3 + 1))
theorem eqX7_least_L9 (t : Nat) (ct : Nat → ClassId) (S : SS) : ∀ (n : Nat), ∀ (l1 : Int64) (l3 : Int32), EQ (X7_least_L9 (HH t ct S) n (t + 64) l1 l3) (TX7_least_L9 S n l1 l3) id := by
  intro n
  induction n with
  | zero => intro l1 l3; exact e_none
  | succ n ih =>
    intro l1 l3
    unfold X7_least_L9 TX7_least_L9
    refine e_get (HH_gI rfl rfl) ?_
    refine e_ite ?_ ?_
    · exact e_ret rfl
    · refine e_get (HH_gR rfl rfl) ?_
      refine e_bind (HH_aL rfl) ?_
      intro v5
      refine e_call (eqX7_lesser t ct l1 v5) ?_
      intro v6
      exact ih v6 (l3 + 1)
def TX7_least (S : SS) : Option (Int64) := (aget 8 (S.2.2.2 75) 0).bind fun v2 =>
  TX7_least_L9 S fu v2 1
theorem eqX7_least (t : Nat) (ct : Nat → ClassId) (S : SS) : X7_least (t + 64) (HH t ct S) = (TX7_least S).map id := by
  show EQ _ _ _
  unfold X7_least TX7_least
  refine e_get (HH_vO rfl) ?_
  refine e_get (HH_gR rfl rfl) ?_
  refine e_bind (HH_aL rfl) ?_
  intro v2
  exact eqX7_least_L9 t ct S fu v2 1
def TX7_t (a1 : Int32) (a2 : Int32) (S : SS) : Option (Int64) := (TX7_isCell a1 S).bind fun v1 =>
  (if v1 = 0 then some (-9223372036854775808) else
  (TX7_isIn (Int32.toInt64 a2) 0 1).bind fun v2 =>
  (if v2 = 0 then some (-9223372036854775808) else
  (aget 8 (S.2.2.2 69) a1).bind fun v4 =>
  (TX7_part v4 (S.2.1 64 6) a2).bind fun v6 =>
  some v6))
theorem eqX7_t (t : Nat) (ct : Nat → ClassId) (a1 : Int32) (a2 : Int32) (S : SS) : X7_t (t + 64) a1 a2 (HH t ct S) = (TX7_t a1 a2 S).map id := by
  show EQ _ _ _
  unfold X7_t TX7_t
  refine e_get (HH_vO rfl) ?_
  refine e_call (eqX7_isCell t ct a1 S) ?_
  intro v1
  refine e_ite ?_ ?_
  · exact e_ret rfl
  · refine e_call (eqX7_isIn t ct (Int32.toInt64 a2) 0 1) ?_
    intro v2
    refine e_ite ?_ ?_
    · exact e_ret rfl
    · refine e_get (HH_gR rfl rfl) ?_
      refine e_bind (HH_aL rfl) ?_
      intro v4
      refine e_get (HH_gL rfl rfl) ?_
      refine e_call (eqX7_part t ct v4 (S.2.1 64 6) a2) ?_
      intro v6
      exact e_ret rfl
def TX7_line (S : SS) : Option (Int64) := some (S.2.1 64 6)
theorem eqX7_line (t : Nat) (ct : Nat → ClassId) (S : SS) : X7_line (t + 64) (HH t ct S) = (TX7_line S).map id := by
  show EQ _ _ _
  unfold X7_line TX7_line
  refine e_get (HH_vO rfl) ?_
  refine e_get (HH_gL rfl rfl) ?_
  exact e_ret rfl
def TX7_flow (a1 : Int32) (a2 : Int32) (S : SS) : Option (Int64 × SS) := (TX7_isJoint a1 S).bind fun v1 =>
  (if v1 = 0 then some ((-9223372036854775808), S) else
  (TX7_isIn (Int32.toInt64 a2) 0 1).bind fun v2 =>
  (if v2 = 0 then some ((-9223372036854775808), S) else
  (TX7_think S).bind fun q3 =>
  (TX7_flows a1 q3).bind fun v4 =>
  (TX7_part v4 (q3.2.1 64 6) a2).bind fun v6 =>
  some (v6, q3)))
theorem eqX7_flow (t : Nat) (ct : Nat → ClassId) (a1 : Int32) (a2 : Int32) (S : SS) : X7_flow (t + 64) a1 a2 (HH t ct S) = (TX7_flow a1 a2 S).map (hwL t ct) := by
  show EQ _ _ _
  unfold X7_flow TX7_flow
  refine e_get (HH_vO rfl) ?_
  refine e_call (eqX7_isJoint t ct a1 S) ?_
  intro v1
  refine e_ite ?_ ?_
  · exact e_ret rfl
  · refine e_call (eqX7_isIn t ct (Int32.toInt64 a2) 0 1) ?_
    intro v2
    refine e_ite ?_ ?_
    · exact e_ret rfl
    · refine e_call (eqX7_think t ct S) ?_
      intro q3
      refine e_call (eqX7_flows t ct a1 q3) ?_
      intro v4
      refine e_get (HH_gL rfl rfl) ?_
      refine e_call (eqX7_part t ct v4 (q3.2.1 64 6) a2) ?_
      intro v6
      exact e_ret rfl
def TX7_together (a1 : Int32) (S : SS) : Option (Int32) := (TX7_leads (a1 - 1) S).bind fun v1 =>
  (TX7_leads a1 S).bind fun v2 =>
  (TX7_fin a1 S).bind fun v3 =>
  some ((v1 + v2) + v3)
theorem eqX7_together (t : Nat) (ct : Nat → ClassId) (a1 : Int32) (S : SS) : X7_together (t + 64) a1 (HH t ct S) = (TX7_together a1 S).map id := by
  show EQ _ _ _
  unfold X7_together TX7_together
  refine e_get (HH_vO rfl) ?_
  refine e_call (eqX7_leads t ct (a1 - 1) S) ?_
  intro v1
  refine e_call (eqX7_leads t ct a1 S) ?_
  intro v2
  refine e_call (eqX7_fin t ct a1 S) ?_
  intro v3
  exact e_ret rfl
def TX7_stable_J42 (S : SS) (r20 : Int32 → Int32 → Int32 → Option (Int32)) (l1 : Int32) (l3 : Int32) : Option (Int32) := (TX7_together l3 S).bind fun v2 =>
  (TX7_holds l3 S).bind fun v3 =>
  (aget 2 (S.2.2.1 71) 0).bind fun v5 =>
  (if (v3 * v5) < v2 then r20 l1 0 (l3 + 1) else
  r20 l1 1 (l3 + 1))
theorem eqX7_stable_J42 (t : Nat) (ct : Nat → ClassId) (S : SS) (g20 : Nat → Int32 → Int32 → Int32 → Option (Int32)) (r20 : Int32 → Int32 → Int32 → Option (Int32)) (hr20 : ∀ (l1 : Int32) (l2 : Int32) (l3 : Int32), EQ (g20 (t + 64) l1 l2 l3) (r20 l1 l2 l3) id) : ∀ (l1 : Int32) (l3 : Int32), EQ (X7_stable_J42 (HH t ct S) g20 (t + 64) l1 l3) (TX7_stable_J42 S r20 l1 l3) id := by
  intro l1 l3
  unfold X7_stable_J42 TX7_stable_J42
  refine e_call (eqX7_together t ct l3 S) ?_
  intro v2
  refine e_call (eqX7_holds t ct l3 S) ?_
  intro v3
  refine e_get (HH_gR rfl rfl) ?_
  refine e_bind (HH_aI rfl) ?_
  intro v5
  refine e_ite ?_ ?_
  · exact hr20 l1 0 (l3 + 1)
  · exact hr20 l1 1 (l3 + 1)
def TX7_stable_L20 (S : SS) : Nat → Int32 → Int32 → Int32 → Option (Int32)
  | 0, _, _, _ => none
  | n + 1, l1, l2, l3 => (if (S.1 64 0) ≤ l3 then (if l2 = 0 then some 0 else
  some 1) else
  (if l2 = 0 then TX7_stable_L20 S n l1 0 (l3 + 1) else
  (if l1 = (-1) then TX7_stable_J42 S (fun l1 l2 l3 => TX7_stable_L20 S n l1 l2 l3) l1 l3 else
  (if l1 = l3 then TX7_stable_J42 S (fun l1 l2 l3 => TX7_stable_L20 S n l1 l2 l3) l1 l3 else
  TX7_stable_L20 S n l1 1 (l3 + 1)))))
theorem eqX7_stable_L20 (t : Nat) (ct : Nat → ClassId) (S : SS) : ∀ (n : Nat), ∀ (l1 : Int32) (l2 : Int32) (l3 : Int32), EQ (X7_stable_L20 (HH t ct S) n (t + 64) l1 l2 l3) (TX7_stable_L20 S n l1 l2 l3) id := by
  intro n
  induction n with
  | zero => intro l1 l2 l3; exact e_none
  | succ n ih =>
    intro l1 l2 l3
    unfold X7_stable_L20 TX7_stable_L20
    refine e_get (HH_gI rfl rfl) ?_
    refine e_ite ?_ ?_
    · refine e_ite ?_ ?_
      · exact e_ret rfl
      · exact e_ret rfl
    · refine e_ite ?_ ?_
      · exact ih l1 0 (l3 + 1)
      · refine e_ite ?_ ?_
        · exact eqX7_stable_J42 t ct S _ (fun l1 l2 l3 => TX7_stable_L20 S n l1 l2 l3) ih l1 l3
        · refine e_ite ?_ ?_
          · exact eqX7_stable_J42 t ct S _ (fun l1 l2 l3 => TX7_stable_L20 S n l1 l2 l3) ih l1 l3
          · exact ih l1 1 (l3 + 1)
def TX7_stable_J16 (S : SS) (l1 : Int32) : Option (Int32) := TX7_stable_L20 S fu l1 1 0
theorem eqX7_stable_J16 (t : Nat) (ct : Nat → ClassId) (S : SS) : ∀ (l1 : Int32), EQ (X7_stable_J16 (HH t ct S) (t + 64) l1) (TX7_stable_J16 S l1) id := by
  intro l1
  unfold X7_stable_J16 TX7_stable_J16
  exact eqX7_stable_L20 t ct S fu l1 1 0
def TX7_stable (a1 : Int32) (S : SS) : Option (Int32) := (if a1 = (-1) then TX7_stable_J16 S a1 else
  (TX7_isCell a1 S).bind fun v6 =>
  (if v6 = 0 then some (-2) else
  TX7_stable_J16 S a1))
theorem eqX7_stable (t : Nat) (ct : Nat → ClassId) (a1 : Int32) (S : SS) : X7_stable (t + 64) a1 (HH t ct S) = (TX7_stable a1 S).map id := by
  show EQ _ _ _
  unfold X7_stable TX7_stable
  refine e_get (HH_vO rfl) ?_
  refine e_ite ?_ ?_
  · exact eqX7_stable_J16 t ct S a1
  · refine e_call (eqX7_isCell t ct a1 S) ?_
    intro v6
    refine e_ite ?_ ?_
    · exact e_ret rfl
    · exact eqX7_stable_J16 t ct S a1
def TX7_need_L4 (S : SS) : Nat → Int32 → Int32 → Option (Int32)
  | 0, _, _ => none
  | n + 1, l1, l2 => (if (S.1 64 0) ≤ l2 then some l1 else
  (TX7_together l2 S).bind fun v2 =>
  (TX7_holds l2 S).bind fun v3 =>
  (TX7_holds l2 S).bind fun v4 =>
  (o_idiv ((v2 + v3) - 1) v4).bind fun v5 =>
  (TJ9_max_7cf53 l1 v5).bind fun v6 =>
  TX7_need_L4 S n v6 (l2 + 1))
theorem eqX7_need_L4 (t : Nat) (ct : Nat → ClassId) (S : SS) : ∀ (n : Nat), ∀ (l1 : Int32) (l2 : Int32), EQ (X7_need_L4 (HH t ct S) n (t + 64) l1 l2) (TX7_need_L4 S n l1 l2) id := by
  intro n
  induction n with
  | zero => intro l1 l2; exact e_none
  | succ n ih =>
    intro l1 l2
    unfold X7_need_L4 TX7_need_L4
    refine e_get (HH_gI rfl rfl) ?_
    refine e_ite ?_ ?_
    · exact e_ret rfl
    · refine e_call (eqX7_together t ct l2 S) ?_
      intro v2
      refine e_call (eqX7_holds t ct l2 S) ?_
      intro v3
      refine e_call (eqX7_holds t ct l2 S) ?_
      intro v4
      refine e_bind rfl ?_
      intro v5
      refine e_call (eqJ9_max_7cf53 t ct l1 v5) ?_
      intro v6
      exact ih v6 (l2 + 1)
def TX7_need (S : SS) : Option (Int32) := TX7_need_L4 S fu 1 0
theorem eqX7_need (t : Nat) (ct : Nat → ClassId) (S : SS) : X7_need (t + 64) (HH t ct S) = (TX7_need S).map id := by
  show EQ _ _ _
  unfold X7_need TX7_need
  refine e_get (HH_vO rfl) ?_
  exact eqX7_need_L4 t ct S fu 1 0
def TX7_sum_L19 (S : SS) : Nat → Int32 → Int64 → Int32 → Option (Int64)
  | 0, _, _, _ => none
  | n + 1, l1, l2, l4 => (if (S.1 64 0) ≤ l4 then (TX7_part l2 (S.2.1 64 6) l1).bind fun v4 =>
  some v4 else
  (TX7_holds l4 S).bind fun v5 =>
  (aget 8 (S.2.2.2 69) l4).bind fun v7 =>
  TX7_sum_L19 S n l1 (l2 + ((Int32.toInt64 v5) * v7)) (l4 + 1))
theorem eqX7_sum_L19 (t : Nat) (ct : Nat → ClassId) (S : SS) : ∀ (n : Nat), ∀ (l1 : Int32) (l2 : Int64) (l4 : Int32), EQ (X7_sum_L19 (HH t ct S) n (t + 64) l1 l2 l4) (TX7_sum_L19 S n l1 l2 l4) id := by
  intro n
  induction n with
  | zero => intro l1 l2 l4; exact e_none
  | succ n ih =>
    intro l1 l2 l4
    unfold X7_sum_L19 TX7_sum_L19
    refine e_get (HH_gI rfl rfl) ?_
    refine e_ite ?_ ?_
    · refine e_get (HH_gL rfl rfl) ?_
      refine e_call (eqX7_part t ct l2 (S.2.1 64 6) l1) ?_
      intro v4
      exact e_ret rfl
    · refine e_call (eqX7_holds t ct l4 S) ?_
      intro v5
      refine e_get (HH_gR rfl rfl) ?_
      refine e_bind (HH_aL rfl) ?_
      intro v7
      exact ih l1 (l2 + ((Int32.toInt64 v5) * v7)) (l4 + 1)
def TX7_sum (a1 : Int32) (S : SS) : Option (Int64) := (TX7_isIn (Int32.toInt64 a1) 0 1).bind fun v1 =>
  (if v1 = 0 then some (-9223372036854775808) else
  TX7_sum_L19 S fu a1 0 0)
theorem eqX7_sum (t : Nat) (ct : Nat → ClassId) (a1 : Int32) (S : SS) : X7_sum (t + 64) a1 (HH t ct S) = (TX7_sum a1 S).map id := by
  show EQ _ _ _
  unfold X7_sum TX7_sum
  refine e_get (HH_vO rfl) ?_
  refine e_call (eqX7_isIn t ct (Int32.toInt64 a1) 0 1) ?_
  intro v1
  refine e_ite ?_ ?_
  · exact e_ret rfl
  · exact eqX7_sum_L19 t ct S fu a1 0 0
def TX7_most_J74 (S : SS) (r17 : Int32 → Int32 → Int32 → Option (Int32)) (l1 : Int32) (l2 : Int32) (l3 : Int32) (s0 : Int32) : Option (Int32) := (if s0 = 0 then r17 l1 l2 (l3 + 1) else
  r17 l1 l3 (l3 + 1))
theorem eqX7_most_J74 (t : Nat) (ct : Nat → ClassId) (S : SS) (g17 : Nat → Int32 → Int32 → Int32 → Option (Int32)) (r17 : Int32 → Int32 → Int32 → Option (Int32)) (hr17 : ∀ (l1 : Int32) (l2 : Int32) (l3 : Int32), EQ (g17 (t + 64) l1 l2 l3) (r17 l1 l2 l3) id) : ∀ (l1 : Int32) (l2 : Int32) (l3 : Int32) (s0 : Int32), EQ (X7_most_J74 (HH t ct S) g17 (t + 64) l1 l2 l3 s0) (TX7_most_J74 S r17 l1 l2 l3 s0) id := by
  intro l1 l2 l3 s0
  unfold X7_most_J74 TX7_most_J74
  refine e_ite ?_ ?_
  · exact hr17 l1 l2 (l3 + 1)
  · exact hr17 l1 l3 (l3 + 1)
def TX7_most_L17 (S : SS) : Nat → Int32 → Int32 → Int32 → Option (Int32)
  | 0, _, _, _ => none
  | n + 1, l1, l2, l3 => (if (S.1 64 0) ≤ l3 then some l2 else
  (if l2 = (-1) then TX7_most_J74 S (fun l1 l2 l3 => TX7_most_L17 S n l1 l2 l3) l1 l2 l3 1 else
  (if l1 = 0 then (aget 8 (S.2.2.2 69) l3).bind fun v8 =>
  (aget 8 (S.2.2.2 69) l2).bind fun v10 =>
  (if v8 ≤ v10 then TX7_most_J74 S (fun l1 l2 l3 => TX7_most_L17 S n l1 l2 l3) l1 l2 l3 0 else
  TX7_most_J74 S (fun l1 l2 l3 => TX7_most_L17 S n l1 l2 l3) l1 l2 l3 1) else
  (aget 8 (S.2.2.2 69) l3).bind fun v4 =>
  (aget 8 (S.2.2.2 69) l2).bind fun v6 =>
  (if v6 ≤ v4 then TX7_most_J74 S (fun l1 l2 l3 => TX7_most_L17 S n l1 l2 l3) l1 l2 l3 0 else
  TX7_most_J74 S (fun l1 l2 l3 => TX7_most_L17 S n l1 l2 l3) l1 l2 l3 1))))
theorem eqX7_most_L17 (t : Nat) (ct : Nat → ClassId) (S : SS) : ∀ (n : Nat), ∀ (l1 : Int32) (l2 : Int32) (l3 : Int32), EQ (X7_most_L17 (HH t ct S) n (t + 64) l1 l2 l3) (TX7_most_L17 S n l1 l2 l3) id := by
  intro n
  induction n with
  | zero => intro l1 l2 l3; exact e_none
  | succ n ih =>
    intro l1 l2 l3
    unfold X7_most_L17 TX7_most_L17
    refine e_get (HH_gI rfl rfl) ?_
    refine e_ite ?_ ?_
    · exact e_ret rfl
    · refine e_ite ?_ ?_
      · exact eqX7_most_J74 t ct S _ (fun l1 l2 l3 => TX7_most_L17 S n l1 l2 l3) ih l1 l2 l3 1
      · refine e_ite ?_ ?_
        · refine e_get (HH_gR rfl rfl) ?_
          refine e_bind (HH_aL rfl) ?_
          intro v8
          refine e_get (HH_gR rfl rfl) ?_
          refine e_bind (HH_aL rfl) ?_
          intro v10
          refine e_ite ?_ ?_
          · exact eqX7_most_J74 t ct S _ (fun l1 l2 l3 => TX7_most_L17 S n l1 l2 l3) ih l1 l2 l3 0
          · exact eqX7_most_J74 t ct S _ (fun l1 l2 l3 => TX7_most_L17 S n l1 l2 l3) ih l1 l2 l3 1
        · refine e_get (HH_gR rfl rfl) ?_
          refine e_bind (HH_aL rfl) ?_
          intro v4
          refine e_get (HH_gR rfl rfl) ?_
          refine e_bind (HH_aL rfl) ?_
          intro v6
          refine e_ite ?_ ?_
          · exact eqX7_most_J74 t ct S _ (fun l1 l2 l3 => TX7_most_L17 S n l1 l2 l3) ih l1 l2 l3 0
          · exact eqX7_most_J74 t ct S _ (fun l1 l2 l3 => TX7_most_L17 S n l1 l2 l3) ih l1 l2 l3 1
def TX7_most (a1 : Int32) (S : SS) : Option (Int32) := (TX7_isIn (Int32.toInt64 a1) 0 1).bind fun v1 =>
  (if v1 = 0 then some (-2) else
  TX7_most_L17 S fu a1 (-1) 0)
theorem eqX7_most (t : Nat) (ct : Nat → ClassId) (a1 : Int32) (S : SS) : X7_most (t + 64) a1 (HH t ct S) = (TX7_most a1 S).map id := by
  show EQ _ _ _
  unfold X7_most TX7_most
  refine e_get (HH_vO rfl) ?_
  refine e_call (eqX7_isIn t ct (Int32.toInt64 a1) 0 1) ?_
  intro v1
  refine e_ite ?_ ?_
  · exact e_ret rfl
  · exact eqX7_most_L17 t ct S fu a1 (-1) 0
def TX7_step_J49 (l2 : Int32) (S : SS) : Option (Int32 × SS) := (TX7_keep S).bind fun q4 =>
  some (l2, q4)
theorem eqX7_step_J49 (t : Nat) (ct : Nat → ClassId) : ∀ (l2 : Int32) (S : SS), EQ (X7_step_J49 (t + 64) l2 (HH t ct S)) (TX7_step_J49 l2 S) (hwI t ct) := by
  intro l2 S
  unfold X7_step_J49 TX7_step_J49
  refine e_call (eqX7_keep t ct S) ?_
  intro q4
  exact e_ret rfl
def TX7_step_L31 : Nat → Int32 → Int32 → SS → Option (Int32 × SS)
  | 0, _, _, _ => none
  | n + 1, l1, l2, S => (if l1 ≤ l2 then TX7_step_J49 l2 S else
  (TX7_goes S).bind fun q5 =>
  (if q5.1 = 0 then TX7_step_J49 l2 q5.2 else
  TX7_step_L31 n l1 (l2 + 1) q5.2))
theorem eqX7_step_L31 (t : Nat) (ct : Nat → ClassId) : ∀ (n : Nat), ∀ (l1 : Int32) (l2 : Int32) (S : SS), EQ (X7_step_L31 n (t + 64) l1 l2 (HH t ct S)) (TX7_step_L31 n l1 l2 S) (hwI t ct) := by
  intro n
  induction n with
  | zero => intro l1 l2 S; exact e_none
  | succ n ih =>
    intro l1 l2 S
    unfold X7_step_L31 TX7_step_L31
    refine e_ite ?_ ?_
    · exact eqX7_step_J49 t ct l2 S
    · refine e_call (eqX7_goes t ct S) ?_
      intro q5
      refine e_ite ?_ ?_
      · exact eqX7_step_J49 t ct l2 q5.2
      · exact ih l1 (l2 + 1) q5.2
def TX7_step (a1 : Int32) (S : SS) : Option (Int32 × SS) := (TX7_isIn (Int32.toInt64 a1) 1 40).bind fun v1 =>
  (if v1 = 0 then some ((-2), S) else
  (if (S.1 64 0) = 0 then some ((-3), S) else
  (TX7_think S).bind fun q3 =>
  TX7_step_L31 fu a1 0 q3))
theorem eqX7_step (t : Nat) (ct : Nat → ClassId) (a1 : Int32) (S : SS) : X7_step (t + 64) a1 (HH t ct S) = (TX7_step a1 S).map (hwI t ct) := by
  show EQ _ _ _
  unfold X7_step TX7_step
  refine e_get (HH_vO rfl) ?_
  refine e_call (eqX7_isIn t ct (Int32.toInt64 a1) 1 40) ?_
  intro v1
  refine e_ite ?_ ?_
  · exact e_ret rfl
  · refine e_get (HH_gI rfl rfl) ?_
    refine e_ite ?_ ?_
    · exact e_ret rfl
    · refine e_call (eqX7_think t ct S) ?_
      intro q3
      exact eqX7_step_L31 t ct fu a1 0 q3
def TX7_then (a1 : Int32) (a2 : Int32) (a3 : Int32) (S : SS) : Option (Int64 × SS) := (TX7_isIn (Int32.toInt64 a1) 0 40).bind fun v1 =>
  (if v1 = 0 then some ((-9223372036854775808), S) else
  (TX7_isCell a2 S).bind fun v2 =>
  (if v2 = 0 then some ((-9223372036854775808), S) else
  (TX7_isIn (Int32.toInt64 a3) 0 1).bind fun v3 =>
  (if v3 = 0 then some ((-9223372036854775808), S) else
  (TX7_goes_ a1 S).bind fun q4 =>
  (if q4.1 = 0 then some ((-9223372036854775808), q4.2) else
  (aget 8 (q4.2.2.2.2 75) a2).bind fun v6 =>
  (TX7_part v6 (q4.2.2.1 64 14) a3).bind fun v8 =>
  some (v8, q4.2)))))
theorem eqX7_then (t : Nat) (ct : Nat → ClassId) (a1 : Int32) (a2 : Int32) (a3 : Int32) (S : SS) : X7_then (t + 64) a1 a2 a3 (HH t ct S) = (TX7_then a1 a2 a3 S).map (hwL t ct) := by
  show EQ _ _ _
  unfold X7_then TX7_then
  refine e_get (HH_vO rfl) ?_
  refine e_call (eqX7_isIn t ct (Int32.toInt64 a1) 0 40) ?_
  intro v1
  refine e_ite ?_ ?_
  · exact e_ret rfl
  · refine e_call (eqX7_isCell t ct a2 S) ?_
    intro v2
    refine e_ite ?_ ?_
    · exact e_ret rfl
    · refine e_call (eqX7_isIn t ct (Int32.toInt64 a3) 0 1) ?_
      intro v3
      refine e_ite ?_ ?_
      · exact e_ret rfl
      · refine e_call (eqX7_goes_ t ct a1 S) ?_
        intro q4
        refine e_ite ?_ ?_
        · exact e_ret rfl
        · refine e_get (HH_gR rfl rfl) ?_
          refine e_bind (HH_aL rfl) ?_
          intro v6
          refine e_get (HH_gL rfl rfl) ?_
          refine e_call (eqX7_part t ct v6 (q4.2.2.1 64 14) a3) ?_
          intro v8
          exact e_ret rfl
def TX7_spent_L19 : Nat → Int32 → Int32 → SS → Option (Int32 × SS)
  | 0, _, _, _ => none
  | n + 1, l1, l2, S => (if 40 < l2 then some ((-1), S) else
  (if (S.1 64 0) ≤ 0 then some ((-1), S) else
  (TX7_goes S).bind fun q4 =>
  (if q4.1 = 0 then (if l1 = 0 then some (l2, q4.2) else
  some ((q4.2.1 64 20), q4.2)) else
  TX7_spent_L19 n l1 (l2 + 1) q4.2)))
theorem eqX7_spent_L19 (t : Nat) (ct : Nat → ClassId) : ∀ (n : Nat), ∀ (l1 : Int32) (l2 : Int32) (S : SS), EQ (X7_spent_L19 n (t + 64) l1 l2 (HH t ct S)) (TX7_spent_L19 n l1 l2 S) (hwI t ct) := by
  intro n
  induction n with
  | zero => intro l1 l2 S; exact e_none
  | succ n ih =>
    intro l1 l2 S
    unfold X7_spent_L19 TX7_spent_L19
    refine e_ite ?_ ?_
    · exact e_ret rfl
    · refine e_get (HH_gI rfl rfl) ?_
      refine e_ite ?_ ?_
      · exact e_ret rfl
      · refine e_call (eqX7_goes t ct S) ?_
        intro q4
        refine e_ite ?_ ?_
        · refine e_ite ?_ ?_
          · exact e_ret rfl
          · refine e_get (HH_gI rfl rfl) ?_
            exact e_ret rfl
        · exact ih l1 (l2 + 1) q4.2
def TX7_spent (a1 : Int32) (S : SS) : Option (Int32 × SS) := (TX7_isIn (Int32.toInt64 a1) 0 1).bind fun v1 =>
  (if v1 = 0 then some ((-2), S) else
  (TX7_think S).bind fun q2 =>
  TX7_spent_L19 fu a1 1 q2)
theorem eqX7_spent (t : Nat) (ct : Nat → ClassId) (a1 : Int32) (S : SS) : X7_spent (t + 64) a1 (HH t ct S) = (TX7_spent a1 S).map (hwI t ct) := by
  show EQ _ _ _
  unfold X7_spent TX7_spent
  refine e_get (HH_vO rfl) ?_
  refine e_call (eqX7_isIn t ct (Int32.toInt64 a1) 0 1) ?_
  intro v1
  refine e_ite ?_ ?_
  · exact e_ret rfl
  · refine e_call (eqX7_think t ct S) ?_
    intro q2
    exact eqX7_spent_L19 t ct fu a1 1 q2
def TX7_rises_L31 : Nat → Int32 → Int32 → SS → Option (Int32 × SS)
  | 0, _, _, _ => none
  | n + 1, l1, l2, S => (if l1 < l2 then some ((-1), S) else
  (TX7_greatest S).bind fun v4 =>
  (TX7_goes S).bind fun q6 =>
  (if q6.1 = 0 then some ((-1), q6.2) else
  (TX7_greatest q6.2).bind fun v7 =>
  (X7_isMore 200 v7 (q6.2.2.1 64 14) v4 (S.2.1 64 14)).bind fun v9 =>
  (if v9 = 0 then TX7_rises_L31 n l1 (l2 + 1) q6.2 else
  some (l2, q6.2))))
theorem eqX7_rises_L31 (t : Nat) (ct : Nat → ClassId) : ∀ (n : Nat), ∀ (l1 : Int32) (l2 : Int32) (S : SS), EQ (X7_rises_L31 n (t + 64) l1 l2 (HH t ct S)) (TX7_rises_L31 n l1 l2 S) (hwI t ct) := by
  intro n
  induction n with
  | zero => intro l1 l2 S; exact e_none
  | succ n ih =>
    intro l1 l2 S
    unfold X7_rises_L31 TX7_rises_L31
    refine e_ite ?_ ?_
    · exact e_ret rfl
    · refine e_call (eqX7_greatest t ct S) ?_
      intro v4
      refine e_get (HH_gL rfl rfl) ?_
      refine e_call (eqX7_goes t ct S) ?_
      intro q6
      refine e_ite ?_ ?_
      · exact e_ret rfl
      · refine e_call (eqX7_greatest t ct q6.2) ?_
        intro v7
        refine e_get (HH_gL rfl rfl) ?_
        refine e_bind rfl ?_
        intro v9
        refine e_ite ?_ ?_
        · exact ih l1 (l2 + 1) q6.2
        · exact e_ret rfl
def TX7_rises (a1 : Int32) (S : SS) : Option (Int32 × SS) := (TX7_isIn (Int32.toInt64 a1) 1 40).bind fun v1 =>
  (if v1 = 0 then some ((-2), S) else
  (if (S.1 64 0) = 0 then some ((-3), S) else
  (TX7_think S).bind fun q3 =>
  TX7_rises_L31 fu a1 1 q3))
theorem eqX7_rises (t : Nat) (ct : Nat → ClassId) (a1 : Int32) (S : SS) : X7_rises (t + 64) a1 (HH t ct S) = (TX7_rises a1 S).map (hwI t ct) := by
  show EQ _ _ _
  unfold X7_rises TX7_rises
  refine e_get (HH_vO rfl) ?_
  refine e_call (eqX7_isIn t ct (Int32.toInt64 a1) 1 40) ?_
  intro v1
  refine e_ite ?_ ?_
  · exact e_ret rfl
  · refine e_get (HH_gI rfl rfl) ?_
    refine e_ite ?_ ?_
    · exact e_ret rfl
    · refine e_call (eqX7_think t ct S) ?_
      intro q3
      exact eqX7_rises_L31 t ct fu a1 1 q3
def TX7_calm_L31 : Nat → Int32 → Int32 → SS → Option (Int32 × SS)
  | 0, _, _, _ => none
  | n + 1, l1, l2, S => (if 40 < l2 then some ((-1), S) else
  (TX7_greatest S).bind fun v4 =>
  (TX7_least S).bind fun v5 =>
  (if ((Int32.toInt64 l1) * (S.2.1 64 14)) < (v4 - v5) then (TX7_goes S).bind fun q7 =>
  (if q7.1 = 0 then some ((-1), q7.2) else
  TX7_calm_L31 n l1 (l2 + 1) q7.2) else
  some (l2, S)))
theorem eqX7_calm_L31 (t : Nat) (ct : Nat → ClassId) : ∀ (n : Nat), ∀ (l1 : Int32) (l2 : Int32) (S : SS), EQ (X7_calm_L31 n (t + 64) l1 l2 (HH t ct S)) (TX7_calm_L31 n l1 l2 S) (hwI t ct) := by
  intro n
  induction n with
  | zero => intro l1 l2 S; exact e_none
  | succ n ih =>
    intro l1 l2 S
    unfold X7_calm_L31 TX7_calm_L31
    refine e_ite ?_ ?_
    · exact e_ret rfl
    · refine e_call (eqX7_greatest t ct S) ?_
      intro v4
      refine e_call (eqX7_least t ct S) ?_
      intro v5
      refine e_get (HH_gL rfl rfl) ?_
      refine e_ite ?_ ?_
      · refine e_call (eqX7_goes t ct S) ?_
        intro q7
        refine e_ite ?_ ?_
        · exact e_ret rfl
        · exact ih l1 (l2 + 1) q7.2
      · exact e_ret rfl
def TX7_calm (a1 : Int32) (S : SS) : Option (Int32 × SS) := (TX7_isIn (Int32.toInt64 a1) 0 999).bind fun v1 =>
  (if v1 = 0 then some ((-2), S) else
  (if (S.1 64 0) = 0 then some ((-3), S) else
  (TX7_think S).bind fun q3 =>
  TX7_calm_L31 fu a1 0 q3))
theorem eqX7_calm (t : Nat) (ct : Nat → ClassId) (a1 : Int32) (S : SS) : X7_calm (t + 64) a1 (HH t ct S) = (TX7_calm a1 S).map (hwI t ct) := by
  show EQ _ _ _
  unfold X7_calm TX7_calm
  refine e_get (HH_vO rfl) ?_
  refine e_call (eqX7_isIn t ct (Int32.toInt64 a1) 0 999) ?_
  intro v1
  refine e_ite ?_ ?_
  · exact e_ret rfl
  · refine e_get (HH_gI rfl rfl) ?_
    refine e_ite ?_ ?_
    · exact e_ret rfl
    · refine e_call (eqX7_think t ct S) ?_
      intro q3
      exact eqX7_calm_L31 t ct fu a1 0 q3
