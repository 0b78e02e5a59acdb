/-! Terms over the four pictures. Written by wip/whole/decompT.py. -/
def TX7_pulse (a1 : Int32) (a2 : Int32) (a3 : Int32) (S : SS) : Option (Int32 × SS) := (TX7_isCell a1 S).bind fun v1 =>
  (if v1 = 0 then some ((-2), S) else
  (TX7_isIn (Int32.toInt64 a2) 1 20).bind fun v2 =>
  (if v2 = 0 then some ((-2), S) else
  (TX7_isIn (Int32.toInt64 a3) (-99) 99).bind fun v3 =>
  (if v3 = 0 then some ((-2), S) else
  (if (S.1 64 9) = 12 then some ((-4), S) else
  (if jin (S.1 64 9) 12 then letS (sAI S 72 (Int32.toNatClampNeg (S.1 64 9)) a1) fun S7 =>
  (if jin (S7.1 64 9) 12 then letS (sAI S7 73 (Int32.toNatClampNeg (S7.1 64 9)) a2) fun S10 =>
  (if jin (S10.1 64 9) 12 then letS (sAI S10 74 (Int32.toNatClampNeg (S10.1 64 9)) a3) fun S13 =>
  letS (sFI S13 64 9 ((S13.1 64 9) + 1)) fun S15 =>
  some ((S15.1 64 9), S15) else
  none) else
  none) else
  none)))))
theorem eqX7_pulse (t : Nat) (ct : Nat → ClassId) (a1 : Int32) (a2 : Int32) (a3 : Int32) (S : SS) : X7_pulse (t + 64) a1 a2 a3 (HH t ct S) = (TX7_pulse a1 a2 a3 S).map (hwI t ct) := by
  show EQ _ _ _
  unfold X7_pulse TX7_pulse
  refine e_get (HH_vO rfl) ?_
  refine e_call (eqX7_isCell t ct a1 S) ?_
  intro v1
  refine e_ite ?_ ?_
  · exact e_ret rfl
  · refine e_call (eqX7_isIn t ct (Int32.toInt64 a2) 1 20) ?_
    intro v2
    refine e_ite ?_ ?_
    · exact e_ret rfl
    · refine e_call (eqX7_isIn t ct (Int32.toInt64 a3) (-99) 99) ?_
      intro v3
      refine e_ite ?_ ?_
      · exact e_ret rfl
      · refine e_get (HH_gI rfl rfl) ?_
        refine e_ite ?_ ?_
        · exact e_ret rfl
        · refine e_get (HH_gR rfl rfl) ?_
          refine e_get (HH_gI rfl rfl) ?_
          refine e_wrS (HH_wI rfl) ?_
          intro S7
          refine e_get (HH_gR rfl rfl) ?_
          refine e_get (HH_gI rfl rfl) ?_
          refine e_wrS (HH_wI rfl) ?_
          intro S10
          refine e_get (HH_gR rfl rfl) ?_
          refine e_get (HH_gI rfl rfl) ?_
          refine e_wrS (HH_wI rfl) ?_
          intro S13
          refine e_get (HH_gI rfl rfl) ?_
          refine e_put (HH_pI rfl rfl) ?_
          intro S15
          refine e_get (HH_gI rfl rfl) ?_
          exact e_ret rfl
def TX7_pulseOf (a1 : Int32) (a2 : Int32) (S : SS) : Option (Int32) := (TX7_isIn (Int32.toInt64 a1) 0 (Int32.toInt64 ((S.1 64 9) - 1))).bind fun v2 =>
  (if v2 = 0 then some (-1000) else
  (TX7_isIn (Int32.toInt64 a2) 0 2).bind fun v3 =>
  (if v3 = 0 then some (-1000) else
  (if a2 = 0 then (aget 12 (S.2.2.1 72) a1).bind fun v9 =>
  some v9 else
  (if a2 = 1 then (aget 12 (S.2.2.1 73) a1).bind fun v7 =>
  some v7 else
  (aget 12 (S.2.2.1 74) a1).bind fun v5 =>
  some v5))))
theorem eqX7_pulseOf (t : Nat) (ct : Nat → ClassId) (a1 : Int32) (a2 : Int32) (S : SS) : X7_pulseOf (t + 64) a1 a2 (HH t ct S) = (TX7_pulseOf a1 a2 S).map id := by
  show EQ _ _ _
  unfold X7_pulseOf TX7_pulseOf
  refine e_get (HH_vO rfl) ?_
  refine e_get (HH_gI rfl rfl) ?_
  refine e_call (eqX7_isIn t ct (Int32.toInt64 a1) 0 (Int32.toInt64 ((S.1 64 9) - 1))) ?_
  intro v2
  refine e_ite ?_ ?_
  · exact e_ret rfl
  · refine e_call (eqX7_isIn t ct (Int32.toInt64 a2) 0 2) ?_
    intro v3
    refine e_ite ?_ ?_
    · exact e_ret rfl
    · refine e_ite ?_ ?_
      · refine e_get (HH_gR rfl rfl) ?_
        refine e_bind (HH_aI rfl) ?_
        intro v9
        exact e_ret rfl
      · refine e_ite ?_ ?_
        · refine e_get (HH_gR rfl rfl) ?_
          refine e_bind (HH_aI rfl) ?_
          intro v7
          exact e_ret rfl
        · refine e_get (HH_gR rfl rfl) ?_
          refine e_bind (HH_aI rfl) ?_
          intro v5
          exact e_ret rfl
def TX7_hush (a1 : Int32) (S : SS) : Option (Int32 × SS) := (TX7_isCell a1 S).bind fun v1 =>
  (if v1 = 0 then some ((-2), S) else
  (TX7_hushed a1 S).bind fun q2 =>
  some (q2.1, q2.2))
theorem eqX7_hush (t : Nat) (ct : Nat → ClassId) (a1 : Int32) (S : SS) : X7_hush (t + 64) a1 (HH t ct S) = (TX7_hush a1 S).map (hwI t ct) := by
  show EQ _ _ _
  unfold X7_hush TX7_hush
  refine e_get (HH_vO rfl) ?_
  refine e_call (eqX7_isCell t ct a1 S) ?_
  intro v1
  refine e_ite ?_ ?_
  · exact e_ret rfl
  · refine e_call (eqX7_hushed t ct a1 S) ?_
    intro q2
    exact e_ret rfl
def TX7_brings_J50 (S : SS) (l1 : Int32) (l2 : Int32) (l3 : Int32) (l4 : Int64) (s0 : Int64) : Option (Int64) := (TX7_fin l1 S).bind fun v2 =>
  (aget 2 (S.2.2.1 71) 1).bind fun v4 =>
  (if l1 = l2 then some (((l4 + s0) + (Int32.toInt64 (v2 * v4))) + (Int32.toInt64 l3)) else
  (aget 8 (S.2.2.1 68) l1).bind fun v6 =>
  some (((l4 + s0) + (Int32.toInt64 (v2 * v4))) + (Int32.toInt64 v6)))
theorem eqX7_brings_J50 (t : Nat) (ct : Nat → ClassId) (S : SS) : ∀ (l1 : Int32) (l2 : Int32) (l3 : Int32) (l4 : Int64) (s0 : Int64), EQ (X7_brings_J50 (HH t ct S) (t + 64) l1 l2 l3 l4 s0) (TX7_brings_J50 S l1 l2 l3 l4 s0) id := by
  intro l1 l2 l3 l4 s0
  unfold X7_brings_J50 TX7_brings_J50
  refine e_call (eqX7_fin t ct l1 S) ?_
  intro v2
  refine e_get (HH_gR rfl rfl) ?_
  refine e_bind (HH_aI rfl) ?_
  intro v4
  refine e_ite ?_ ?_
  · exact e_ret rfl
  · refine e_get (HH_gR rfl rfl) ?_
    refine e_bind (HH_aI rfl) ?_
    intro v6
    exact e_ret rfl
def TX7_brings_J21 (S : SS) (l1 : Int32) (l2 : Int32) (l3 : Int32) (s0 : Int64) : Option (Int64) := (if l1 = ((S.1 64 0) - 1) then (TX7_leads l1 S).bind fun v7 =>
  (aget 2 (S.2.2.1 70) 1).bind fun v9 =>
  TX7_brings_J50 S l1 l2 l3 s0 (Int32.toInt64 (v7 * v9)) else
  TX7_brings_J50 S l1 l2 l3 s0 0)
theorem eqX7_brings_J21 (t : Nat) (ct : Nat → ClassId) (S : SS) : ∀ (l1 : Int32) (l2 : Int32) (l3 : Int32) (s0 : Int64), EQ (X7_brings_J21 (HH t ct S) (t + 64) l1 l2 l3 s0) (TX7_brings_J21 S l1 l2 l3 s0) id := by
  intro l1 l2 l3 s0
  unfold X7_brings_J21 TX7_brings_J21
  refine e_get (HH_gI rfl rfl) ?_
  refine e_ite ?_ ?_
  · refine e_call (eqX7_leads t ct l1 S) ?_
    intro v7
    refine e_get (HH_gR rfl rfl) ?_
    refine e_bind (HH_aI rfl) ?_
    intro v9
    exact eqX7_brings_J50 t ct S l1 l2 l3 s0 (Int32.toInt64 (v7 * v9))
  · exact eqX7_brings_J50 t ct S l1 l2 l3 s0 0
def TX7_brings (a1 : Int32) (a2 : Int32) (a3 : Int32) (S : SS) : Option (Int64) := (if a1 = 0 then (TX7_leads (-1) S).bind fun v10 =>
  (aget 2 (S.2.2.1 70) 0).bind fun v12 =>
  TX7_brings_J21 S a1 a2 a3 (Int32.toInt64 (v10 * v12)) else
  TX7_brings_J21 S a1 a2 a3 0)
theorem eqX7_brings (t : Nat) (ct : Nat → ClassId) (a1 : Int32) (a2 : Int32) (a3 : Int32) (S : SS) : X7_brings (t + 64) a1 a2 a3 (HH t ct S) = (TX7_brings a1 a2 a3 S).map id := by
  show EQ _ _ _
  unfold X7_brings TX7_brings
  refine e_get (HH_vO rfl) ?_
  refine e_ite ?_ ?_
  · refine e_call (eqX7_leads t ct (-1) S) ?_
    intro v10
    refine e_get (HH_gR rfl rfl) ?_
    refine e_bind (HH_aI rfl) ?_
    intro v12
    exact eqX7_brings_J21 t ct S a1 a2 a3 (Int32.toInt64 (v10 * v12))
  · exact eqX7_brings_J21 t ct S a1 a2 a3 0
def TX7_steadies_L281 (r196 : Int32 → Int32 → Int32 → SS → Option (Int32 × SS)) : Nat → Int32 → Int32 → Int32 → Int64 → Int64 → Int32 → SS → Option (Int32 × SS)
  | 0, _, _, _, _, _, _, _ => none
  | n + 1, l1, l2, l3, l4, l6, l8, S => (if l8 < 0 then (if jin l3 8 then letS (sAL S 82 (Int32.toNatClampNeg l3) l4) fun S19 =>
  r196 l1 l2 (l3 + 1) S19 else
  none) else
  (TX7_leads l8 S).bind fun v20 =>
  (aget 9 (S.2.2.2 80) l8).bind fun v22 =>
  (aget 10 (S.2.2.2 81) (l3 + 1)).bind fun v24 =>
  (TX7_brings l8 l1 l2 S).bind fun v25 =>
  TX7_steadies_L281 r196 n l1 l2 l3 (l4 + ((((l6 * (Int32.toInt64 v20)) * v22) * v24) * v25)) (l6 * (Int32.toInt64 v20)) (l8 + (-1)) S)
theorem eqX7_steadies_L281 (t : Nat) (ct : Nat → ClassId) (g196 : Nat → Int32 → Int32 → Int32 → Hs → Option (Int32 × Hs)) (r196 : Int32 → Int32 → Int32 → SS → Option (Int32 × SS)) (hr196 : ∀ (l1 : Int32) (l2 : Int32) (l3 : Int32) (S : SS), EQ (g196 (t + 64) l1 l2 l3 (HH t ct S)) (r196 l1 l2 l3 S) (hwI t ct)) : ∀ (n : Nat), ∀ (l1 : Int32) (l2 : Int32) (l3 : Int32) (l4 : Int64) (l6 : Int64) (l8 : Int32) (S : SS), EQ (X7_steadies_L281 g196 n (t + 64) l1 l2 l3 l4 l6 l8 (HH t ct S)) (TX7_steadies_L281 r196 n l1 l2 l3 l4 l6 l8 S) (hwI t ct) := by
  intro n
  induction n with
  | zero => intro l1 l2 l3 l4 l6 l8 S; exact e_none
  | succ n ih =>
    intro l1 l2 l3 l4 l6 l8 S
    unfold X7_steadies_L281 TX7_steadies_L281
    refine e_ite ?_ ?_
    · refine e_get (HH_gR rfl rfl) ?_
      refine e_wrS (HH_wL rfl) ?_
      intro S19
      exact hr196 l1 l2 (l3 + 1) S19
    · refine e_call (eqX7_leads t ct l8 S) ?_
      intro v20
      refine e_get (HH_gR rfl rfl) ?_
      refine e_bind (HH_aL rfl) ?_
      intro v22
      refine e_get (HH_gR rfl rfl) ?_
      refine e_bind (HH_aL rfl) ?_
      intro v24
      refine e_call (eqX7_brings t ct l8 l1 l2 S) ?_
      intro v25
      exact ih l1 l2 l3 (l4 + ((((l6 * (Int32.toInt64 v20)) * v22) * v24) * v25)) (l6 * (Int32.toInt64 v20)) (l8 + (-1)) S
def TX7_steadies_L213 (r196 : Int32 → Int32 → Int32 → SS → Option (Int32 × SS)) : Nat → Int32 → Int32 → Int32 → Int64 → Int64 → Int32 → SS → Option (Int32 × SS)
  | 0, _, _, _, _, _, _, _ => none
  | n + 1, l1, l2, l3, l4, l6, l8, S => (if (S.1 64 0) ≤ l8 then TX7_steadies_L281 r196 fu l1 l2 l3 l4 1 (l3 - 1) S else
  (aget 9 (S.2.2.2 80) l3).bind fun v27 =>
  (aget 10 (S.2.2.2 81) (l8 + 1)).bind fun v29 =>
  (TX7_brings l8 l1 l2 S).bind fun v30 =>
  (TX7_leads l8 S).bind fun v31 =>
  TX7_steadies_L213 r196 n l1 l2 l3 (l4 + (((l6 * v27) * v29) * v30)) (l6 * (Int32.toInt64 v31)) (l8 + 1) S)
theorem eqX7_steadies_L213 (t : Nat) (ct : Nat → ClassId) (g196 : Nat → Int32 → Int32 → Int32 → Hs → Option (Int32 × Hs)) (r196 : Int32 → Int32 → Int32 → SS → Option (Int32 × SS)) (hr196 : ∀ (l1 : Int32) (l2 : Int32) (l3 : Int32) (S : SS), EQ (g196 (t + 64) l1 l2 l3 (HH t ct S)) (r196 l1 l2 l3 S) (hwI t ct)) : ∀ (n : Nat), ∀ (l1 : Int32) (l2 : Int32) (l3 : Int32) (l4 : Int64) (l6 : Int64) (l8 : Int32) (S : SS), EQ (X7_steadies_L213 g196 n (t + 64) l1 l2 l3 l4 l6 l8 (HH t ct S)) (TX7_steadies_L213 r196 n l1 l2 l3 l4 l6 l8 S) (hwI t ct) := by
  intro n
  induction n with
  | zero => intro l1 l2 l3 l4 l6 l8 S; exact e_none
  | succ n ih =>
    intro l1 l2 l3 l4 l6 l8 S
    unfold X7_steadies_L213 TX7_steadies_L213
    refine e_get (HH_gI rfl rfl) ?_
    refine e_ite ?_ ?_
    · exact eqX7_steadies_L281 t ct _ r196 hr196 fu l1 l2 l3 l4 1 (l3 - 1) S
    · refine e_get (HH_gR rfl rfl) ?_
      refine e_bind (HH_aL rfl) ?_
      intro v27
      refine e_get (HH_gR rfl rfl) ?_
      refine e_bind (HH_aL rfl) ?_
      intro v29
      refine e_call (eqX7_brings t ct l8 l1 l2 S) ?_
      intro v30
      refine e_call (eqX7_leads t ct l8 S) ?_
      intro v31
      exact ih l1 l2 l3 (l4 + (((l6 * v27) * v29) * v30)) (l6 * (Int32.toInt64 v31)) (l8 + 1) S
def TX7_steadies_L196 : Nat → Int32 → Int32 → Int32 → SS → Option (Int32 × SS)
  | 0, _, _, _, _ => none
  | n + 1, l1, l2, l3, S => (if (S.1 64 0) ≤ l3 then (if (S.2.1 64 24) ≤ 0 then (zb 0).bind fun v15 => some (v15, S) else
  (zb 1).bind fun v16 => some (v16, S)) else
  TX7_steadies_L213 (fun l1 l2 l3 S => TX7_steadies_L196 n l1 l2 l3 S) fu l1 l2 l3 0 1 l3 S)
theorem eqX7_steadies_L196 (t : Nat) (ct : Nat → ClassId) : ∀ (n : Nat), ∀ (l1 : Int32) (l2 : Int32) (l3 : Int32) (S : SS), EQ (X7_steadies_L196 n (t + 64) l1 l2 l3 (HH t ct S)) (TX7_steadies_L196 n l1 l2 l3 S) (hwI t ct) := by
  intro n
  induction n with
  | zero => intro l1 l2 l3 S; exact e_none
  | succ n ih =>
    intro l1 l2 l3 S
    unfold X7_steadies_L196 TX7_steadies_L196
    refine e_get (HH_gI rfl rfl) ?_
    refine e_ite ?_ ?_
    · refine e_get (HH_gL rfl rfl) ?_
      refine e_ite ?_ ?_
      · exact e_bind rfl (fun _ => e_ret rfl)
      · exact e_bind rfl (fun _ => e_ret rfl)
    · exact eqX7_steadies_L213 t ct _ (fun l1 l2 l3 S => TX7_steadies_L196 n l1 l2 l3 S) ih fu l1 l2 l3 0 1 l3 S
def TX7_steadies_J191 (l1 : Int32) (l2 : Int32) (s0 : Int64) (S : SS) : Option (Int32 × SS) := letS (sFL S 64 24 s0) fun S12 =>
  TX7_steadies_L196 fu l1 l2 0 S12
theorem eqX7_steadies_J191 (t : Nat) (ct : Nat → ClassId) : ∀ (l1 : Int32) (l2 : Int32) (s0 : Int64) (S : SS), EQ (X7_steadies_J191 (t + 64) l1 l2 s0 (t + 64) (HH t ct S)) (TX7_steadies_J191 l1 l2 s0 S) (hwI t ct) := by
  intro l1 l2 s0 S
  unfold X7_steadies_J191 TX7_steadies_J191
  refine e_put (HH_pL rfl rfl) ?_
  intro S12
  exact eqX7_steadies_L196 t ct fu l1 l2 0 S12
def TX7_steadies_J138 (r99 : Int32 → Int32 → Int32 → SS → Option (Int32 × SS)) (l1 : Int32) (l2 : Int32) (l3 : Int32) (s0 : Int64) (S : SS) : Option (Int32 × SS) := (TX7_together l3 S).bind fun v34 =>
  (aget 10 (S.2.2.2 81) (l3 + 1)).bind fun v36 =>
  (if jin l3 10 then letS (sAL S 81 (Int32.toNatClampNeg l3) (((Int32.toInt64 v34) * v36) - s0)) fun S37 =>
  r99 l1 l2 (l3 + (-1)) S37 else
  none)
theorem eqX7_steadies_J138 (t : Nat) (ct : Nat → ClassId) (g99 : Nat → Int32 → Int32 → Int32 → Hs → Option (Int32 × Hs)) (r99 : Int32 → Int32 → Int32 → SS → Option (Int32 × SS)) (hr99 : ∀ (l1 : Int32) (l2 : Int32) (l3 : Int32) (S : SS), EQ (g99 (t + 64) l1 l2 l3 (HH t ct S)) (r99 l1 l2 l3 S) (hwI t ct)) : ∀ (l1 : Int32) (l2 : Int32) (l3 : Int32) (s0 : Int64) (S : SS), EQ (X7_steadies_J138 g99 (t + 64) l1 l2 l3 s0 (HH t ct S)) (TX7_steadies_J138 r99 l1 l2 l3 s0 S) (hwI t ct) := by
  intro l1 l2 l3 s0 S
  unfold X7_steadies_J138 TX7_steadies_J138
  refine e_get (HH_gR rfl rfl) ?_
  refine e_call (eqX7_together t ct l3 S) ?_
  intro v34
  refine e_get (HH_gR rfl rfl) ?_
  refine e_bind (HH_aL rfl) ?_
  intro v36
  refine e_wrS (HH_wL rfl) ?_
  intro S37
  exact hr99 l1 l2 (l3 + (-1)) S37
def TX7_steadies_L99 : Nat → Int32 → Int32 → Int32 → SS → Option (Int32 × SS)
  | 0, _, _, _, _ => none
  | n + 1, l1, l2, l3, S => (if l3 < 0 then (if (S.1 64 0) = 0 then TX7_steadies_J191 l1 l2 0 S else
  (aget 9 (S.2.2.2 80) (S.1 64 0)).bind fun v11 =>
  TX7_steadies_J191 l1 l2 v11 S) else
  (if ((S.1 64 0) - 1) ≤ l3 then TX7_steadies_J138 (fun l1 l2 l3 S => TX7_steadies_L99 n l1 l2 l3 S) l1 l2 l3 0 S else
  (TX7_leads l3 S).bind fun v38 =>
  (TX7_leads l3 S).bind fun v39 =>
  (aget 10 (S.2.2.2 81) (l3 + 2)).bind fun v41 =>
  TX7_steadies_J138 (fun l1 l2 l3 S => TX7_steadies_L99 n l1 l2 l3 S) l1 l2 l3 ((Int32.toInt64 (v38 * v39)) * v41) S))
theorem eqX7_steadies_L99 (t : Nat) (ct : Nat → ClassId) : ∀ (n : Nat), ∀ (l1 : Int32) (l2 : Int32) (l3 : Int32) (S : SS), EQ (X7_steadies_L99 n (t + 64) l1 l2 l3 (HH t ct S)) (TX7_steadies_L99 n l1 l2 l3 S) (hwI t ct) := by
  intro n
  induction n with
  | zero => intro l1 l2 l3 S; exact e_none
  | succ n ih =>
    intro l1 l2 l3 S
    unfold X7_steadies_L99 TX7_steadies_L99
    refine e_ite ?_ ?_
    · refine e_get (HH_gI rfl rfl) ?_
      refine e_ite ?_ ?_
      · exact eqX7_steadies_J191 t ct l1 l2 0 S
      · refine e_get (HH_gR rfl rfl) ?_
        refine e_get (HH_gI rfl rfl) ?_
        refine e_bind (HH_aL rfl) ?_
        intro v11
        exact eqX7_steadies_J191 t ct l1 l2 v11 S
    · refine e_get (HH_gI rfl rfl) ?_
      refine e_ite ?_ ?_
      · exact eqX7_steadies_J138 t ct _ (fun l1 l2 l3 S => TX7_steadies_L99 n l1 l2 l3 S) ih l1 l2 l3 0 S
      · refine e_call (eqX7_leads t ct l3 S) ?_
        intro v38
        refine e_call (eqX7_leads t ct l3 S) ?_
        intro v39
        refine e_get (HH_gR rfl rfl) ?_
        refine e_bind (HH_aL rfl) ?_
        intro v41
        exact eqX7_steadies_J138 t ct _ (fun l1 l2 l3 S => TX7_steadies_L99 n l1 l2 l3 S) ih l1 l2 l3 ((Int32.toInt64 (v38 * v39)) * v41) S
def TX7_steadies_J50 (r9 : Int32 → Int32 → Int32 → SS → Option (Int32 × SS)) (l1 : Int32) (l2 : Int32) (l3 : Int32) (s0 : Int64) (S : SS) : Option (Int32 × SS) := (TX7_together l3 S).bind fun v43 =>
  (aget 9 (S.2.2.2 80) l3).bind fun v45 =>
  (if jin (l3 + 1) 9 then letS (sAL S 80 (Int32.toNatClampNeg (l3 + 1)) (((Int32.toInt64 v43) * v45) - s0)) fun S46 =>
  r9 l1 l2 (l3 + 1) S46 else
  none)
theorem eqX7_steadies_J50 (t : Nat) (ct : Nat → ClassId) (g9 : Nat → Int32 → Int32 → Int32 → Hs → Option (Int32 × Hs)) (r9 : Int32 → Int32 → Int32 → SS → Option (Int32 × SS)) (hr9 : ∀ (l1 : Int32) (l2 : Int32) (l3 : Int32) (S : SS), EQ (g9 (t + 64) l1 l2 l3 (HH t ct S)) (r9 l1 l2 l3 S) (hwI t ct)) : ∀ (l1 : Int32) (l2 : Int32) (l3 : Int32) (s0 : Int64) (S : SS), EQ (X7_steadies_J50 g9 (t + 64) l1 l2 l3 s0 (HH t ct S)) (TX7_steadies_J50 r9 l1 l2 l3 s0 S) (hwI t ct) := by
  intro l1 l2 l3 s0 S
  unfold X7_steadies_J50 TX7_steadies_J50
  refine e_get (HH_gR rfl rfl) ?_
  refine e_call (eqX7_together t ct l3 S) ?_
  intro v43
  refine e_get (HH_gR rfl rfl) ?_
  refine e_bind (HH_aL rfl) ?_
  intro v45
  refine e_wrS (HH_wL rfl) ?_
  intro S46
  exact hr9 l1 l2 (l3 + 1) S46
def TX7_steadies_L9 : Nat → Int32 → Int32 → Int32 → SS → Option (Int32 × SS)
  | 0, _, _, _, _ => none
  | n + 1, l1, l2, l3, S => (if (S.1 64 0) ≤ l3 then (if jin (S.1 64 0) 10 then letS (sAL S 81 (Int32.toNatClampNeg (S.1 64 0)) 1) fun S6 =>
  TX7_steadies_L99 fu l1 l2 ((S6.1 64 0) - 1) S6 else
  none) else
  (if l3 ≤ 0 then TX7_steadies_J50 (fun l1 l2 l3 S => TX7_steadies_L9 n l1 l2 l3 S) l1 l2 l3 0 S else
  (TX7_leads (l3 - 1) S).bind fun v47 =>
  (TX7_leads (l3 - 1) S).bind fun v48 =>
  (aget 9 (S.2.2.2 80) (l3 - 1)).bind fun v50 =>
  TX7_steadies_J50 (fun l1 l2 l3 S => TX7_steadies_L9 n l1 l2 l3 S) l1 l2 l3 ((Int32.toInt64 (v47 * v48)) * v50) S))
theorem eqX7_steadies_L9 (t : Nat) (ct : Nat → ClassId) : ∀ (n : Nat), ∀ (l1 : Int32) (l2 : Int32) (l3 : Int32) (S : SS), EQ (X7_steadies_L9 n (t + 64) l1 l2 l3 (HH t ct S)) (TX7_steadies_L9 n l1 l2 l3 S) (hwI t ct) := by
  intro n
  induction n with
  | zero => intro l1 l2 l3 S; exact e_none
  | succ n ih =>
    intro l1 l2 l3 S
    unfold X7_steadies_L9 TX7_steadies_L9
    refine e_get (HH_gI rfl rfl) ?_
    refine e_ite ?_ ?_
    · refine e_get (HH_gR rfl rfl) ?_
      refine e_get (HH_gI rfl rfl) ?_
      refine e_wrS (HH_wL rfl) ?_
      intro S6
      refine e_get (HH_gI rfl rfl) ?_
      exact eqX7_steadies_L99 t ct fu l1 l2 ((S6.1 64 0) - 1) S6
    · refine e_ite ?_ ?_
      · exact eqX7_steadies_J50 t ct _ (fun l1 l2 l3 S => TX7_steadies_L9 n l1 l2 l3 S) ih l1 l2 l3 0 S
      · refine e_call (eqX7_leads t ct (l3 - 1) S) ?_
        intro v47
        refine e_call (eqX7_leads t ct (l3 - 1) S) ?_
        intro v48
        refine e_get (HH_gR rfl rfl) ?_
        refine e_bind (HH_aL rfl) ?_
        intro v50
        exact eqX7_steadies_J50 t ct _ (fun l1 l2 l3 S => TX7_steadies_L9 n l1 l2 l3 S) ih l1 l2 l3 ((Int32.toInt64 (v47 * v48)) * v50) S
def TX7_steadies (a1 : Int32) (a2 : Int32) (S : SS) : Option (Int32 × SS) := (if jin 0 9 then letS (sAL S 80 (Int32.toNatClampNeg 0) 1) fun S2 =>
  TX7_steadies_L9 fu a1 a2 0 S2 else
  none)
theorem eqX7_steadies (t : Nat) (ct : Nat → ClassId) (a1 : Int32) (a2 : Int32) (S : SS) : X7_steadies (t + 64) a1 a2 (HH t ct S) = (TX7_steadies a1 a2 S).map (hwI t ct) := by
  show EQ _ _ _
  unfold X7_steadies TX7_steadies
  refine e_get (HH_vO rfl) ?_
  refine e_get (HH_gR rfl rfl) ?_
  refine e_wrS (HH_wL rfl) ?_
  intro S2
  exact eqX7_steadies_L9 t ct fu a1 a2 0 S2
def TX7_steady (a1 : Int32) (a2 : Int32) (S : SS) : Option (Int64 × SS) := (TX7_isCell a1 S).bind fun v1 =>
  (if v1 = 0 then some ((-9223372036854775808), S) else
  (TX7_isIn (Int32.toInt64 a2) 0 1).bind fun v2 =>
  (if v2 = 0 then some ((-9223372036854775808), S) else
  (TX7_steadies (-1) 0 S).bind fun q3 =>
  (if q3.1 = 0 then some ((-9223372036854775808), q3.2) else
  (aget 8 (q3.2.2.2.2 82) a1).bind fun v5 =>
  (TX7_part v5 (q3.2.2.1 64 24) a2).bind fun v7 =>
  some (v7, q3.2))))
theorem eqX7_steady (t : Nat) (ct : Nat → ClassId) (a1 : Int32) (a2 : Int32) (S : SS) : X7_steady (t + 64) a1 a2 (HH t ct S) = (TX7_steady a1 a2 S).map (hwL t ct) := by
  show EQ _ _ _
  unfold X7_steady TX7_steady
  refine e_get (HH_vO rfl) ?_
  refine e_call (eqX7_isCell t ct a1 S) ?_
  intro v1
  refine e_ite ?_ ?_
  · exact e_ret rfl
  · refine e_call (eqX7_isIn t ct (Int32.toInt64 a2) 0 1) ?_
    intro v2
    refine e_ite ?_ ?_
    · exact e_ret rfl
    · refine e_call (eqX7_steadies t ct (-1) 0 S) ?_
      intro q3
      refine e_ite ?_ ?_
      · exact e_ret rfl
      · refine e_get (HH_gR rfl rfl) ?_
        refine e_bind (HH_aL rfl) ?_
        intro v5
        refine e_get (HH_gL rfl rfl) ?_
        refine e_call (eqX7_part t ct v5 (q3.2.2.1 64 24) a2) ?_
        intro v7
        exact e_ret rfl
def TX7_steadyFlow_J91 (l1 : Int32) (l2 : Int32) (l3 : Int64) (s0 : Int64) (S : SS) : Option (Int64 × SS) := (TX7_leads l1 S).bind fun v9 =>
  (TX7_part ((Int32.toInt64 v9) * (l3 - s0)) (S.2.1 64 24) l2).bind fun v11 =>
  some (v11, S)
theorem eqX7_steadyFlow_J91 (t : Nat) (ct : Nat → ClassId) : ∀ (l1 : Int32) (l2 : Int32) (l3 : Int64) (s0 : Int64) (S : SS), EQ (X7_steadyFlow_J91 (t + 64) l1 l2 l3 s0 (HH t ct S)) (TX7_steadyFlow_J91 l1 l2 l3 s0 S) (hwL t ct) := by
  intro l1 l2 l3 s0 S
  unfold X7_steadyFlow_J91 TX7_steadyFlow_J91
  refine e_call (eqX7_leads t ct l1 S) ?_
  intro v9
  refine e_get (HH_gL rfl rfl) ?_
  refine e_call (eqX7_part t ct ((Int32.toInt64 v9) * (l3 - s0)) (S.2.1 64 24) l2) ?_
  intro v11
  exact e_ret rfl
def TX7_steadyFlow_J57 (l1 : Int32) (l2 : Int32) (s0 : Int64) (S : SS) : Option (Int64 × SS) := (if l1 = ((S.1 64 0) - 1) then (aget 2 (S.2.2.1 70) 1).bind fun v13 =>
  TX7_steadyFlow_J91 l1 l2 s0 ((Int32.toInt64 v13) * (S.2.1 64 24)) S else
  (aget 8 (S.2.2.2 82) (l1 + 1)).bind fun v8 =>
  TX7_steadyFlow_J91 l1 l2 s0 v8 S)
theorem eqX7_steadyFlow_J57 (t : Nat) (ct : Nat → ClassId) : ∀ (l1 : Int32) (l2 : Int32) (s0 : Int64) (S : SS), EQ (X7_steadyFlow_J57 (t + 64) l1 l2 s0 (HH t ct S)) (TX7_steadyFlow_J57 l1 l2 s0 S) (hwL t ct) := by
  intro l1 l2 s0 S
  unfold X7_steadyFlow_J57 TX7_steadyFlow_J57
  refine e_get (HH_gI rfl rfl) ?_
  refine e_ite ?_ ?_
  · refine e_get (HH_gR rfl rfl) ?_
    refine e_bind (HH_aI rfl) ?_
    intro v13
    refine e_get (HH_gL rfl rfl) ?_
    exact eqX7_steadyFlow_J91 t ct l1 l2 s0 ((Int32.toInt64 v13) * (S.2.1 64 24)) S
  · refine e_get (HH_gR rfl rfl) ?_
    refine e_bind (HH_aL rfl) ?_
    intro v8
    exact eqX7_steadyFlow_J91 t ct l1 l2 s0 v8 S
def TX7_steadyFlow (a1 : Int32) (a2 : Int32) (S : SS) : Option (Int64 × SS) := (TX7_isJoint a1 S).bind fun v1 =>
  (if v1 = 0 then some ((-9223372036854775808), S) else
  (TX7_isIn (Int32.toInt64 a2) 0 1).bind fun v2 =>
  (if v2 = 0 then some ((-9223372036854775808), S) else
  (TX7_steadies (-1) 0 S).bind fun q3 =>
  (if q3.1 = 0 then some ((-9223372036854775808), q3.2) else
  (if a1 = (-1) then (aget 2 (q3.2.2.2.1 70) 0).bind fun v16 =>
  TX7_steadyFlow_J57 a1 a2 ((Int32.toInt64 v16) * (q3.2.2.1 64 24)) q3.2 else
  (aget 8 (q3.2.2.2.2 82) a1).bind fun v5 =>
  TX7_steadyFlow_J57 a1 a2 v5 q3.2))))
theorem eqX7_steadyFlow (t : Nat) (ct : Nat → ClassId) (a1 : Int32) (a2 : Int32) (S : SS) : X7_steadyFlow (t + 64) a1 a2 (HH t ct S) = (TX7_steadyFlow a1 a2 S).map (hwL t ct) := by
  show EQ _ _ _
  unfold X7_steadyFlow TX7_steadyFlow
  refine e_get (HH_vO rfl) ?_
  refine e_call (eqX7_isJoint t ct a1 S) ?_
  intro v1
  refine e_ite ?_ ?_
  · exact e_ret rfl
  · refine e_call (eqX7_isIn t ct (Int32.toInt64 a2) 0 1) ?_
    intro v2
    refine e_ite ?_ ?_
    · exact e_ret rfl
    · refine e_call (eqX7_steadies t ct (-1) 0 S) ?_
      intro q3
      refine e_ite ?_ ?_
      · exact e_ret rfl
      · refine e_ite ?_ ?_
        · refine e_get (HH_gR rfl rfl) ?_
          refine e_bind (HH_aI rfl) ?_
          intro v16
          refine e_get (HH_gL rfl rfl) ?_
          exact eqX7_steadyFlow_J57 t ct a1 a2 ((Int32.toInt64 v16) * (q3.2.2.1 64 24)) q3.2
        · refine e_get (HH_gR rfl rfl) ?_
          refine e_bind (HH_aL rfl) ?_
          intro v5
          exact eqX7_steadyFlow_J57 t ct a1 a2 v5 q3.2
def TX7_hottest_L15 : Nat → Int32 → Int32 → SS → Option (Int32 × SS)
  | 0, _, _, _ => none
  | n + 1, l1, l2, S => (if (S.1 64 0) ≤ l2 then some (l1, S) else
  (aget 8 (S.2.2.2 82) l2).bind fun v4 =>
  (aget 8 (S.2.2.2 82) l1).bind fun v6 =>
  (if v4 ≤ v6 then TX7_hottest_L15 n l1 (l2 + 1) S else
  TX7_hottest_L15 n l2 (l2 + 1) S))
theorem eqX7_hottest_L15 (t : Nat) (ct : Nat → ClassId) : ∀ (n : Nat), ∀ (l1 : Int32) (l2 : Int32) (S : SS), EQ (X7_hottest_L15 n (t + 64) l1 l2 (HH t ct S)) (TX7_hottest_L15 n l1 l2 S) (hwI t ct) := by
  intro n
  induction n with
  | zero => intro l1 l2 S; exact e_none
  | succ n ih =>
    intro l1 l2 S
    unfold X7_hottest_L15 TX7_hottest_L15
    refine e_get (HH_gI rfl rfl) ?_
    refine e_ite ?_ ?_
    · exact e_ret rfl
    · refine e_get (HH_gR rfl rfl) ?_
      refine e_bind (HH_aL rfl) ?_
      intro v4
      refine e_get (HH_gR rfl rfl) ?_
      refine e_bind (HH_aL rfl) ?_
      intro v6
      refine e_ite ?_ ?_
      · exact ih l1 (l2 + 1) S
      · exact ih l2 (l2 + 1) S
def TX7_hottest (S : SS) : Option (Int32 × SS) := (TX7_steadies (-1) 0 S).bind fun q1 =>
  (if q1.1 = 0 then some ((-1), q1.2) else
  TX7_hottest_L15 fu 0 1 q1.2)
theorem eqX7_hottest (t : Nat) (ct : Nat → ClassId) (S : SS) : X7_hottest (t + 64) (HH t ct S) = (TX7_hottest S).map (hwI t ct) := by
  show EQ _ _ _
  unfold X7_hottest TX7_hottest
  refine e_get (HH_vO rfl) ?_
  refine e_call (eqX7_steadies t ct (-1) 0 S) ?_
  intro q1
  refine e_ite ?_ ?_
  · exact e_ret rfl
  · exact eqX7_hottest_L15 t ct fu 0 1 q1.2
def TX7_lay_L130 : Nat → Int64 → Int32 → SS → Option (Int32 × SS)
  | 0, _, _, _ => none
  | n + 1, l1, l4, S => (if (S.1 64 0) ≤ l4 then some (1, S) else
  (aget 8 (S.2.2.2 82) l4).bind fun v13 =>
  (o_ldiv v13 l1).bind fun v14 =>
  (if jin l4 8 then letS (sAL S 69 (Int32.toNatClampNeg l4) v14) fun S15 =>
  TX7_lay_L130 n l1 (l4 + 1) S15 else
  none))
theorem eqX7_lay_L130 (t : Nat) (ct : Nat → ClassId) : ∀ (n : Nat), ∀ (l1 : Int64) (l4 : Int32) (S : SS), EQ (X7_lay_L130 n (t + 64) l1 l4 (HH t ct S)) (TX7_lay_L130 n l1 l4 S) (hwI t ct) := by
  intro n
  induction n with
  | zero => intro l1 l4 S; exact e_none
  | succ n ih =>
    intro l1 l4 S
    unfold X7_lay_L130 TX7_lay_L130
    refine e_get (HH_gI rfl rfl) ?_
    refine e_ite ?_ ?_
    · exact e_ret rfl
    · refine e_get (HH_gR rfl rfl) ?_
      refine e_get (HH_gR rfl rfl) ?_
      refine e_bind (HH_aL rfl) ?_
      intro v13
      refine e_bind rfl ?_
      intro v14
      refine e_wrS (HH_wL rfl) ?_
      intro S15
      exact ih l1 (l4 + 1) S15
def TX7_lay_L66 : Nat → Int64 → Int32 → Int32 → SS → Option (Int32 × SS)
  | 0, _, _, _, _ => none
  | n + 1, l1, l3, l4, S => (if (S.1 64 0) ≤ l4 then (if l3 = 0 then some ((-4), S) else
  (o_ldiv (S.2.1 64 24) l1).bind fun v8 =>
  letS (sFL S 64 6 v8) fun S9 =>
  TX7_lay_L130 fu l1 0 S9) else
  (if l3 = 0 then TX7_lay_L66 n l1 0 (l4 + 1) S else
  (aget 8 (S.2.2.2 82) l4).bind fun v17 =>
  (o_ldiv v17 l1).bind fun v18 =>
  (TJ9_abs_067f4 v18).bind fun v19 =>
  (if 1000000000000 < v19 then TX7_lay_L66 n l1 0 (l4 + 1) S else
  TX7_lay_L66 n l1 1 (l4 + 1) S)))
theorem eqX7_lay_L66 (t : Nat) (ct : Nat → ClassId) : ∀ (n : Nat), ∀ (l1 : Int64) (l3 : Int32) (l4 : Int32) (S : SS), EQ (X7_lay_L66 n (t + 64) l1 l3 l4 (HH t ct S)) (TX7_lay_L66 n l1 l3 l4 S) (hwI t ct) := by
  intro n
  induction n with
  | zero => intro l1 l3 l4 S; exact e_none
  | succ n ih =>
    intro l1 l3 l4 S
    unfold X7_lay_L66 TX7_lay_L66
    refine e_get (HH_gI rfl rfl) ?_
    refine e_ite ?_ ?_
    · refine e_ite ?_ ?_
      · exact e_ret rfl
      · refine e_get (HH_gL rfl rfl) ?_
        refine e_bind rfl ?_
        intro v8
        refine e_put (HH_pL rfl rfl) ?_
        intro S9
        exact eqX7_lay_L130 t ct fu l1 0 S9
    · refine e_ite ?_ ?_
      · exact ih l1 0 (l4 + 1) S
      · refine e_get (HH_gR rfl rfl) ?_
        refine e_bind (HH_aL rfl) ?_
        intro v17
        refine e_bind rfl ?_
        intro v18
        refine e_call (eqJ9_abs_067f4 t ct v18) ?_
        intro v19
        refine e_ite ?_ ?_
        · exact ih l1 0 (l4 + 1) S
        · exact ih l1 1 (l4 + 1) S
def TX7_lay_J62 (l1 : Int64) (s0 : Int32) (S : SS) : Option (Int32 × SS) := TX7_lay_L66 fu l1 s0 0 S
theorem eqX7_lay_J62 (t : Nat) (ct : Nat → ClassId) : ∀ (l1 : Int64) (s0 : Int32) (S : SS), EQ (X7_lay_J62 (t + 64) l1 s0 (HH t ct S)) (TX7_lay_J62 l1 s0 S) (hwI t ct) := by
  intro l1 s0 S
  unfold X7_lay_J62 TX7_lay_J62
  exact eqX7_lay_L66 t ct fu l1 s0 0 S
def TX7_lay_L19 : Nat → Int64 → Int32 → SS → Option (Int32 × SS)
  | 0, _, _, _ => none
  | n + 1, l1, l3, S => (if (S.1 64 0) ≤ l3 then (o_ldiv (S.2.1 64 24) l1).bind fun v5 =>
  (if 1000000000000 < v5 then TX7_lay_J62 l1 0 S else
  TX7_lay_J62 l1 1 S) else
  (aget 8 (S.2.2.2 82) l3).bind fun v21 =>
  (TX7_divisor v21 l1).bind fun v22 =>
  TX7_lay_L19 n v22 (l3 + 1) S)
theorem eqX7_lay_L19 (t : Nat) (ct : Nat → ClassId) : ∀ (n : Nat), ∀ (l1 : Int64) (l3 : Int32) (S : SS), EQ (X7_lay_L19 n (t + 64) l1 l3 (HH t ct S)) (TX7_lay_L19 n l1 l3 S) (hwI t ct) := by
  intro n
  induction n with
  | zero => intro l1 l3 S; exact e_none
  | succ n ih =>
    intro l1 l3 S
    unfold X7_lay_L19 TX7_lay_L19
    refine e_get (HH_gI rfl rfl) ?_
    refine e_ite ?_ ?_
    · refine e_get (HH_gL rfl rfl) ?_
      refine e_bind rfl ?_
      intro v5
      refine e_ite ?_ ?_
      · exact eqX7_lay_J62 t ct l1 0 S
      · exact eqX7_lay_J62 t ct l1 1 S
    · refine e_get (HH_gR rfl rfl) ?_
      refine e_bind (HH_aL rfl) ?_
      intro v21
      refine e_call (eqX7_divisor t ct v21 l1) ?_
      intro v22
      exact ih v22 (l3 + 1) S
def TX7_lay (S : SS) : Option (Int32 × SS) := (TX7_steadies (-1) 0 S).bind fun q1 =>
  (if q1.1 = 0 then some ((-3), q1.2) else
  TX7_lay_L19 fu (q1.2.2.1 64 24) 0 q1.2)
theorem eqX7_lay (t : Nat) (ct : Nat → ClassId) (S : SS) : X7_lay (t + 64) (HH t ct S) = (TX7_lay S).map (hwI t ct) := by
  show EQ _ _ _
  unfold X7_lay TX7_lay
  refine e_get (HH_vO rfl) ?_
  refine e_call (eqX7_steadies t ct (-1) 0 S) ?_
  intro q1
  refine e_ite ?_ ?_
  · exact e_ret rfl
  · refine e_get (HH_gL rfl rfl) ?_
    exact eqX7_lay_L19 t ct fu (q1.2.2.1 64 24) 0 q1.2
def TX7_isSteady_L8 : Nat → Int32 → Int32 → SS → Option (Int32 × SS)
  | 0, _, _, _ => none
  | n + 1, l1, l2, S => (if (S.1 64 0) ≤ l2 then (if l1 = 0 then some (0, S) else
  some (1, S)) else
  (if l1 = 0 then TX7_isSteady_L8 n 0 (l2 + 1) S else
  (TX7_change l2 S).bind fun v3 =>
  (if v3 = 0 then TX7_isSteady_L8 n 1 (l2 + 1) S else
  TX7_isSteady_L8 n 0 (l2 + 1) S)))
theorem eqX7_isSteady_L8 (t : Nat) (ct : Nat → ClassId) : ∀ (n : Nat), ∀ (l1 : Int32) (l2 : Int32) (S : SS), EQ (X7_isSteady_L8 n (t + 64) l1 l2 (HH t ct S)) (TX7_isSteady_L8 n l1 l2 S) (hwI t ct) := by
  intro n
  induction n with
  | zero => intro l1 l2 S; exact e_none
  | succ n ih =>
    intro l1 l2 S
    unfold X7_isSteady_L8 TX7_isSteady_L8
    refine e_get (HH_gI rfl rfl) ?_
    refine e_ite ?_ ?_
    · refine e_ite ?_ ?_
      · exact e_ret rfl
      · exact e_ret rfl
    · refine e_ite ?_ ?_
      · exact ih 0 (l2 + 1) S
      · refine e_call (eqX7_change t ct l2 S) ?_
        intro v3
        refine e_ite ?_ ?_
        · exact ih 1 (l2 + 1) S
        · exact ih 0 (l2 + 1) S
def TX7_isSteady (S : SS) : Option (Int32 × SS) := (TX7_think S).bind fun q1 =>
  TX7_isSteady_L8 fu 1 0 q1
theorem eqX7_isSteady (t : Nat) (ct : Nat → ClassId) (S : SS) : X7_isSteady (t + 64) (HH t ct S) = (TX7_isSteady S).map (hwI t ct) := by
  show EQ _ _ _
  unfold X7_isSteady TX7_isSteady
  refine e_get (HH_vO rfl) ?_
  refine e_call (eqX7_think t ct S) ?_
  intro q1
  exact eqX7_isSteady_L8 t ct fu 1 0 q1
def TX7_isSo_L4 (S : SS) : Nat → Int32 → Int32 → Int32 → Option (Int32)
  | 0, _, _, _ => none
  | n + 1, l1, l2, l3 => (aget 4 (S.2.2.1 99) l1).bind fun v2 =>
  (if v2 ≤ l3 then (zb l2).bind fun v3 => some v3 else
  (if l2 = 0 then TX7_isSo_L4 S n l1 0 (l3 + 1) else
  (aget 8 (S.2.2.2 82) l3).bind fun v5 =>
  (TJ9_floorDiv_f86c9 v5 (S.2.1 64 24)).bind fun v7 =>
  (aget 160 (S.2.2.1 100) ((40 * l1) + l3)).bind fun v9 =>
  (if v7 = (Int32.toInt64 v9) then TX7_isSo_L4 S n l1 1 (l3 + 1) else
  TX7_isSo_L4 S n l1 0 (l3 + 1))))
theorem eqX7_isSo_L4 (t : Nat) (ct : Nat → ClassId) (S : SS) : ∀ (n : Nat), ∀ (l1 : Int32) (l2 : Int32) (l3 : Int32), EQ (X7_isSo_L4 (HH t ct S) n (t + 64) l1 l2 l3) (TX7_isSo_L4 S n l1 l2 l3) id := by
  intro n
  induction n with
  | zero => intro l1 l2 l3; exact e_none
  | succ n ih =>
    intro l1 l2 l3
    unfold X7_isSo_L4 TX7_isSo_L4
    refine e_get (HH_gR rfl rfl) ?_
    refine e_bind (HH_aI rfl) ?_
    intro v2
    refine e_ite ?_ ?_
    · exact e_bind rfl (fun _ => e_ret rfl)
    · refine e_ite ?_ ?_
      · exact ih l1 0 (l3 + 1)
      · refine e_get (HH_gR rfl rfl) ?_
        refine e_bind (HH_aL rfl) ?_
        intro v5
        refine e_get (HH_gL rfl rfl) ?_
        refine e_call (eqJ9_floorDiv_f86c9 t ct v5 (S.2.1 64 24)) ?_
        intro v7
        refine e_get (HH_gR rfl rfl) ?_
        refine e_bind (HH_aI rfl) ?_
        intro v9
        refine e_ite ?_ ?_
        · exact ih l1 1 (l3 + 1)
        · exact ih l1 0 (l3 + 1)
def TX7_isSo (a1 : Int32) (S : SS) : Option (Int32) := TX7_isSo_L4 S fu a1 1 0
theorem eqX7_isSo (t : Nat) (ct : Nat → ClassId) (a1 : Int32) (S : SS) : X7_isSo (t + 64) a1 (HH t ct S) = (TX7_isSo a1 S).map id := by
  show EQ _ _ _
  unfold X7_isSo TX7_isSo
  refine e_get (HH_vO rfl) ?_
  exact eqX7_isSo_L4 t ct S fu a1 1 0
def TX7_isSheet (a0 : Int32) : Option (Int32) := (TX7_isIn (Int32.toInt64 a0) 0 3).bind fun v1 =>
  (zb v1).bind fun v2 => some v2
theorem eqX7_isSheet (t : Nat) (ct : Nat → ClassId) (a0 : Int32) : X7_isSheet a0 = (TX7_isSheet a0).map id := by
  show EQ _ _ _
  unfold X7_isSheet TX7_isSheet
  refine e_call (eqX7_isIn t ct (Int32.toInt64 a0) 0 3) ?_
  intro v1
  exact e_bind rfl (fun _ => e_ret rfl)
def TX7_buried_L89 (r76 : Int32 → Int32 → Int32 → Int32 → Int32 → SS → Option (Int32 × SS)) : Nat → Int32 → Int32 → Int32 → Int32 → Int32 → Int32 → SS → Option (Int32 × SS)
  | 0, _, _, _, _, _, _, _ => none
  | n + 1, l1, l2, l3, l4, l5, l6, S => (if 9 < l6 then r76 l1 l2 l3 l4 (l5 + 1) S else
  (TX7_steadies l5 l6 S).bind fun q10 =>
  (TX7_isSo l1 q10.2).bind fun v11 =>
  (if v11 = 0 then TX7_buried_L89 r76 n l1 l2 l3 l4 l5 (l6 + 1) q10.2 else
  (if l3 = 0 then TX7_buried_L89 r76 n l1 l2 (l3 + 1) (((100 * l5) + l6) + 9) l5 (l6 + 1) q10.2 else
  TX7_buried_L89 r76 n l1 l2 (l3 + 1) l4 l5 (l6 + 1) q10.2)))
theorem eqX7_buried_L89 (t : Nat) (ct : Nat → ClassId) (g76 : Nat → Int32 → Int32 → Int32 → Int32 → Int32 → Hs → Option (Int32 × Hs)) (r76 : Int32 → Int32 → Int32 → Int32 → Int32 → SS → Option (Int32 × SS)) (hr76 : ∀ (l1 : Int32) (l2 : Int32) (l3 : Int32) (l4 : Int32) (l5 : Int32) (S : SS), EQ (g76 (t + 64) l1 l2 l3 l4 l5 (HH t ct S)) (r76 l1 l2 l3 l4 l5 S) (hwI t ct)) : ∀ (n : Nat), ∀ (l1 : Int32) (l2 : Int32) (l3 : Int32) (l4 : Int32) (l5 : Int32) (l6 : Int32) (S : SS), EQ (X7_buried_L89 g76 n (t + 64) l1 l2 l3 l4 l5 l6 (HH t ct S)) (TX7_buried_L89 r76 n l1 l2 l3 l4 l5 l6 S) (hwI t ct) := by
  intro n
  induction n with
  | zero => intro l1 l2 l3 l4 l5 l6 S; exact e_none
  | succ n ih =>
    intro l1 l2 l3 l4 l5 l6 S
    unfold X7_buried_L89 TX7_buried_L89
    refine e_ite ?_ ?_
    · exact hr76 l1 l2 l3 l4 (l5 + 1) S
    · refine e_call (eqX7_steadies t ct l5 l6 S) ?_
      intro q10
      refine e_call (eqX7_isSo t ct l1 q10.2) ?_
      intro v11
      refine e_ite ?_ ?_
      · exact ih l1 l2 l3 l4 l5 (l6 + 1) q10.2
      · refine e_ite ?_ ?_
        · exact ih l1 l2 (l3 + 1) (((100 * l5) + l6) + 9) l5 (l6 + 1) q10.2
        · exact ih l1 l2 (l3 + 1) l4 l5 (l6 + 1) q10.2
def TX7_buried_L76 : Nat → Int32 → Int32 → Int32 → Int32 → Int32 → SS → Option (Int32 × SS)
  | 0, _, _, _, _, _, _ => none
  | n + 1, l1, l2, l3, l4, l5, S => (if (S.1 64 0) ≤ l5 then (if l2 = 0 then some (l4, S) else
  some (l3, S)) else
  TX7_buried_L89 (fun l1 l2 l3 l4 l5 S => TX7_buried_L76 n l1 l2 l3 l4 l5 S) fu l1 l2 l3 l4 l5 (-9) S)
theorem eqX7_buried_L76 (t : Nat) (ct : Nat → ClassId) : ∀ (n : Nat), ∀ (l1 : Int32) (l2 : Int32) (l3 : Int32) (l4 : Int32) (l5 : Int32) (S : SS), EQ (X7_buried_L76 n (t + 64) l1 l2 l3 l4 l5 (HH t ct S)) (TX7_buried_L76 n l1 l2 l3 l4 l5 S) (hwI t ct) := by
  intro n
  induction n with
  | zero => intro l1 l2 l3 l4 l5 S; exact e_none
  | succ n ih =>
    intro l1 l2 l3 l4 l5 S
    unfold X7_buried_L76 TX7_buried_L76
    refine e_get (HH_gI rfl rfl) ?_
    refine e_ite ?_ ?_
    · refine e_ite ?_ ?_
      · exact e_ret rfl
      · exact e_ret rfl
    · exact eqX7_buried_L89 t ct _ (fun l1 l2 l3 l4 l5 S => TX7_buried_L76 n l1 l2 l3 l4 l5 S) ih fu l1 l2 l3 l4 l5 (-9) S
def TX7_buried_J68 (l1 : Int32) (l2 : Int32) (S : SS) : Option (Int32 × SS) := TX7_buried_L76 fu l1 l2 0 (-1) 0 S
theorem eqX7_buried_J68 (t : Nat) (ct : Nat → ClassId) : ∀ (l1 : Int32) (l2 : Int32) (S : SS), EQ (X7_buried_J68 (t + 64) l1 l2 (HH t ct S)) (TX7_buried_J68 l1 l2 S) (hwI t ct) := by
  intro l1 l2 S
  unfold X7_buried_J68 TX7_buried_J68
  exact eqX7_buried_L76 t ct fu l1 l2 0 (-1) 0 S
def TX7_buried (a1 : Int32) (a2 : Int32) (S : SS) : Option (Int32 × SS) := (TX7_isSheet a1).bind fun v1 =>
  (if v1 = 0 then some ((-2), S) else
  (TX7_isIn (Int32.toInt64 a2) 0 1).bind fun v2 =>
  (if v2 = 0 then some ((-2), S) else
  (aget 4 (S.2.2.1 98) a1).bind fun v4 =>
  (if v4 = (-1) then some ((-11), S) else
  (aget 4 (S.2.2.1 99) a1).bind fun v6 =>
  (if v6 ≤ (S.1 64 0) then (if (S.1 64 0) ≤ 0 then TX7_buried_J68 a1 a2 S else
  (TX7_steadies (-1) 0 S).bind fun q12 =>
  (if q12.1 = 0 then some ((-3), q12.2) else
  TX7_buried_J68 a1 a2 q12.2)) else
  some ((-2), S)))))
theorem eqX7_buried (t : Nat) (ct : Nat → ClassId) (a1 : Int32) (a2 : Int32) (S : SS) : X7_buried (t + 64) a1 a2 (HH t ct S) = (TX7_buried a1 a2 S).map (hwI t ct) := by
  show EQ _ _ _
  unfold X7_buried TX7_buried
  refine e_get (HH_vO rfl) ?_
  refine e_call (eqX7_isSheet t ct a1) ?_
  intro v1
  refine e_ite ?_ ?_
  · exact e_ret rfl
  · refine e_call (eqX7_isIn t ct (Int32.toInt64 a2) 0 1) ?_
    intro v2
    refine e_ite ?_ ?_
    · exact e_ret rfl
    · refine e_get (HH_gR rfl rfl) ?_
      refine e_bind (HH_aI rfl) ?_
      intro v4
      refine e_ite ?_ ?_
      · exact e_ret rfl
      · refine e_get (HH_gR rfl rfl) ?_
        refine e_bind (HH_aI rfl) ?_
        intro v6
        refine e_get (HH_gI rfl rfl) ?_
        refine e_ite ?_ ?_
        · refine e_get (HH_gI rfl rfl) ?_
          refine e_ite ?_ ?_
          · exact eqX7_buried_J68 t ct a1 a2 S
          · refine e_call (eqX7_steadies t ct (-1) 0 S) ?_
            intro q12
            refine e_ite ?_ ?_
            · exact e_ret rfl
            · exact eqX7_buried_J68 t ct a1 a2 q12.2
        · exact e_ret rfl
def TX7_otherwise_J27 (r6 : Int32 → Int32 → Int32 → SS → Option (Int32 × SS)) (l1 : Int32) (l2 : Int32) (l3 : Int32) (S : SS) : Option (Int32 × SS) := (aget 8 (S.2.2.2 75) l2).bind fun v5 =>
  (TJ9_floorDiv_f86c9 v5 (S.2.1 64 14)).bind fun v7 =>
  (aget 160 (S.2.2.1 100) ((40 * l1) + l3)).bind fun v9 =>
  (if v7 = (Int32.toInt64 v9) then r6 l1 l2 (l3 + 1) S else
  some (l3, S))
theorem eqX7_otherwise_J27 (t : Nat) (ct : Nat → ClassId) (g6 : Nat → Int32 → Int32 → Int32 → Hs → Option (Int32 × Hs)) (r6 : Int32 → Int32 → Int32 → SS → Option (Int32 × SS)) (hr6 : ∀ (l1 : Int32) (l2 : Int32) (l3 : Int32) (S : SS), EQ (g6 (t + 64) l1 l2 l3 (HH t ct S)) (r6 l1 l2 l3 S) (hwI t ct)) : ∀ (l1 : Int32) (l2 : Int32) (l3 : Int32) (S : SS), EQ (X7_otherwise_J27 g6 (t + 64) l1 l2 l3 (HH t ct S)) (TX7_otherwise_J27 r6 l1 l2 l3 S) (hwI t ct) := by
  intro l1 l2 l3 S
  unfold X7_otherwise_J27 TX7_otherwise_J27
  refine e_get (HH_gR rfl rfl) ?_
  refine e_bind (HH_aL rfl) ?_
  intro v5
  refine e_get (HH_gL rfl rfl) ?_
  refine e_call (eqJ9_floorDiv_f86c9 t ct v5 (S.2.1 64 14)) ?_
  intro v7
  refine e_get (HH_gR rfl rfl) ?_
  refine e_bind (HH_aI rfl) ?_
  intro v9
  refine e_ite ?_ ?_
  · exact hr6 l1 l2 (l3 + 1) S
  · exact e_ret rfl
def TX7_otherwise_L6 : Nat → Int32 → Int32 → Int32 → SS → Option (Int32 × SS)
  | 0, _, _, _, _ => none
  | n + 1, l1, l2, l3, S => (aget 4 (S.2.2.1 99) l1).bind fun v3 =>
  (if v3 ≤ l3 then some ((-1), S) else
  (if l3 ≤ 0 then TX7_otherwise_J27 (fun l1 l2 l3 S => TX7_otherwise_L6 n l1 l2 l3 S) l1 l2 l3 S else
  (TX7_goes S).bind fun q10 =>
  (if q10.1 = 0 then some (l3, q10.2) else
  TX7_otherwise_J27 (fun l1 l2 l3 S => TX7_otherwise_L6 n l1 l2 l3 S) l1 l2 l3 q10.2)))
theorem eqX7_otherwise_L6 (t : Nat) (ct : Nat → ClassId) : ∀ (n : Nat), ∀ (l1 : Int32) (l2 : Int32) (l3 : Int32) (S : SS), EQ (X7_otherwise_L6 n (t + 64) l1 l2 l3 (HH t ct S)) (TX7_otherwise_L6 n l1 l2 l3 S) (hwI t ct) := by
  intro n
  induction n with
  | zero => intro l1 l2 l3 S; exact e_none
  | succ n ih =>
    intro l1 l2 l3 S
    unfold X7_otherwise_L6 TX7_otherwise_L6
    refine e_get (HH_gR rfl rfl) ?_
    refine e_bind (HH_aI rfl) ?_
    intro v3
    refine e_ite ?_ ?_
    · exact e_ret rfl
    · refine e_ite ?_ ?_
      · exact eqX7_otherwise_J27 t ct _ (fun l1 l2 l3 S => TX7_otherwise_L6 n l1 l2 l3 S) ih l1 l2 l3 S
      · refine e_call (eqX7_goes t ct S) ?_
        intro q10
        refine e_ite ?_ ?_
        · exact e_ret rfl
        · exact eqX7_otherwise_J27 t ct _ (fun l1 l2 l3 S => TX7_otherwise_L6 n l1 l2 l3 S) ih l1 l2 l3 q10.2
def TX7_otherwise (a1 : Int32) (a2 : Int32) (S : SS) : Option (Int32 × SS) := (TX7_think S).bind fun q1 =>
  TX7_otherwise_L6 fu a1 a2 0 q1
theorem eqX7_otherwise (t : Nat) (ct : Nat → ClassId) (a1 : Int32) (a2 : Int32) (S : SS) : X7_otherwise (t + 64) a1 a2 (HH t ct S) = (TX7_otherwise a1 a2 S).map (hwI t ct) := by
  show EQ _ _ _
  unfold X7_otherwise TX7_otherwise
  refine e_get (HH_vO rfl) ?_
  refine e_call (eqX7_think t ct S) ?_
  intro q1
  exact eqX7_otherwise_L6 t ct fu a1 a2 0 q1
def TX7_tells_J115 (r80 : Int32 → Int32 → Int32 → Int32 → Int32 → SS → Option (Int32 × SS)) (l1 : Int32) (l2 : Int32) (l4 : Int32) (l6 : Int32) (s0 : Int32) (s1 : Int32) (S : SS) : Option (Int32 × SS) := r80 l1 l2 l4 (s1 ||| s0) (l6 + 1) S
theorem eqX7_tells_J115 (t : Nat) (ct : Nat → ClassId) (g80 : Nat → Int32 → Int32 → Int32 → Int32 → Int32 → Hs → Option (Int32 × Hs)) (r80 : Int32 → Int32 → Int32 → Int32 → Int32 → SS → Option (Int32 × SS)) (hr80 : ∀ (l1 : Int32) (l2 : Int32) (l4 : Int32) (l5 : Int32) (l6 : Int32) (S : SS), EQ (g80 (t + 64) l1 l2 l4 l5 l6 (HH t ct S)) (r80 l1 l2 l4 l5 l6 S) (hwI t ct)) : ∀ (l1 : Int32) (l2 : Int32) (l4 : Int32) (l6 : Int32) (s0 : Int32) (s1 : Int32) (S : SS), EQ (X7_tells_J115 g80 (t + 64) l1 l2 l4 l6 s0 s1 (HH t ct S)) (TX7_tells_J115 r80 l1 l2 l4 l6 s0 s1 S) (hwI t ct) := by
  intro l1 l2 l4 l6 s0 s1 S
  unfold X7_tells_J115 TX7_tells_J115
  exact hr80 l1 l2 l4 (s1 ||| s0) (l6 + 1) S
def TX7_tells_L80 : Nat → Int32 → Int32 → Int32 → Int32 → Int32 → SS → Option (Int32 × SS)
  | 0, _, _, _, _, _, _ => none
  | n + 1, l1, l2, l4, l5, l6, S => (if 6 ≤ l6 then (if jin l2 8 then letS (sAI S 65 (Int32.toNatClampNeg l2) l4) fun S11 =>
  some (l5, S11) else
  none) else
  (if jin l2 8 then letS (sAI S 65 (Int32.toNatClampNeg l2) l6) fun S13 =>
  (TX7_otherwise l1 l2 S13).bind fun q14 =>
  (if q14.1 = (-1) then TX7_tells_J115 (fun l1 l2 l4 l5 l6 S => TX7_tells_L80 n l1 l2 l4 l5 l6 S) l1 l2 l4 l6 (1 <<< (l6 &&& 31)) l5 q14.2 else
  TX7_tells_J115 (fun l1 l2 l4 l5 l6 S => TX7_tells_L80 n l1 l2 l4 l5 l6 S) l1 l2 l4 l6 0 l5 q14.2) else
  none))
theorem eqX7_tells_L80 (t : Nat) (ct : Nat → ClassId) : ∀ (n : Nat), ∀ (l1 : Int32) (l2 : Int32) (l4 : Int32) (l5 : Int32) (l6 : Int32) (S : SS), EQ (X7_tells_L80 n (t + 64) l1 l2 l4 l5 l6 (HH t ct S)) (TX7_tells_L80 n l1 l2 l4 l5 l6 S) (hwI t ct) := by
  intro n
  induction n with
  | zero => intro l1 l2 l4 l5 l6 S; exact e_none
  | succ n ih =>
    intro l1 l2 l4 l5 l6 S
    unfold X7_tells_L80 TX7_tells_L80
    refine e_ite ?_ ?_
    · refine e_get (HH_gR rfl rfl) ?_
      refine e_wrS (HH_wI rfl) ?_
      intro S11
      exact e_ret rfl
    · refine e_get (HH_gR rfl rfl) ?_
      refine e_wrS (HH_wI rfl) ?_
      intro S13
      refine e_call (eqX7_otherwise t ct l1 l2 S13) ?_
      intro q14
      refine e_ite ?_ ?_
      · exact eqX7_tells_J115 t ct _ (fun l1 l2 l4 l5 l6 S => TX7_tells_L80 n l1 l2 l4 l5 l6 S) ih l1 l2 l4 l6 (1 <<< (l6 &&& 31)) l5 q14.2
      · exact eqX7_tells_J115 t ct _ (fun l1 l2 l4 l5 l6 S => TX7_tells_L80 n l1 l2 l4 l5 l6 S) ih l1 l2 l4 l6 0 l5 q14.2
def TX7_tells (a1 : Int32) (a2 : Int32) (a3 : Int32) (S : SS) : Option (Int32 × SS) := (TX7_isSheet a1).bind fun v1 =>
  (if v1 = 0 then some ((-2), S) else
  (TX7_isCell a2 S).bind fun v2 =>
  (if v2 = 0 then some ((-2), S) else
  (TX7_isIn (Int32.toInt64 a3) 0 1).bind fun v3 =>
  (if v3 = 0 then some ((-2), S) else
  (aget 4 (S.2.2.1 98) a1).bind fun v5 =>
  (if v5 = (-1) then some ((-11), S) else
  (aget 4 (S.2.2.1 99) a1).bind fun v7 =>
  (if v7 ≤ 10 then (if a3 = 0 then (TX7_otherwise a1 a2 S).bind fun q15 =>
  some (q15.1, q15.2) else
  (aget 8 (S.2.2.1 65) a2).bind fun v9 =>
  TX7_tells_L80 fu a1 a2 v9 0 0 S) else
  some ((-2), S))))))
theorem eqX7_tells (t : Nat) (ct : Nat → ClassId) (a1 : Int32) (a2 : Int32) (a3 : Int32) (S : SS) : X7_tells (t + 64) a1 a2 a3 (HH t ct S) = (TX7_tells a1 a2 a3 S).map (hwI t ct) := by
  show EQ _ _ _
  unfold X7_tells TX7_tells
  refine e_get (HH_vO rfl) ?_
  refine e_call (eqX7_isSheet t ct a1) ?_
  intro v1
  refine e_ite ?_ ?_
  · exact e_ret rfl
  · refine e_call (eqX7_isCell t ct a2 S) ?_
    intro v2
    refine e_ite ?_ ?_
    · exact e_ret rfl
    · refine e_call (eqX7_isIn t ct (Int32.toInt64 a3) 0 1) ?_
      intro v3
      refine e_ite ?_ ?_
      · exact e_ret rfl
      · refine e_get (HH_gR rfl rfl) ?_
        refine e_bind (HH_aI rfl) ?_
        intro v5
        refine e_ite ?_ ?_
        · exact e_ret rfl
        · refine e_get (HH_gR rfl rfl) ?_
          refine e_bind (HH_aI rfl) ?_
          intro v7
          refine e_ite ?_ ?_
          · refine e_ite ?_ ?_
            · refine e_call (eqX7_otherwise t ct a1 a2 S) ?_
              intro q15
              exact e_ret rfl
            · refine e_get (HH_gR rfl rfl) ?_
              refine e_bind (HH_aI rfl) ?_
              intro v9
              exact eqX7_tells_L80 t ct fu a1 a2 v9 0 0 S
          · exact e_ret rfl
def TX7_film_L136 : Nat → Int32 → Int32 → Int32 → SS → Option (Int32 × SS)
  | 0, _, _, _, _ => none
  | n + 1, l1, l3, l4, S => (if l3 ≤ l4 then some (l3, S) else
  (aget 10 (S.2.2.1 83) l4).bind fun v11 =>
  (if jin ((40 * l1) + l4) 160 then letS (sAI S 100 (Int32.toNatClampNeg ((40 * l1) + l4)) v11) fun S12 =>
  TX7_film_L136 n l1 l3 (l4 + 1) S12 else
  none))
theorem eqX7_film_L136 (t : Nat) (ct : Nat → ClassId) : ∀ (n : Nat), ∀ (l1 : Int32) (l3 : Int32) (l4 : Int32) (S : SS), EQ (X7_film_L136 n (t + 64) l1 l3 l4 (HH t ct S)) (TX7_film_L136 n l1 l3 l4 S) (hwI t ct) := by
  intro n
  induction n with
  | zero => intro l1 l3 l4 S; exact e_none
  | succ n ih =>
    intro l1 l3 l4 S
    unfold X7_film_L136 TX7_film_L136
    refine e_ite ?_ ?_
    · exact e_ret rfl
    · refine e_get (HH_gR rfl rfl) ?_
      refine e_get (HH_gR rfl rfl) ?_
      refine e_bind (HH_aI rfl) ?_
      intro v11
      refine e_wrS (HH_wI rfl) ?_
      intro S12
      exact ih l1 l3 (l4 + 1) S12
def TX7_film_J58 (r37 : Int32 → Int32 → Int32 → Int32 → SS → Option (Int32 × SS)) (l1 : Int32) (l2 : Int32) (l3 : Int32) (l4 : Int32) (S : SS) : Option (Int32 × SS) := (aget 8 (S.2.2.2 75) l2).bind fun v14 =>
  (TJ9_floorDiv_f86c9 v14 (S.2.1 64 14)).bind fun v16 =>
  (if (-999) ≤ v16 then (if v16 ≤ 999 then (if jin l4 10 then letS (sAI S 83 (Int32.toNatClampNeg l4) (Int64.toInt32 v16)) fun S18 =>
  r37 l1 l2 l3 (l4 + 1) S18 else
  none) else
  (if jin l4 10 then letS (sAI S 83 (Int32.toNatClampNeg l4) 999) fun S19 =>
  r37 l1 l2 l3 (l4 + 1) S19 else
  none)) else
  (if jin l4 10 then letS (sAI S 83 (Int32.toNatClampNeg l4) (-999)) fun S20 =>
  r37 l1 l2 l3 (l4 + 1) S20 else
  none))
theorem eqX7_film_J58 (t : Nat) (ct : Nat → ClassId) (g37 : Nat → Int32 → Int32 → Int32 → Int32 → Hs → Option (Int32 × Hs)) (r37 : Int32 → Int32 → Int32 → Int32 → SS → Option (Int32 × SS)) (hr37 : ∀ (l1 : Int32) (l2 : Int32) (l3 : Int32) (l4 : Int32) (S : SS), EQ (g37 (t + 64) l1 l2 l3 l4 (HH t ct S)) (r37 l1 l2 l3 l4 S) (hwI t ct)) : ∀ (l1 : Int32) (l2 : Int32) (l3 : Int32) (l4 : Int32) (S : SS), EQ (X7_film_J58 g37 (t + 64) l1 l2 l3 l4 (HH t ct S)) (TX7_film_J58 r37 l1 l2 l3 l4 S) (hwI t ct) := by
  intro l1 l2 l3 l4 S
  unfold X7_film_J58 TX7_film_J58
  refine e_get (HH_gR rfl rfl) ?_
  refine e_bind (HH_aL rfl) ?_
  intro v14
  refine e_get (HH_gL rfl rfl) ?_
  refine e_call (eqJ9_floorDiv_f86c9 t ct v14 (S.2.1 64 14)) ?_
  intro v16
  refine e_get (HH_gR rfl rfl) ?_
  refine e_ite ?_ ?_
  · refine e_ite ?_ ?_
    · refine e_wrS (HH_wI rfl) ?_
      intro S18
      exact hr37 l1 l2 l3 (l4 + 1) S18
    · refine e_wrS (HH_wI rfl) ?_
      intro S19
      exact hr37 l1 l2 l3 (l4 + 1) S19
  · refine e_wrS (HH_wI rfl) ?_
    intro S20
    exact hr37 l1 l2 l3 (l4 + 1) S20
def TX7_film_L37 : Nat → Int32 → Int32 → Int32 → Int32 → SS → Option (Int32 × SS)
  | 0, _, _, _, _, _ => none
  | n + 1, l1, l2, l3, l4, S => (if l3 ≤ l4 then (if jin l1 4 then letS (sAI S 98 (Int32.toNatClampNeg l1) 1) fun S6 =>
  (if jin l1 4 then letS (sAI S6 99 (Int32.toNatClampNeg l1) l3) fun S8 =>
  TX7_film_L136 fu l1 l3 0 S8 else
  none) else
  none) else
  (if l4 ≤ 0 then TX7_film_J58 (fun l1 l2 l3 l4 S => TX7_film_L37 n l1 l2 l3 l4 S) l1 l2 l3 l4 S else
  (TX7_goes S).bind fun q21 =>
  (if q21.1 = 0 then some ((-3), q21.2) else
  TX7_film_J58 (fun l1 l2 l3 l4 S => TX7_film_L37 n l1 l2 l3 l4 S) l1 l2 l3 l4 q21.2)))
theorem eqX7_film_L37 (t : Nat) (ct : Nat → ClassId) : ∀ (n : Nat), ∀ (l1 : Int32) (l2 : Int32) (l3 : Int32) (l4 : Int32) (S : SS), EQ (X7_film_L37 n (t + 64) l1 l2 l3 l4 (HH t ct S)) (TX7_film_L37 n l1 l2 l3 l4 S) (hwI t ct) := by
  intro n
  induction n with
  | zero => intro l1 l2 l3 l4 S; exact e_none
  | succ n ih =>
    intro l1 l2 l3 l4 S
    unfold X7_film_L37 TX7_film_L37
    refine e_ite ?_ ?_
    · refine e_get (HH_gR rfl rfl) ?_
      refine e_wrS (HH_wI rfl) ?_
      intro S6
      refine e_get (HH_gR rfl rfl) ?_
      refine e_wrS (HH_wI rfl) ?_
      intro S8
      exact eqX7_film_L136 t ct fu l1 l3 0 S8
    · refine e_ite ?_ ?_
      · exact eqX7_film_J58 t ct _ (fun l1 l2 l3 l4 S => TX7_film_L37 n l1 l2 l3 l4 S) ih l1 l2 l3 l4 S
      · refine e_call (eqX7_goes t ct S) ?_
        intro q21
        refine e_ite ?_ ?_
        · exact e_ret rfl
        · exact eqX7_film_J58 t ct _ (fun l1 l2 l3 l4 S => TX7_film_L37 n l1 l2 l3 l4 S) ih l1 l2 l3 l4 q21.2
def TX7_film (a1 : Int32) (a2 : Int32) (a3 : Int32) (S : SS) : Option (Int32 × SS) := (TX7_isSheet a1).bind fun v1 =>
  (if v1 = 0 then some ((-2), S) else
  (TX7_isCell a2 S).bind fun v2 =>
  (if v2 = 0 then some ((-2), S) else
  (TX7_isIn (Int32.toInt64 a3) 0 10).bind fun v3 =>
  (if v3 = 0 then some ((-2), S) else
  (TX7_think S).bind fun q4 =>
  TX7_film_L37 fu a1 a2 a3 0 q4)))
theorem eqX7_film (t : Nat) (ct : Nat → ClassId) (a1 : Int32) (a2 : Int32) (a3 : Int32) (S : SS) : X7_film (t + 64) a1 a2 a3 (HH t ct S) = (TX7_film a1 a2 a3 S).map (hwI t ct) := by
  show EQ _ _ _
  unfold X7_film TX7_film
  refine e_get (HH_vO rfl) ?_
  refine e_call (eqX7_isSheet t ct a1) ?_
  intro v1
  refine e_ite ?_ ?_
  · exact e_ret rfl
  · refine e_call (eqX7_isCell t ct a2 S) ?_
    intro v2
    refine e_ite ?_ ?_
    · exact e_ret rfl
    · refine e_call (eqX7_isIn t ct (Int32.toInt64 a3) 0 10) ?_
      intro v3
      refine e_ite ?_ ?_
      · exact e_ret rfl
      · refine e_call (eqX7_think t ct S) ?_
        intro q4
        exact eqX7_film_L37 t ct fu a1 a2 a3 0 q4
