/-! Terms over the four pictures. Written by wip/whole/decompT.py. -/
def TX7_load_J163 (r65 : Int32 → Int32 → Int32 → Int32 → Int32 → SS → Option (Int32 × SS)) (l1 : Int32) (l3 : Int32) (l4 : Int32) (l6 : Int32) (s0 : Int32) (s1 : Int32) (S : SS) : Option (Int32 × SS) := r65 l1 l3 l4 (s1 + s0) (l6 + 1) S
theorem eqX7_load_J163 (t : Nat) (ct : Nat → ClassId) (g65 : Nat → Int32 → Int32 → Int32 → Int32 → Int32 → Hs → Option (Int32 × Hs)) (r65 : Int32 → Int32 → Int32 → Int32 → Int32 → SS → Option (Int32 × SS)) (hr65 : ∀ (l1 : Int32) (l3 : Int32) (l4 : Int32) (l5 : Int32) (l6 : Int32) (S : SS), EQ (g65 (t + 64) l1 l3 l4 l5 l6 (HH t ct S)) (r65 l1 l3 l4 l5 l6 S) (hwI t ct)) : ∀ (l1 : Int32) (l3 : Int32) (l4 : Int32) (l6 : Int32) (s0 : Int32) (s1 : Int32) (S : SS), EQ (X7_load_J163 g65 (t + 64) l1 l3 l4 l6 s0 s1 (HH t ct S)) (TX7_load_J163 r65 l1 l3 l4 l6 s0 s1 S) (hwI t ct) := by
  intro l1 l3 l4 l6 s0 s1 S
  unfold X7_load_J163 TX7_load_J163
  exact hr65 l1 l3 l4 (s1 + s0) (l6 + 1) S
def TX7_load_L65 : Nat → Int32 → Int32 → Int32 → Int32 → Int32 → SS → Option (Int32 × SS)
  | 0, _, _, _, _, _, _ => none
  | n + 1, l1, l3, l4, l5, l6, S => (if l4 ≤ l6 then some (l5, S) else
  (aget 4 (S.2.2.1 99) l1).bind fun v9 =>
  (TX7_isIn ((Int32.toInt64 l3) + (4 * (Int32.toInt64 l6))) 0 (Int32.toInt64 (v9 - 4))).bind fun v10 =>
  (if v10 = 0 then some ((-12), S) else
  (aget 160 (S.2.2.1 100) ((40 * l1) + (Int64.toInt32 ((Int32.toInt64 l3) + (4 * (Int32.toInt64 l6)))))).bind fun v12 =>
  (aget 160 (S.2.2.1 100) (((40 * l1) + (Int64.toInt32 ((Int32.toInt64 l3) + (4 * (Int32.toInt64 l6))))) + 1)).bind fun v14 =>
  (aget 160 (S.2.2.1 100) (((40 * l1) + (Int64.toInt32 ((Int32.toInt64 l3) + (4 * (Int32.toInt64 l6))))) + 2)).bind fun v16 =>
  (aget 160 (S.2.2.1 100) (((40 * l1) + (Int64.toInt32 ((Int32.toInt64 l3) + (4 * (Int32.toInt64 l6))))) + 3)).bind fun v18 =>
  (TX7_cell v12 v14 v16 v18 S).bind fun q19 =>
  (if q19.1 < 0 then TX7_load_J163 (fun l1 l3 l4 l5 l6 S => TX7_load_L65 n l1 l3 l4 l5 l6 S) l1 l3 l4 l6 0 l5 q19.2 else
  TX7_load_J163 (fun l1 l3 l4 l5 l6 S => TX7_load_L65 n l1 l3 l4 l5 l6 S) l1 l3 l4 l6 1 l5 q19.2)))
theorem eqX7_load_L65 (t : Nat) (ct : Nat → ClassId) : ∀ (n : Nat), ∀ (l1 : Int32) (l3 : Int32) (l4 : Int32) (l5 : Int32) (l6 : Int32) (S : SS), EQ (X7_load_L65 n (t + 64) l1 l3 l4 l5 l6 (HH t ct S)) (TX7_load_L65 n l1 l3 l4 l5 l6 S) (hwI t ct) := by
  intro n
  induction n with
  | zero => intro l1 l3 l4 l5 l6 S; exact e_none
  | succ n ih =>
    intro l1 l3 l4 l5 l6 S
    unfold X7_load_L65 TX7_load_L65
    refine e_ite ?_ ?_
    · exact e_ret rfl
    · refine e_get (HH_gR rfl rfl) ?_
      refine e_bind (HH_aI rfl) ?_
      intro v9
      refine e_call (eqX7_isIn t ct ((Int32.toInt64 l3) + (4 * (Int32.toInt64 l6))) 0 (Int32.toInt64 (v9 - 4))) ?_
      intro v10
      refine e_ite ?_ ?_
      · exact e_ret rfl
      · refine e_get (HH_gR rfl rfl) ?_
        refine e_bind (HH_aI rfl) ?_
        intro v12
        refine e_get (HH_gR rfl rfl) ?_
        refine e_bind (HH_aI rfl) ?_
        intro v14
        refine e_get (HH_gR rfl rfl) ?_
        refine e_bind (HH_aI rfl) ?_
        intro v16
        refine e_get (HH_gR rfl rfl) ?_
        refine e_bind (HH_aI rfl) ?_
        intro v18
        refine e_call (eqX7_cell t ct v12 v14 v16 v18 S) ?_
        intro q19
        refine e_ite ?_ ?_
        · exact eqX7_load_J163 t ct _ (fun l1 l3 l4 l5 l6 S => TX7_load_L65 n l1 l3 l4 l5 l6 S) ih l1 l3 l4 l6 0 l5 q19.2
        · exact eqX7_load_J163 t ct _ (fun l1 l3 l4 l5 l6 S => TX7_load_L65 n l1 l3 l4 l5 l6 S) ih l1 l3 l4 l6 1 l5 q19.2
def TX7_load (a1 : Int32) (a2 : Int32) (a3 : Int32) (a4 : Int32) (S : SS) : Option (Int32 × SS) := (TX7_isSheet a1).bind fun v1 =>
  (if v1 = 0 then some ((-2), S) else
  (TX7_isIn (Int32.toInt64 a2) 0 1).bind fun v2 =>
  (if v2 = 0 then some ((-2), S) else
  (TX7_isIn (Int32.toInt64 a4) 0 8).bind fun v3 =>
  (if v3 = 0 then some ((-2), S) else
  (aget 4 (S.2.2.1 98) a1).bind fun v5 =>
  (if v5 = (-1) then some ((-11), S) else
  (aget 4 (S.2.2.1 98) a1).bind fun v7 =>
  (if v7 = a2 then TX7_load_L65 fu a1 a3 a4 0 0 S else
  some ((-13), S))))))
theorem eqX7_load (t : Nat) (ct : Nat → ClassId) (a1 : Int32) (a2 : Int32) (a3 : Int32) (a4 : Int32) (S : SS) : X7_load (t + 64) a1 a2 a3 a4 (HH t ct S) = (TX7_load a1 a2 a3 a4 S).map (hwI t ct) := by
  show EQ _ _ _
  unfold X7_load TX7_load
  refine e_get (HH_vO rfl) ?_
  refine e_call (eqX7_isSheet t ct a1) ?_
  intro v1
  refine e_ite ?_ ?_
  · exact e_ret rfl
  · refine e_call (eqX7_isIn t ct (Int32.toInt64 a2) 0 1) ?_
    intro v2
    refine e_ite ?_ ?_
    · exact e_ret rfl
    · refine e_call (eqX7_isIn t ct (Int32.toInt64 a4) 0 8) ?_
      intro v3
      refine e_ite ?_ ?_
      · exact e_ret rfl
      · refine e_get (HH_gR rfl rfl) ?_
        refine e_bind (HH_aI rfl) ?_
        intro v5
        refine e_ite ?_ ?_
        · exact e_ret rfl
        · refine e_get (HH_gR rfl rfl) ?_
          refine e_bind (HH_aI rfl) ?_
          intro v7
          refine e_ite ?_ ?_
          · exact eqX7_load_L65 t ct fu a1 a3 a4 0 0 S
          · exact e_ret rfl
def TX7_count_J91 (S : SS) (r54 : Int32 → Int32 → Int32 → Option (Int32)) (l1 : Int32) (l3 : Int32) (s0 : Int32) (s1 : Int32) : Option (Int32) := r54 l1 (s1 + s0) (l3 + 1)
theorem eqX7_count_J91 (t : Nat) (ct : Nat → ClassId) (S : SS) (g54 : Nat → Int32 → Int32 → Int32 → Option (Int32)) (r54 : Int32 → Int32 → Int32 → Option (Int32)) (hr54 : ∀ (l1 : Int32) (l2 : Int32) (l3 : Int32), EQ (g54 (t + 64) l1 l2 l3) (r54 l1 l2 l3) id) : ∀ (l1 : Int32) (l3 : Int32) (s0 : Int32) (s1 : Int32), EQ (X7_count_J91 (HH t ct S) g54 (t + 64) l1 l3 s0 s1) (TX7_count_J91 S r54 l1 l3 s0 s1) id := by
  intro l1 l3 s0 s1
  unfold X7_count_J91 TX7_count_J91
  exact hr54 l1 (s1 + s0) (l3 + 1)
def TX7_count_L54 (S : SS) : Nat → Int32 → Int32 → Int32 → Option (Int32)
  | 0, _, _, _ => none
  | n + 1, l1, l2, l3 => (if (S.1 64 0) ≤ l3 then (if l1 = 0 then some (S.1 64 0) else
  (if l1 = 1 then some (S.1 64 9) else
  (if l1 = 2 then some (S.1 64 29) else
  some l2))) else
  (if l1 = 4 then (TX7_fin l3 S).bind fun v9 =>
  TX7_count_J91 S (fun l1 l2 l3 => TX7_count_L54 S n l1 l2 l3) l1 l3 v9 l2 else
  (if l1 = 5 then (aget 8 (S.2.2.1 68) l3).bind fun v8 =>
  TX7_count_J91 S (fun l1 l2 l3 => TX7_count_L54 S n l1 l2 l3) l1 l3 v8 l2 else
  TX7_count_J91 S (fun l1 l2 l3 => TX7_count_L54 S n l1 l2 l3) l1 l3 0 l2)))
theorem eqX7_count_L54 (t : Nat) (ct : Nat → ClassId) (S : SS) : ∀ (n : Nat), ∀ (l1 : Int32) (l2 : Int32) (l3 : Int32), EQ (X7_count_L54 (HH t ct S) n (t + 64) l1 l2 l3) (TX7_count_L54 S n l1 l2 l3) id := by
  intro n
  induction n with
  | zero => intro l1 l2 l3; exact e_none
  | succ n ih =>
    intro l1 l2 l3
    unfold X7_count_L54 TX7_count_L54
    refine e_get (HH_gI rfl rfl) ?_
    refine e_ite ?_ ?_
    · refine e_ite ?_ ?_
      · refine e_get (HH_gI rfl rfl) ?_
        exact e_ret rfl
      · refine e_ite ?_ ?_
        · refine e_get (HH_gI rfl rfl) ?_
          exact e_ret rfl
        · refine e_ite ?_ ?_
          · refine e_get (HH_gI rfl rfl) ?_
            exact e_ret rfl
          · exact e_ret rfl
    · refine e_ite ?_ ?_
      · refine e_call (eqX7_fin t ct l3 S) ?_
        intro v9
        exact eqX7_count_J91 t ct S _ (fun l1 l2 l3 => TX7_count_L54 S n l1 l2 l3) ih l1 l3 v9 l2
      · refine e_ite ?_ ?_
        · refine e_get (HH_gR rfl rfl) ?_
          refine e_bind (HH_aI rfl) ?_
          intro v8
          exact eqX7_count_J91 t ct S _ (fun l1 l2 l3 => TX7_count_L54 S n l1 l2 l3) ih l1 l3 v8 l2
        · exact eqX7_count_J91 t ct S _ (fun l1 l2 l3 => TX7_count_L54 S n l1 l2 l3) ih l1 l3 0 l2
def TX7_count_J44 (S : SS) (r20 : Int32 → Int32 → Int32 → Option (Int32)) (l1 : Int32) (l3 : Int32) (s0 : Int32) (s1 : Int32) : Option (Int32) := r20 l1 (s1 + s0) (l3 + 1)
theorem eqX7_count_J44 (t : Nat) (ct : Nat → ClassId) (S : SS) (g20 : Nat → Int32 → Int32 → Int32 → Option (Int32)) (r20 : Int32 → Int32 → Int32 → Option (Int32)) (hr20 : ∀ (l1 : Int32) (l2 : Int32) (l3 : Int32), EQ (g20 (t + 64) l1 l2 l3) (r20 l1 l2 l3) id) : ∀ (l1 : Int32) (l3 : Int32) (s0 : Int32) (s1 : Int32), EQ (X7_count_J44 (HH t ct S) g20 (t + 64) l1 l3 s0 s1) (TX7_count_J44 S r20 l1 l3 s0 s1) id := by
  intro l1 l3 s0 s1
  unfold X7_count_J44 TX7_count_J44
  exact hr20 l1 (s1 + s0) (l3 + 1)
def TX7_count_L20 (S : SS) : Nat → Int32 → Int32 → Int32 → Option (Int32)
  | 0, _, _, _ => none
  | n + 1, l1, l2, l3 => (if (S.1 64 9) ≤ l3 then TX7_count_L54 S fu l1 l2 0 else
  (if l1 = 3 then (aget 12 (S.2.2.1 74) l3).bind fun v11 =>
  TX7_count_J44 S (fun l1 l2 l3 => TX7_count_L20 S n l1 l2 l3) l1 l3 v11 l2 else
  TX7_count_J44 S (fun l1 l2 l3 => TX7_count_L20 S n l1 l2 l3) l1 l3 0 l2))
theorem eqX7_count_L20 (t : Nat) (ct : Nat → ClassId) (S : SS) : ∀ (n : Nat), ∀ (l1 : Int32) (l2 : Int32) (l3 : Int32), EQ (X7_count_L20 (HH t ct S) n (t + 64) l1 l2 l3) (TX7_count_L20 S n l1 l2 l3) id := by
  intro n
  induction n with
  | zero => intro l1 l2 l3; exact e_none
  | succ n ih =>
    intro l1 l2 l3
    unfold X7_count_L20 TX7_count_L20
    refine e_get (HH_gI rfl rfl) ?_
    refine e_ite ?_ ?_
    · exact eqX7_count_L54 t ct S fu l1 l2 0
    · refine e_ite ?_ ?_
      · refine e_get (HH_gR rfl rfl) ?_
        refine e_bind (HH_aI rfl) ?_
        intro v11
        exact eqX7_count_J44 t ct S _ (fun l1 l2 l3 => TX7_count_L20 S n l1 l2 l3) ih l1 l3 v11 l2
      · exact eqX7_count_J44 t ct S _ (fun l1 l2 l3 => TX7_count_L20 S n l1 l2 l3) ih l1 l3 0 l2
def TX7_count (a1 : Int32) (S : SS) : Option (Int32) := (TX7_isIn (Int32.toInt64 a1) 0 5).bind fun v1 =>
  (if v1 = 0 then some (-1000) else
  TX7_count_L20 S fu a1 0 0)
theorem eqX7_count (t : Nat) (ct : Nat → ClassId) (a1 : Int32) (S : SS) : X7_count (t + 64) a1 (HH t ct S) = (TX7_count a1 S).map id := by
  show EQ _ _ _
  unfold X7_count TX7_count
  refine e_get (HH_vO rfl) ?_
  refine e_call (eqX7_isIn t ct (Int32.toInt64 a1) 0 5) ?_
  intro v1
  refine e_ite ?_ ?_
  · exact e_ret rfl
  · exact eqX7_count_L20 t ct S fu a1 0 0
def TX7_sheet_L71 : Nat → Int32 → Int32 → SS → Option (Int32 × SS)
  | 0, _, _, _ => none
  | n + 1, l1, l4, S => (aget 4 (S.2.2.1 99) l1).bind fun v8 =>
  (if v8 ≤ l4 then some (1, S) else
  (if jin ((40 * l1) + l4) 160 then letS (sAI S 100 (Int32.toNatClampNeg ((40 * l1) + l4)) 0) fun S10 =>
  TX7_sheet_L71 n l1 (l4 + 1) S10 else
  none))
theorem eqX7_sheet_L71 (t : Nat) (ct : Nat → ClassId) : ∀ (n : Nat), ∀ (l1 : Int32) (l4 : Int32) (S : SS), EQ (X7_sheet_L71 n (t + 64) l1 l4 (HH t ct S)) (TX7_sheet_L71 n l1 l4 S) (hwI t ct) := by
  intro n
  induction n with
  | zero => intro l1 l4 S; exact e_none
  | succ n ih =>
    intro l1 l4 S
    unfold X7_sheet_L71 TX7_sheet_L71
    refine e_get (HH_gR rfl rfl) ?_
    refine e_bind (HH_aI rfl) ?_
    intro v8
    refine e_ite ?_ ?_
    · exact e_ret rfl
    · refine e_get (HH_gR rfl rfl) ?_
      refine e_wrS (HH_wI rfl) ?_
      intro S10
      exact ih l1 (l4 + 1) S10
def TX7_sheet_J67 (l1 : Int32) (s0 : Int32) (s1 : Int32) (S : SS) : Option (Int32 × SS) := (if jin s1 4 then letS (sAI S 99 (Int32.toNatClampNeg s1) s0) fun S6 =>
  TX7_sheet_L71 fu l1 0 S6 else
  none)
theorem eqX7_sheet_J67 (t : Nat) (ct : Nat → ClassId) : ∀ (l1 : Int32) (s0 : Int32) (s1 : Int32) (S : SS), EQ (X7_sheet_J67 (t + 64) l1 s0 s1 (t + 99) (HH t ct S)) (TX7_sheet_J67 l1 s0 s1 S) (hwI t ct) := by
  intro l1 s0 s1 S
  unfold X7_sheet_J67 TX7_sheet_J67
  refine e_wrS (HH_wI rfl) ?_
  intro S6
  exact eqX7_sheet_L71 t ct fu l1 0 S6
def TX7_sheet_J45 (l1 : Int32) (l2 : Int32) (l3 : Int32) (S : SS) : Option (Int32 × SS) := (if jin l1 4 then letS (sAI S 98 (Int32.toNatClampNeg l1) l2) fun S4 =>
  (if l2 = (-1) then TX7_sheet_J67 l1 0 l1 S4 else
  TX7_sheet_J67 l1 l3 l1 S4) else
  none)
theorem eqX7_sheet_J45 (t : Nat) (ct : Nat → ClassId) : ∀ (l1 : Int32) (l2 : Int32) (l3 : Int32) (S : SS), EQ (X7_sheet_J45 (t + 64) l1 l2 l3 (HH t ct S)) (TX7_sheet_J45 l1 l2 l3 S) (hwI t ct) := by
  intro l1 l2 l3 S
  unfold X7_sheet_J45 TX7_sheet_J45
  refine e_get (HH_gR rfl rfl) ?_
  refine e_wrS (HH_wI rfl) ?_
  intro S4
  refine e_get (HH_gR rfl rfl) ?_
  refine e_ite ?_ ?_
  · exact eqX7_sheet_J67 t ct l1 0 l1 S4
  · exact eqX7_sheet_J67 t ct l1 l3 l1 S4
def TX7_sheet_J33 (l1 : Int32) (l2 : Int32) (l3 : Int32) (S : SS) : Option (Int32 × SS) := (if l2 = (-1) then TX7_sheet_J45 l1 l2 l3 S else
  (if 0 ≤ l3 then TX7_sheet_J45 l1 l2 l3 S else
  some ((-14), S)))
theorem eqX7_sheet_J33 (t : Nat) (ct : Nat → ClassId) : ∀ (l1 : Int32) (l2 : Int32) (l3 : Int32) (S : SS), EQ (X7_sheet_J33 (t + 64) l1 l2 l3 (HH t ct S)) (TX7_sheet_J33 l1 l2 l3 S) (hwI t ct) := by
  intro l1 l2 l3 S
  unfold X7_sheet_J33 TX7_sheet_J33
  refine e_ite ?_ ?_
  · exact eqX7_sheet_J45 t ct l1 l2 l3 S
  · refine e_ite ?_ ?_
    · exact eqX7_sheet_J45 t ct l1 l2 l3 S
    · exact e_ret rfl
def TX7_sheet (a1 : Int32) (a2 : Int32) (a3 : Int32) (S : SS) : Option (Int32 × SS) := (TX7_isSheet a1).bind fun v1 =>
  (if v1 = 0 then some ((-2), S) else
  (TX7_isIn (Int32.toInt64 a2) (-1) 1).bind fun v2 =>
  (if v2 = 0 then some ((-2), S) else
  (if a2 = (-1) then TX7_sheet_J33 a1 a2 a3 S else
  (if a3 ≤ 40 then TX7_sheet_J33 a1 a2 a3 S else
  some ((-2), S)))))
theorem eqX7_sheet (t : Nat) (ct : Nat → ClassId) (a1 : Int32) (a2 : Int32) (a3 : Int32) (S : SS) : X7_sheet (t + 64) a1 a2 a3 (HH t ct S) = (TX7_sheet a1 a2 a3 S).map (hwI t ct) := by
  show EQ _ _ _
  unfold X7_sheet TX7_sheet
  refine e_get (HH_vO rfl) ?_
  refine e_call (eqX7_isSheet t ct a1) ?_
  intro v1
  refine e_ite ?_ ?_
  · exact e_ret rfl
  · refine e_call (eqX7_isIn t ct (Int32.toInt64 a2) (-1) 1) ?_
    intro v2
    refine e_ite ?_ ?_
    · exact e_ret rfl
    · refine e_ite ?_ ?_
      · exact eqX7_sheet_J33 t ct a1 a2 a3 S
      · refine e_ite ?_ ?_
        · exact eqX7_sheet_J33 t ct a1 a2 a3 S
        · exact e_ret rfl
def TX7_put (a1 : Int32) (a2 : Int32) (a3 : Int32) (S : SS) : Option (Int32 × SS) := (TX7_isSheet a1).bind fun v1 =>
  (if v1 = 0 then some ((-2), S) else
  (aget 4 (S.2.2.1 98) a1).bind fun v3 =>
  (if v3 = (-1) then some ((-11), S) else
  (aget 4 (S.2.2.1 99) a1).bind fun v5 =>
  (TX7_isIn (Int32.toInt64 a2) 0 (Int32.toInt64 (v5 - 1))).bind fun v6 =>
  (if v6 = 0 then some ((-12), S) else
  (aget 4 (S.2.2.1 98) a1).bind fun v9 =>
  (if v9 = 0 then (if jin ((40 * a1) + a2) 160 then letS (sAI S 100 (Int32.toNatClampNeg ((40 * a1) + a2)) ((Int32.toInt16 a3).toInt32)) fun S11 =>
  some (1, S11) else
  none) else
  (if jin ((40 * a1) + a2) 160 then letS (sAI S 100 (Int32.toNatClampNeg ((40 * a1) + a2)) a3) fun S10 =>
  some (1, S10) else
  none)))))
theorem eqX7_put (t : Nat) (ct : Nat → ClassId) (a1 : Int32) (a2 : Int32) (a3 : Int32) (S : SS) : X7_put (t + 64) a1 a2 a3 (HH t ct S) = (TX7_put a1 a2 a3 S).map (hwI t ct) := by
  show EQ _ _ _
  unfold X7_put TX7_put
  refine e_get (HH_vO rfl) ?_
  refine e_call (eqX7_isSheet t ct a1) ?_
  intro v1
  refine e_ite ?_ ?_
  · exact e_ret rfl
  · refine e_get (HH_gR rfl rfl) ?_
    refine e_bind (HH_aI rfl) ?_
    intro v3
    refine e_ite ?_ ?_
    · exact e_ret rfl
    · refine e_get (HH_gR rfl rfl) ?_
      refine e_bind (HH_aI rfl) ?_
      intro v5
      refine e_call (eqX7_isIn t ct (Int32.toInt64 a2) 0 (Int32.toInt64 (v5 - 1))) ?_
      intro v6
      refine e_ite ?_ ?_
      · exact e_ret rfl
      · refine e_get (HH_gR rfl rfl) ?_
        refine e_get (HH_gR rfl rfl) ?_
        refine e_bind (HH_aI rfl) ?_
        intro v9
        refine e_ite ?_ ?_
        · refine e_wrS (HH_wI rfl) ?_
          intro S11
          exact e_ret rfl
        · refine e_wrS (HH_wI rfl) ?_
          intro S10
          exact e_ret rfl
def TX7_copy_L154 : Nat → Int32 → Int32 → Int32 → Int32 → SS → Option (Int32 × SS)
  | 0, _, _, _, _, _ => none
  | n + 1, l3, l4, l5, l7, S => (if l5 ≤ l7 then some (l5, S) else
  (aget 40 (S.2.2.1 101) l7).bind fun v13 =>
  (if jin (((40 * l3) + l4) + l7) 160 then letS (sAI S 100 (Int32.toNatClampNeg (((40 * l3) + l4) + l7)) v13) fun S14 =>
  TX7_copy_L154 n l3 l4 l5 (l7 + 1) S14 else
  none))
theorem eqX7_copy_L154 (t : Nat) (ct : Nat → ClassId) : ∀ (n : Nat), ∀ (l3 : Int32) (l4 : Int32) (l5 : Int32) (l7 : Int32) (S : SS), EQ (X7_copy_L154 n (t + 64) l3 l4 l5 l7 (HH t ct S)) (TX7_copy_L154 n l3 l4 l5 l7 S) (hwI t ct) := by
  intro n
  induction n with
  | zero => intro l3 l4 l5 l7 S; exact e_none
  | succ n ih =>
    intro l3 l4 l5 l7 S
    unfold X7_copy_L154 TX7_copy_L154
    refine e_ite ?_ ?_
    · exact e_ret rfl
    · refine e_get (HH_gR rfl rfl) ?_
      refine e_get (HH_gR rfl rfl) ?_
      refine e_bind (HH_aI rfl) ?_
      intro v13
      refine e_wrS (HH_wI rfl) ?_
      intro S14
      exact ih l3 l4 l5 (l7 + 1) S14
def TX7_copy_L117 : Nat → Int32 → Int32 → Int32 → Int32 → Int32 → Int32 → SS → Option (Int32 × SS)
  | 0, _, _, _, _, _, _, _ => none
  | n + 1, l1, l2, l3, l4, l5, l7, S => (if l5 ≤ l7 then TX7_copy_L154 fu l3 l4 l5 0 S else
  (aget 160 (S.2.2.1 100) (((40 * l1) + l2) + l7)).bind fun v17 =>
  (if jin l7 40 then letS (sAI S 101 (Int32.toNatClampNeg l7) v17) fun S18 =>
  TX7_copy_L117 n l1 l2 l3 l4 l5 (l7 + 1) S18 else
  none))
theorem eqX7_copy_L117 (t : Nat) (ct : Nat → ClassId) : ∀ (n : Nat), ∀ (l1 : Int32) (l2 : Int32) (l3 : Int32) (l4 : Int32) (l5 : Int32) (l7 : Int32) (S : SS), EQ (X7_copy_L117 n (t + 64) l1 l2 l3 l4 l5 l7 (HH t ct S)) (TX7_copy_L117 n l1 l2 l3 l4 l5 l7 S) (hwI t ct) := by
  intro n
  induction n with
  | zero => intro l1 l2 l3 l4 l5 l7 S; exact e_none
  | succ n ih =>
    intro l1 l2 l3 l4 l5 l7 S
    unfold X7_copy_L117 TX7_copy_L117
    refine e_ite ?_ ?_
    · exact eqX7_copy_L154 t ct fu l3 l4 l5 0 S
    · refine e_get (HH_gR rfl rfl) ?_
      refine e_get (HH_gR rfl rfl) ?_
      refine e_bind (HH_aI rfl) ?_
      intro v17
      refine e_wrS (HH_wI rfl) ?_
      intro S18
      exact ih l1 l2 l3 l4 l5 (l7 + 1) S18
def TX7_copy_J104 (l1 : Int32) (l2 : Int32) (l3 : Int32) (l4 : Int32) (l5 : Int32) (s0 : Int32) (S : SS) : Option (Int32 × SS) := (if s0 = 0 then some ((-12), S) else
  TX7_copy_L117 fu l1 l2 l3 l4 l5 0 S)
theorem eqX7_copy_J104 (t : Nat) (ct : Nat → ClassId) : ∀ (l1 : Int32) (l2 : Int32) (l3 : Int32) (l4 : Int32) (l5 : Int32) (s0 : Int32) (S : SS), EQ (X7_copy_J104 (t + 64) l1 l2 l3 l4 l5 s0 (HH t ct S)) (TX7_copy_J104 l1 l2 l3 l4 l5 s0 S) (hwI t ct) := by
  intro l1 l2 l3 l4 l5 s0 S
  unfold X7_copy_J104 TX7_copy_J104
  refine e_ite ?_ ?_
  · exact e_ret rfl
  · exact eqX7_copy_L117 t ct fu l1 l2 l3 l4 l5 0 S
def TX7_copy (a1 : Int32) (a2 : Int32) (a3 : Int32) (a4 : Int32) (a5 : Int32) (S : SS) : Option (Int32 × SS) := (TX7_isSheet a1).bind fun v1 =>
  (if v1 = 0 then some ((-2), S) else
  (TX7_isSheet a3).bind fun v2 =>
  (if v2 = 0 then some ((-2), S) else
  (aget 4 (S.2.2.1 98) a1).bind fun v4 =>
  (if v4 = (-1) then some ((-11), S) else
  (aget 4 (S.2.2.1 98) a3).bind fun v6 =>
  (if v6 = (-1) then some ((-11), S) else
  (aget 4 (S.2.2.1 98) a1).bind fun v8 =>
  (aget 4 (S.2.2.1 98) a3).bind fun v10 =>
  (if v8 = v10 then (if a5 < 0 then TX7_copy_J104 a1 a2 a3 a4 a5 0 S else
  (if a2 < 0 then TX7_copy_J104 a1 a2 a3 a4 a5 0 S else
  (if a4 < 0 then TX7_copy_J104 a1 a2 a3 a4 a5 0 S else
  (aget 4 (S.2.2.1 99) a1).bind fun v20 =>
  (if (v20 - a2) < a5 then TX7_copy_J104 a1 a2 a3 a4 a5 0 S else
  (aget 4 (S.2.2.1 99) a3).bind fun v22 =>
  (if (v22 - a4) < a5 then TX7_copy_J104 a1 a2 a3 a4 a5 0 S else
  TX7_copy_J104 a1 a2 a3 a4 a5 1 S))))) else
  some ((-13), S))))))
theorem eqX7_copy (t : Nat) (ct : Nat → ClassId) (a1 : Int32) (a2 : Int32) (a3 : Int32) (a4 : Int32) (a5 : Int32) (S : SS) : X7_copy (t + 64) a1 a2 a3 a4 a5 (HH t ct S) = (TX7_copy a1 a2 a3 a4 a5 S).map (hwI t ct) := by
  show EQ _ _ _
  unfold X7_copy TX7_copy
  refine e_get (HH_vO rfl) ?_
  refine e_call (eqX7_isSheet t ct a1) ?_
  intro v1
  refine e_ite ?_ ?_
  · exact e_ret rfl
  · refine e_call (eqX7_isSheet t ct a3) ?_
    intro v2
    refine e_ite ?_ ?_
    · exact e_ret rfl
    · refine e_get (HH_gR rfl rfl) ?_
      refine e_bind (HH_aI rfl) ?_
      intro v4
      refine e_ite ?_ ?_
      · exact e_ret rfl
      · refine e_get (HH_gR rfl rfl) ?_
        refine e_bind (HH_aI rfl) ?_
        intro v6
        refine e_ite ?_ ?_
        · exact e_ret rfl
        · refine e_get (HH_gR rfl rfl) ?_
          refine e_bind (HH_aI rfl) ?_
          intro v8
          refine e_get (HH_gR rfl rfl) ?_
          refine e_bind (HH_aI rfl) ?_
          intro v10
          refine e_ite ?_ ?_
          · refine e_ite ?_ ?_
            · exact eqX7_copy_J104 t ct a1 a2 a3 a4 a5 0 S
            · refine e_ite ?_ ?_
              · exact eqX7_copy_J104 t ct a1 a2 a3 a4 a5 0 S
              · refine e_ite ?_ ?_
                · exact eqX7_copy_J104 t ct a1 a2 a3 a4 a5 0 S
                · refine e_get (HH_gR rfl rfl) ?_
                  refine e_bind (HH_aI rfl) ?_
                  intro v20
                  refine e_ite ?_ ?_
                  · exact eqX7_copy_J104 t ct a1 a2 a3 a4 a5 0 S
                  · refine e_get (HH_gR rfl rfl) ?_
                    refine e_bind (HH_aI rfl) ?_
                    intro v22
                    refine e_ite ?_ ?_
                    · exact eqX7_copy_J104 t ct a1 a2 a3 a4 a5 0 S
                    · exact eqX7_copy_J104 t ct a1 a2 a3 a4 a5 1 S
          · exact e_ret rfl
