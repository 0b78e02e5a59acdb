/-! Terms over the four pictures. Written by wip/whole/decompT.py. -/
def TX7_drawn_L32 : Nat → Int32 → Int32 → Int32 → SS → Option (Int64 × SS)
  | 0, _, _, _, _ => none
  | n + 1, l2, l3, l4, S => (if l2 ≤ l4 then (TX7_greatest S).bind fun v4 =>
  (TJ9_floorDiv_f86c9 v4 (S.2.1 64 14)).bind fun v6 =>
  some (v6, S) else
  (o_irem ((Int32.toUInt32 ((l3 * 1103515245) + 12345) >>> (Int32.toUInt32 9 &&& Int32.toUInt32 31)).toInt32) (S.1 64 0)).bind fun v9 =>
  (aget 8 (S.2.2.2 75) v9).bind fun v10 =>
  (o_irem ((Int32.toUInt32 ((l3 * 1103515245) + 12345) >>> (Int32.toUInt32 20 &&& Int32.toUInt32 31)).toInt32) 10).bind fun v11 =>
  (if jin v9 8 then letS (sAL S 75 (Int32.toNatClampNeg v9) (v10 + ((Int32.toInt64 v11) * (S.2.1 64 14)))) fun S13 =>
  (TX7_goes S13).bind fun q14 =>
  (if q14.1 = 0 then some ((-9223372036854775808), q14.2) else
  TX7_drawn_L32 n l2 ((l3 * 1103515245) + 12345) (l4 + 1) q14.2) else
  none))
theorem eqX7_drawn_L32 (t : Nat) (ct : Nat → ClassId) : ∀ (n : Nat), ∀ (l2 : Int32) (l3 : Int32) (l4 : Int32) (S : SS), EQ (X7_drawn_L32 n (t + 64) l2 l3 l4 (HH t ct S)) (TX7_drawn_L32 n l2 l3 l4 S) (hwL t ct) := by
  intro n
  induction n with
  | zero => intro l2 l3 l4 S; exact e_none
  | succ n ih =>
    intro l2 l3 l4 S
    unfold X7_drawn_L32 TX7_drawn_L32
    refine e_ite ?_ ?_
    · refine e_call (eqX7_greatest t ct S) ?_
      intro v4
      refine e_get (HH_gL rfl rfl) ?_
      refine e_call (eqJ9_floorDiv_f86c9 t ct v4 (S.2.1 64 14)) ?_
      intro v6
      exact e_ret rfl
    · refine e_get (HH_gR rfl rfl) ?_
      refine e_get (HH_gI rfl rfl) ?_
      refine e_bind rfl ?_
      intro v9
      refine e_bind (HH_aL rfl) ?_
      intro v10
      refine e_bind rfl ?_
      intro v11
      refine e_get (HH_gL rfl rfl) ?_
      refine e_wrS (HH_wL rfl) ?_
      intro S13
      refine e_call (eqX7_goes t ct S13) ?_
      intro q14
      refine e_ite ?_ ?_
      · exact e_ret rfl
      · exact ih l2 ((l3 * 1103515245) + 12345) (l4 + 1) q14.2
def TX7_drawn (a1 : Int32) (a2 : Int32) (S : SS) : Option (Int64 × SS) := (TX7_isIn (Int32.toInt64 a2) 0 20).bind fun v1 =>
  (if v1 = 0 then some ((-9223372036854775808), S) else
  (if (S.1 64 0) = 0 then some ((-9223372036854775808), S) else
  (TX7_think S).bind fun q3 =>
  TX7_drawn_L32 fu a2 a1 0 q3))
theorem eqX7_drawn (t : Nat) (ct : Nat → ClassId) (a1 : Int32) (a2 : Int32) (S : SS) : X7_drawn (t + 64) a1 a2 (HH t ct S) = (TX7_drawn a1 a2 S).map (hwL t ct) := by
  show EQ _ _ _
  unfold X7_drawn TX7_drawn
  refine e_get (HH_vO rfl) ?_
  refine e_call (eqX7_isIn t ct (Int32.toInt64 a2) 0 20) ?_
  intro v1
  refine e_ite ?_ ?_
  · exact e_ret rfl
  · refine e_get (HH_gI rfl rfl) ?_
    refine e_ite ?_ ?_
    · exact e_ret rfl
    · refine e_call (eqX7_think t ct S) ?_
      intro q3
      exact eqX7_drawn_L32 t ct fu a2 a1 0 q3
def TX7_feed_J164 (r107 : Int32 → Int32 → Int32 → Int32 → Int32 → Int32 → Int32 → SS → Option (Int32 × SS)) (l1 : Int32) (l2 : Int32) (l3 : Int32) (l4 : Int32) (l5 : Int32) (l6 : Int32) (l8 : Int32) (s0 : Int32) (s1 : Int32) (S : SS) : Option (Int32 × SS) := (if jin s1 60 then letS (sAI S 86 (Int32.toNatClampNeg s1) s0) fun S7 =>
  letS (sFI S7 64 29 ((S7.1 64 29) + 1)) fun S9 =>
  r107 l1 l2 l3 l4 l5 l6 (l8 + 1) S9 else
  none)
theorem eqX7_feed_J164 (t : Nat) (ct : Nat → ClassId) (g107 : Nat → Int32 → Int32 → Int32 → Int32 → Int32 → Int32 → Int32 → Hs → Option (Int32 × Hs)) (r107 : Int32 → Int32 → Int32 → Int32 → Int32 → Int32 → Int32 → SS → Option (Int32 × SS)) (hr107 : ∀ (l1 : Int32) (l2 : Int32) (l3 : Int32) (l4 : Int32) (l5 : Int32) (l6 : Int32) (l8 : Int32) (S : SS), EQ (g107 (t + 64) l1 l2 l3 l4 l5 l6 l8 (HH t ct S)) (r107 l1 l2 l3 l4 l5 l6 l8 S) (hwI t ct)) : ∀ (l1 : Int32) (l2 : Int32) (l3 : Int32) (l4 : Int32) (l5 : Int32) (l6 : Int32) (l8 : Int32) (s0 : Int32) (s1 : Int32) (S : SS), EQ (X7_feed_J164 g107 (t + 64) l1 l2 l3 l4 l5 l6 l8 s0 s1 (t + 86) (HH t ct S)) (TX7_feed_J164 r107 l1 l2 l3 l4 l5 l6 l8 s0 s1 S) (hwI t ct) := by
  intro l1 l2 l3 l4 l5 l6 l8 s0 s1 S
  unfold X7_feed_J164 TX7_feed_J164
  refine e_wrS (HH_wI rfl) ?_
  intro S7
  refine e_get (HH_gI rfl rfl) ?_
  refine e_put (HH_pI rfl rfl) ?_
  intro S9
  exact hr107 l1 l2 l3 l4 l5 l6 (l8 + 1) S9
def TX7_feed_L107 : Nat → Int32 → Int32 → Int32 → Int32 → Int32 → Int32 → Int32 → SS → Option (Int32 × SS)
  | 0, _, _, _, _, _, _, _, _ => none
  | n + 1, l1, l2, l3, l4, l5, l6, l8, S => (if l1 ≤ l8 then some ((S.1 64 29), S) else
  (if l8 = 0 then TX7_feed_J164 (fun l1 l2 l3 l4 l5 l6 l8 S => TX7_feed_L107 n l1 l2 l3 l4 l5 l6 l8 S) l1 l2 l3 l4 l5 l6 l8 l2 (S.1 64 29) S else
  (if l8 = 1 then TX7_feed_J164 (fun l1 l2 l3 l4 l5 l6 l8 S => TX7_feed_L107 n l1 l2 l3 l4 l5 l6 l8 S) l1 l2 l3 l4 l5 l6 l8 l3 (S.1 64 29) S else
  (if l8 = 2 then TX7_feed_J164 (fun l1 l2 l3 l4 l5 l6 l8 S => TX7_feed_L107 n l1 l2 l3 l4 l5 l6 l8 S) l1 l2 l3 l4 l5 l6 l8 l4 (S.1 64 29) S else
  (if l8 = 3 then TX7_feed_J164 (fun l1 l2 l3 l4 l5 l6 l8 S => TX7_feed_L107 n l1 l2 l3 l4 l5 l6 l8 S) l1 l2 l3 l4 l5 l6 l8 l5 (S.1 64 29) S else
  TX7_feed_J164 (fun l1 l2 l3 l4 l5 l6 l8 S => TX7_feed_L107 n l1 l2 l3 l4 l5 l6 l8 S) l1 l2 l3 l4 l5 l6 l8 l6 (S.1 64 29) S)))))
theorem eqX7_feed_L107 (t : Nat) (ct : Nat → ClassId) : ∀ (n : Nat), ∀ (l1 : Int32) (l2 : Int32) (l3 : Int32) (l4 : Int32) (l5 : Int32) (l6 : Int32) (l8 : Int32) (S : SS), EQ (X7_feed_L107 n (t + 64) l1 l2 l3 l4 l5 l6 l8 (HH t ct S)) (TX7_feed_L107 n l1 l2 l3 l4 l5 l6 l8 S) (hwI t ct) := by
  intro n
  induction n with
  | zero => intro l1 l2 l3 l4 l5 l6 l8 S; exact e_none
  | succ n ih =>
    intro l1 l2 l3 l4 l5 l6 l8 S
    unfold X7_feed_L107 TX7_feed_L107
    refine e_ite ?_ ?_
    · refine e_get (HH_gI rfl rfl) ?_
      exact e_ret rfl
    · refine e_get (HH_gR rfl rfl) ?_
      refine e_get (HH_gI rfl rfl) ?_
      refine e_ite ?_ ?_
      · exact eqX7_feed_J164 t ct _ (fun l1 l2 l3 l4 l5 l6 l8 S => TX7_feed_L107 n l1 l2 l3 l4 l5 l6 l8 S) ih l1 l2 l3 l4 l5 l6 l8 l2 (S.1 64 29) S
      · refine e_ite ?_ ?_
        · exact eqX7_feed_J164 t ct _ (fun l1 l2 l3 l4 l5 l6 l8 S => TX7_feed_L107 n l1 l2 l3 l4 l5 l6 l8 S) ih l1 l2 l3 l4 l5 l6 l8 l3 (S.1 64 29) S
        · refine e_ite ?_ ?_
          · exact eqX7_feed_J164 t ct _ (fun l1 l2 l3 l4 l5 l6 l8 S => TX7_feed_L107 n l1 l2 l3 l4 l5 l6 l8 S) ih l1 l2 l3 l4 l5 l6 l8 l4 (S.1 64 29) S
          · refine e_ite ?_ ?_
            · exact eqX7_feed_J164 t ct _ (fun l1 l2 l3 l4 l5 l6 l8 S => TX7_feed_L107 n l1 l2 l3 l4 l5 l6 l8 S) ih l1 l2 l3 l4 l5 l6 l8 l5 (S.1 64 29) S
            · exact eqX7_feed_J164 t ct _ (fun l1 l2 l3 l4 l5 l6 l8 S => TX7_feed_L107 n l1 l2 l3 l4 l5 l6 l8 S) ih l1 l2 l3 l4 l5 l6 l8 l6 (S.1 64 29) S
def TX7_feed_J68 (l1 : Int32) (l2 : Int32) (l3 : Int32) (l4 : Int32) (l5 : Int32) (l6 : Int32) (s0 : Int32) (S : SS) : Option (Int32 × SS) := (TX7_isIn (Int32.toInt64 l1) 1 5).bind fun v2 =>
  (if v2 = 0 then some ((-2), S) else
  (if s0 = 0 then some ((-2), S) else
  (if ((S.1 64 29) + l1) ≤ 60 then TX7_feed_L107 fu l1 l2 l3 l4 l5 l6 0 S else
  some ((-4), S))))
theorem eqX7_feed_J68 (t : Nat) (ct : Nat → ClassId) : ∀ (l1 : Int32) (l2 : Int32) (l3 : Int32) (l4 : Int32) (l5 : Int32) (l6 : Int32) (s0 : Int32) (S : SS), EQ (X7_feed_J68 (t + 64) l1 l2 l3 l4 l5 l6 s0 (HH t ct S)) (TX7_feed_J68 l1 l2 l3 l4 l5 l6 s0 S) (hwI t ct) := by
  intro l1 l2 l3 l4 l5 l6 s0 S
  unfold X7_feed_J68 TX7_feed_J68
  refine e_call (eqX7_isIn t ct (Int32.toInt64 l1) 1 5) ?_
  intro v2
  refine e_ite ?_ ?_
  · exact e_ret rfl
  · refine e_ite ?_ ?_
    · exact e_ret rfl
    · refine e_get (HH_gI rfl rfl) ?_
      refine e_ite ?_ ?_
      · exact eqX7_feed_L107 t ct fu l1 l2 l3 l4 l5 l6 0 S
      · exact e_ret rfl
def TX7_feed (a1 : Int32) (a2 : Int32) (a3 : Int32) (a4 : Int32) (a5 : Int32) (a6 : Int32) (S : SS) : Option (Int32 × SS) := (TX7_isIn (Int32.toInt64 a2) 0 255).bind fun v1 =>
  (if v1 = 0 then TX7_feed_J68 a1 a2 a3 a4 a5 a6 0 S else
  (TX7_isIn (Int32.toInt64 a3) 0 255).bind fun v10 =>
  (if v10 = 0 then TX7_feed_J68 a1 a2 a3 a4 a5 a6 0 S else
  (TX7_isIn (Int32.toInt64 a4) 0 255).bind fun v11 =>
  (if v11 = 0 then TX7_feed_J68 a1 a2 a3 a4 a5 a6 0 S else
  (TX7_isIn (Int32.toInt64 a5) 0 255).bind fun v12 =>
  (if v12 = 0 then TX7_feed_J68 a1 a2 a3 a4 a5 a6 0 S else
  (TX7_isIn (Int32.toInt64 a6) 0 255).bind fun v13 =>
  (if v13 = 0 then TX7_feed_J68 a1 a2 a3 a4 a5 a6 0 S else
  TX7_feed_J68 a1 a2 a3 a4 a5 a6 1 S)))))
theorem eqX7_feed (t : Nat) (ct : Nat → ClassId) (a1 : Int32) (a2 : Int32) (a3 : Int32) (a4 : Int32) (a5 : Int32) (a6 : Int32) (S : SS) : X7_feed (t + 64) a1 a2 a3 a4 a5 a6 (HH t ct S) = (TX7_feed a1 a2 a3 a4 a5 a6 S).map (hwI t ct) := by
  show EQ _ _ _
  unfold X7_feed TX7_feed
  refine e_get (HH_vO rfl) ?_
  refine e_call (eqX7_isIn t ct (Int32.toInt64 a2) 0 255) ?_
  intro v1
  refine e_ite ?_ ?_
  · exact eqX7_feed_J68 t ct a1 a2 a3 a4 a5 a6 0 S
  · refine e_call (eqX7_isIn t ct (Int32.toInt64 a3) 0 255) ?_
    intro v10
    refine e_ite ?_ ?_
    · exact eqX7_feed_J68 t ct a1 a2 a3 a4 a5 a6 0 S
    · refine e_call (eqX7_isIn t ct (Int32.toInt64 a4) 0 255) ?_
      intro v11
      refine e_ite ?_ ?_
      · exact eqX7_feed_J68 t ct a1 a2 a3 a4 a5 a6 0 S
      · refine e_call (eqX7_isIn t ct (Int32.toInt64 a5) 0 255) ?_
        intro v12
        refine e_ite ?_ ?_
        · exact eqX7_feed_J68 t ct a1 a2 a3 a4 a5 a6 0 S
        · refine e_call (eqX7_isIn t ct (Int32.toInt64 a6) 0 255) ?_
          intro v13
          refine e_ite ?_ ?_
          · exact eqX7_feed_J68 t ct a1 a2 a3 a4 a5 a6 0 S
          · exact eqX7_feed_J68 t ct a1 a2 a3 a4 a5 a6 1 S
def TX7_isDigit (a1 : Int32) (S : SS) : Option (Int32) := (if (S.1 64 30) ≤ a1 then (zb 0).bind fun v2 => some v2 else
  (aget 60 (S.2.2.1 86) a1).bind fun v4 =>
  (TX7_isIn (Int32.toInt64 v4) 48 57).bind fun v5 =>
  (if v5 = 0 then (zb 0).bind fun v6 => some v6 else
  (zb 1).bind fun v7 => some v7))
theorem eqX7_isDigit (t : Nat) (ct : Nat → ClassId) (a1 : Int32) (S : SS) : X7_isDigit (t + 64) a1 (HH t ct S) = (TX7_isDigit a1 S).map id := by
  show EQ _ _ _
  unfold X7_isDigit TX7_isDigit
  refine e_get (HH_vO rfl) ?_
  refine e_get (HH_gI rfl rfl) ?_
  refine e_ite ?_ ?_
  · exact e_bind rfl (fun _ => e_ret rfl)
  · refine e_get (HH_gR rfl rfl) ?_
    refine e_bind (HH_aI rfl) ?_
    intro v4
    refine e_call (eqX7_isIn t ct (Int32.toInt64 v4) 48 57) ?_
    intro v5
    refine e_ite ?_ ?_
    · exact e_bind rfl (fun _ => e_ret rfl)
    · exact e_bind rfl (fun _ => e_ret rfl)
def TX7_isLetter (a1 : Int32) (S : SS) : Option (Int32) := (if (S.1 64 30) ≤ a1 then (zb 0).bind fun v2 => some v2 else
  (aget 60 (S.2.2.1 86) a1).bind fun v4 =>
  (TX7_isIn (Int32.toInt64 v4) 97 122).bind fun v5 =>
  (if v5 = 0 then (zb 0).bind fun v6 => some v6 else
  (zb 1).bind fun v7 => some v7))
theorem eqX7_isLetter (t : Nat) (ct : Nat → ClassId) (a1 : Int32) (S : SS) : X7_isLetter (t + 64) a1 (HH t ct S) = (TX7_isLetter a1 S).map id := by
  show EQ _ _ _
  unfold X7_isLetter TX7_isLetter
  refine e_get (HH_vO rfl) ?_
  refine e_get (HH_gI rfl rfl) ?_
  refine e_ite ?_ ?_
  · exact e_bind rfl (fun _ => e_ret rfl)
  · refine e_get (HH_gR rfl rfl) ?_
    refine e_bind (HH_aI rfl) ?_
    intro v4
    refine e_call (eqX7_isIn t ct (Int32.toInt64 v4) 97 122) ?_
    intro v5
    refine e_ite ?_ ?_
    · exact e_bind rfl (fun _ => e_ret rfl)
    · exact e_bind rfl (fun _ => e_ret rfl)
def TX7_readsWord_J154 (r33 : Int32 → Int32 → SS → Option (SS)) (l2 : Int32) (l3 : Int32) (S : SS) : Option (SS) := r33 (l3 + 1) (l2 + 1) S
theorem eqX7_readsWord_J154 (t : Nat) (ct : Nat → ClassId) (g33 : Nat → Int32 → Int32 → Hs → Option (Hs)) (r33 : Int32 → Int32 → SS → Option (SS)) (hr33 : ∀ (l1 : Int32) (l2 : Int32) (S : SS), EQ (g33 (t + 64) l1 l2 (HH t ct S)) (r33 l1 l2 S) (HH t ct)) : ∀ (l2 : Int32) (l3 : Int32) (S : SS), EQ (X7_readsWord_J154 g33 (t + 64) l2 l3 (HH t ct S)) (TX7_readsWord_J154 r33 l2 l3 S) (HH t ct) := by
  intro l2 l3 S
  unfold X7_readsWord_J154 TX7_readsWord_J154
  exact hr33 (l3 + 1) (l2 + 1) S
def TX7_readsWord_J139 (r33 : Int32 → Int32 → SS → Option (SS)) (l2 : Int32) (l3 : Int32) (l4 : Int32) (S : SS) : Option (SS) := (if l4 = 0 then TX7_readsWord_J154 r33 l2 l3 S else
  letS (sFI S 64 33 1) fun S8 =>
  letS (sFI S8 64 34 l2) fun S9 =>
  TX7_readsWord_J154 r33 l2 l3 S9)
theorem eqX7_readsWord_J139 (t : Nat) (ct : Nat → ClassId) (g33 : Nat → Int32 → Int32 → Hs → Option (Hs)) (r33 : Int32 → Int32 → SS → Option (SS)) (hr33 : ∀ (l1 : Int32) (l2 : Int32) (S : SS), EQ (g33 (t + 64) l1 l2 (HH t ct S)) (r33 l1 l2 S) (HH t ct)) : ∀ (l2 : Int32) (l3 : Int32) (l4 : Int32) (S : SS), EQ (X7_readsWord_J139 g33 (t + 64) l2 l3 l4 (HH t ct S)) (TX7_readsWord_J139 r33 l2 l3 l4 S) (HH t ct) := by
  intro l2 l3 l4 S
  unfold X7_readsWord_J139 TX7_readsWord_J139
  refine e_ite ?_ ?_
  · exact eqX7_readsWord_J154 t ct _ r33 hr33 l2 l3 S
  · refine e_put (HH_pI rfl rfl) ?_
    intro S8
    refine e_put (HH_pI rfl rfl) ?_
    intro S9
    exact eqX7_readsWord_J154 t ct _ r33 hr33 l2 l3 S9
def TX7_readsWord_L83 (r33 : Int32 → Int32 → SS → Option (SS)) : Nat → Int32 → Int32 → Int32 → Int32 → Int32 → SS → Option (SS)
  | 0, _, _, _, _, _, _ => none
  | n + 1, l1, l2, l3, l4, l5, S => (if l4 = 0 then TX7_readsWord_J139 r33 l2 l3 l4 S else
  (if ((S.1 64 31) - (S.1 64 32)) ≤ l5 then TX7_readsWord_J139 r33 l2 l3 l4 S else
  (aget 44 (S.2.2.1 84) (l1 + l5)).bind fun v13 =>
  (aget 60 (S.2.2.1 86) ((S.1 64 32) + l5)).bind fun v16 =>
  (if v13 = v16 then TX7_readsWord_L83 r33 n l1 l2 l3 1 (l5 + 1) S else
  TX7_readsWord_L83 r33 n l1 l2 l3 0 (l5 + 1) S)))
theorem eqX7_readsWord_L83 (t : Nat) (ct : Nat → ClassId) (g33 : Nat → Int32 → Int32 → Hs → Option (Hs)) (r33 : Int32 → Int32 → SS → Option (SS)) (hr33 : ∀ (l1 : Int32) (l2 : Int32) (S : SS), EQ (g33 (t + 64) l1 l2 (HH t ct S)) (r33 l1 l2 S) (HH t ct)) : ∀ (n : Nat), ∀ (l1 : Int32) (l2 : Int32) (l3 : Int32) (l4 : Int32) (l5 : Int32) (S : SS), EQ (X7_readsWord_L83 g33 n (t + 64) l1 l2 l3 l4 l5 (HH t ct S)) (TX7_readsWord_L83 r33 n l1 l2 l3 l4 l5 S) (HH t ct) := by
  intro n
  induction n with
  | zero => intro l1 l2 l3 l4 l5 S; exact e_none
  | succ n ih =>
    intro l1 l2 l3 l4 l5 S
    unfold X7_readsWord_L83 TX7_readsWord_L83
    refine e_ite ?_ ?_
    · exact eqX7_readsWord_J139 t ct _ r33 hr33 l2 l3 l4 S
    · refine e_get (HH_gI rfl rfl) ?_
      refine e_get (HH_gI rfl rfl) ?_
      refine e_ite ?_ ?_
      · exact eqX7_readsWord_J139 t ct _ r33 hr33 l2 l3 l4 S
      · refine e_get (HH_gR rfl rfl) ?_
        refine e_bind (HH_aC rfl) ?_
        intro v13
        refine e_get (HH_gR rfl rfl) ?_
        refine e_get (HH_gI rfl rfl) ?_
        refine e_bind (HH_aI rfl) ?_
        intro v16
        refine e_ite ?_ ?_
        · exact ih l1 l2 l3 1 (l5 + 1) S
        · exact ih l1 l2 l3 0 (l5 + 1) S
def TX7_readsWord_J78 (r33 : Int32 → Int32 → SS → Option (SS)) (l1 : Int32) (l2 : Int32) (l3 : Int32) (s0 : Int32) (S : SS) : Option (SS) := TX7_readsWord_L83 r33 fu l1 l2 l3 s0 0 S
theorem eqX7_readsWord_J78 (t : Nat) (ct : Nat → ClassId) (g33 : Nat → Int32 → Int32 → Hs → Option (Hs)) (r33 : Int32 → Int32 → SS → Option (SS)) (hr33 : ∀ (l1 : Int32) (l2 : Int32) (S : SS), EQ (g33 (t + 64) l1 l2 (HH t ct S)) (r33 l1 l2 S) (HH t ct)) : ∀ (l1 : Int32) (l2 : Int32) (l3 : Int32) (s0 : Int32) (S : SS), EQ (X7_readsWord_J78 g33 (t + 64) l1 l2 l3 s0 (HH t ct S)) (TX7_readsWord_J78 r33 l1 l2 l3 s0 S) (HH t ct) := by
  intro l1 l2 l3 s0 S
  unfold X7_readsWord_J78 TX7_readsWord_J78
  exact eqX7_readsWord_L83 t ct _ r33 hr33 fu l1 l2 l3 s0 0 S
def TX7_readsWord_L41 (r33 : Int32 → Int32 → SS → Option (SS)) : Nat → Int32 → Int32 → Int32 → SS → Option (SS)
  | 0, _, _, _, _ => none
  | n + 1, l1, l2, l3, S => (aget 44 (S.2.2.1 84) l3).bind fun v5 =>
  (if v5 = 32 then (if (l3 - l1) = ((S.1 64 31) - (S.1 64 32)) then TX7_readsWord_J78 r33 l1 l2 l3 1 S else
  TX7_readsWord_J78 r33 l1 l2 l3 0 S) else
  TX7_readsWord_L41 r33 n l1 l2 (l3 + 1) S)
theorem eqX7_readsWord_L41 (t : Nat) (ct : Nat → ClassId) (g33 : Nat → Int32 → Int32 → Hs → Option (Hs)) (r33 : Int32 → Int32 → SS → Option (SS)) (hr33 : ∀ (l1 : Int32) (l2 : Int32) (S : SS), EQ (g33 (t + 64) l1 l2 (HH t ct S)) (r33 l1 l2 S) (HH t ct)) : ∀ (n : Nat), ∀ (l1 : Int32) (l2 : Int32) (l3 : Int32) (S : SS), EQ (X7_readsWord_L41 g33 n (t + 64) l1 l2 l3 (HH t ct S)) (TX7_readsWord_L41 r33 n l1 l2 l3 S) (HH t ct) := by
  intro n
  induction n with
  | zero => intro l1 l2 l3 S; exact e_none
  | succ n ih =>
    intro l1 l2 l3 S
    unfold X7_readsWord_L41 TX7_readsWord_L41
    refine e_get (HH_gR rfl rfl) ?_
    refine e_bind (HH_aC rfl) ?_
    intro v5
    refine e_ite ?_ ?_
    · refine e_get (HH_gI rfl rfl) ?_
      refine e_get (HH_gI rfl rfl) ?_
      refine e_ite ?_ ?_
      · exact eqX7_readsWord_J78 t ct _ r33 hr33 l1 l2 l3 1 S
      · exact eqX7_readsWord_J78 t ct _ r33 hr33 l1 l2 l3 0 S
    · exact ih l1 l2 (l3 + 1) S
def TX7_readsWord_L33 : Nat → Int32 → Int32 → SS → Option (SS)
  | 0, _, _, _ => none
  | n + 1, l1, l2, S => (if 8 ≤ l2 then some S else
  TX7_readsWord_L41 (fun l1 l2 S => TX7_readsWord_L33 n l1 l2 S) fu l1 l2 l1 S)
theorem eqX7_readsWord_L33 (t : Nat) (ct : Nat → ClassId) : ∀ (n : Nat), ∀ (l1 : Int32) (l2 : Int32) (S : SS), EQ (X7_readsWord_L33 n (t + 64) l1 l2 (HH t ct S)) (TX7_readsWord_L33 n l1 l2 S) (HH t ct) := by
  intro n
  induction n with
  | zero => intro l1 l2 S; exact e_none
  | succ n ih =>
    intro l1 l2 S
    unfold X7_readsWord_L33 TX7_readsWord_L33
    refine e_ite ?_ ?_
    · exact e_ret rfl
    · exact eqX7_readsWord_L41 t ct _ (fun l1 l2 S => TX7_readsWord_L33 n l1 l2 S) ih fu l1 l2 l1 S
def TX7_readsWord_L0 : Nat → SS → Option (SS)
  | 0, _ => none
  | n + 1, S => (TX7_isLetter (S.1 64 31) S).bind fun v2 =>
  (if v2 = 0 then letS (sFI S 64 33 4) fun S3 =>
  TX7_readsWord_L33 fu 0 0 S3 else
  letS (sFI S 64 31 ((S.1 64 31) + 1)) fun S18 =>
  TX7_readsWord_L0 n S18)
theorem eqX7_readsWord_L0 (t : Nat) (ct : Nat → ClassId) : ∀ (n : Nat), ∀ (S : SS), EQ (X7_readsWord_L0 n (t + 64) (HH t ct S)) (TX7_readsWord_L0 n S) (HH t ct) := by
  intro n
  induction n with
  | zero => intro S; exact e_none
  | succ n ih =>
    intro S
    unfold X7_readsWord_L0 TX7_readsWord_L0
    refine e_get (HH_gI rfl rfl) ?_
    refine e_call (eqX7_isLetter t ct (S.1 64 31) S) ?_
    intro v2
    refine e_ite ?_ ?_
    · refine e_put (HH_pI rfl rfl) ?_
      intro S3
      exact eqX7_readsWord_L33 t ct fu 0 0 S3
    · refine e_get (HH_gI rfl rfl) ?_
      refine e_put (HH_pI rfl rfl) ?_
      intro S18
      exact ih S18
def TX7_readsWord (S : SS) : Option (SS) := TX7_readsWord_L0 fu S
theorem eqX7_readsWord (t : Nat) (ct : Nat → ClassId) (S : SS) : X7_readsWord (t + 64) (HH t ct S) = (TX7_readsWord S).map (HH t ct) := by
  show EQ _ _ _
  unfold X7_readsWord TX7_readsWord
  refine e_get (HH_vO rfl) ?_
  exact eqX7_readsWord_L0 t ct fu S
def TX7_readsNumber_J129 (l1 : Int32) (s0 : Int32) (S : SS) : Option (SS) := letS (sFI S 64 33 s0) fun S11 =>
  (if l1 = 0 then letS (sFI S11 64 34 (S11.1 64 34)) fun S13 =>
  some S13 else
  letS (sFI S11 64 34 (-(S11.1 64 34))) fun S15 =>
  some S15)
theorem eqX7_readsNumber_J129 (t : Nat) (ct : Nat → ClassId) : ∀ (l1 : Int32) (s0 : Int32) (S : SS), EQ (X7_readsNumber_J129 (t + 64) l1 s0 (t + 64) (HH t ct S)) (TX7_readsNumber_J129 l1 s0 S) (HH t ct) := by
  intro l1 s0 S
  unfold X7_readsNumber_J129 TX7_readsNumber_J129
  refine e_put (HH_pI rfl rfl) ?_
  intro S11
  refine e_ite ?_ ?_
  · refine e_get (HH_gI rfl rfl) ?_
    refine e_put (HH_pI rfl rfl) ?_
    intro S13
    exact e_ret rfl
  · refine e_get (HH_gI rfl rfl) ?_
    refine e_put (HH_pI rfl rfl) ?_
    intro S15
    exact e_ret rfl
def TX7_readsNumber_J97 (r48 : Int32 → Int32 → SS → Option (SS)) (l1 : Int32) (l2 : Int32) (s0 : Int32) (S : SS) : Option (SS) := letS (sFI S 64 34 s0) fun S18 =>
  letS (sFI S18 64 31 ((S18.1 64 31) + 1)) fun S20 =>
  r48 l1 l2 S20
theorem eqX7_readsNumber_J97 (t : Nat) (ct : Nat → ClassId) (g48 : Nat → Int32 → Int32 → Hs → Option (Hs)) (r48 : Int32 → Int32 → SS → Option (SS)) (hr48 : ∀ (l1 : Int32) (l2 : Int32) (S : SS), EQ (g48 (t + 64) l1 l2 (HH t ct S)) (r48 l1 l2 S) (HH t ct)) : ∀ (l1 : Int32) (l2 : Int32) (s0 : Int32) (S : SS), EQ (X7_readsNumber_J97 g48 (t + 64) l1 l2 s0 (t + 64) (HH t ct S)) (TX7_readsNumber_J97 r48 l1 l2 s0 S) (HH t ct) := by
  intro l1 l2 s0 S
  unfold X7_readsNumber_J97 TX7_readsNumber_J97
  refine e_put (HH_pI rfl rfl) ?_
  intro S18
  refine e_get (HH_gI rfl rfl) ?_
  refine e_put (HH_pI rfl rfl) ?_
  intro S20
  exact hr48 l1 l2 S20
def TX7_readsNumber_L48 : Nat → Int32 → Int32 → SS → Option (SS)
  | 0, _, _, _ => none
  | n + 1, l1, l2, S => (TX7_isDigit (S.1 64 31) S).bind fun v9 =>
  (if v9 = 0 then (if ((S.1 64 31) - l2) ≤ 3 then TX7_readsNumber_J129 l1 2 S else
  TX7_readsNumber_J129 l1 4 S) else
  (if 3 ≤ ((S.1 64 31) - l2) then TX7_readsNumber_J97 (fun l1 l2 S => TX7_readsNumber_L48 n l1 l2 S) l1 l2 (S.1 64 34) S else
  (aget 60 (S.2.2.1 86) (S.1 64 31)).bind fun v24 =>
  TX7_readsNumber_J97 (fun l1 l2 S => TX7_readsNumber_L48 n l1 l2 S) l1 l2 (((10 * (S.1 64 34)) + v24) - 48) S))
theorem eqX7_readsNumber_L48 (t : Nat) (ct : Nat → ClassId) : ∀ (n : Nat), ∀ (l1 : Int32) (l2 : Int32) (S : SS), EQ (X7_readsNumber_L48 n (t + 64) l1 l2 (HH t ct S)) (TX7_readsNumber_L48 n l1 l2 S) (HH t ct) := by
  intro n
  induction n with
  | zero => intro l1 l2 S; exact e_none
  | succ n ih =>
    intro l1 l2 S
    unfold X7_readsNumber_L48 TX7_readsNumber_L48
    refine e_get (HH_gI rfl rfl) ?_
    refine e_call (eqX7_isDigit t ct (S.1 64 31) S) ?_
    intro v9
    refine e_ite ?_ ?_
    · refine e_get (HH_gI rfl rfl) ?_
      refine e_ite ?_ ?_
      · exact eqX7_readsNumber_J129 t ct l1 2 S
      · exact eqX7_readsNumber_J129 t ct l1 4 S
    · refine e_get (HH_gI rfl rfl) ?_
      refine e_ite ?_ ?_
      · refine e_get (HH_gI rfl rfl) ?_
        exact eqX7_readsNumber_J97 t ct _ (fun l1 l2 S => TX7_readsNumber_L48 n l1 l2 S) ih l1 l2 (S.1 64 34) S
      · refine e_get (HH_gI rfl rfl) ?_
        refine e_get (HH_gR rfl rfl) ?_
        refine e_get (HH_gI rfl rfl) ?_
        refine e_bind (HH_aI rfl) ?_
        intro v24
        exact eqX7_readsNumber_J97 t ct _ (fun l1 l2 S => TX7_readsNumber_L48 n l1 l2 S) ih l1 l2 (((10 * (S.1 64 34)) + v24) - 48) S
def TX7_readsNumber_J34 (l1 : Int32) (s0 : Int32) (s1 : Int32) (S : SS) : Option (SS) := letS (sFI S 64 31 (s1 + s0)) fun S5 =>
  letS (sFI S5 64 34 0) fun S7 =>
  TX7_readsNumber_L48 fu l1 (S5.1 64 31) S7
theorem eqX7_readsNumber_J34 (t : Nat) (ct : Nat → ClassId) : ∀ (l1 : Int32) (s0 : Int32) (s1 : Int32) (S : SS), EQ (X7_readsNumber_J34 (t + 64) l1 s0 s1 (t + 64) (HH t ct S)) (TX7_readsNumber_J34 l1 s0 s1 S) (HH t ct) := by
  intro l1 s0 s1 S
  unfold X7_readsNumber_J34 TX7_readsNumber_J34
  refine e_put (HH_pI rfl rfl) ?_
  intro S5
  refine e_get (HH_gI rfl rfl) ?_
  refine e_put (HH_pI rfl rfl) ?_
  intro S7
  exact eqX7_readsNumber_L48 t ct fu l1 (S5.1 64 31) S7
def TX7_readsNumber_J19 (s0 : Int32) (S : SS) : Option (SS) := (if s0 = 0 then TX7_readsNumber_J34 s0 0 (S.1 64 31) S else
  TX7_readsNumber_J34 s0 1 (S.1 64 31) S)
theorem eqX7_readsNumber_J19 (t : Nat) (ct : Nat → ClassId) : ∀ (s0 : Int32) (S : SS), EQ (X7_readsNumber_J19 (t + 64) s0 (HH t ct S)) (TX7_readsNumber_J19 s0 S) (HH t ct) := by
  intro s0 S
  unfold X7_readsNumber_J19 TX7_readsNumber_J19
  refine e_get (HH_gI rfl rfl) ?_
  refine e_ite ?_ ?_
  · exact eqX7_readsNumber_J34 t ct s0 0 (S.1 64 31) S
  · exact eqX7_readsNumber_J34 t ct s0 1 (S.1 64 31) S
def TX7_readsNumber (S : SS) : Option (SS) := (aget 60 (S.2.2.1 86) (S.1 64 31)).bind fun v3 =>
  (if v3 = 45 then TX7_readsNumber_J19 1 S else
  TX7_readsNumber_J19 0 S)
theorem eqX7_readsNumber (t : Nat) (ct : Nat → ClassId) (S : SS) : X7_readsNumber (t + 64) (HH t ct S) = (TX7_readsNumber S).map (HH t ct) := by
  show EQ _ _ _
  unfold X7_readsNumber TX7_readsNumber
  refine e_get (HH_vO rfl) ?_
  refine e_get (HH_gR rfl rfl) ?_
  refine e_get (HH_gI rfl rfl) ?_
  refine e_bind (HH_aI rfl) ?_
  intro v3
  refine e_ite ?_ ?_
  · exact eqX7_readsNumber_J19 t ct 1 S
  · exact eqX7_readsNumber_J19 t ct 0 S
def TX7_reads_J135 (S : SS) : Option (SS) := (TX7_readsNumber S).bind fun q11 =>
  some q11
theorem eqX7_reads_J135 (t : Nat) (ct : Nat → ClassId) : ∀ (S : SS), EQ (X7_reads_J135 (t + 64) (HH t ct S)) (TX7_reads_J135 S) (HH t ct) := by
  intro S
  unfold X7_reads_J135 TX7_reads_J135
  refine e_call (eqX7_readsNumber t ct S) ?_
  intro q11
  exact e_ret rfl
def TX7_reads_J162 (s0 : Int32) (S : SS) : Option (SS) := letS (sFI S 64 33 s0) fun S18 =>
  letS (sFI S18 64 31 ((S18.1 64 31) + 1)) fun S20 =>
  some S20
theorem eqX7_reads_J162 (t : Nat) (ct : Nat → ClassId) : ∀ (s0 : Int32) (S : SS), EQ (X7_reads_J162 (t + 64) s0 (t + 64) (HH t ct S)) (TX7_reads_J162 s0 S) (HH t ct) := by
  intro s0 S
  unfold X7_reads_J162 TX7_reads_J162
  refine e_put (HH_pI rfl rfl) ?_
  intro S18
  refine e_get (HH_gI rfl rfl) ?_
  refine e_put (HH_pI rfl rfl) ?_
  intro S20
  exact e_ret rfl
def TX7_reads_J142 (S : SS) : Option (SS) := (aget 60 (S.2.2.1 86) (S.1 64 31)).bind fun v17 =>
  (if v17 = 59 then TX7_reads_J162 3 S else
  TX7_reads_J162 4 S)
theorem eqX7_reads_J142 (t : Nat) (ct : Nat → ClassId) : ∀ (S : SS), EQ (X7_reads_J142 (t + 64) (HH t ct S)) (TX7_reads_J142 S) (HH t ct) := by
  intro S
  unfold X7_reads_J142 TX7_reads_J142
  refine e_get (HH_gR rfl rfl) ?_
  refine e_get (HH_gI rfl rfl) ?_
  refine e_bind (HH_aI rfl) ?_
  intro v17
  refine e_ite ?_ ?_
  · exact eqX7_reads_J162 t ct 3 S
  · exact eqX7_reads_J162 t ct 4 S
def TX7_reads_J52 (S : SS) : Option (SS) := letS (sFI S 64 32 (S.1 64 31)) fun S4 =>
  (if (S4.1 64 31) = (S4.1 64 30) then letS (sFI S4 64 33 0) fun S24 =>
  some S24 else
  (TX7_isLetter (S4.1 64 31) S4).bind fun v8 =>
  (if v8 = 0 then (TX7_isDigit (S4.1 64 31) S4).bind fun v10 =>
  (if v10 = 0 then (aget 60 (S4.2.2.1 86) (S4.1 64 31)).bind fun v14 =>
  (if v14 = 45 then (TX7_isDigit ((S4.1 64 31) + 1) S4).bind fun v22 =>
  (if v22 = 0 then TX7_reads_J142 S4 else
  TX7_reads_J135 S4) else
  TX7_reads_J142 S4) else
  TX7_reads_J135 S4) else
  (TX7_readsWord S4).bind fun q23 =>
  some q23))
theorem eqX7_reads_J52 (t : Nat) (ct : Nat → ClassId) : ∀ (S : SS), EQ (X7_reads_J52 (t + 64) (HH t ct S)) (TX7_reads_J52 S) (HH t ct) := by
  intro S
  unfold X7_reads_J52 TX7_reads_J52
  refine e_get (HH_gI rfl rfl) ?_
  refine e_put (HH_pI rfl rfl) ?_
  intro S4
  refine e_get (HH_gI rfl rfl) ?_
  refine e_get (HH_gI rfl rfl) ?_
  refine e_ite ?_ ?_
  · refine e_put (HH_pI rfl rfl) ?_
    intro S24
    exact e_ret rfl
  · refine e_get (HH_gI rfl rfl) ?_
    refine e_call (eqX7_isLetter t ct (S4.1 64 31) S4) ?_
    intro v8
    refine e_ite ?_ ?_
    · refine e_get (HH_gI rfl rfl) ?_
      refine e_call (eqX7_isDigit t ct (S4.1 64 31) S4) ?_
      intro v10
      refine e_ite ?_ ?_
      · refine e_get (HH_gR rfl rfl) ?_
        refine e_get (HH_gI rfl rfl) ?_
        refine e_bind (HH_aI rfl) ?_
        intro v14
        refine e_ite ?_ ?_
        · refine e_get (HH_gI rfl rfl) ?_
          refine e_call (eqX7_isDigit t ct ((S4.1 64 31) + 1) S4) ?_
          intro v22
          refine e_ite ?_ ?_
          · exact eqX7_reads_J142 t ct S4
          · exact eqX7_reads_J135 t ct S4
        · exact eqX7_reads_J142 t ct S4
      · exact eqX7_reads_J135 t ct S4
    · refine e_call (eqX7_readsWord t ct S4) ?_
      intro q23
      exact e_ret rfl
def TX7_reads_J39 (r0 : SS → Option (SS)) (S : SS) : Option (SS) := letS (sFI S 64 31 ((S.1 64 31) + 1)) fun S29 =>
  r0 S29
theorem eqX7_reads_J39 (t : Nat) (ct : Nat → ClassId) (g0 : Nat → Hs → Option (Hs)) (r0 : SS → Option (SS)) (hr0 : ∀ (S : SS), EQ (g0 (t + 64) (HH t ct S)) (r0 S) (HH t ct)) : ∀ (S : SS), EQ (X7_reads_J39 g0 (t + 64) (HH t ct S)) (TX7_reads_J39 r0 S) (HH t ct) := by
  intro S
  unfold X7_reads_J39 TX7_reads_J39
  refine e_get (HH_gI rfl rfl) ?_
  refine e_put (HH_pI rfl rfl) ?_
  intro S29
  exact hr0 S29
def TX7_reads_L0 : Nat → SS → Option (SS)
  | 0, _ => none
  | n + 1, S => (if (S.1 64 30) ≤ (S.1 64 31) then TX7_reads_J52 S else
  (aget 60 (S.2.2.1 86) (S.1 64 31)).bind fun v27 =>
  (if v27 = 32 then TX7_reads_J39 (fun S => TX7_reads_L0 n S) S else
  (aget 60 (S.2.2.1 86) (S.1 64 31)).bind fun v32 =>
  (if v32 = 10 then TX7_reads_J39 (fun S => TX7_reads_L0 n S) S else
  TX7_reads_J52 S)))
theorem eqX7_reads_L0 (t : Nat) (ct : Nat → ClassId) : ∀ (n : Nat), ∀ (S : SS), EQ (X7_reads_L0 n (t + 64) (HH t ct S)) (TX7_reads_L0 n S) (HH t ct) := by
  intro n
  induction n with
  | zero => intro S; exact e_none
  | succ n ih =>
    intro S
    unfold X7_reads_L0 TX7_reads_L0
    refine e_get (HH_gI rfl rfl) ?_
    refine e_get (HH_gI rfl rfl) ?_
    refine e_ite ?_ ?_
    · exact eqX7_reads_J52 t ct S
    · refine e_get (HH_gR rfl rfl) ?_
      refine e_get (HH_gI rfl rfl) ?_
      refine e_bind (HH_aI rfl) ?_
      intro v27
      refine e_ite ?_ ?_
      · exact eqX7_reads_J39 t ct _ (fun S => TX7_reads_L0 n S) ih S
      · refine e_get (HH_gR rfl rfl) ?_
        refine e_get (HH_gI rfl rfl) ?_
        refine e_bind (HH_aI rfl) ?_
        intro v32
        refine e_ite ?_ ?_
        · exact eqX7_reads_J39 t ct _ (fun S => TX7_reads_L0 n S) ih S
        · exact eqX7_reads_J52 t ct S
def TX7_reads (S : SS) : Option (SS) := TX7_reads_L0 fu S
theorem eqX7_reads (t : Nat) (ct : Nat → ClassId) (S : SS) : X7_reads (t + 64) (HH t ct S) = (TX7_reads S).map (HH t ct) := by
  show EQ _ _ _
  unfold X7_reads TX7_reads
  refine e_get (HH_vO rfl) ?_
  exact eqX7_reads_L0 t ct fu S
def TX7_isDone (a1 : Int32) (S : SS) : Option (Int32 × SS) := (if a1 = 0 then (aget 4 (S.2.2.1 87) 0).bind fun v2 =>
  (aget 4 (S.2.2.1 87) 1).bind fun v4 =>
  (aget 4 (S.2.2.1 87) 2).bind fun v6 =>
  (aget 4 (S.2.2.1 87) 3).bind fun v8 =>
  (TX7_cell v2 v4 v6 v8 S).bind fun q9 =>
  (if q9.1 < 0 then (zb 0).bind fun v10 => some (v10, q9.2) else
  (zb 1).bind fun v11 => some (v11, q9.2)) else
  (if a1 = 1 then (aget 4 (S.2.2.1 87) 0).bind fun v14 =>
  (aget 4 (S.2.2.1 87) 1).bind fun v16 =>
  (TX7_heat v14 v16 S).bind fun q17 =>
  (if q17.1 = 1 then (zb 1).bind fun v19 => some (v19, q17.2) else
  (zb 0).bind fun v18 => some (v18, q17.2)) else
  (if a1 = 2 then (aget 4 (S.2.2.1 87) 0).bind fun v22 =>
  (aget 4 (S.2.2.1 87) 1).bind fun v24 =>
  (TX7_set v22 3 v24 S).bind fun q25 =>
  (if q25.1 = (-1000) then (zb 0).bind fun v26 => some (v26, q25.2) else
  (zb 1).bind fun v27 => some (v27, q25.2)) else
  (if a1 = 3 then (aget 4 (S.2.2.1 87) 0).bind fun v30 =>
  (TX7_end 0 v30 S).bind fun q31 =>
  (if q31.1 = (-1000) then (zb 0).bind fun v32 => some (v32, q31.2) else
  (zb 1).bind fun v33 => some (v33, q31.2)) else
  (if a1 = 4 then (aget 4 (S.2.2.1 87) 0).bind fun v36 =>
  (TX7_end 1 v36 S).bind fun q37 =>
  (if q37.1 = (-1000) then (zb 0).bind fun v38 => some (v38, q37.2) else
  (zb 1).bind fun v39 => some (v39, q37.2)) else
  (if a1 = 5 then (aget 4 (S.2.2.1 87) 0).bind fun v42 =>
  (TX7_rule 0 v42 S).bind fun q43 =>
  (if q43.1 = (-1000) then (zb 0).bind fun v44 => some (v44, q43.2) else
  (zb 1).bind fun v45 => some (v45, q43.2)) else
  (if a1 = 6 then (aget 4 (S.2.2.1 87) 0).bind fun v48 =>
  (aget 4 (S.2.2.1 87) 1).bind fun v50 =>
  (aget 4 (S.2.2.1 87) 2).bind fun v52 =>
  (TX7_pulse v48 v50 v52 S).bind fun q53 =>
  (if q53.1 ≤ 0 then (zb 0).bind fun v54 => some (v54, q53.2) else
  (zb 1).bind fun v55 => some (v55, q53.2)) else
  (TX7_drop S).bind fun q57 =>
  (if q57.1 < 0 then (zb 0).bind fun v58 => some (v58, q57.2) else
  (zb 1).bind fun v59 => some (v59, q57.2)))))))))
theorem eqX7_isDone (t : Nat) (ct : Nat → ClassId) (a1 : Int32) (S : SS) : X7_isDone (t + 64) a1 (HH t ct S) = (TX7_isDone a1 S).map (hwI t ct) := by
  show EQ _ _ _
  unfold X7_isDone TX7_isDone
  refine e_get (HH_vO rfl) ?_
  refine e_ite ?_ ?_
  · refine e_get (HH_gR rfl rfl) ?_
    refine e_bind (HH_aI rfl) ?_
    intro v2
    refine e_get (HH_gR rfl rfl) ?_
    refine e_bind (HH_aI rfl) ?_
    intro v4
    refine e_get (HH_gR rfl rfl) ?_
    refine e_bind (HH_aI rfl) ?_
    intro v6
    refine e_get (HH_gR rfl rfl) ?_
    refine e_bind (HH_aI rfl) ?_
    intro v8
    refine e_call (eqX7_cell t ct v2 v4 v6 v8 S) ?_
    intro q9
    refine e_ite ?_ ?_
    · exact e_bind rfl (fun _ => e_ret rfl)
    · exact e_bind rfl (fun _ => e_ret rfl)
  refine e_ite ?_ ?_
  · refine e_get (HH_gR rfl rfl) ?_
    refine e_bind (HH_aI rfl) ?_
    intro v14
    refine e_get (HH_gR rfl rfl) ?_
    refine e_bind (HH_aI rfl) ?_
    intro v16
    refine e_call (eqX7_heat t ct v14 v16 S) ?_
    intro q17
    refine e_ite ?_ ?_
    · exact e_bind rfl (fun _ => e_ret rfl)
    · exact e_bind rfl (fun _ => e_ret rfl)
  refine e_ite ?_ ?_
  · refine e_get (HH_gR rfl rfl) ?_
    refine e_bind (HH_aI rfl) ?_
    intro v22
    refine e_get (HH_gR rfl rfl) ?_
    refine e_bind (HH_aI rfl) ?_
    intro v24
    refine e_call (eqX7_set t ct v22 3 v24 S) ?_
    intro q25
    refine e_ite ?_ ?_
    · exact e_bind rfl (fun _ => e_ret rfl)
    · exact e_bind rfl (fun _ => e_ret rfl)
  refine e_ite ?_ ?_
  · refine e_get (HH_gR rfl rfl) ?_
    refine e_bind (HH_aI rfl) ?_
    intro v30
    refine e_call (eqX7_end t ct 0 v30 S) ?_
    intro q31
    refine e_ite ?_ ?_
    · exact e_bind rfl (fun _ => e_ret rfl)
    · exact e_bind rfl (fun _ => e_ret rfl)
  refine e_ite ?_ ?_
  · refine e_get (HH_gR rfl rfl) ?_
    refine e_bind (HH_aI rfl) ?_
    intro v36
    refine e_call (eqX7_end t ct 1 v36 S) ?_
    intro q37
    refine e_ite ?_ ?_
    · exact e_bind rfl (fun _ => e_ret rfl)
    · exact e_bind rfl (fun _ => e_ret rfl)
  refine e_ite ?_ ?_
  · refine e_get (HH_gR rfl rfl) ?_
    refine e_bind (HH_aI rfl) ?_
    intro v42
    refine e_call (eqX7_rule t ct 0 v42 S) ?_
    intro q43
    refine e_ite ?_ ?_
    · exact e_bind rfl (fun _ => e_ret rfl)
    · exact e_bind rfl (fun _ => e_ret rfl)
  refine e_ite ?_ ?_
  · refine e_get (HH_gR rfl rfl) ?_
    refine e_bind (HH_aI rfl) ?_
    intro v48
    refine e_get (HH_gR rfl rfl) ?_
    refine e_bind (HH_aI rfl) ?_
    intro v50
    refine e_get (HH_gR rfl rfl) ?_
    refine e_bind (HH_aI rfl) ?_
    intro v52
    refine e_call (eqX7_pulse t ct v48 v50 v52 S) ?_
    intro q53
    refine e_ite ?_ ?_
    · exact e_bind rfl (fun _ => e_ret rfl)
    · exact e_bind rfl (fun _ => e_ret rfl)
  refine e_call (eqX7_drop t ct S) ?_
  intro q57
  refine e_ite ?_ ?_
  · exact e_bind rfl (fun _ => e_ret rfl)
  · exact e_bind rfl (fun _ => e_ret rfl)
def TX7_isClause_J83 (s0 : Int32) (s1 : Int32) (S : SS) : Option (Int32 × SS) := letS (sFI S 64 36 (s1 + s0)) fun S7 =>
  (TX7_reads S7).bind fun q8 =>
  (if (q8.1 64 33) = 0 then (zb 1).bind fun v10 => some (v10, q8) else
  (if (q8.1 64 33) = 3 then (zb 1).bind fun v13 => some (v13, q8) else
  (zb 0).bind fun v12 => some (v12, q8)))
theorem eqX7_isClause_J83 (t : Nat) (ct : Nat → ClassId) : ∀ (s0 : Int32) (s1 : Int32) (S : SS), EQ (X7_isClause_J83 (t + 64) s0 s1 (t + 64) (HH t ct S)) (TX7_isClause_J83 s0 s1 S) (hwI t ct) := by
  intro s0 s1 S
  unfold X7_isClause_J83 TX7_isClause_J83
  refine e_put (HH_pI rfl rfl) ?_
  intro S7
  refine e_call (eqX7_reads t ct S7) ?_
  intro q8
  refine e_get (HH_gI rfl rfl) ?_
  refine e_ite ?_ ?_
  · exact e_bind rfl (fun _ => e_ret rfl)
  · refine e_get (HH_gI rfl rfl) ?_
    refine e_ite ?_ ?_
    · exact e_bind rfl (fun _ => e_ret rfl)
    · exact e_bind rfl (fun _ => e_ret rfl)
def TX7_isClause_L21 : Nat → Int32 → Int32 → Int32 → SS → Option (Int32 × SS)
  | 0, _, _, _, _ => none
  | n + 1, l1, l2, l3, S => (aget 8 (S.2.2.1 85) l2).bind fun v5 =>
  (if v5 ≤ l3 then (if l1 = 0 then TX7_isClause_J83 0 (S.1 64 36) S else
  (TX7_isDone l2 S).bind fun q14 =>
  (if q14.1 = 0 then TX7_isClause_J83 0 (S.1 64 36) q14.2 else
  TX7_isClause_J83 1 (S.1 64 36) q14.2)) else
  (TX7_reads S).bind fun q15 =>
  (if (q15.1 64 33) = 2 then (if jin l3 4 then letS (sAI q15 87 (Int32.toNatClampNeg l3) (q15.1 64 34)) fun S19 =>
  TX7_isClause_L21 n l1 l2 (l3 + 1) S19 else
  none) else
  (zb 0).bind fun v20 => some (v20, q15)))
theorem eqX7_isClause_L21 (t : Nat) (ct : Nat → ClassId) : ∀ (n : Nat), ∀ (l1 : Int32) (l2 : Int32) (l3 : Int32) (S : SS), EQ (X7_isClause_L21 n (t + 64) l1 l2 l3 (HH t ct S)) (TX7_isClause_L21 n l1 l2 l3 S) (hwI t ct) := by
  intro n
  induction n with
  | zero => intro l1 l2 l3 S; exact e_none
  | succ n ih =>
    intro l1 l2 l3 S
    unfold X7_isClause_L21 TX7_isClause_L21
    refine e_get (HH_gR rfl rfl) ?_
    refine e_bind (HH_aI rfl) ?_
    intro v5
    refine e_ite ?_ ?_
    · refine e_get (HH_gI rfl rfl) ?_
      refine e_ite ?_ ?_
      · exact eqX7_isClause_J83 t ct 0 (S.1 64 36) S
      · refine e_call (eqX7_isDone t ct l2 S) ?_
        intro q14
        refine e_ite ?_ ?_
        · exact eqX7_isClause_J83 t ct 0 (S.1 64 36) q14.2
        · exact eqX7_isClause_J83 t ct 1 (S.1 64 36) q14.2
    · refine e_call (eqX7_reads t ct S) ?_
      intro q15
      refine e_get (HH_gI rfl rfl) ?_
      refine e_ite ?_ ?_
      · refine e_get (HH_gR rfl rfl) ?_
        refine e_get (HH_gI rfl rfl) ?_
        refine e_wrS (HH_wI rfl) ?_
        intro S19
        exact ih l1 l2 (l3 + 1) S19
      · exact e_bind rfl (fun _ => e_ret rfl)
def TX7_isClause (a1 : Int32) (S : SS) : Option (Int32 × SS) := (TX7_reads S).bind fun q1 =>
  (if (q1.1 64 33) = 1 then TX7_isClause_L21 fu a1 (q1.1 64 34) 0 q1 else
  (zb 0).bind fun v21 => some (v21, q1))
theorem eqX7_isClause (t : Nat) (ct : Nat → ClassId) (a1 : Int32) (S : SS) : X7_isClause (t + 64) a1 (HH t ct S) = (TX7_isClause a1 S).map (hwI t ct) := by
  show EQ _ _ _
  unfold X7_isClause TX7_isClause
  refine e_get (HH_vO rfl) ?_
  refine e_call (eqX7_reads t ct S) ?_
  intro q1
  refine e_get (HH_gI rfl rfl) ?_
  refine e_ite ?_ ?_
  · refine e_get (HH_gI rfl rfl) ?_
    exact eqX7_isClause_L21 t ct fu a1 (q1.1 64 34) 0 q1
  · exact e_bind rfl (fun _ => e_ret rfl)
def TX7_isText_L16 : Nat → Int32 → Int32 → SS → Option (Int32 × SS)
  | 0, _, _, _ => none
  | n + 1, l1, l2, S => (if l2 = 0 then (zb l2).bind fun v4 => some (v4, S) else
  (if (S.1 64 33) = 3 then (TX7_isClause l1 S).bind fun q7 =>
  TX7_isText_L16 n l1 q7.1 q7.2 else
  (zb l2).bind fun v6 => some (v6, S)))
theorem eqX7_isText_L16 (t : Nat) (ct : Nat → ClassId) : ∀ (n : Nat), ∀ (l1 : Int32) (l2 : Int32) (S : SS), EQ (X7_isText_L16 n (t + 64) l1 l2 (HH t ct S)) (TX7_isText_L16 n l1 l2 S) (hwI t ct) := by
  intro n
  induction n with
  | zero => intro l1 l2 S; exact e_none
  | succ n ih =>
    intro l1 l2 S
    unfold X7_isText_L16 TX7_isText_L16
    refine e_ite ?_ ?_
    · exact e_bind rfl (fun _ => e_ret rfl)
    · refine e_get (HH_gI rfl rfl) ?_
      refine e_ite ?_ ?_
      · refine e_call (eqX7_isClause t ct l1 S) ?_
        intro q7
        exact ih l1 q7.1 q7.2
      · exact e_bind rfl (fun _ => e_ret rfl)
def TX7_isText (a1 : Int32) (S : SS) : Option (Int32 × SS) := letS (sFI S 64 31 0) fun S1 =>
  letS (sFI S1 64 36 0) fun S2 =>
  (TX7_isClause a1 S2).bind fun q3 =>
  TX7_isText_L16 fu a1 q3.1 q3.2
theorem eqX7_isText (t : Nat) (ct : Nat → ClassId) (a1 : Int32) (S : SS) : X7_isText (t + 64) a1 (HH t ct S) = (TX7_isText a1 S).map (hwI t ct) := by
  show EQ _ _ _
  unfold X7_isText TX7_isText
  refine e_get (HH_vO rfl) ?_
  refine e_put (HH_pI rfl rfl) ?_
  intro S1
  refine e_put (HH_pI rfl rfl) ?_
  intro S2
  refine e_call (eqX7_isClause t ct a1 S2) ?_
  intro q3
  exact eqX7_isText_L16 t ct fu a1 q3.1 q3.2
def TX7_text (S : SS) : Option (Int32 × SS) := letS (sFI S 64 30 (S.1 64 29)) fun S2 =>
  letS (sFI S2 64 29 0) fun S3 =>
  (TX7_isText 0 S3).bind fun q4 =>
  (if q4.1 = 0 then some (((-100) - (q4.2.1 64 32)), q4.2) else
  (TX7_isText 1 q4.2).bind fun q5 =>
  some ((q5.2.1 64 36), q5.2))
theorem eqX7_text (t : Nat) (ct : Nat → ClassId) (S : SS) : X7_text (t + 64) (HH t ct S) = (TX7_text S).map (hwI t ct) := by
  show EQ _ _ _
  unfold X7_text TX7_text
  refine e_get (HH_vO rfl) ?_
  refine e_get (HH_gI rfl rfl) ?_
  refine e_put (HH_pI rfl rfl) ?_
  intro S2
  refine e_put (HH_pI rfl rfl) ?_
  intro S3
  refine e_call (eqX7_isText t ct 0 S3) ?_
  intro q4
  refine e_ite ?_ ?_
  · refine e_get (HH_gI rfl rfl) ?_
    exact e_ret rfl
  · refine e_call (eqX7_isText t ct 1 q4.2) ?_
    intro q5
    refine e_get (HH_gI rfl rfl) ?_
    exact e_ret rfl
def TX7_image_L144 : Nat → Int32 → SS → Option (Int32 × SS)
  | 0, _, _ => none
  | n + 1, l1, S => (if (S.1 64 9) ≤ l1 then some ((S.1 64 0), S) else
  (aget 12 (S.2.2.1 72) l1).bind fun v13 =>
  (if jin l1 12 then letS (sAI S 95 (Int32.toNatClampNeg l1) v13) fun S14 =>
  (aget 12 (S14.2.2.1 73) l1).bind fun v17 =>
  (if jin l1 12 then letS (sAI S14 96 (Int32.toNatClampNeg l1) v17) fun S18 =>
  (aget 12 (S18.2.2.1 74) l1).bind fun v21 =>
  (if jin l1 12 then letS (sAI S18 97 (Int32.toNatClampNeg l1) v21) fun S22 =>
  TX7_image_L144 n (l1 + 1) S22 else
  none) else
  none) else
  none))
theorem eqX7_image_L144 (t : Nat) (ct : Nat → ClassId) : ∀ (n : Nat), ∀ (l1 : Int32) (S : SS), EQ (X7_image_L144 n (t + 64) l1 (HH t ct S)) (TX7_image_L144 n l1 S) (hwI t ct) := by
  intro n
  induction n with
  | zero => intro l1 S; exact e_none
  | succ n ih =>
    intro l1 S
    unfold X7_image_L144 TX7_image_L144
    refine e_get (HH_gI rfl rfl) ?_
    refine e_ite ?_ ?_
    · refine e_get (HH_gI rfl rfl) ?_
      exact e_ret rfl
    · refine e_get (HH_gR rfl rfl) ?_
      refine e_get (HH_gR rfl rfl) ?_
      refine e_bind (HH_aI rfl) ?_
      intro v13
      refine e_wrS (HH_wI rfl) ?_
      intro S14
      refine e_get (HH_gR rfl rfl) ?_
      refine e_get (HH_gR rfl rfl) ?_
      refine e_bind (HH_aI rfl) ?_
      intro v17
      refine e_wrS (HH_wI rfl) ?_
      intro S18
      refine e_get (HH_gR rfl rfl) ?_
      refine e_get (HH_gR rfl rfl) ?_
      refine e_bind (HH_aI rfl) ?_
      intro v21
      refine e_wrS (HH_wI rfl) ?_
      intro S22
      exact ih (l1 + 1) S22
def TX7_image_L99 : Nat → Int32 → SS → Option (Int32 × SS)
  | 0, _, _ => none
  | n + 1, l1, S => (if 2 ≤ l1 then letS (sFI S 64 47 (S.1 64 9)) fun S8 =>
  TX7_image_L144 fu 0 S8 else
  (aget 2 (S.2.2.1 70) l1).bind fun v25 =>
  (if jin l1 2 then letS (sAI S 93 (Int32.toNatClampNeg l1) v25) fun S26 =>
  (aget 2 (S26.2.2.1 71) l1).bind fun v29 =>
  (if jin l1 2 then letS (sAI S26 94 (Int32.toNatClampNeg l1) v29) fun S30 =>
  TX7_image_L99 n (l1 + 1) S30 else
  none) else
  none))
theorem eqX7_image_L99 (t : Nat) (ct : Nat → ClassId) : ∀ (n : Nat), ∀ (l1 : Int32) (S : SS), EQ (X7_image_L99 n (t + 64) l1 (HH t ct S)) (TX7_image_L99 n l1 S) (hwI t ct) := by
  intro n
  induction n with
  | zero => intro l1 S; exact e_none
  | succ n ih =>
    intro l1 S
    unfold X7_image_L99 TX7_image_L99
    refine e_ite ?_ ?_
    · refine e_get (HH_gI rfl rfl) ?_
      refine e_put (HH_pI rfl rfl) ?_
      intro S8
      exact eqX7_image_L144 t ct fu 0 S8
    · refine e_get (HH_gR rfl rfl) ?_
      refine e_get (HH_gR rfl rfl) ?_
      refine e_bind (HH_aI rfl) ?_
      intro v25
      refine e_wrS (HH_wI rfl) ?_
      intro S26
      refine e_get (HH_gR rfl rfl) ?_
      refine e_get (HH_gR rfl rfl) ?_
      refine e_bind (HH_aI rfl) ?_
      intro v29
      refine e_wrS (HH_wI rfl) ?_
      intro S30
      exact ih (l1 + 1) S30
def TX7_image_L15 : Nat → Int32 → SS → Option (Int32 × SS)
  | 0, _, _ => none
  | n + 1, l1, S => (if (S.1 64 0) ≤ l1 then letS (sFL S 64 44 (S.2.1 64 6)) fun S6 =>
  TX7_image_L99 fu 0 S6 else
  (aget 8 (S.2.2.1 65) l1).bind fun v33 =>
  (if jin l1 8 then letS (sAI S 88 (Int32.toNatClampNeg l1) v33) fun S34 =>
  (aget 8 (S34.2.2.1 66) l1).bind fun v37 =>
  (if jin l1 8 then letS (sAI S34 89 (Int32.toNatClampNeg l1) v37) fun S38 =>
  (aget 8 (S38.2.2.1 67) l1).bind fun v41 =>
  (if jin l1 8 then letS (sAI S38 90 (Int32.toNatClampNeg l1) v41) fun S42 =>
  (aget 8 (S42.2.2.1 68) l1).bind fun v45 =>
  (if jin l1 8 then letS (sAI S42 91 (Int32.toNatClampNeg l1) v45) fun S46 =>
  (aget 8 (S46.2.2.2 69) l1).bind fun v49 =>
  (if jin l1 8 then letS (sAL S46 92 (Int32.toNatClampNeg l1) v49) fun S50 =>
  TX7_image_L15 n (l1 + 1) S50 else
  none) else
  none) else
  none) else
  none) else
  none))
theorem eqX7_image_L15 (t : Nat) (ct : Nat → ClassId) : ∀ (n : Nat), ∀ (l1 : Int32) (S : SS), EQ (X7_image_L15 n (t + 64) l1 (HH t ct S)) (TX7_image_L15 n l1 S) (hwI t ct) := by
  intro n
  induction n with
  | zero => intro l1 S; exact e_none
  | succ n ih =>
    intro l1 S
    unfold X7_image_L15 TX7_image_L15
    refine e_get (HH_gI rfl rfl) ?_
    refine e_ite ?_ ?_
    · refine e_get (HH_gL rfl rfl) ?_
      refine e_put (HH_pL rfl rfl) ?_
      intro S6
      exact eqX7_image_L99 t ct fu 0 S6
    · refine e_get (HH_gR rfl rfl) ?_
      refine e_get (HH_gR rfl rfl) ?_
      refine e_bind (HH_aI rfl) ?_
      intro v33
      refine e_wrS (HH_wI rfl) ?_
      intro S34
      refine e_get (HH_gR rfl rfl) ?_
      refine e_get (HH_gR rfl rfl) ?_
      refine e_bind (HH_aI rfl) ?_
      intro v37
      refine e_wrS (HH_wI rfl) ?_
      intro S38
      refine e_get (HH_gR rfl rfl) ?_
      refine e_get (HH_gR rfl rfl) ?_
      refine e_bind (HH_aI rfl) ?_
      intro v41
      refine e_wrS (HH_wI rfl) ?_
      intro S42
      refine e_get (HH_gR rfl rfl) ?_
      refine e_get (HH_gR rfl rfl) ?_
      refine e_bind (HH_aI rfl) ?_
      intro v45
      refine e_wrS (HH_wI rfl) ?_
      intro S46
      refine e_get (HH_gR rfl rfl) ?_
      refine e_get (HH_gR rfl rfl) ?_
      refine e_bind (HH_aL rfl) ?_
      intro v49
      refine e_wrS (HH_wL rfl) ?_
      intro S50
      exact ih (l1 + 1) S50
def TX7_image (S : SS) : Option (Int32 × SS) := letS (sFI S 64 37 1) fun S1 =>
  letS (sFI S1 64 38 (S1.1 64 0)) fun S3 =>
  TX7_image_L15 fu 0 S3
theorem eqX7_image (t : Nat) (ct : Nat → ClassId) (S : SS) : X7_image (t + 64) (HH t ct S) = (TX7_image S).map (hwI t ct) := by
  show EQ _ _ _
  unfold X7_image TX7_image
  refine e_get (HH_vO rfl) ?_
  refine e_put (HH_pI rfl rfl) ?_
  intro S1
  refine e_get (HH_gI rfl rfl) ?_
  refine e_put (HH_pI rfl rfl) ?_
  intro S3
  exact eqX7_image_L15 t ct fu 0 S3
def TX7_back_L149 : Nat → Int32 → SS → Option (Int32 × SS)
  | 0, _, _ => none
  | n + 1, l1, S => (if (S.1 64 9) ≤ l1 then some ((S.1 64 0), S) else
  (aget 12 (S.2.2.1 95) l1).bind fun v13 =>
  (if jin l1 12 then letS (sAI S 72 (Int32.toNatClampNeg l1) v13) fun S14 =>
  (aget 12 (S14.2.2.1 96) l1).bind fun v17 =>
  (if jin l1 12 then letS (sAI S14 73 (Int32.toNatClampNeg l1) v17) fun S18 =>
  (aget 12 (S18.2.2.1 97) l1).bind fun v21 =>
  (if jin l1 12 then letS (sAI S18 74 (Int32.toNatClampNeg l1) v21) fun S22 =>
  TX7_back_L149 n (l1 + 1) S22 else
  none) else
  none) else
  none))
theorem eqX7_back_L149 (t : Nat) (ct : Nat → ClassId) : ∀ (n : Nat), ∀ (l1 : Int32) (S : SS), EQ (X7_back_L149 n (t + 64) l1 (HH t ct S)) (TX7_back_L149 n l1 S) (hwI t ct) := by
  intro n
  induction n with
  | zero => intro l1 S; exact e_none
  | succ n ih =>
    intro l1 S
    unfold X7_back_L149 TX7_back_L149
    refine e_get (HH_gI rfl rfl) ?_
    refine e_ite ?_ ?_
    · refine e_get (HH_gI rfl rfl) ?_
      exact e_ret rfl
    · refine e_get (HH_gR rfl rfl) ?_
      refine e_get (HH_gR rfl rfl) ?_
      refine e_bind (HH_aI rfl) ?_
      intro v13
      refine e_wrS (HH_wI rfl) ?_
      intro S14
      refine e_get (HH_gR rfl rfl) ?_
      refine e_get (HH_gR rfl rfl) ?_
      refine e_bind (HH_aI rfl) ?_
      intro v17
      refine e_wrS (HH_wI rfl) ?_
      intro S18
      refine e_get (HH_gR rfl rfl) ?_
      refine e_get (HH_gR rfl rfl) ?_
      refine e_bind (HH_aI rfl) ?_
      intro v21
      refine e_wrS (HH_wI rfl) ?_
      intro S22
      exact ih (l1 + 1) S22
def TX7_back_L104 : Nat → Int32 → SS → Option (Int32 × SS)
  | 0, _, _ => none
  | n + 1, l1, S => (if 2 ≤ l1 then letS (sFI S 64 9 (S.1 64 47)) fun S8 =>
  TX7_back_L149 fu 0 S8 else
  (aget 2 (S.2.2.1 93) l1).bind fun v25 =>
  (if jin l1 2 then letS (sAI S 70 (Int32.toNatClampNeg l1) v25) fun S26 =>
  (aget 2 (S26.2.2.1 94) l1).bind fun v29 =>
  (if jin l1 2 then letS (sAI S26 71 (Int32.toNatClampNeg l1) v29) fun S30 =>
  TX7_back_L104 n (l1 + 1) S30 else
  none) else
  none))
theorem eqX7_back_L104 (t : Nat) (ct : Nat → ClassId) : ∀ (n : Nat), ∀ (l1 : Int32) (S : SS), EQ (X7_back_L104 n (t + 64) l1 (HH t ct S)) (TX7_back_L104 n l1 S) (hwI t ct) := by
  intro n
  induction n with
  | zero => intro l1 S; exact e_none
  | succ n ih =>
    intro l1 S
    unfold X7_back_L104 TX7_back_L104
    refine e_ite ?_ ?_
    · refine e_get (HH_gI rfl rfl) ?_
      refine e_put (HH_pI rfl rfl) ?_
      intro S8
      exact eqX7_back_L149 t ct fu 0 S8
    · refine e_get (HH_gR rfl rfl) ?_
      refine e_get (HH_gR rfl rfl) ?_
      refine e_bind (HH_aI rfl) ?_
      intro v25
      refine e_wrS (HH_wI rfl) ?_
      intro S26
      refine e_get (HH_gR rfl rfl) ?_
      refine e_get (HH_gR rfl rfl) ?_
      refine e_bind (HH_aI rfl) ?_
      intro v29
      refine e_wrS (HH_wI rfl) ?_
      intro S30
      exact ih (l1 + 1) S30
def TX7_back_L20 : Nat → Int32 → SS → Option (Int32 × SS)
  | 0, _, _ => none
  | n + 1, l1, S => (if (S.1 64 0) ≤ l1 then letS (sFL S 64 6 (S.2.1 64 44)) fun S6 =>
  TX7_back_L104 fu 0 S6 else
  (aget 8 (S.2.2.1 88) l1).bind fun v33 =>
  (if jin l1 8 then letS (sAI S 65 (Int32.toNatClampNeg l1) v33) fun S34 =>
  (aget 8 (S34.2.2.1 89) l1).bind fun v37 =>
  (if jin l1 8 then letS (sAI S34 66 (Int32.toNatClampNeg l1) v37) fun S38 =>
  (aget 8 (S38.2.2.1 90) l1).bind fun v41 =>
  (if jin l1 8 then letS (sAI S38 67 (Int32.toNatClampNeg l1) v41) fun S42 =>
  (aget 8 (S42.2.2.1 91) l1).bind fun v45 =>
  (if jin l1 8 then letS (sAI S42 68 (Int32.toNatClampNeg l1) v45) fun S46 =>
  (aget 8 (S46.2.2.2 92) l1).bind fun v49 =>
  (if jin l1 8 then letS (sAL S46 69 (Int32.toNatClampNeg l1) v49) fun S50 =>
  TX7_back_L20 n (l1 + 1) S50 else
  none) else
  none) else
  none) else
  none) else
  none))
theorem eqX7_back_L20 (t : Nat) (ct : Nat → ClassId) : ∀ (n : Nat), ∀ (l1 : Int32) (S : SS), EQ (X7_back_L20 n (t + 64) l1 (HH t ct S)) (TX7_back_L20 n l1 S) (hwI t ct) := by
  intro n
  induction n with
  | zero => intro l1 S; exact e_none
  | succ n ih =>
    intro l1 S
    unfold X7_back_L20 TX7_back_L20
    refine e_get (HH_gI rfl rfl) ?_
    refine e_ite ?_ ?_
    · refine e_get (HH_gL rfl rfl) ?_
      refine e_put (HH_pL rfl rfl) ?_
      intro S6
      exact eqX7_back_L104 t ct fu 0 S6
    · refine e_get (HH_gR rfl rfl) ?_
      refine e_get (HH_gR rfl rfl) ?_
      refine e_bind (HH_aI rfl) ?_
      intro v33
      refine e_wrS (HH_wI rfl) ?_
      intro S34
      refine e_get (HH_gR rfl rfl) ?_
      refine e_get (HH_gR rfl rfl) ?_
      refine e_bind (HH_aI rfl) ?_
      intro v37
      refine e_wrS (HH_wI rfl) ?_
      intro S38
      refine e_get (HH_gR rfl rfl) ?_
      refine e_get (HH_gR rfl rfl) ?_
      refine e_bind (HH_aI rfl) ?_
      intro v41
      refine e_wrS (HH_wI rfl) ?_
      intro S42
      refine e_get (HH_gR rfl rfl) ?_
      refine e_get (HH_gR rfl rfl) ?_
      refine e_bind (HH_aI rfl) ?_
      intro v45
      refine e_wrS (HH_wI rfl) ?_
      intro S46
      refine e_get (HH_gR rfl rfl) ?_
      refine e_get (HH_gR rfl rfl) ?_
      refine e_bind (HH_aL rfl) ?_
      intro v49
      refine e_wrS (HH_wL rfl) ?_
      intro S50
      exact ih (l1 + 1) S50
def TX7_back (S : SS) : Option (Int32 × SS) := (if (S.1 64 37) = 0 then some ((-3), S) else
  letS (sFI S 64 0 (S.1 64 38)) fun S3 =>
  TX7_back_L20 fu 0 S3)
theorem eqX7_back (t : Nat) (ct : Nat → ClassId) (S : SS) : X7_back (t + 64) (HH t ct S) = (TX7_back S).map (hwI t ct) := by
  show EQ _ _ _
  unfold X7_back TX7_back
  refine e_get (HH_vO rfl) ?_
  refine e_get (HH_gI rfl rfl) ?_
  refine e_ite ?_ ?_
  · exact e_ret rfl
  · refine e_get (HH_gI rfl rfl) ?_
    refine e_put (HH_pI rfl rfl) ?_
    intro S3
    exact eqX7_back_L20 t ct fu 0 S3
