/-! Terms over the four pictures. Written by wip/whole/decompT.py. -/
def TX7_reads_J135 (S : SS) : Option (SS) := (TX7_readsNumber S).bind fun q11 =>
  some q11
theorem eqX7_reads_J135 (t : Nat) (ct : Nat → ClassId) : ∀ (S : SS), EQ (X7_reads_J135 (t + 64) (HH t ct S)) (TX7_reads_J135 S) (HH t ct) := by
  intro S
  unfold X7_reads_J135 TX7_reads_J135
  refine e_call (eqX7_readsNumber t ct S) ?_
  intro q11
  exact e_ret rfl
def TX7_reads_J162 (s0 : Int32) (S : SS) : Option (SS) := letS (sFI S 64 33 s0) fun S18 =>
  letS (sFI S18 64 31 ((S18.1 64 31) + 1)) fun S20 =>
  some S20
theorem eqX7_reads_J162 (t : Nat) (ct : Nat → ClassId) : ∀ (s0 : Int32) (S : SS), EQ (X7_reads_J162 (t + 64) s0 (t + 64) (HH t ct S)) (TX7_reads_J162 s0 S) (HH t ct) := by
  intro s0 S
  unfold X7_reads_J162 TX7_reads_J162
  refine e_put (HH_pI rfl rfl) ?_
  intro S18
  refine e_get (HH_gI rfl rfl) ?_
  refine e_put (HH_pI rfl rfl) ?_
  intro S20
  exact e_ret rfl
def TX7_reads_J142 (S : SS) : Option (SS) := (aget 60 (S.2.2.1 86) (S.1 64 31)).bind fun v17 =>
  (if v17 = 59 then TX7_reads_J162 3 S else
  TX7_reads_J162 4 S)
theorem eqX7_reads_J142 (t : Nat) (ct : Nat → ClassId) : ∀ (S : SS), EQ (X7_reads_J142 (t + 64) (HH t ct S)) (TX7_reads_J142 S) (HH t ct) := by
  intro S
  unfold X7_reads_J142 TX7_reads_J142
  refine e_get (HH_gR rfl rfl) ?_
  refine e_get (HH_gI rfl rfl) ?_
  refine e_bind (HH_aI rfl) ?_
  intro v17
  refine e_ite ?_ ?_
  · exact eqX7_reads_J162 t ct 3 S
  · exact eqX7_reads_J162 t ct 4 S
def TX7_reads_J52 (S : SS) : Option (SS) := letS (sFI S 64 32 (S.1 64 31)) fun S4 =>
  (if (S4.1 64 31) = (S4.1 64 30) then letS (sFI S4 64 33 0) fun S24 =>
  some S24 else
  (TX7_isLetter (S4.1 64 31) S4).bind fun v8 =>
  (if v8 = 0 then (TX7_isDigit (S4.1 64 31) S4).bind fun v10 =>
  (if v10 = 0 then (aget 60 (S4.2.2.1 86) (S4.1 64 31)).bind fun v14 =>
  (if v14 = 45 then (TX7_isDigit ((S4.1 64 31) + 1) S4).bind fun v22 =>
  (if v22 = 0 then TX7_reads_J142 S4 else
  TX7_reads_J135 S4) else
  TX7_reads_J142 S4) else
  TX7_reads_J135 S4) else
  (TX7_readsWord S4).bind fun q23 =>
  some q23))
theorem eqX7_reads_J52 (t : Nat) (ct : Nat → ClassId) : ∀ (S : SS), EQ (X7_reads_J52 (t + 64) (HH t ct S)) (TX7_reads_J52 S) (HH t ct) := by
  intro S
  unfold X7_reads_J52 TX7_reads_J52
  refine e_get (HH_gI rfl rfl) ?_
  refine e_put (HH_pI rfl rfl) ?_
  intro S4
  refine e_get (HH_gI rfl rfl) ?_
  refine e_get (HH_gI rfl rfl) ?_
  refine e_ite ?_ ?_
  · refine e_put (HH_pI rfl rfl) ?_
    intro S24
    exact e_ret rfl
  · refine e_get (HH_gI rfl rfl) ?_
    refine e_call (eqX7_isLetter t ct (S4.1 64 31) S4) ?_
    intro v8
    refine e_ite ?_ ?_
    · refine e_get (HH_gI rfl rfl) ?_
      refine e_call (eqX7_isDigit t ct (S4.1 64 31) S4) ?_
      intro v10
      refine e_ite ?_ ?_
      · refine e_get (HH_gR rfl rfl) ?_
        refine e_get (HH_gI rfl rfl) ?_
        refine e_bind (HH_aI rfl) ?_
        intro v14
        refine e_ite ?_ ?_
        · refine e_get (HH_gI rfl rfl) ?_
          refine e_call (eqX7_isDigit t ct ((S4.1 64 31) + 1) S4) ?_
          intro v22
          refine e_ite ?_ ?_
          · exact eqX7_reads_J142 t ct S4
          · exact eqX7_reads_J135 t ct S4
        · exact eqX7_reads_J142 t ct S4
      · exact eqX7_reads_J135 t ct S4
    · refine e_call (eqX7_readsWord t ct S4) ?_
      intro q23
      exact e_ret rfl
def TX7_reads_J39 (r0 : SS → Option (SS)) (S : SS) : Option (SS) := letS (sFI S 64 31 ((S.1 64 31) + 1)) fun S29 =>
  r0 S29
theorem eqX7_reads_J39 (t : Nat) (ct : Nat → ClassId) (g0 : Nat → Hs → Option (Hs)) (r0 : SS → Option (SS)) (hr0 : ∀ (S : SS), EQ (g0 (t + 64) (HH t ct S)) (r0 S) (HH t ct)) : ∀ (S : SS), EQ (X7_reads_J39 g0 (t + 64) (HH t ct S)) (TX7_reads_J39 r0 S) (HH t ct) := by
  intro S
  unfold X7_reads_J39 TX7_reads_J39
  refine e_get (HH_gI rfl rfl) ?_
  refine e_put (HH_pI rfl rfl) ?_
  intro S29
  exact hr0 S29
def TX7_reads_L0 : Nat → SS → Option (SS)
  | 0, _ => none
  | n + 1, S => (if (S.1 64 30) ≤ (S.1 64 31) then TX7_reads_J52 S else
  (aget 60 (S.2.2.1 86) (S.1 64 31)).bind fun v27 =>
  (if v27 = 32 then TX7_reads_J39 (fun S => TX7_reads_L0 n S) S else
  (aget 60 (S.2.2.1 86) (S.1 64 31)).bind fun v32 =>
  (if v32 = 10 then TX7_reads_J39 (fun S => TX7_reads_L0 n S) S else
  TX7_reads_J52 S)))
theorem eqX7_reads_L0 (t : Nat) (ct : Nat → ClassId) : ∀ (n : Nat), ∀ (S : SS), EQ (X7_reads_L0 n (t + 64) (HH t ct S)) (TX7_reads_L0 n S) (HH t ct) := by
  intro n
  induction n with
  | zero => intro S; exact e_none
  | succ n ih =>
    intro S
    unfold X7_reads_L0 TX7_reads_L0
    refine e_get (HH_gI rfl rfl) ?_
    refine e_get (HH_gI rfl rfl) ?_
    refine e_ite ?_ ?_
    · exact eqX7_reads_J52 t ct S
    · refine e_get (HH_gR rfl rfl) ?_
      refine e_get (HH_gI rfl rfl) ?_
      refine e_bind (HH_aI rfl) ?_
      intro v27
      refine e_ite ?_ ?_
      · exact eqX7_reads_J39 t ct _ (fun S => TX7_reads_L0 n S) ih S
      · refine e_get (HH_gR rfl rfl) ?_
        refine e_get (HH_gI rfl rfl) ?_
        refine e_bind (HH_aI rfl) ?_
        intro v32
        refine e_ite ?_ ?_
        · exact eqX7_reads_J39 t ct _ (fun S => TX7_reads_L0 n S) ih S
        · exact eqX7_reads_J52 t ct S
def TX7_reads (S : SS) : Option (SS) := TX7_reads_L0 fu S
theorem eqX7_reads (t : Nat) (ct : Nat → ClassId) (S : SS) : X7_reads (t + 64) (HH t ct S) = (TX7_reads S).map (HH t ct) := by
  show EQ _ _ _
  unfold X7_reads TX7_reads
  refine e_get (HH_vO rfl) ?_
  exact eqX7_reads_L0 t ct fu S
def TX7_isDone (a1 : Int32) (S : SS) : Option (Int32 × SS) := (if a1 = 0 then (aget 4 (S.2.2.1 87) 0).bind fun v2 =>
  (aget 4 (S.2.2.1 87) 1).bind fun v4 =>
  (aget 4 (S.2.2.1 87) 2).bind fun v6 =>
  (aget 4 (S.2.2.1 87) 3).bind fun v8 =>
  (TX7_cell v2 v4 v6 v8 S).bind fun q9 =>
  (if q9.1 < 0 then (zb 0).bind fun v10 => some (v10, q9.2) else
  (zb 1).bind fun v11 => some (v11, q9.2)) else
  (if a1 = 1 then (aget 4 (S.2.2.1 87) 0).bind fun v14 =>
  (aget 4 (S.2.2.1 87) 1).bind fun v16 =>
  (TX7_heat v14 v16 S).bind fun q17 =>
  (if q17.1 = 1 then (zb 1).bind fun v19 => some (v19, q17.2) else
  (zb 0).bind fun v18 => some (v18, q17.2)) else
  (if a1 = 2 then (aget 4 (S.2.2.1 87) 0).bind fun v22 =>
  (aget 4 (S.2.2.1 87) 1).bind fun v24 =>
  (TX7_set v22 3 v24 S).bind fun q25 =>
  (if q25.1 = (-1000) then (zb 0).bind fun v26 => some (v26, q25.2) else
  (zb 1).bind fun v27 => some (v27, q25.2)) else
  (if a1 = 3 then (aget 4 (S.2.2.1 87) 0).bind fun v30 =>
  (TX7_end 0 v30 S).bind fun q31 =>
  (if q31.1 = (-1000) then (zb 0).bind fun v32 => some (v32, q31.2) else
  (zb 1).bind fun v33 => some (v33, q31.2)) else
  (if a1 = 4 then (aget 4 (S.2.2.1 87) 0).bind fun v36 =>
  (TX7_end 1 v36 S).bind fun q37 =>
  (if q37.1 = (-1000) then (zb 0).bind fun v38 => some (v38, q37.2) else
  (zb 1).bind fun v39 => some (v39, q37.2)) else
  (if a1 = 5 then (aget 4 (S.2.2.1 87) 0).bind fun v42 =>
  (TX7_rule 0 v42 S).bind fun q43 =>
  (if q43.1 = (-1000) then (zb 0).bind fun v44 => some (v44, q43.2) else
  (zb 1).bind fun v45 => some (v45, q43.2)) else
  (if a1 = 6 then (aget 4 (S.2.2.1 87) 0).bind fun v48 =>
  (aget 4 (S.2.2.1 87) 1).bind fun v50 =>
  (aget 4 (S.2.2.1 87) 2).bind fun v52 =>
  (TX7_pulse v48 v50 v52 S).bind fun q53 =>
  (if q53.1 ≤ 0 then (zb 0).bind fun v54 => some (v54, q53.2) else
  (zb 1).bind fun v55 => some (v55, q53.2)) else
  (TX7_drop S).bind fun q57 =>
  (if q57.1 < 0 then (zb 0).bind fun v58 => some (v58, q57.2) else
  (zb 1).bind fun v59 => some (v59, q57.2)))))))))
theorem eqX7_isDone (t : Nat) (ct : Nat → ClassId) (a1 : Int32) (S : SS) : X7_isDone (t + 64) a1 (HH t ct S) = (TX7_isDone a1 S).map (hwI t ct) := by
  show EQ _ _ _
  unfold X7_isDone TX7_isDone
  refine e_get (HH_vO rfl) ?_
  refine e_ite ?_ ?_
  · refine e_get (HH_gR rfl rfl) ?_
    refine e_bind (HH_aI rfl) ?_
    intro v2
    refine e_get (HH_gR rfl rfl) ?_
    refine e_bind (HH_aI rfl) ?_
    intro v4
    refine e_get (HH_gR rfl rfl) ?_
    refine e_bind (HH_aI rfl) ?_
    intro v6
    refine e_get (HH_gR rfl rfl) ?_
    refine e_bind (HH_aI rfl) ?_
    intro v8
    refine e_call (eqX7_cell t ct v2 v4 v6 v8 S) ?_
    intro q9
    refine e_ite ?_ ?_
    · exact e_bind rfl (fun _ => e_ret rfl)
    · exact e_bind rfl (fun _ => e_ret rfl)
  refine e_ite ?_ ?_
  · refine e_get (HH_gR rfl rfl) ?_
    refine e_bind (HH_aI rfl) ?_
    intro v14
    refine e_get (HH_gR rfl rfl) ?_
    refine e_bind (HH_aI rfl) ?_
    intro v16
    refine e_call (eqX7_heat t ct v14 v16 S) ?_
    intro q17
    refine e_ite ?_ ?_
    · exact e_bind rfl (fun _ => e_ret rfl)
    · exact e_bind rfl (fun _ => e_ret rfl)
  refine e_ite ?_ ?_
  · refine e_get (HH_gR rfl rfl) ?_
    refine e_bind (HH_aI rfl) ?_
    intro v22
    refine e_get (HH_gR rfl rfl) ?_
    refine e_bind (HH_aI rfl) ?_
    intro v24
    refine e_call (eqX7_set t ct v22 3 v24 S) ?_
    intro q25
    refine e_ite ?_ ?_
    · exact e_bind rfl (fun _ => e_ret rfl)
    · exact e_bind rfl (fun _ => e_ret rfl)
  refine e_ite ?_ ?_
  · refine e_get (HH_gR rfl rfl) ?_
    refine e_bind (HH_aI rfl) ?_
    intro v30
    refine e_call (eqX7_end t ct 0 v30 S) ?_
    intro q31
    refine e_ite ?_ ?_
    · exact e_bind rfl (fun _ => e_ret rfl)
    · exact e_bind rfl (fun _ => e_ret rfl)
  refine e_ite ?_ ?_
  · refine e_get (HH_gR rfl rfl) ?_
    refine e_bind (HH_aI rfl) ?_
    intro v36
    refine e_call (eqX7_end t ct 1 v36 S) ?_
    intro q37
    refine e_ite ?_ ?_
    · exact e_bind rfl (fun _ => e_ret rfl)
    · exact e_bind rfl (fun _ => e_ret rfl)
  refine e_ite ?_ ?_
  · refine e_get (HH_gR rfl rfl) ?_
    refine e_bind (HH_aI rfl) ?_
    intro v42
    refine e_call (eqX7_rule t ct 0 v42 S) ?_
    intro q43
    refine e_ite ?_ ?_
    · exact e_bind rfl (fun _ => e_ret rfl)
    · exact e_bind rfl (fun _ => e_ret rfl)
  refine e_ite ?_ ?_
  · refine e_get (HH_gR rfl rfl) ?_
    refine e_bind (HH_aI rfl) ?_
    intro v48
    refine e_get (HH_gR rfl rfl) ?_
    refine e_bind (HH_aI rfl) ?_
    intro v50
    refine e_get (HH_gR rfl rfl) ?_
    refine e_bind (HH_aI rfl) ?_
    intro v52
    refine e_call (eqX7_pulse t ct v48 v50 v52 S) ?_
    intro q53
    refine e_ite ?_ ?_
    · exact e_bind rfl (fun _ => e_ret rfl)
    · exact e_bind rfl (fun _ => e_ret rfl)
  refine e_call (eqX7_drop t ct S) ?_
  intro q57
  refine e_ite ?_ ?_
  · exact e_bind rfl (fun _ => e_ret rfl)
  · exact e_bind rfl (fun _ => e_ret rfl)
def TX7_isClause_J83 (s0 : Int32) (s1 : Int32) (S : SS) : Option (Int32 × SS) := letS (sFI S 64 36 (s1 + s0)) fun S7 =>
  (TX7_reads S7).bind fun q8 =>
  (if (q8.1 64 33) = 0 then (zb 1).bind fun v10 => some (v10, q8) else
  (if (q8.1 64 33) = 3 then (zb 1).bind fun v13 => some (v13, q8) else
  (zb 0).bind fun v12 => some (v12, q8)))
theorem eqX7_isClause_J83 (t : Nat) (ct : Nat → ClassId) : ∀ (s0 : Int32) (s1 : Int32) (S : SS), EQ (X7_isClause_J83 (t + 64) s0 s1 (t + 64) (HH t ct S)) (TX7_isClause_J83 s0 s1 S) (hwI t ct) := by
  intro s0 s1 S
  unfold X7_isClause_J83 TX7_isClause_J83
  refine e_put (HH_pI rfl rfl) ?_
  intro S7
  refine e_call (eqX7_reads t ct S7) ?_
  intro q8
  refine e_get (HH_gI rfl rfl) ?_
  refine e_ite ?_ ?_
  · exact e_bind rfl (fun _ => e_ret rfl)
  · refine e_get (HH_gI rfl rfl) ?_
    refine e_ite ?_ ?_
    · exact e_bind rfl (fun _ => e_ret rfl)
    · exact e_bind rfl (fun _ => e_ret rfl)
def TX7_isClause_L21 : Nat → Int32 → Int32 → Int32 → SS → Option (Int32 × SS)
  | 0, _, _, _, _ => none
  | n + 1, l1, l2, l3, S => (aget 8 (S.2.2.1 85) l2).bind fun v5 =>
  (if v5 ≤ l3 then (if l1 = 0 then TX7_isClause_J83 0 (S.1 64 36) S else
  (TX7_isDone l2 S).bind fun q14 =>
  (if q14.1 = 0 then TX7_isClause_J83 0 (S.1 64 36) q14.2 else
  TX7_isClause_J83 1 (S.1 64 36) q14.2)) else
  (TX7_reads S).bind fun q15 =>
  (if (q15.1 64 33) = 2 then (if jin l3 4 then letS (sAI q15 87 (Int32.toNatClampNeg l3) (q15.1 64 34)) fun S19 =>
  TX7_isClause_L21 n l1 l2 (l3 + 1) S19 else
  none) else
  (zb 0).bind fun v20 => some (v20, q15)))
theorem eqX7_isClause_L21 (t : Nat) (ct : Nat → ClassId) : ∀ (n : Nat), ∀ (l1 : Int32) (l2 : Int32) (l3 : Int32) (S : SS), EQ (X7_isClause_L21 n (t + 64) l1 l2 l3 (HH t ct S)) (TX7_isClause_L21 n l1 l2 l3 S) (hwI t ct) := by
  intro n
  induction n with
  | zero => intro l1 l2 l3 S; exact e_none
  | succ n ih =>
    intro l1 l2 l3 S
    unfold X7_isClause_L21 TX7_isClause_L21
    refine e_get (HH_gR rfl rfl) ?_
    refine e_bind (HH_aI rfl) ?_
    intro v5
    refine e_ite ?_ ?_
    · refine e_get (HH_gI rfl rfl) ?_
      refine e_ite ?_ ?_
      · exact eqX7_isClause_J83 t ct 0 (S.1 64 36) S
      · refine e_call (eqX7_isDone t ct l2 S) ?_
        intro q14
        refine e_ite ?_ ?_
        · exact eqX7_isClause_J83 t ct 0 (S.1 64 36) q14.2
        · exact eqX7_isClause_J83 t ct 1 (S.1 64 36) q14.2
    · refine e_call (eqX7_reads t ct S) ?_
      intro q15
      refine e_get (HH_gI rfl rfl) ?_
      refine e_ite ?_ ?_
      · refine e_get (HH_gR rfl rfl) ?_
        refine e_get (HH_gI rfl rfl) ?_
        refine e_wrS (HH_wI rfl) ?_
        intro S19
        exact ih l1 l2 (l3 + 1) S19
      · exact e_bind rfl (fun _ => e_ret rfl)
def TX7_isClause (a1 : Int32) (S : SS) : Option (Int32 × SS) := (TX7_reads S).bind fun q1 =>
  (if (q1.1 64 33) = 1 then TX7_isClause_L21 fu a1 (q1.1 64 34) 0 q1 else
  (zb 0).bind fun v21 => some (v21, q1))
theorem eqX7_isClause (t : Nat) (ct : Nat → ClassId) (a1 : Int32) (S : SS) : X7_isClause (t + 64) a1 (HH t ct S) = (TX7_isClause a1 S).map (hwI t ct) := by
  show EQ _ _ _
  unfold X7_isClause TX7_isClause
  refine e_get (HH_vO rfl) ?_
  refine e_call (eqX7_reads t ct S) ?_
  intro q1
  refine e_get (HH_gI rfl rfl) ?_
  refine e_ite ?_ ?_
  · refine e_get (HH_gI rfl rfl) ?_
    exact eqX7_isClause_L21 t ct fu a1 (q1.1 64 34) 0 q1
  · exact e_bind rfl (fun _ => e_ret rfl)
def TX7_isText_L16 : Nat → Int32 → Int32 → SS → Option (Int32 × SS)
  | 0, _, _, _ => none
  | n + 1, l1, l2, S => (if l2 = 0 then (zb l2).bind fun v4 => some (v4, S) else
  (if (S.1 64 33) = 3 then (TX7_isClause l1 S).bind fun q7 =>
  TX7_isText_L16 n l1 q7.1 q7.2 else
  (zb l2).bind fun v6 => some (v6, S)))
theorem eqX7_isText_L16 (t : Nat) (ct : Nat → ClassId) : ∀ (n : Nat), ∀ (l1 : Int32) (l2 : Int32) (S : SS), EQ (X7_isText_L16 n (t + 64) l1 l2 (HH t ct S)) (TX7_isText_L16 n l1 l2 S) (hwI t ct) := by
  intro n
  induction n with
  | zero => intro l1 l2 S; exact e_none
  | succ n ih =>
    intro l1 l2 S
    unfold X7_isText_L16 TX7_isText_L16
    refine e_ite ?_ ?_
    · exact e_bind rfl (fun _ => e_ret rfl)
    · refine e_get (HH_gI rfl rfl) ?_
      refine e_ite ?_ ?_
      · refine e_call (eqX7_isClause t ct l1 S) ?_
        intro q7
        exact ih l1 q7.1 q7.2
      · exact e_bind rfl (fun _ => e_ret rfl)
def TX7_isText (a1 : Int32) (S : SS) : Option (Int32 × SS) := letS (sFI S 64 31 0) fun S1 =>
  letS (sFI S1 64 36 0) fun S2 =>
  (TX7_isClause a1 S2).bind fun q3 =>
  TX7_isText_L16 fu a1 q3.1 q3.2
theorem eqX7_isText (t : Nat) (ct : Nat → ClassId) (a1 : Int32) (S : SS) : X7_isText (t + 64) a1 (HH t ct S) = (TX7_isText a1 S).map (hwI t ct) := by
  show EQ _ _ _
  unfold X7_isText TX7_isText
  refine e_get (HH_vO rfl) ?_
  refine e_put (HH_pI rfl rfl) ?_
  intro S1
  refine e_put (HH_pI rfl rfl) ?_
  intro S2
  refine e_call (eqX7_isClause t ct a1 S2) ?_
  intro q3
  exact eqX7_isText_L16 t ct fu a1 q3.1 q3.2
def TX7_text (S : SS) : Option (Int32 × SS) := letS (sFI S 64 30 (S.1 64 29)) fun S2 =>
  letS (sFI S2 64 29 0) fun S3 =>
  (TX7_isText 0 S3).bind fun q4 =>
  (if q4.1 = 0 then some (((-100) - (q4.2.1 64 32)), q4.2) else
  (TX7_isText 1 q4.2).bind fun q5 =>
  some ((q5.2.1 64 36), q5.2))
theorem eqX7_text (t : Nat) (ct : Nat → ClassId) (S : SS) : X7_text (t + 64) (HH t ct S) = (TX7_text S).map (hwI t ct) := by
  show EQ _ _ _
  unfold X7_text TX7_text
  refine e_get (HH_vO rfl) ?_
  refine e_get (HH_gI rfl rfl) ?_
  refine e_put (HH_pI rfl rfl) ?_
  intro S2
  refine e_put (HH_pI rfl rfl) ?_
  intro S3
  refine e_call (eqX7_isText t ct 0 S3) ?_
  intro q4
  refine e_ite ?_ ?_
  · refine e_get (HH_gI rfl rfl) ?_
    exact e_ret rfl
  · refine e_call (eqX7_isText t ct 1 q4.2) ?_
    intro q5
    refine e_get (HH_gI rfl rfl) ?_
    exact e_ret rfl
def TX7_image_L144 : Nat → Int32 → SS → Option (Int32 × SS)
  | 0, _, _ => none
  | n + 1, l1, S => (if (S.1 64 9) ≤ l1 then some ((S.1 64 0), S) else
  (aget 12 (S.2.2.1 72) l1).bind fun v13 =>
  (if jin l1 12 then letS (sAI S 95 (Int32.toNatClampNeg l1) v13) fun S14 =>
  (aget 12 (S14.2.2.1 73) l1).bind fun v17 =>
  (if jin l1 12 then letS (sAI S14 96 (Int32.toNatClampNeg l1) v17) fun S18 =>
  (aget 12 (S18.2.2.1 74) l1).bind fun v21 =>
  (if jin l1 12 then letS (sAI S18 97 (Int32.toNatClampNeg l1) v21) fun S22 =>
  TX7_image_L144 n (l1 + 1) S22 else
  none) else
  none) else
  none))
theorem eqX7_image_L144 (t : Nat) (ct : Nat → ClassId) : ∀ (n : Nat), ∀ (l1 : Int32) (S : SS), EQ (X7_image_L144 n (t + 64) l1 (HH t ct S)) (TX7_image_L144 n l1 S) (hwI t ct) := by
  intro n
  induction n with
  | zero => intro l1 S; exact e_none
  | succ n ih =>
    intro l1 S
    unfold X7_image_L144 TX7_image_L144
    refine e_get (HH_gI rfl rfl) ?_
    refine e_ite ?_ ?_
    · refine e_get (HH_gI rfl rfl) ?_
      exact e_ret rfl
    · refine e_get (HH_gR rfl rfl) ?_
      refine e_get (HH_gR rfl rfl) ?_
      refine e_bind (HH_aI rfl) ?_
      intro v13
      refine e_wrS (HH_wI rfl) ?_
      intro S14
      refine e_get (HH_gR rfl rfl) ?_
      refine e_get (HH_gR rfl rfl) ?_
      refine e_bind (HH_aI rfl) ?_
      intro v17
      refine e_wrS (HH_wI rfl) ?_
      intro S18
      refine e_get (HH_gR rfl rfl) ?_
      refine e_get (HH_gR rfl rfl) ?_
      refine e_bind (HH_aI rfl) ?_
      intro v21
      refine e_wrS (HH_wI rfl) ?_
      intro S22
      exact ih (l1 + 1) S22
def TX7_image_L99 : Nat → Int32 → SS → Option (Int32 × SS)
  | 0, _, _ => none
  | n + 1, l1, S => (if 2 ≤ l1 then letS (sFI S 64 47 (S.1 64 9)) fun S8 =>
  TX7_image_L144 fu 0 S8 else
  (aget 2 (S.2.2.1 70) l1).bind fun v25 =>
  (if jin l1 2 then letS (sAI S 93 (Int32.toNatClampNeg l1) v25) fun S26 =>
  (aget 2 (S26.2.2.1 71) l1).bind fun v29 =>
  (if jin l1 2 then letS (sAI S26 94 (Int32.toNatClampNeg l1) v29) fun S30 =>
  TX7_image_L99 n (l1 + 1) S30 else
  none) else
  none))
theorem eqX7_image_L99 (t : Nat) (ct : Nat → ClassId) : ∀ (n : Nat), ∀ (l1 : Int32) (S : SS), EQ (X7_image_L99 n (t + 64) l1 (HH t ct S)) (TX7_image_L99 n l1 S) (hwI t ct) := by
  intro n
  induction n with
  | zero => intro l1 S; exact e_none
  | succ n ih =>
    intro l1 S
    unfold X7_image_L99 TX7_image_L99
    refine e_ite ?_ ?_
    · refine e_get (HH_gI rfl rfl) ?_
      refine e_put (HH_pI rfl rfl) ?_
      intro S8
      exact eqX7_image_L144 t ct fu 0 S8
    · refine e_get (HH_gR rfl rfl) ?_
      refine e_get (HH_gR rfl rfl) ?_
      refine e_bind (HH_aI rfl) ?_
      intro v25
      refine e_wrS (HH_wI rfl) ?_
      intro S26
      refine e_get (HH_gR rfl rfl) ?_
      refine e_get (HH_gR rfl rfl) ?_
      refine e_bind (HH_aI rfl) ?_
      intro v29
      refine e_wrS (HH_wI rfl) ?_
      intro S30
      exact ih (l1 + 1) S30
def TX7_image_L15 : Nat → Int32 → SS → Option (Int32 × SS)
  | 0, _, _ => none
  | n + 1, l1, S => (if (S.1 64 0) ≤ l1 then letS (sFL S 64 44 (S.2.1 64 6)) fun S6 =>
  TX7_image_L99 fu 0 S6 else
  (aget 8 (S.2.2.1 65) l1).bind fun v33 =>
  (if jin l1 8 then letS (sAI S 88 (Int32.toNatClampNeg l1) v33) fun S34 =>
  (aget 8 (S34.2.2.1 66) l1).bind fun v37 =>
  (if jin l1 8 then letS (sAI S34 89 (Int32.toNatClampNeg l1) v37) fun S38 =>
  (aget 8 (S38.2.2.1 67) l1).bind fun v41 =>
  (if jin l1 8 then letS (sAI S38 90 (Int32.toNatClampNeg l1) v41) fun S42 =>
  (aget 8 (S42.2.2.1 68) l1).bind fun v45 =>
  (if jin l1 8 then letS (sAI S42 91 (Int32.toNatClampNeg l1) v45) fun S46 =>
  (aget 8 (S46.2.2.2 69) l1).bind fun v49 =>
  (if jin l1 8 then letS (sAL S46 92 (Int32.toNatClampNeg l1) v49) fun S50 =>
  TX7_image_L15 n (l1 + 1) S50 else
  none) else
  none) else
  none) else
  none) else
  none))
theorem eqX7_image_L15 (t : Nat) (ct : Nat → ClassId) : ∀ (n : Nat), ∀ (l1 : Int32) (S : SS), EQ (X7_image_L15 n (t + 64) l1 (HH t ct S)) (TX7_image_L15 n l1 S) (hwI t ct) := by
  intro n
  induction n with
  | zero => intro l1 S; exact e_none
  | succ n ih =>
    intro l1 S
    unfold X7_image_L15 TX7_image_L15
    refine e_get (HH_gI rfl rfl) ?_
    refine e_ite ?_ ?_
    · refine e_get (HH_gL rfl rfl) ?_
      refine e_put (HH_pL rfl rfl) ?_
      intro S6
      exact eqX7_image_L99 t ct fu 0 S6
    · refine e_get (HH_gR rfl rfl) ?_
      refine e_get (HH_gR rfl rfl) ?_
      refine e_bind (HH_aI rfl) ?_
      intro v33
      refine e_wrS (HH_wI rfl) ?_
      intro S34
      refine e_get (HH_gR rfl rfl) ?_
      refine e_get (HH_gR rfl rfl) ?_
      refine e_bind (HH_aI rfl) ?_
      intro v37
      refine e_wrS (HH_wI rfl) ?_
      intro S38
      refine e_get (HH_gR rfl rfl) ?_
      refine e_get (HH_gR rfl rfl) ?_
      refine e_bind (HH_aI rfl) ?_
      intro v41
      refine e_wrS (HH_wI rfl) ?_
      intro S42
      refine e_get (HH_gR rfl rfl) ?_
      refine e_get (HH_gR rfl rfl) ?_
      refine e_bind (HH_aI rfl) ?_
      intro v45
      refine e_wrS (HH_wI rfl) ?_
      intro S46
      refine e_get (HH_gR rfl rfl) ?_
      refine e_get (HH_gR rfl rfl) ?_
      refine e_bind (HH_aL rfl) ?_
      intro v49
      refine e_wrS (HH_wL rfl) ?_
      intro S50
      exact ih (l1 + 1) S50
def TX7_image (S : SS) : Option (Int32 × SS) := letS (sFI S 64 37 1) fun S1 =>
  letS (sFI S1 64 38 (S1.1 64 0)) fun S3 =>
  TX7_image_L15 fu 0 S3
theorem eqX7_image (t : Nat) (ct : Nat → ClassId) (S : SS) : X7_image (t + 64) (HH t ct S) = (TX7_image S).map (hwI t ct) := by
  show EQ _ _ _
  unfold X7_image TX7_image
  refine e_get (HH_vO rfl) ?_
  refine e_put (HH_pI rfl rfl) ?_
  intro S1
  refine e_get (HH_gI rfl rfl) ?_
  refine e_put (HH_pI rfl rfl) ?_
  intro S3
  exact eqX7_image_L15 t ct fu 0 S3
def TX7_back_L149 : Nat → Int32 → SS → Option (Int32 × SS)
  | 0, _, _ => none
  | n + 1, l1, S => (if (S.1 64 9) ≤ l1 then some ((S.1 64 0), S) else
  (aget 12 (S.2.2.1 95) l1).bind fun v13 =>
  (if jin l1 12 then letS (sAI S 72 (Int32.toNatClampNeg l1) v13) fun S14 =>
  (aget 12 (S14.2.2.1 96) l1).bind fun v17 =>
  (if jin l1 12 then letS (sAI S14 73 (Int32.toNatClampNeg l1) v17) fun S18 =>
  (aget 12 (S18.2.2.1 97) l1).bind fun v21 =>
  (if jin l1 12 then letS (sAI S18 74 (Int32.toNatClampNeg l1) v21) fun S22 =>
  TX7_back_L149 n (l1 + 1) S22 else
  none) else
  none) else
  none))
theorem eqX7_back_L149 (t : Nat) (ct : Nat → ClassId) : ∀ (n : Nat), ∀ (l1 : Int32) (S : SS), EQ (X7_back_L149 n (t + 64) l1 (HH t ct S)) (TX7_back_L149 n l1 S) (hwI t ct) := by
  intro n
  induction n with
  | zero => intro l1 S; exact e_none
  | succ n ih =>
    intro l1 S
    unfold X7_back_L149 TX7_back_L149
    refine e_get (HH_gI rfl rfl) ?_
    refine e_ite ?_ ?_
    · refine e_get (HH_gI rfl rfl) ?_
      exact e_ret rfl
    · refine e_get (HH_gR rfl rfl) ?_
      refine e_get (HH_gR rfl rfl) ?_
      refine e_bind (HH_aI rfl) ?_
      intro v13
      refine e_wrS (HH_wI rfl) ?_
      intro S14
      refine e_get (HH_gR rfl rfl) ?_
      refine e_get (HH_gR rfl rfl) ?_
      refine e_bind (HH_aI rfl) ?_
      intro v17
      refine e_wrS (HH_wI rfl) ?_
      intro S18
      refine e_get (HH_gR rfl rfl) ?_
      refine e_get (HH_gR rfl rfl) ?_
      refine e_bind (HH_aI rfl) ?_
      intro v21
      refine e_wrS (HH_wI rfl) ?_
      intro S22
      exact ih (l1 + 1) S22
def TX7_back_L104 : Nat → Int32 → SS → Option (Int32 × SS)
  | 0, _, _ => none
  | n + 1, l1, S => (if 2 ≤ l1 then letS (sFI S 64 9 (S.1 64 47)) fun S8 =>
  TX7_back_L149 fu 0 S8 else
  (aget 2 (S.2.2.1 93) l1).bind fun v25 =>
  (if jin l1 2 then letS (sAI S 70 (Int32.toNatClampNeg l1) v25) fun S26 =>
  (aget 2 (S26.2.2.1 94) l1).bind fun v29 =>
  (if jin l1 2 then letS (sAI S26 71 (Int32.toNatClampNeg l1) v29) fun S30 =>
  TX7_back_L104 n (l1 + 1) S30 else
  none) else
  none))
theorem eqX7_back_L104 (t : Nat) (ct : Nat → ClassId) : ∀ (n : Nat), ∀ (l1 : Int32) (S : SS), EQ (X7_back_L104 n (t + 64) l1 (HH t ct S)) (TX7_back_L104 n l1 S) (hwI t ct) := by
  intro n
  induction n with
  | zero => intro l1 S; exact e_none
  | succ n ih =>
    intro l1 S
    unfold X7_back_L104 TX7_back_L104
    refine e_ite ?_ ?_
    · refine e_get (HH_gI rfl rfl) ?_
      refine e_put (HH_pI rfl rfl) ?_
      intro S8
      exact eqX7_back_L149 t ct fu 0 S8
    · refine e_get (HH_gR rfl rfl) ?_
      refine e_get (HH_gR rfl rfl) ?_
      refine e_bind (HH_aI rfl) ?_
      intro v25
      refine e_wrS (HH_wI rfl) ?_
      intro S26
      refine e_get (HH_gR rfl rfl) ?_
      refine e_get (HH_gR rfl rfl) ?_
      refine e_bind (HH_aI rfl) ?_
      intro v29
      refine e_wrS (HH_wI rfl) ?_
      intro S30
      exact ih (l1 + 1) S30
def TX7_back_L20 : Nat → Int32 → SS → Option (Int32 × SS)
  | 0, _, _ => none
  | n + 1, l1, S => (if (S.1 64 0) ≤ l1 then letS (sFL S 64 6 (S.2.1 64 44)) fun S6 =>
  TX7_back_L104 fu 0 S6 else
  (aget 8 (S.2.2.1 88) l1).bind fun v33 =>
  (if jin l1 8 then letS (sAI S 65 (Int32.toNatClampNeg l1) v33) fun S34 =>
  (aget 8 (S34.2.2.1 89) l1).bind fun v37 =>
  (if jin l1 8 then letS (sAI S34 66 (Int32.toNatClampNeg l1) v37) fun S38 =>
  (aget 8 (S38.2.2.1 90) l1).bind fun v41 =>
  (if jin l1 8 then letS (sAI S38 67 (Int32.toNatClampNeg l1) v41) fun S42 =>
  (aget 8 (S42.2.2.1 91) l1).bind fun v45 =>
  (if jin l1 8 then letS (sAI S42 68 (Int32.toNatClampNeg l1) v45) fun S46 =>
  (aget 8 (S46.2.2.2 92) l1).bind fun v49 =>
  (if jin l1 8 then letS (sAL S46 69 (Int32.toNatClampNeg l1) v49) fun S50 =>
  TX7_back_L20 n (l1 + 1) S50 else
  none) else
  none) else
  none) else
  none) else
  none))
theorem eqX7_back_L20 (t : Nat) (ct : Nat → ClassId) : ∀ (n : Nat), ∀ (l1 : Int32) (S : SS), EQ (X7_back_L20 n (t + 64) l1 (HH t ct S)) (TX7_back_L20 n l1 S) (hwI t ct) := by
  intro n
  induction n with
  | zero => intro l1 S; exact e_none
  | succ n ih =>
    intro l1 S
    unfold X7_back_L20 TX7_back_L20
    refine e_get (HH_gI rfl rfl) ?_
    refine e_ite ?_ ?_
    · refine e_get (HH_gL rfl rfl) ?_
      refine e_put (HH_pL rfl rfl) ?_
      intro S6
      exact eqX7_back_L104 t ct fu 0 S6
    · refine e_get (HH_gR rfl rfl) ?_
      refine e_get (HH_gR rfl rfl) ?_
      refine e_bind (HH_aI rfl) ?_
      intro v33
      refine e_wrS (HH_wI rfl) ?_
      intro S34
      refine e_get (HH_gR rfl rfl) ?_
      refine e_get (HH_gR rfl rfl) ?_
      refine e_bind (HH_aI rfl) ?_
      intro v37
      refine e_wrS (HH_wI rfl) ?_
      intro S38
      refine e_get (HH_gR rfl rfl) ?_
      refine e_get (HH_gR rfl rfl) ?_
      refine e_bind (HH_aI rfl) ?_
      intro v41
      refine e_wrS (HH_wI rfl) ?_
      intro S42
      refine e_get (HH_gR rfl rfl) ?_
      refine e_get (HH_gR rfl rfl) ?_
      refine e_bind (HH_aI rfl) ?_
      intro v45
      refine e_wrS (HH_wI rfl) ?_
      intro S46
      refine e_get (HH_gR rfl rfl) ?_
      refine e_get (HH_gR rfl rfl) ?_
      refine e_bind (HH_aL rfl) ?_
      intro v49
      refine e_wrS (HH_wL rfl) ?_
      intro S50
      exact ih (l1 + 1) S50
def TX7_back (S : SS) : Option (Int32 × SS) := (if (S.1 64 37) = 0 then some ((-3), S) else
  letS (sFI S 64 0 (S.1 64 38)) fun S3 =>
  TX7_back_L20 fu 0 S3)
theorem eqX7_back (t : Nat) (ct : Nat → ClassId) (S : SS) : X7_back (t + 64) (HH t ct S) = (TX7_back S).map (hwI t ct) := by
  show EQ _ _ _
  unfold X7_back TX7_back
  refine e_get (HH_vO rfl) ?_
  refine e_get (HH_gI rfl rfl) ?_
  refine e_ite ?_ ?_
  · exact e_ret rfl
  · refine e_get (HH_gI rfl rfl) ?_
    refine e_put (HH_pI rfl rfl) ?_
    intro S3
    exact eqX7_back_L20 t ct fu 0 S3
def TX7_load_J163 (r65 : Int32 → Int32 → Int32 → Int32 → Int32 → SS → Option (Int32 × SS)) (l1 : Int32) (l3 : Int32) (l4 : Int32) (l6 : Int32) (s0 : Int32) (s1 : Int32) (S : SS) : Option (Int32 × SS) := r65 l1 l3 l4 (s1 + s0) (l6 + 1) S
theorem eqX7_load_J163 (t : Nat) (ct : Nat → ClassId) (g65 : Nat → Int32 → Int32 → Int32 → Int32 → Int32 → Hs → Option (Int32 × Hs)) (r65 : Int32 → Int32 → Int32 → Int32 → Int32 → SS → Option (Int32 × SS)) (hr65 : ∀ (l1 : Int32) (l3 : Int32) (l4 : Int32) (l5 : Int32) (l6 : Int32) (S : SS), EQ (g65 (t + 64) l1 l3 l4 l5 l6 (HH t ct S)) (r65 l1 l3 l4 l5 l6 S) (hwI t ct)) : ∀ (l1 : Int32) (l3 : Int32) (l4 : Int32) (l6 : Int32) (s0 : Int32) (s1 : Int32) (S : SS), EQ (X7_load_J163 g65 (t + 64) l1 l3 l4 l6 s0 s1 (HH t ct S)) (TX7_load_J163 r65 l1 l3 l4 l6 s0 s1 S) (hwI t ct) := by
  intro l1 l3 l4 l6 s0 s1 S
  unfold X7_load_J163 TX7_load_J163
  exact hr65 l1 l3 l4 (s1 + s0) (l6 + 1) S
def TX7_load_L65 : Nat → Int32 → Int32 → Int32 → Int32 → Int32 → SS → Option (Int32 × SS)
  | 0, _, _, _, _, _, _ => none
  | n + 1, l1, l3, l4, l5, l6, S => (if l4 ≤ l6 then some (l5, S) else
  (aget 4 (S.2.2.1 99) l1).bind fun v9 =>
  (TX7_isIn ((Int32.toInt64 l3) + (4 * (Int32.toInt64 l6))) 0 (Int32.toInt64 (v9 - 4))).bind fun v10 =>
  (if v10 = 0 then some ((-12), S) else
  (aget 160 (S.2.2.1 100) ((40 * l1) + (Int64.toInt32 ((Int32.toInt64 l3) + (4 * (Int32.toInt64 l6)))))).bind fun v12 =>
  (aget 160 (S.2.2.1 100) (((40 * l1) + (Int64.toInt32 ((Int32.toInt64 l3) + (4 * (Int32.toInt64 l6))))) + 1)).bind fun v14 =>
  (aget 160 (S.2.2.1 100) (((40 * l1) + (Int64.toInt32 ((Int32.toInt64 l3) + (4 * (Int32.toInt64 l6))))) + 2)).bind fun v16 =>
  (aget 160 (S.2.2.1 100) (((40 * l1) + (Int64.toInt32 ((Int32.toInt64 l3) + (4 * (Int32.toInt64 l6))))) + 3)).bind fun v18 =>
  (TX7_cell v12 v14 v16 v18 S).bind fun q19 =>
  (if q19.1 < 0 then TX7_load_J163 (fun l1 l3 l4 l5 l6 S => TX7_load_L65 n l1 l3 l4 l5 l6 S) l1 l3 l4 l6 0 l5 q19.2 else
  TX7_load_J163 (fun l1 l3 l4 l5 l6 S => TX7_load_L65 n l1 l3 l4 l5 l6 S) l1 l3 l4 l6 1 l5 q19.2)))
theorem eqX7_load_L65 (t : Nat) (ct : Nat → ClassId) : ∀ (n : Nat), ∀ (l1 : Int32) (l3 : Int32) (l4 : Int32) (l5 : Int32) (l6 : Int32) (S : SS), EQ (X7_load_L65 n (t + 64) l1 l3 l4 l5 l6 (HH t ct S)) (TX7_load_L65 n l1 l3 l4 l5 l6 S) (hwI t ct) := by
  intro n
  induction n with
  | zero => intro l1 l3 l4 l5 l6 S; exact e_none
  | succ n ih =>
    intro l1 l3 l4 l5 l6 S
    unfold X7_load_L65 TX7_load_L65
    refine e_ite ?_ ?_
    · exact e_ret rfl
    · refine e_get (HH_gR rfl rfl) ?_
      refine e_bind (HH_aI rfl) ?_
      intro v9
      refine e_call (eqX7_isIn t ct ((Int32.toInt64 l3) + (4 * (Int32.toInt64 l6))) 0 (Int32.toInt64 (v9 - 4))) ?_
      intro v10
      refine e_ite ?_ ?_
      · exact e_ret rfl
      · refine e_get (HH_gR rfl rfl) ?_
        refine e_bind (HH_aI rfl) ?_
        intro v12
        refine e_get (HH_gR rfl rfl) ?_
        refine e_bind (HH_aI rfl) ?_
        intro v14
        refine e_get (HH_gR rfl rfl) ?_
        refine e_bind (HH_aI rfl) ?_
        intro v16
        refine e_get (HH_gR rfl rfl) ?_
        refine e_bind (HH_aI rfl) ?_
        intro v18
        refine e_call (eqX7_cell t ct v12 v14 v16 v18 S) ?_
        intro q19
        refine e_ite ?_ ?_
        · exact eqX7_load_J163 t ct _ (fun l1 l3 l4 l5 l6 S => TX7_load_L65 n l1 l3 l4 l5 l6 S) ih l1 l3 l4 l6 0 l5 q19.2
        · exact eqX7_load_J163 t ct _ (fun l1 l3 l4 l5 l6 S => TX7_load_L65 n l1 l3 l4 l5 l6 S) ih l1 l3 l4 l6 1 l5 q19.2
def TX7_load (a1 : Int32) (a2 : Int32) (a3 : Int32) (a4 : Int32) (S : SS) : Option (Int32 × SS) := (TX7_isSheet a1).bind fun v1 =>
  (if v1 = 0 then some ((-2), S) else
  (TX7_isIn (Int32.toInt64 a2) 0 1).bind fun v2 =>
  (if v2 = 0 then some ((-2), S) else
  (TX7_isIn (Int32.toInt64 a4) 0 8).bind fun v3 =>
  (if v3 = 0 then some ((-2), S) else
  (aget 4 (S.2.2.1 98) a1).bind fun v5 =>
  (if v5 = (-1) then some ((-11), S) else
  (aget 4 (S.2.2.1 98) a1).bind fun v7 =>
  (if v7 = a2 then TX7_load_L65 fu a1 a3 a4 0 0 S else
  some ((-13), S))))))
theorem eqX7_load (t : Nat) (ct : Nat → ClassId) (a1 : Int32) (a2 : Int32) (a3 : Int32) (a4 : Int32) (S : SS) : X7_load (t + 64) a1 a2 a3 a4 (HH t ct S) = (TX7_load a1 a2 a3 a4 S).map (hwI t ct) := by
  show EQ _ _ _
  unfold X7_load TX7_load
  refine e_get (HH_vO rfl) ?_
  refine e_call (eqX7_isSheet t ct a1) ?_
  intro v1
  refine e_ite ?_ ?_
  · exact e_ret rfl
  · refine e_call (eqX7_isIn t ct (Int32.toInt64 a2) 0 1) ?_
    intro v2
    refine e_ite ?_ ?_
    · exact e_ret rfl
    · refine e_call (eqX7_isIn t ct (Int32.toInt64 a4) 0 8) ?_
      intro v3
      refine e_ite ?_ ?_
      · exact e_ret rfl
      · refine e_get (HH_gR rfl rfl) ?_
        refine e_bind (HH_aI rfl) ?_
        intro v5
        refine e_ite ?_ ?_
        · exact e_ret rfl
        · refine e_get (HH_gR rfl rfl) ?_
          refine e_bind (HH_aI rfl) ?_
          intro v7
          refine e_ite ?_ ?_
          · exact eqX7_load_L65 t ct fu a1 a3 a4 0 0 S
          · exact e_ret rfl
def TX7_count_J91 (S : SS) (r54 : Int32 → Int32 → Int32 → Option (Int32)) (l1 : Int32) (l3 : Int32) (s0 : Int32) (s1 : Int32) : Option (Int32) := r54 l1 (s1 + s0) (l3 + 1)
theorem eqX7_count_J91 (t : Nat) (ct : Nat → ClassId) (S : SS) (g54 : Nat → Int32 → Int32 → Int32 → Option (Int32)) (r54 : Int32 → Int32 → Int32 → Option (Int32)) (hr54 : ∀ (l1 : Int32) (l2 : Int32) (l3 : Int32), EQ (g54 (t + 64) l1 l2 l3) (r54 l1 l2 l3) id) : ∀ (l1 : Int32) (l3 : Int32) (s0 : Int32) (s1 : Int32), EQ (X7_count_J91 (HH t ct S) g54 (t + 64) l1 l3 s0 s1) (TX7_count_J91 S r54 l1 l3 s0 s1) id := by
  intro l1 l3 s0 s1
  unfold X7_count_J91 TX7_count_J91
  exact hr54 l1 (s1 + s0) (l3 + 1)
def TX7_count_L54 (S : SS) : Nat → Int32 → Int32 → Int32 → Option (Int32)
  | 0, _, _, _ => none
  | n + 1, l1, l2, l3 => (if (S.1 64 0) ≤ l3 then (if l1 = 0 then some (S.1 64 0) else
  (if l1 = 1 then some (S.1 64 9) else
  (if l1 = 2 then some (S.1 64 29) else
  some l2))) else
  (if l1 = 4 then (TX7_fin l3 S).bind fun v9 =>
  TX7_count_J91 S (fun l1 l2 l3 => TX7_count_L54 S n l1 l2 l3) l1 l3 v9 l2 else
  (if l1 = 5 then (aget 8 (S.2.2.1 68) l3).bind fun v8 =>
  TX7_count_J91 S (fun l1 l2 l3 => TX7_count_L54 S n l1 l2 l3) l1 l3 v8 l2 else
  TX7_count_J91 S (fun l1 l2 l3 => TX7_count_L54 S n l1 l2 l3) l1 l3 0 l2)))
theorem eqX7_count_L54 (t : Nat) (ct : Nat → ClassId) (S : SS) : ∀ (n : Nat), ∀ (l1 : Int32) (l2 : Int32) (l3 : Int32), EQ (X7_count_L54 (HH t ct S) n (t + 64) l1 l2 l3) (TX7_count_L54 S n l1 l2 l3) id := by
  intro n
  induction n with
  | zero => intro l1 l2 l3; exact e_none
  | succ n ih =>
    intro l1 l2 l3
    unfold X7_count_L54 TX7_count_L54
    refine e_get (HH_gI rfl rfl) ?_
    refine e_ite ?_ ?_
    · refine e_ite ?_ ?_
      · refine e_get (HH_gI rfl rfl) ?_
        exact e_ret rfl
      · refine e_ite ?_ ?_
        · refine e_get (HH_gI rfl rfl) ?_
          exact e_ret rfl
        · refine e_ite ?_ ?_
          · refine e_get (HH_gI rfl rfl) ?_
            exact e_ret rfl
          · exact e_ret rfl
    · refine e_ite ?_ ?_
      · refine e_call (eqX7_fin t ct l3 S) ?_
        intro v9
        exact eqX7_count_J91 t ct S _ (fun l1 l2 l3 => TX7_count_L54 S n l1 l2 l3) ih l1 l3 v9 l2
      · refine e_ite ?_ ?_
        · refine e_get (HH_gR rfl rfl) ?_
          refine e_bind (HH_aI rfl) ?_
          intro v8
          exact eqX7_count_J91 t ct S _ (fun l1 l2 l3 => TX7_count_L54 S n l1 l2 l3) ih l1 l3 v8 l2
        · exact eqX7_count_J91 t ct S _ (fun l1 l2 l3 => TX7_count_L54 S n l1 l2 l3) ih l1 l3 0 l2
def TX7_count_J44 (S : SS) (r20 : Int32 → Int32 → Int32 → Option (Int32)) (l1 : Int32) (l3 : Int32) (s0 : Int32) (s1 : Int32) : Option (Int32) := r20 l1 (s1 + s0) (l3 + 1)
theorem eqX7_count_J44 (t : Nat) (ct : Nat → ClassId) (S : SS) (g20 : Nat → Int32 → Int32 → Int32 → Option (Int32)) (r20 : Int32 → Int32 → Int32 → Option (Int32)) (hr20 : ∀ (l1 : Int32) (l2 : Int32) (l3 : Int32), EQ (g20 (t + 64) l1 l2 l3) (r20 l1 l2 l3) id) : ∀ (l1 : Int32) (l3 : Int32) (s0 : Int32) (s1 : Int32), EQ (X7_count_J44 (HH t ct S) g20 (t + 64) l1 l3 s0 s1) (TX7_count_J44 S r20 l1 l3 s0 s1) id := by
  intro l1 l3 s0 s1
  unfold X7_count_J44 TX7_count_J44
  exact hr20 l1 (s1 + s0) (l3 + 1)
def TX7_count_L20 (S : SS) : Nat → Int32 → Int32 → Int32 → Option (Int32)
  | 0, _, _, _ => none
  | n + 1, l1, l2, l3 => (if (S.1 64 9) ≤ l3 then TX7_count_L54 S fu l1 l2 0 else
  (if l1 = 3 then (aget 12 (S.2.2.1 74) l3).bind fun v11 =>
  TX7_count_J44 S (fun l1 l2 l3 => TX7_count_L20 S n l1 l2 l3) l1 l3 v11 l2 else
  TX7_count_J44 S (fun l1 l2 l3 => TX7_count_L20 S n l1 l2 l3) l1 l3 0 l2))
theorem eqX7_count_L20 (t : Nat) (ct : Nat → ClassId) (S : SS) : ∀ (n : Nat), ∀ (l1 : Int32) (l2 : Int32) (l3 : Int32), EQ (X7_count_L20 (HH t ct S) n (t + 64) l1 l2 l3) (TX7_count_L20 S n l1 l2 l3) id := by
  intro n
  induction n with
  | zero => intro l1 l2 l3; exact e_none
  | succ n ih =>
    intro l1 l2 l3
    unfold X7_count_L20 TX7_count_L20
    refine e_get (HH_gI rfl rfl) ?_
    refine e_ite ?_ ?_
    · exact eqX7_count_L54 t ct S fu l1 l2 0
    · refine e_ite ?_ ?_
      · refine e_get (HH_gR rfl rfl) ?_
        refine e_bind (HH_aI rfl) ?_
        intro v11
        exact eqX7_count_J44 t ct S _ (fun l1 l2 l3 => TX7_count_L20 S n l1 l2 l3) ih l1 l3 v11 l2
      · exact eqX7_count_J44 t ct S _ (fun l1 l2 l3 => TX7_count_L20 S n l1 l2 l3) ih l1 l3 0 l2
def TX7_count (a1 : Int32) (S : SS) : Option (Int32) := (TX7_isIn (Int32.toInt64 a1) 0 5).bind fun v1 =>
  (if v1 = 0 then some (-1000) else
  TX7_count_L20 S fu a1 0 0)
theorem eqX7_count (t : Nat) (ct : Nat → ClassId) (a1 : Int32) (S : SS) : X7_count (t + 64) a1 (HH t ct S) = (TX7_count a1 S).map id := by
  show EQ _ _ _
  unfold X7_count TX7_count
  refine e_get (HH_vO rfl) ?_
  refine e_call (eqX7_isIn t ct (Int32.toInt64 a1) 0 5) ?_
  intro v1
  refine e_ite ?_ ?_
  · exact e_ret rfl
  · exact eqX7_count_L20 t ct S fu a1 0 0
def TX7_sheet_L71 : Nat → Int32 → Int32 → SS → Option (Int32 × SS)
  | 0, _, _, _ => none
  | n + 1, l1, l4, S => (aget 4 (S.2.2.1 99) l1).bind fun v8 =>
  (if v8 ≤ l4 then some (1, S) else
  (if jin ((40 * l1) + l4) 160 then letS (sAI S 100 (Int32.toNatClampNeg ((40 * l1) + l4)) 0) fun S10 =>
  TX7_sheet_L71 n l1 (l4 + 1) S10 else
  none))
theorem eqX7_sheet_L71 (t : Nat) (ct : Nat → ClassId) : ∀ (n : Nat), ∀ (l1 : Int32) (l4 : Int32) (S : SS), EQ (X7_sheet_L71 n (t + 64) l1 l4 (HH t ct S)) (TX7_sheet_L71 n l1 l4 S) (hwI t ct) := by
  intro n
  induction n with
  | zero => intro l1 l4 S; exact e_none
  | succ n ih =>
    intro l1 l4 S
    unfold X7_sheet_L71 TX7_sheet_L71
    refine e_get (HH_gR rfl rfl) ?_
    refine e_bind (HH_aI rfl) ?_
    intro v8
    refine e_ite ?_ ?_
    · exact e_ret rfl
    · refine e_get (HH_gR rfl rfl) ?_
      refine e_wrS (HH_wI rfl) ?_
      intro S10
      exact ih l1 (l4 + 1) S10
def TX7_sheet_J67 (l1 : Int32) (s0 : Int32) (s1 : Int32) (S : SS) : Option (Int32 × SS) := (if jin s1 4 then letS (sAI S 99 (Int32.toNatClampNeg s1) s0) fun S6 =>
  TX7_sheet_L71 fu l1 0 S6 else
  none)
theorem eqX7_sheet_J67 (t : Nat) (ct : Nat → ClassId) : ∀ (l1 : Int32) (s0 : Int32) (s1 : Int32) (S : SS), EQ (X7_sheet_J67 (t + 64) l1 s0 s1 (t + 99) (HH t ct S)) (TX7_sheet_J67 l1 s0 s1 S) (hwI t ct) := by
  intro l1 s0 s1 S
  unfold X7_sheet_J67 TX7_sheet_J67
  refine e_wrS (HH_wI rfl) ?_
  intro S6
  exact eqX7_sheet_L71 t ct fu l1 0 S6
def TX7_sheet_J45 (l1 : Int32) (l2 : Int32) (l3 : Int32) (S : SS) : Option (Int32 × SS) := (if jin l1 4 then letS (sAI S 98 (Int32.toNatClampNeg l1) l2) fun S4 =>
  (if l2 = (-1) then TX7_sheet_J67 l1 0 l1 S4 else
  TX7_sheet_J67 l1 l3 l1 S4) else
  none)
theorem eqX7_sheet_J45 (t : Nat) (ct : Nat → ClassId) : ∀ (l1 : Int32) (l2 : Int32) (l3 : Int32) (S : SS), EQ (X7_sheet_J45 (t + 64) l1 l2 l3 (HH t ct S)) (TX7_sheet_J45 l1 l2 l3 S) (hwI t ct) := by
  intro l1 l2 l3 S
  unfold X7_sheet_J45 TX7_sheet_J45
  refine e_get (HH_gR rfl rfl) ?_
  refine e_wrS (HH_wI rfl) ?_
  intro S4
  refine e_get (HH_gR rfl rfl) ?_
  refine e_ite ?_ ?_
  · exact eqX7_sheet_J67 t ct l1 0 l1 S4
  · exact eqX7_sheet_J67 t ct l1 l3 l1 S4
def TX7_sheet_J33 (l1 : Int32) (l2 : Int32) (l3 : Int32) (S : SS) : Option (Int32 × SS) := (if l2 = (-1) then TX7_sheet_J45 l1 l2 l3 S else
  (if 0 ≤ l3 then TX7_sheet_J45 l1 l2 l3 S else
  some ((-14), S)))
theorem eqX7_sheet_J33 (t : Nat) (ct : Nat → ClassId) : ∀ (l1 : Int32) (l2 : Int32) (l3 : Int32) (S : SS), EQ (X7_sheet_J33 (t + 64) l1 l2 l3 (HH t ct S)) (TX7_sheet_J33 l1 l2 l3 S) (hwI t ct) := by
  intro l1 l2 l3 S
  unfold X7_sheet_J33 TX7_sheet_J33
  refine e_ite ?_ ?_
  · exact eqX7_sheet_J45 t ct l1 l2 l3 S
  · refine e_ite ?_ ?_
    · exact eqX7_sheet_J45 t ct l1 l2 l3 S
    · exact e_ret rfl
def TX7_sheet (a1 : Int32) (a2 : Int32) (a3 : Int32) (S : SS) : Option (Int32 × SS) := (TX7_isSheet a1).bind fun v1 =>
  (if v1 = 0 then some ((-2), S) else
  (TX7_isIn (Int32.toInt64 a2) (-1) 1).bind fun v2 =>
  (if v2 = 0 then some ((-2), S) else
  (if a2 = (-1) then TX7_sheet_J33 a1 a2 a3 S else
  (if a3 ≤ 40 then TX7_sheet_J33 a1 a2 a3 S else
  some ((-2), S)))))
theorem eqX7_sheet (t : Nat) (ct : Nat → ClassId) (a1 : Int32) (a2 : Int32) (a3 : Int32) (S : SS) : X7_sheet (t + 64) a1 a2 a3 (HH t ct S) = (TX7_sheet a1 a2 a3 S).map (hwI t ct) := by
  show EQ _ _ _
  unfold X7_sheet TX7_sheet
  refine e_get (HH_vO rfl) ?_
  refine e_call (eqX7_isSheet t ct a1) ?_
  intro v1
  refine e_ite ?_ ?_
  · exact e_ret rfl
  · refine e_call (eqX7_isIn t ct (Int32.toInt64 a2) (-1) 1) ?_
    intro v2
    refine e_ite ?_ ?_
    · exact e_ret rfl
    · refine e_ite ?_ ?_
      · exact eqX7_sheet_J33 t ct a1 a2 a3 S
      · refine e_ite ?_ ?_
        · exact eqX7_sheet_J33 t ct a1 a2 a3 S
        · exact e_ret rfl
def TX7_put (a1 : Int32) (a2 : Int32) (a3 : Int32) (S : SS) : Option (Int32 × SS) := (TX7_isSheet a1).bind fun v1 =>
  (if v1 = 0 then some ((-2), S) else
  (aget 4 (S.2.2.1 98) a1).bind fun v3 =>
  (if v3 = (-1) then some ((-11), S) else
  (aget 4 (S.2.2.1 99) a1).bind fun v5 =>
  (TX7_isIn (Int32.toInt64 a2) 0 (Int32.toInt64 (v5 - 1))).bind fun v6 =>
  (if v6 = 0 then some ((-12), S) else
  (aget 4 (S.2.2.1 98) a1).bind fun v9 =>
  (if v9 = 0 then (if jin ((40 * a1) + a2) 160 then letS (sAI S 100 (Int32.toNatClampNeg ((40 * a1) + a2)) ((Int32.toInt16 a3).toInt32)) fun S11 =>
  some (1, S11) else
  none) else
  (if jin ((40 * a1) + a2) 160 then letS (sAI S 100 (Int32.toNatClampNeg ((40 * a1) + a2)) a3) fun S10 =>
  some (1, S10) else
  none)))))
theorem eqX7_put (t : Nat) (ct : Nat → ClassId) (a1 : Int32) (a2 : Int32) (a3 : Int32) (S : SS) : X7_put (t + 64) a1 a2 a3 (HH t ct S) = (TX7_put a1 a2 a3 S).map (hwI t ct) := by
  show EQ _ _ _
  unfold X7_put TX7_put
  refine e_get (HH_vO rfl) ?_
  refine e_call (eqX7_isSheet t ct a1) ?_
  intro v1
  refine e_ite ?_ ?_
  · exact e_ret rfl
  · refine e_get (HH_gR rfl rfl) ?_
    refine e_bind (HH_aI rfl) ?_
    intro v3
    refine e_ite ?_ ?_
    · exact e_ret rfl
    · refine e_get (HH_gR rfl rfl) ?_
      refine e_bind (HH_aI rfl) ?_
      intro v5
      refine e_call (eqX7_isIn t ct (Int32.toInt64 a2) 0 (Int32.toInt64 (v5 - 1))) ?_
      intro v6
      refine e_ite ?_ ?_
      · exact e_ret rfl
      · refine e_get (HH_gR rfl rfl) ?_
        refine e_get (HH_gR rfl rfl) ?_
        refine e_bind (HH_aI rfl) ?_
        intro v9
        refine e_ite ?_ ?_
        · refine e_wrS (HH_wI rfl) ?_
          intro S11
          exact e_ret rfl
        · refine e_wrS (HH_wI rfl) ?_
          intro S10
          exact e_ret rfl
def TX7_copy_L154 : Nat → Int32 → Int32 → Int32 → Int32 → SS → Option (Int32 × SS)
  | 0, _, _, _, _, _ => none
  | n + 1, l3, l4, l5, l7, S => (if l5 ≤ l7 then some (l5, S) else
  (aget 40 (S.2.2.1 101) l7).bind fun v13 =>
  (if jin (((40 * l3) + l4) + l7) 160 then letS (sAI S 100 (Int32.toNatClampNeg (((40 * l3) + l4) + l7)) v13) fun S14 =>
  TX7_copy_L154 n l3 l4 l5 (l7 + 1) S14 else
  none))
theorem eqX7_copy_L154 (t : Nat) (ct : Nat → ClassId) : ∀ (n : Nat), ∀ (l3 : Int32) (l4 : Int32) (l5 : Int32) (l7 : Int32) (S : SS), EQ (X7_copy_L154 n (t + 64) l3 l4 l5 l7 (HH t ct S)) (TX7_copy_L154 n l3 l4 l5 l7 S) (hwI t ct) := by
  intro n
  induction n with
  | zero => intro l3 l4 l5 l7 S; exact e_none
  | succ n ih =>
    intro l3 l4 l5 l7 S
    unfold X7_copy_L154 TX7_copy_L154
    refine e_ite ?_ ?_
    · exact e_ret rfl
    · refine e_get (HH_gR rfl rfl) ?_
      refine e_get (HH_gR rfl rfl) ?_
      refine e_bind (HH_aI rfl) ?_
      intro v13
      refine e_wrS (HH_wI rfl) ?_
      intro S14
      exact ih l3 l4 l5 (l7 + 1) S14
def TX7_copy_L117 : Nat → Int32 → Int32 → Int32 → Int32 → Int32 → Int32 → SS → Option (Int32 × SS)
  | 0, _, _, _, _, _, _, _ => none
  | n + 1, l1, l2, l3, l4, l5, l7, S => (if l5 ≤ l7 then TX7_copy_L154 fu l3 l4 l5 0 S else
  (aget 160 (S.2.2.1 100) (((40 * l1) + l2) + l7)).bind fun v17 =>
  (if jin l7 40 then letS (sAI S 101 (Int32.toNatClampNeg l7) v17) fun S18 =>
  TX7_copy_L117 n l1 l2 l3 l4 l5 (l7 + 1) S18 else
  none))
theorem eqX7_copy_L117 (t : Nat) (ct : Nat → ClassId) : ∀ (n : Nat), ∀ (l1 : Int32) (l2 : Int32) (l3 : Int32) (l4 : Int32) (l5 : Int32) (l7 : Int32) (S : SS), EQ (X7_copy_L117 n (t + 64) l1 l2 l3 l4 l5 l7 (HH t ct S)) (TX7_copy_L117 n l1 l2 l3 l4 l5 l7 S) (hwI t ct) := by
  intro n
  induction n with
  | zero => intro l1 l2 l3 l4 l5 l7 S; exact e_none
  | succ n ih =>
    intro l1 l2 l3 l4 l5 l7 S
    unfold X7_copy_L117 TX7_copy_L117
    refine e_ite ?_ ?_
    · exact eqX7_copy_L154 t ct fu l3 l4 l5 0 S
    · refine e_get (HH_gR rfl rfl) ?_
      refine e_get (HH_gR rfl rfl) ?_
      refine e_bind (HH_aI rfl) ?_
      intro v17
      refine e_wrS (HH_wI rfl) ?_
      intro S18
      exact ih l1 l2 l3 l4 l5 (l7 + 1) S18
def TX7_copy_J104 (l1 : Int32) (l2 : Int32) (l3 : Int32) (l4 : Int32) (l5 : Int32) (s0 : Int32) (S : SS) : Option (Int32 × SS) := (if s0 = 0 then some ((-12), S) else
  TX7_copy_L117 fu l1 l2 l3 l4 l5 0 S)
theorem eqX7_copy_J104 (t : Nat) (ct : Nat → ClassId) : ∀ (l1 : Int32) (l2 : Int32) (l3 : Int32) (l4 : Int32) (l5 : Int32) (s0 : Int32) (S : SS), EQ (X7_copy_J104 (t + 64) l1 l2 l3 l4 l5 s0 (HH t ct S)) (TX7_copy_J104 l1 l2 l3 l4 l5 s0 S) (hwI t ct) := by
  intro l1 l2 l3 l4 l5 s0 S
  unfold X7_copy_J104 TX7_copy_J104
  refine e_ite ?_ ?_
  · exact e_ret rfl
  · exact eqX7_copy_L117 t ct fu l1 l2 l3 l4 l5 0 S
def TX7_copy (a1 : Int32) (a2 : Int32) (a3 : Int32) (a4 : Int32) (a5 : Int32) (S : SS) : Option (Int32 × SS) := (TX7_isSheet a1).bind fun v1 =>
  (if v1 = 0 then some ((-2), S) else
  (TX7_isSheet a3).bind fun v2 =>
  (if v2 = 0 then some ((-2), S) else
  (aget 4 (S.2.2.1 98) a1).bind fun v4 =>
  (if v4 = (-1) then some ((-11), S) else
  (aget 4 (S.2.2.1 98) a3).bind fun v6 =>
  (if v6 = (-1) then some ((-11), S) else
  (aget 4 (S.2.2.1 98) a1).bind fun v8 =>
  (aget 4 (S.2.2.1 98) a3).bind fun v10 =>
  (if v8 = v10 then (if a5 < 0 then TX7_copy_J104 a1 a2 a3 a4 a5 0 S else
  (if a2 < 0 then TX7_copy_J104 a1 a2 a3 a4 a5 0 S else
  (if a4 < 0 then TX7_copy_J104 a1 a2 a3 a4 a5 0 S else
  (aget 4 (S.2.2.1 99) a1).bind fun v20 =>
  (if (v20 - a2) < a5 then TX7_copy_J104 a1 a2 a3 a4 a5 0 S else
  (aget 4 (S.2.2.1 99) a3).bind fun v22 =>
  (if (v22 - a4) < a5 then TX7_copy_J104 a1 a2 a3 a4 a5 0 S else
  TX7_copy_J104 a1 a2 a3 a4 a5 1 S))))) else
  some ((-13), S))))))
theorem eqX7_copy (t : Nat) (ct : Nat → ClassId) (a1 : Int32) (a2 : Int32) (a3 : Int32) (a4 : Int32) (a5 : Int32) (S : SS) : X7_copy (t + 64) a1 a2 a3 a4 a5 (HH t ct S) = (TX7_copy a1 a2 a3 a4 a5 S).map (hwI t ct) := by
  show EQ _ _ _
  unfold X7_copy TX7_copy
  refine e_get (HH_vO rfl) ?_
  refine e_call (eqX7_isSheet t ct a1) ?_
  intro v1
  refine e_ite ?_ ?_
  · exact e_ret rfl
  · refine e_call (eqX7_isSheet t ct a3) ?_
    intro v2
    refine e_ite ?_ ?_
    · exact e_ret rfl
    · refine e_get (HH_gR rfl rfl) ?_
      refine e_bind (HH_aI rfl) ?_
      intro v4
      refine e_ite ?_ ?_
      · exact e_ret rfl
      · refine e_get (HH_gR rfl rfl) ?_
        refine e_bind (HH_aI rfl) ?_
        intro v6
        refine e_ite ?_ ?_
        · exact e_ret rfl
        · refine e_get (HH_gR rfl rfl) ?_
          refine e_bind (HH_aI rfl) ?_
          intro v8
          refine e_get (HH_gR rfl rfl) ?_
          refine e_bind (HH_aI rfl) ?_
          intro v10
          refine e_ite ?_ ?_
          · refine e_ite ?_ ?_
            · exact eqX7_copy_J104 t ct a1 a2 a3 a4 a5 0 S
            · refine e_ite ?_ ?_
              · exact eqX7_copy_J104 t ct a1 a2 a3 a4 a5 0 S
              · refine e_ite ?_ ?_
                · exact eqX7_copy_J104 t ct a1 a2 a3 a4 a5 0 S
                · refine e_get (HH_gR rfl rfl) ?_
                  refine e_bind (HH_aI rfl) ?_
                  intro v20
                  refine e_ite ?_ ?_
                  · exact eqX7_copy_J104 t ct a1 a2 a3 a4 a5 0 S
                  · refine e_get (HH_gR rfl rfl) ?_
                    refine e_bind (HH_aI rfl) ?_
                    intro v22
                    refine e_ite ?_ ?_
                    · exact eqX7_copy_J104 t ct a1 a2 a3 a4 a5 0 S
                    · exact eqX7_copy_J104 t ct a1 a2 a3 a4 a5 1 S
          · exact e_ret rfl
