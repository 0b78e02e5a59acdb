/-! Each method as a pure term, and the machine's rows. Written by wip/whole/decomp.py. -/
-- X5_append: ('BarSteps$Tape', 'append', '(II)V')
def X5_append (a0 : Nat) (a1 : Int32) (a2 : Int32) (x : Hs) : Option (Hs) := (vO x 4 a0).bind fun _ =>
  (gI x 4 a0 1).bind fun v1 =>
  (if a2 ≤ v1 then some x else
  (gI x 4 a0 1).bind fun v2 =>
  (if 60 ≤ v2 then some x else
  (gR x 4 a0 0).bind fun v3 =>
  (gI x 4 a0 1).bind fun v4 =>
  (wI x v3 v4 a1).bind fun y5 =>
  (gI y5 4 a0 1).bind fun v6 =>
  (pV y5 4 a0 1 (.int (v6 + 1))).bind fun y7 =>
  some y7))
theorem rvX5_append {a0 : Nat} {a1 : Int32} {a2 : Int32} {x : Hs} {r : Hs} (h : X5_append a0 a1 a2 x = some r) : ∃ fs, x.1 a0 = .inr (4, fs) := vO_bind h
theorem okX5_append (G : JG) (x : Hs) (a0 : Nat) (a1 : Int32) (a2 : Int32) : ∀ r, X5_append a0 a1 a2 x = some r → JC G yX5_append cX5_append 3 (none) (jR 1 0 0) 0 0 [.ref a0, .int a1, .int a2] x ((none, r)) := by
  refine jc_of (own := RX5) (E := (fun r : Hs => ((none, r) : JR))) (by decide) rfl rfl (Nat.le_of_ble_eq_true rfl) rfl ?_
  unfold X5_append
  refine j_chk ?_
  refine j_aload_n 1 0 dX5_append_0 rfl rfl rfl ?_
  refine j_gI 4 kf_X5_15 dX5_append_1 rfl ?_
  intro v1
  refine j_iload_n 5 2 dX5_append_4 rfl rfl rfl ?_
  refine j_icmp_ge 37 8 dX5_append_5 (by decide) rfl ?_ ?_
  · exact j_vret dX5_append_37 rfl
  · refine j_aload_n 9 0 dX5_append_8 rfl rfl rfl ?_
    refine j_gI 12 kf_X5_15 dX5_append_9 rfl ?_
    intro v2
    refine j_bipush (v := 60) 14 dX5_append_12 rfl bc_60 ?_
    refine j_icmp_ge 37 17 dX5_append_14 (by decide) rfl ?_ ?_
    · exact j_vret dX5_append_37 rfl
    · refine j_aload_n 18 0 dX5_append_17 rfl rfl rfl ?_
      refine j_gR 21 kf_X5_9 dX5_append_18 rfl ?_
      intro v3
      refine j_aload_n 22 0 dX5_append_21 rfl rfl rfl ?_
      refine j_gI 25 kf_X5_15 dX5_append_22 rfl ?_
      intro v4
      refine j_iload_n 26 1 dX5_append_25 rfl rfl rfl ?_
      refine j_wI 27 dX5_append_26 rfl ?_
      intro y5
      refine j_aload_n 28 0 dX5_append_27 rfl rfl rfl ?_
      refine j_dup 29 dX5_append_28 rfl rfl ?_
      refine j_gI 32 kf_X5_15 dX5_append_29 rfl ?_
      intro v6
      refine j_iconst (v := 1) 33 dX5_append_32 rfl ic_1 ?_
      refine j_iadd 34 dX5_append_33 rfl ?_
      refine j_put 37 kf_X5_15 dX5_append_34 rfl rfl rfl ?_
      intro y7
      exact j_vret dX5_append_37 rfl
-- X5_planAt: ('BarSteps$Tape', 'planAt', '(I)I')
def X5_planAt (a0 : Nat) (a1 : Int32) (x : Hs) : Option (Int32) := (vO x 4 a0).bind fun _ =>
  (if a1 < 0 then some 0 else
  (gI x 4 a0 3).bind fun v1 =>
  (if v1 ≤ a1 then some 0 else
  (gR x 4 a0 2).bind fun v2 =>
  (aI x v2 a1).bind fun v3 =>
  some v3))
theorem rvX5_planAt {a0 : Nat} {a1 : Int32} {x : Hs} {r : Int32} (h : X5_planAt a0 a1 x = some r) : ∃ fs, x.1 a0 = .inr (4, fs) := vO_bind h
theorem okX5_planAt (G : JG) (x : Hs) (a0 : Nat) (a1 : Int32) : ∀ r, X5_planAt a0 a1 x = some r → JC G yX5_planAt cX5_planAt 2 (some .int) (jR 1 0 0) 0 0 [.ref a0, .int a1] x ((some (.int r), x)) := by
  refine jc_of (own := RX5) (E := (fun r : Int32 => ((some (.int r), x) : JR))) (by decide) rfl rfl (Nat.le_of_ble_eq_true rfl) rfl ?_
  unfold X5_planAt
  refine j_chk ?_
  refine j_iload_n 1 1 dX5_planAt_0 rfl rfl rfl ?_
  refine j_if_lt 21 4 dX5_planAt_1 (by decide) rfl ?_ ?_
  · refine j_iconst (v := 0) 22 dX5_planAt_21 rfl ic_0 ?_
    exact j_iret dX5_planAt_22 rfl
  · refine j_iload_n 5 1 dX5_planAt_4 rfl rfl rfl ?_
    refine j_aload_n 6 0 dX5_planAt_5 rfl rfl rfl ?_
    refine j_gI 9 kf_X5_22 dX5_planAt_6 rfl ?_
    intro v1
    refine j_icmp_ge 21 12 dX5_planAt_9 (by decide) rfl ?_ ?_
    · refine j_iconst (v := 0) 22 dX5_planAt_21 rfl ic_0 ?_
      exact j_iret dX5_planAt_22 rfl
    · refine j_aload_n 13 0 dX5_planAt_12 rfl rfl rfl ?_
      refine j_gR 16 kf_X5_19 dX5_planAt_13 rfl ?_
      intro v2
      refine j_iload_n 17 1 dX5_planAt_16 rfl rfl rfl ?_
      refine j_aI 18 dX5_planAt_17 rfl ?_
      intro v3
      refine j_goto 22 dX5_planAt_18 (by decide) ?_
      exact j_iret dX5_planAt_22 rfl
-- X5_numbersOf: ('BarSteps$Tape', 'numbersOf', '(I)I')
def X5_numbersOf (a0 : Int32) : Option (Int32) := (if a0 = 0 then some 4 else
  (if a0 = 1 then some 2 else
  (if a0 = 2 then some 2 else
  (if a0 = 3 then some 1 else
  (if a0 = 4 then some 1 else
  (if a0 = 5 then some 1 else
  (if a0 = 6 then some 3 else
  some 0)))))))
theorem okX5_numbersOf (G : JG) (x : Hs) (a0 : Int32) : ∀ r, X5_numbersOf a0 = some r → JC G yX5_numbersOf cX5_numbersOf 1 (some .int) (jR 1 0 0) 0 0 [.int a0] x ((some (.int r), x)) := by
  refine jc_of (own := RX5) (E := (fun r : Int32 => ((some (.int r), x) : JR))) (by decide) rfl rfl (Nat.le_of_ble_eq_true rfl) rfl ?_
  unfold X5_numbersOf
  refine j_iload_n 1 0 dX5_numbersOf_0 rfl rfl rfl ?_
  refine j_ite (fun h1 => ?_) (fun h1 => ?_)
  · refine j_tinE (w := 0) 44 dX5_numbersOf_1 h1 (by decide) (by decide) rfl (by decide) ?_
    refine j_iconst (v := 4) 45 dX5_numbersOf_44 rfl ic_4 ?_
    exact j_iret dX5_numbersOf_45 rfl
  refine j_ite (fun h2 => ?_) (fun h2 => ?_)
  · refine j_tinE (w := 1) 48 dX5_numbersOf_1 h2 (by decide) (by decide) rfl (by decide) ?_
    refine j_iconst (v := 2) 49 dX5_numbersOf_48 rfl ic_2 ?_
    exact j_iret dX5_numbersOf_49 rfl
  refine j_ite (fun h3 => ?_) (fun h3 => ?_)
  · refine j_tinE (w := 2) 48 dX5_numbersOf_1 h3 (by decide) (by decide) rfl (by decide) ?_
    refine j_iconst (v := 2) 49 dX5_numbersOf_48 rfl ic_2 ?_
    exact j_iret dX5_numbersOf_49 rfl
  refine j_ite (fun h4 => ?_) (fun h4 => ?_)
  · refine j_tinE (w := 3) 50 dX5_numbersOf_1 h4 (by decide) (by decide) rfl (by decide) ?_
    refine j_iconst (v := 1) 51 dX5_numbersOf_50 rfl ic_1 ?_
    exact j_iret dX5_numbersOf_51 rfl
  refine j_ite (fun h5 => ?_) (fun h5 => ?_)
  · refine j_tinE (w := 4) 50 dX5_numbersOf_1 h5 (by decide) (by decide) rfl (by decide) ?_
    refine j_iconst (v := 1) 51 dX5_numbersOf_50 rfl ic_1 ?_
    exact j_iret dX5_numbersOf_51 rfl
  refine j_ite (fun h6 => ?_) (fun h6 => ?_)
  · refine j_tinE (w := 5) 50 dX5_numbersOf_1 h6 (by decide) (by decide) rfl (by decide) ?_
    refine j_iconst (v := 1) 51 dX5_numbersOf_50 rfl ic_1 ?_
    exact j_iret dX5_numbersOf_51 rfl
  refine j_ite (fun h7 => ?_) (fun h7 => ?_)
  · refine j_tinE (w := 6) 46 dX5_numbersOf_1 h7 (by decide) (by decide) rfl (by decide) ?_
    refine j_iconst (v := 3) 47 dX5_numbersOf_46 rfl ic_3 ?_
    exact j_iret dX5_numbersOf_47 rfl
  have h1n := sw_ne h1
  have h2n := sw_ne h2
  have h3n := sw_ne h3
  have h4n := sw_ne h4
  have h5n := sw_ne h5
  have h6n := sw_ne h6
  have h7n := sw_ne h7
  have h1m : (Int32.toInt 0) = 0 := by decide
  have h2m : (Int32.toInt 1) = 1 := by decide
  have h3m : (Int32.toInt 2) = 2 := by decide
  have h4m : (Int32.toInt 3) = 3 := by decide
  have h5m : (Int32.toInt 4) = 4 := by decide
  have h6m : (Int32.toInt 5) = 5 := by decide
  have h7m : (Int32.toInt 6) = 6 := by decide
  refine j_tout 52 dX5_numbersOf_1 (by omega) (by decide) ?_
  refine j_iconst (v := 0) 53 dX5_numbersOf_52 rfl ic_0 ?_
  exact j_iret dX5_numbersOf_53 rfl
-- X5_skipBlanks: ('BarSteps$Tape', 'skipBlanks', '()V')
def X5_skipBlanks_J39 (r0 : Nat → Hs → Option (Hs)) (l0 : Nat) (x : Hs) : Option (Hs) := (gI x 4 l0 4).bind fun v6 =>
  (pV x 4 l0 4 (.int (v6 + 1))).bind fun y7 =>
  r0 l0 y7
theorem okX5_skipBlanks_J39 (G : JG) (r0 : Nat → Hs → Option (Hs)) (hr0 : ∀ (l0 : Nat) (x : Hs), JM G RX5 cX5_skipBlanks 1 (jZ G (none) "skipBlanks" (jR 1 0 0) 0 0) (fun r : Hs => ((none, r) : JR)) 0 [(0, .ref l0)] [] x 0 0 (r0 l0 x)) : ∀ (l0 : Nat) (x : Hs), JM G RX5 cX5_skipBlanks 1 (jZ G (none) "skipBlanks" (jR 1 0 0) 0 0) (fun r : Hs => ((none, r) : JR)) 39 [(0, .ref l0)] [] x 0 0 (X5_skipBlanks_J39 r0 l0 x) := by
  intro l0 x
  unfold X5_skipBlanks_J39
  refine j_aload_n 40 0 dX5_skipBlanks_39 rfl rfl rfl ?_
  refine j_dup 41 dX5_skipBlanks_40 rfl rfl ?_
  refine j_gI 44 kf_X5_25 dX5_skipBlanks_41 rfl ?_
  intro v6
  refine j_iconst (v := 1) 45 dX5_skipBlanks_44 rfl ic_1 ?_
  refine j_iadd 46 dX5_skipBlanks_45 rfl ?_
  refine j_put 49 kf_X5_25 dX5_skipBlanks_46 rfl rfl rfl ?_
  intro y7
  refine j_goto 0 dX5_skipBlanks_49 (by decide) ?_
  exact hr0 l0 y7
def X5_skipBlanks_L0 : Nat → Nat → Hs → Option (Hs)
  | 0, _, _ => none
  | n + 1, l0, x => (gI x 4 l0 4).bind fun v1 =>
  (gI x 4 l0 1).bind fun v2 =>
  (if v2 ≤ v1 then some x else
  (gR x 4 l0 0).bind fun v3 =>
  (gI x 4 l0 4).bind fun v4 =>
  (aI x v3 v4).bind fun v5 =>
  (if v5 = 32 then X5_skipBlanks_J39 (fun l0 x => X5_skipBlanks_L0 n l0 x) l0 x else
  (gR x 4 l0 0).bind fun v8 =>
  (gI x 4 l0 4).bind fun v9 =>
  (aI x v8 v9).bind fun v10 =>
  (if v10 = 10 then X5_skipBlanks_J39 (fun l0 x => X5_skipBlanks_L0 n l0 x) l0 x else
  some x)))
theorem okX5_skipBlanks_L0 (G : JG) : ∀ (n : Nat), ∀ (l0 : Nat) (x : Hs), JM G RX5 cX5_skipBlanks 1 (jZ G (none) "skipBlanks" (jR 1 0 0) 0 0) (fun r : Hs => ((none, r) : JR)) 0 [(0, .ref l0)] [] x 0 0 (X5_skipBlanks_L0 n l0 x) := by
  intro n
  induction n with
  | zero => intro l0 x; exact j_none
  | succ n ih =>
    intro l0 x
    unfold X5_skipBlanks_L0
    refine j_aload_n 1 0 dX5_skipBlanks_0 rfl rfl rfl ?_
    refine j_gI 4 kf_X5_25 dX5_skipBlanks_1 rfl ?_
    intro v1
    refine j_aload_n 5 0 dX5_skipBlanks_4 rfl rfl rfl ?_
    refine j_gI 8 kf_X5_15 dX5_skipBlanks_5 rfl ?_
    intro v2
    refine j_icmp_ge 52 11 dX5_skipBlanks_8 (by decide) rfl ?_ ?_
    · exact j_vret dX5_skipBlanks_52 rfl
    · refine j_aload_n 12 0 dX5_skipBlanks_11 rfl rfl rfl ?_
      refine j_gR 15 kf_X5_9 dX5_skipBlanks_12 rfl ?_
      intro v3
      refine j_aload_n 16 0 dX5_skipBlanks_15 rfl rfl rfl ?_
      refine j_gI 19 kf_X5_25 dX5_skipBlanks_16 rfl ?_
      intro v4
      refine j_aI 20 dX5_skipBlanks_19 rfl ?_
      intro v5
      refine j_bipush (v := 32) 22 dX5_skipBlanks_20 rfl bc_32 ?_
      refine j_icmp_eq 39 25 dX5_skipBlanks_22 (by decide) rfl ?_ ?_
      · exact okX5_skipBlanks_J39 G (fun l0 x => X5_skipBlanks_L0 n l0 x) ih l0 x
      · refine j_aload_n 26 0 dX5_skipBlanks_25 rfl rfl rfl ?_
        refine j_gR 29 kf_X5_9 dX5_skipBlanks_26 rfl ?_
        intro v8
        refine j_aload_n 30 0 dX5_skipBlanks_29 rfl rfl rfl ?_
        refine j_gI 33 kf_X5_25 dX5_skipBlanks_30 rfl ?_
        intro v9
        refine j_aI 34 dX5_skipBlanks_33 rfl ?_
        intro v10
        refine j_bipush (v := 10) 36 dX5_skipBlanks_34 rfl bc_10 ?_
        refine j_icmp_ne 52 39 dX5_skipBlanks_36 (by decide) rfl ?_ ?_
        · exact j_vret dX5_skipBlanks_52 rfl
        · exact okX5_skipBlanks_J39 G (fun l0 x => X5_skipBlanks_L0 n l0 x) ih l0 x
def X5_skipBlanks (a0 : Nat) (x : Hs) : Option (Hs) := (vO x 4 a0).bind fun _ =>
  X5_skipBlanks_L0 fu a0 x
theorem rvX5_skipBlanks {a0 : Nat} {x : Hs} {r : Hs} (h : X5_skipBlanks a0 x = some r) : ∃ fs, x.1 a0 = .inr (4, fs) := vO_bind h
theorem okX5_skipBlanks (G : JG) (x : Hs) (a0 : Nat) : ∀ r, X5_skipBlanks a0 x = some r → JC G yX5_skipBlanks cX5_skipBlanks 1 (none) (jR 1 0 0) 0 0 [.ref a0] x ((none, r)) := by
  refine jc_of (own := RX5) (E := (fun r : Hs => ((none, r) : JR))) (by decide) rfl rfl (Nat.le_of_ble_eq_true rfl) rfl ?_
  unfold X5_skipBlanks
  refine j_chk ?_
  exact okX5_skipBlanks_L0 G fu a0 x
-- X5_lettersHere: ('BarSteps$Tape', 'lettersHere', '()I')
def X5_lettersHere_J41 (x : Hs) (l0 : Nat) (l1 : Int32) : Option (Int32) := (gI x 4 l0 4).bind fun v3 =>
  some (l1 - v3)
theorem okX5_lettersHere_J41 (G : JG) (x : Hs) : ∀ (l0 : Nat) (l1 : Int32), JM G RX5 cX5_lettersHere 2 (jZ G (some .int) "lettersHere" (jR 1 0 0) 0 0) (fun r : Int32 => ((some (.int r), x) : JR)) 41 [(0, .ref l0), (1, .int l1)] [] x 0 0 (X5_lettersHere_J41 x l0 l1) := by
  intro l0 l1
  unfold X5_lettersHere_J41
  refine j_iload_n 42 1 dX5_lettersHere_41 rfl rfl rfl ?_
  refine j_aload_n 43 0 dX5_lettersHere_42 rfl rfl rfl ?_
  refine j_gI 46 kf_X5_25 dX5_lettersHere_43 rfl ?_
  intro v3
  refine j_isub 47 dX5_lettersHere_46 rfl ?_
  exact j_iret dX5_lettersHere_47 rfl
def X5_lettersHere_L5 (x : Hs) : Nat → Nat → Int32 → Option (Int32)
  | 0, _, _ => none
  | n + 1, l0, l1 => (gI x 4 l0 1).bind fun v2 =>
  (if v2 ≤ l1 then X5_lettersHere_J41 x l0 l1 else
  (gR x 4 l0 0).bind fun v4 =>
  (aI x v4 l1).bind fun v5 =>
  (if v5 < 97 then X5_lettersHere_J41 x l0 l1 else
  (gR x 4 l0 0).bind fun v6 =>
  (aI x v6 l1).bind fun v7 =>
  (if 122 < v7 then X5_lettersHere_J41 x l0 l1 else
  X5_lettersHere_L5 x n l0 (l1 + 1))))
theorem okX5_lettersHere_L5 (G : JG) (x : Hs) : ∀ (n : Nat), ∀ (l0 : Nat) (l1 : Int32), JM G RX5 cX5_lettersHere 2 (jZ G (some .int) "lettersHere" (jR 1 0 0) 0 0) (fun r : Int32 => ((some (.int r), x) : JR)) 5 [(0, .ref l0), (1, .int l1)] [] x 0 0 (X5_lettersHere_L5 x n l0 l1) := by
  intro n
  induction n with
  | zero => intro l0 l1; exact j_none
  | succ n ih =>
    intro l0 l1
    unfold X5_lettersHere_L5
    refine j_iload_n 6 1 dX5_lettersHere_5 rfl rfl rfl ?_
    refine j_aload_n 7 0 dX5_lettersHere_6 rfl rfl rfl ?_
    refine j_gI 10 kf_X5_15 dX5_lettersHere_7 rfl ?_
    intro v2
    refine j_icmp_ge 41 13 dX5_lettersHere_10 (by decide) rfl ?_ ?_
    · exact okX5_lettersHere_J41 G x l0 l1
    · refine j_aload_n 14 0 dX5_lettersHere_13 rfl rfl rfl ?_
      refine j_gR 17 kf_X5_9 dX5_lettersHere_14 rfl ?_
      intro v4
      refine j_iload_n 18 1 dX5_lettersHere_17 rfl rfl rfl ?_
      refine j_aI 19 dX5_lettersHere_18 rfl ?_
      intro v5
      refine j_bipush (v := 97) 21 dX5_lettersHere_19 rfl bc_97 ?_
      refine j_icmp_lt 41 24 dX5_lettersHere_21 (by decide) rfl ?_ ?_
      · exact okX5_lettersHere_J41 G x l0 l1
      · refine j_aload_n 25 0 dX5_lettersHere_24 rfl rfl rfl ?_
        refine j_gR 28 kf_X5_9 dX5_lettersHere_25 rfl ?_
        intro v6
        refine j_iload_n 29 1 dX5_lettersHere_28 rfl rfl rfl ?_
        refine j_aI 30 dX5_lettersHere_29 rfl ?_
        intro v7
        refine j_bipush (v := 122) 32 dX5_lettersHere_30 rfl bc_122 ?_
        refine j_icmp_gt 41 35 dX5_lettersHere_32 (by decide) rfl ?_ ?_
        · exact okX5_lettersHere_J41 G x l0 l1
        · refine j_iinc 38 1 [(1, .int (l1 + 1)), (0, .ref l0)] dX5_lettersHere_35 rfl rfl (ii_1 _) (by decide) rfl ?_
          refine j_goto 5 dX5_lettersHere_38 (by decide) ?_
          refine j_sub [1, 0] rfl ?_
          exact ih l0 (l1 + 1)
def X5_lettersHere (a0 : Nat) (x : Hs) : Option (Int32) := (vO x 4 a0).bind fun _ =>
  (gI x 4 a0 4).bind fun v1 =>
  X5_lettersHere_L5 x fu a0 v1
theorem rvX5_lettersHere {a0 : Nat} {x : Hs} {r : Int32} (h : X5_lettersHere a0 x = some r) : ∃ fs, x.1 a0 = .inr (4, fs) := vO_bind h
theorem okX5_lettersHere (G : JG) (x : Hs) (a0 : Nat) : ∀ r, X5_lettersHere a0 x = some r → JC G yX5_lettersHere cX5_lettersHere 2 (some .int) (jR 1 0 0) 0 0 [.ref a0] x ((some (.int r), x)) := by
  refine jc_of (own := RX5) (E := (fun r : Int32 => ((some (.int r), x) : JR))) (by decide) rfl rfl (Nat.le_of_ble_eq_true rfl) rfl ?_
  unfold X5_lettersHere
  refine j_chk ?_
  refine j_aload_n 1 0 dX5_lettersHere_0 rfl rfl rfl ?_
  refine j_gI 4 kf_X5_25 dX5_lettersHere_1 rfl ?_
  intro v1
  refine j_istore_n 5 [(1, .int v1), (0, .ref a0)] dX5_lettersHere_4 rfl rfl (by decide) rfl ?_
  refine j_sub [1, 0] rfl ?_
  exact okX5_lettersHere_L5 G x fu a0 v1
-- X5_planNext: ('BarSteps$Tape', 'planNext', '(I)V')
def X5_planNext (a0 : Nat) (a1 : Int32) (x : Hs) : Option (Hs) := (vO x 4 a0).bind fun _ =>
  (gI x 4 a0 3).bind fun v1 =>
  (if 60 ≤ v1 then some x else
  (gR x 4 a0 2).bind fun v2 =>
  (gI x 4 a0 3).bind fun v3 =>
  (wI x v2 v3 a1).bind fun y4 =>
  (gI y4 4 a0 3).bind fun v5 =>
  (pV y4 4 a0 3 (.int (v5 + 1))).bind fun y6 =>
  some y6)
theorem rvX5_planNext {a0 : Nat} {a1 : Int32} {x : Hs} {r : Hs} (h : X5_planNext a0 a1 x = some r) : ∃ fs, x.1 a0 = .inr (4, fs) := vO_bind h
theorem okX5_planNext (G : JG) (x : Hs) (a0 : Nat) (a1 : Int32) : ∀ r, X5_planNext a0 a1 x = some r → JC G yX5_planNext cX5_planNext 2 (none) (jR 1 0 0) 0 0 [.ref a0, .int a1] x ((none, r)) := by
  refine jc_of (own := RX5) (E := (fun r : Hs => ((none, r) : JR))) (by decide) rfl rfl (Nat.le_of_ble_eq_true rfl) rfl ?_
  unfold X5_planNext
  refine j_chk ?_
  refine j_aload_n 1 0 dX5_planNext_0 rfl rfl rfl ?_
  refine j_gI 4 kf_X5_22 dX5_planNext_1 rfl ?_
  intro v1
  refine j_bipush (v := 60) 6 dX5_planNext_4 rfl bc_60 ?_
  refine j_icmp_ge 29 9 dX5_planNext_6 (by decide) rfl ?_ ?_
  · exact j_vret dX5_planNext_29 rfl
  · refine j_aload_n 10 0 dX5_planNext_9 rfl rfl rfl ?_
    refine j_gR 13 kf_X5_19 dX5_planNext_10 rfl ?_
    intro v2
    refine j_aload_n 14 0 dX5_planNext_13 rfl rfl rfl ?_
    refine j_gI 17 kf_X5_22 dX5_planNext_14 rfl ?_
    intro v3
    refine j_iload_n 18 1 dX5_planNext_17 rfl rfl rfl ?_
    refine j_wI 19 dX5_planNext_18 rfl ?_
    intro y4
    refine j_aload_n 20 0 dX5_planNext_19 rfl rfl rfl ?_
    refine j_dup 21 dX5_planNext_20 rfl rfl ?_
    refine j_gI 24 kf_X5_22 dX5_planNext_21 rfl ?_
    intro v5
    refine j_iconst (v := 1) 25 dX5_planNext_24 rfl ic_1 ?_
    refine j_iadd 26 dX5_planNext_25 rfl ?_
    refine j_put 29 kf_X5_22 dX5_planNext_26 rfl rfl rfl ?_
    intro y6
    exact j_vret dX5_planNext_29 rfl
-- X5_readNumber: ('BarSteps$Tape', 'readNumber', '()Z')
def X5_readNumber_J134 (l0 : Nat) (l3 : Int32) (s0 : Int32) (s1 : Nat) (x : Hs) : Option (Int32 × Hs) := (X5_planNext s1 s0 x).bind fun q6 =>
  (pV q6 4 l0 4 (.int l3)).bind fun y7 =>
  (zb 1).bind fun v8 => some (v8, y7)
theorem okX5_readNumber_J134 (G : JG) : ∀ (l0 : Nat) (l3 : Int32) (s0 : Int32) (s1 : Nat) (x : Hs), JM G RX5 cX5_readNumber 5 (jZ G (some .boolean) "readNumber" (jR 2 0 0) 0 0) (fun r : Int32 × Hs => ((some (.int r.1), r.2) : JR)) 134 [(0, .ref l0), (3, .int l3)] [.int s0, .ref s1] x 0 0 (X5_readNumber_J134 l0 l3 s0 s1 x) := by
  intro l0 l3 s0 s1 x
  unfold X5_readNumber_J134
  refine j_callV_v (ci := 4) (As := [.int s0]) (st := []) 137 (okX5_planNext G x s1 s0) kc_X5_planNext kl_X5_59 ki_X5_planNext kv_X5_planNext kh_X5 (by decide) (fun _ h => rvX5_planNext h) ⟨rfl, rfl, Nat.le_of_ble_eq_true rfl, Nat.le_of_ble_eq_true rfl⟩ (Nat.le_of_ble_eq_true rfl) ⟨Nat.le_of_ble_eq_true rfl, Nat.le_of_ble_eq_true rfl⟩ rfl dX5_readNumber_134 rfl rfl ?_
  intro q6
  refine j_aload_n 138 0 dX5_readNumber_137 rfl rfl rfl ?_
  refine j_iload_n 139 1 dX5_readNumber_138 rfl rfl rfl ?_
  refine j_put 142 kf_X5_25 dX5_readNumber_139 rfl rfl rfl ?_
  intro y7
  refine j_iconst (v := 1) 143 dX5_readNumber_142 rfl ic_1 ?_
  exact j_zret dX5_readNumber_143 (fun _ => rfl)
def X5_readNumber_J107 (l0 : Nat) (l1 : Int32) (l2 : Int32) (l3 : Int32) (l4 : Int32) (x : Hs) : Option (Int32 × Hs) := (if l3 = l2 then (zb 0).bind fun v5 => some (v5, x) else
  (if (l3 - l2) ≤ 3 then (if l1 = 0 then X5_readNumber_J134 l0 l3 l4 l0 x else
  X5_readNumber_J134 l0 l3 (-l4) l0 x) else
  (zb 0).bind fun v9 => some (v9, x)))
theorem okX5_readNumber_J107 (G : JG) : ∀ (l0 : Nat) (l1 : Int32) (l2 : Int32) (l3 : Int32) (l4 : Int32) (x : Hs), JM G RX5 cX5_readNumber 5 (jZ G (some .boolean) "readNumber" (jR 2 0 0) 0 0) (fun r : Int32 × Hs => ((some (.int r.1), r.2) : JR)) 107 [(0, .ref l0), (1, .int l1), (2, .int l2), (3, .int l3), (4, .int l4)] [] x 0 0 (X5_readNumber_J107 l0 l1 l2 l3 l4 x) := by
  intro l0 l1 l2 l3 l4 x
  unfold X5_readNumber_J107
  refine j_iload_n 108 3 dX5_readNumber_107 rfl rfl rfl ?_
  refine j_iload_n 109 2 dX5_readNumber_108 rfl rfl rfl ?_
  refine j_icmp_eq 119 112 dX5_readNumber_109 (by decide) rfl ?_ ?_
  · refine j_iconst (v := 0) 120 dX5_readNumber_119 rfl ic_0 ?_
    exact j_zret dX5_readNumber_120 (fun _ => rfl)
  · refine j_iload_n 113 3 dX5_readNumber_112 rfl rfl rfl ?_
    refine j_iload_n 114 2 dX5_readNumber_113 rfl rfl rfl ?_
    refine j_isub 115 dX5_readNumber_114 rfl ?_
    refine j_iconst (v := 3) 116 dX5_readNumber_115 rfl ic_3 ?_
    refine j_icmp_le 121 119 dX5_readNumber_116 (by decide) rfl ?_ ?_
    · refine j_aload_n 122 0 dX5_readNumber_121 rfl rfl rfl ?_
      refine j_iload_n 123 1 dX5_readNumber_122 rfl rfl rfl ?_
      refine j_if_eq 132 126 dX5_readNumber_123 (by decide) rfl ?_ ?_
      · refine j_iload 134 4 dX5_readNumber_132 rfl rfl ?_
        refine j_sub [0, 3] rfl ?_
        exact okX5_readNumber_J134 G l0 l3 l4 l0 x
      · refine j_iload 128 4 dX5_readNumber_126 rfl rfl ?_
        refine j_ineg 129 dX5_readNumber_128 rfl ?_
        refine j_goto 134 dX5_readNumber_129 (by decide) ?_
        refine j_sub [0, 3] rfl ?_
        exact okX5_readNumber_J134 G l0 l3 (-l4) l0 x
    · refine j_iconst (v := 0) 120 dX5_readNumber_119 rfl ic_0 ?_
      exact j_zret dX5_readNumber_120 (fun _ => rfl)
def X5_readNumber_L54 : Nat → Nat → Int32 → Int32 → Int32 → Int32 → Hs → Option (Int32 × Hs)
  | 0, _, _, _, _, _, _ => none
  | n + 1, l0, l1, l2, l3, l4, x => (gI x 4 l0 1).bind fun v4 =>
  (if v4 ≤ l3 then X5_readNumber_J107 l0 l1 l2 l3 l4 x else
  (gR x 4 l0 0).bind fun v10 =>
  (aI x v10 l3).bind fun v11 =>
  (if v11 < 48 then X5_readNumber_J107 l0 l1 l2 l3 l4 x else
  (gR x 4 l0 0).bind fun v12 =>
  (aI x v12 l3).bind fun v13 =>
  (if 57 < v13 then X5_readNumber_J107 l0 l1 l2 l3 l4 x else
  (gR x 4 l0 0).bind fun v14 =>
  (aI x v14 l3).bind fun v15 =>
  X5_readNumber_L54 n l0 l1 l2 (l3 + 1) (((l4 * 10) + v15) - 48) x)))
theorem okX5_readNumber_L54 (G : JG) : ∀ (n : Nat), ∀ (l0 : Nat) (l1 : Int32) (l2 : Int32) (l3 : Int32) (l4 : Int32) (x : Hs), JM G RX5 cX5_readNumber 5 (jZ G (some .boolean) "readNumber" (jR 2 0 0) 0 0) (fun r : Int32 × Hs => ((some (.int r.1), r.2) : JR)) 54 [(0, .ref l0), (1, .int l1), (2, .int l2), (3, .int l3), (4, .int l4)] [] x 0 0 (X5_readNumber_L54 n l0 l1 l2 l3 l4 x) := by
  intro n
  induction n with
  | zero => intro l0 l1 l2 l3 l4 x; exact j_none
  | succ n ih =>
    intro l0 l1 l2 l3 l4 x
    unfold X5_readNumber_L54
    refine j_iload_n 55 3 dX5_readNumber_54 rfl rfl rfl ?_
    refine j_aload_n 56 0 dX5_readNumber_55 rfl rfl rfl ?_
    refine j_gI 59 kf_X5_15 dX5_readNumber_56 rfl ?_
    intro v4
    refine j_icmp_ge 107 62 dX5_readNumber_59 (by decide) rfl ?_ ?_
    · exact okX5_readNumber_J107 G l0 l1 l2 l3 l4 x
    · refine j_aload_n 63 0 dX5_readNumber_62 rfl rfl rfl ?_
      refine j_gR 66 kf_X5_9 dX5_readNumber_63 rfl ?_
      intro v10
      refine j_iload_n 67 3 dX5_readNumber_66 rfl rfl rfl ?_
      refine j_aI 68 dX5_readNumber_67 rfl ?_
      intro v11
      refine j_bipush (v := 48) 70 dX5_readNumber_68 rfl bc_48 ?_
      refine j_icmp_lt 107 73 dX5_readNumber_70 (by decide) rfl ?_ ?_
      · exact okX5_readNumber_J107 G l0 l1 l2 l3 l4 x
      · refine j_aload_n 74 0 dX5_readNumber_73 rfl rfl rfl ?_
        refine j_gR 77 kf_X5_9 dX5_readNumber_74 rfl ?_
        intro v12
        refine j_iload_n 78 3 dX5_readNumber_77 rfl rfl rfl ?_
        refine j_aI 79 dX5_readNumber_78 rfl ?_
        intro v13
        refine j_bipush (v := 57) 81 dX5_readNumber_79 rfl bc_57 ?_
        refine j_icmp_gt 107 84 dX5_readNumber_81 (by decide) rfl ?_ ?_
        · exact okX5_readNumber_J107 G l0 l1 l2 l3 l4 x
        · refine j_iload 86 4 dX5_readNumber_84 rfl rfl ?_
          refine j_bipush (v := 10) 88 dX5_readNumber_86 rfl bc_10 ?_
          refine j_imul 89 dX5_readNumber_88 rfl ?_
          refine j_aload_n 90 0 dX5_readNumber_89 rfl rfl rfl ?_
          refine j_gR 93 kf_X5_9 dX5_readNumber_90 rfl ?_
          intro v14
          refine j_iload_n 94 3 dX5_readNumber_93 rfl rfl rfl ?_
          refine j_aI 95 dX5_readNumber_94 rfl ?_
          intro v15
          refine j_iadd 96 dX5_readNumber_95 rfl ?_
          refine j_bipush (v := 48) 98 dX5_readNumber_96 rfl bc_48 ?_
          refine j_isub 99 dX5_readNumber_98 rfl ?_
          refine j_istore 101 [(4, .int (((l4 * 10) + v15) - 48)), (0, .ref l0), (1, .int l1), (2, .int l2), (3, .int l3)] dX5_readNumber_99 rfl (by decide) rfl ?_
          refine j_iinc 104 4 [(3, .int (l3 + 1)), (4, .int (((l4 * 10) + v15) - 48)), (0, .ref l0), (1, .int l1), (2, .int l2)] dX5_readNumber_101 rfl rfl (ii_1 _) (by decide) rfl ?_
          refine j_goto 54 dX5_readNumber_104 (by decide) ?_
          refine j_sub [2, 3, 4, 0, 1] rfl ?_
          exact ih l0 l1 l2 (l3 + 1) (((l4 * 10) + v15) - 48) x
def X5_readNumber_J48 (l0 : Nat) (l1 : Int32) (s0 : Int32) (x : Hs) : Option (Int32 × Hs) := X5_readNumber_L54 fu l0 l1 s0 s0 0 x
theorem okX5_readNumber_J48 (G : JG) : ∀ (l0 : Nat) (l1 : Int32) (s0 : Int32) (x : Hs), JM G RX5 cX5_readNumber 5 (jZ G (some .boolean) "readNumber" (jR 2 0 0) 0 0) (fun r : Int32 × Hs => ((some (.int r.1), r.2) : JR)) 48 [(0, .ref l0), (1, .int l1)] [.int s0] x 0 0 (X5_readNumber_J48 l0 l1 s0 x) := by
  intro l0 l1 s0 x
  unfold X5_readNumber_J48
  refine j_istore_n 49 [(2, .int s0), (0, .ref l0), (1, .int l1)] dX5_readNumber_48 rfl rfl (by decide) rfl ?_
  refine j_iload_n 50 0 dX5_readNumber_49 rfl rfl rfl ?_
  refine j_istore_n 51 [(3, .int s0), (2, .int s0), (0, .ref l0), (1, .int l1)] dX5_readNumber_50 rfl rfl (by decide) rfl ?_
  refine j_iconst (v := 0) 52 dX5_readNumber_51 rfl ic_0 ?_
  refine j_istore 54 [(4, .int 0), (3, .int s0), (2, .int s0), (0, .ref l0), (1, .int l1)] dX5_readNumber_52 rfl (by decide) rfl ?_
  refine j_sub [3, 4, 2, 1, 0] rfl ?_
  exact okX5_readNumber_L54 G fu l0 l1 s0 s0 0 x
def X5_readNumber_J30 (l0 : Nat) (s0 : Int32) (x : Hs) : Option (Int32 × Hs) := (if s0 = 0 then (gI x 4 l0 4).bind fun v3 =>
  X5_readNumber_J48 l0 s0 v3 x else
  (gI x 4 l0 4).bind fun v16 =>
  X5_readNumber_J48 l0 s0 (v16 + 1) x)
theorem okX5_readNumber_J30 (G : JG) : ∀ (l0 : Nat) (s0 : Int32) (x : Hs), JM G RX5 cX5_readNumber 5 (jZ G (some .boolean) "readNumber" (jR 2 0 0) 0 0) (fun r : Int32 × Hs => ((some (.int r.1), r.2) : JR)) 30 [(0, .ref l0)] [.int s0] x 0 0 (X5_readNumber_J30 l0 s0 x) := by
  intro l0 s0 x
  unfold X5_readNumber_J30
  refine j_istore_n 31 [(1, .int s0), (0, .ref l0)] dX5_readNumber_30 rfl rfl (by decide) rfl ?_
  refine j_iload_n 32 0 dX5_readNumber_31 rfl rfl rfl ?_
  refine j_if_eq 44 35 dX5_readNumber_32 (by decide) rfl ?_ ?_
  · refine j_aload_n 45 1 dX5_readNumber_44 rfl rfl rfl ?_
    refine j_gI 48 kf_X5_25 dX5_readNumber_45 rfl ?_
    intro v3
    refine j_sub [1, 0] rfl ?_
    exact okX5_readNumber_J48 G l0 s0 v3 x
  · refine j_aload_n 36 1 dX5_readNumber_35 rfl rfl rfl ?_
    refine j_gI 39 kf_X5_25 dX5_readNumber_36 rfl ?_
    intro v16
    refine j_iconst (v := 1) 40 dX5_readNumber_39 rfl ic_1 ?_
    refine j_iadd 41 dX5_readNumber_40 rfl ?_
    refine j_goto 48 dX5_readNumber_41 (by decide) ?_
    refine j_sub [1, 0] rfl ?_
    exact okX5_readNumber_J48 G l0 s0 (v16 + 1) x
def X5_readNumber (a0 : Nat) (x : Hs) : Option (Int32 × Hs) := (vO x 4 a0).bind fun _ =>
  (gI x 4 a0 4).bind fun v1 =>
  (gI x 4 a0 1).bind fun v2 =>
  (if v2 ≤ v1 then X5_readNumber_J30 a0 0 x else
  (gR x 4 a0 0).bind fun v17 =>
  (gI x 4 a0 4).bind fun v18 =>
  (aI x v17 v18).bind fun v19 =>
  (if v19 = 45 then X5_readNumber_J30 a0 1 x else
  X5_readNumber_J30 a0 0 x))
theorem rvX5_readNumber {a0 : Nat} {x : Hs} {r : Int32 × Hs} (h : X5_readNumber a0 x = some r) : ∃ fs, x.1 a0 = .inr (4, fs) := vO_bind h
theorem okX5_readNumber (G : JG) (x : Hs) (a0 : Nat) : ∀ r, X5_readNumber a0 x = some r → JC G yX5_readNumber cX5_readNumber 5 (some .boolean) (jR 2 0 0) 0 0 [.ref a0] x ((some (.int r.1), r.2)) := by
  refine jc_of (own := RX5) (E := (fun r : Int32 × Hs => ((some (.int r.1), r.2) : JR))) (by decide) rfl rfl (Nat.le_of_ble_eq_true rfl) rfl ?_
  unfold X5_readNumber
  refine j_chk ?_
  refine j_aload_n 1 0 dX5_readNumber_0 rfl rfl rfl ?_
  refine j_gI 4 kf_X5_25 dX5_readNumber_1 rfl ?_
  intro v1
  refine j_aload_n 5 0 dX5_readNumber_4 rfl rfl rfl ?_
  refine j_gI 8 kf_X5_15 dX5_readNumber_5 rfl ?_
  intro v2
  refine j_icmp_ge 29 11 dX5_readNumber_8 (by decide) rfl ?_ ?_
  · refine j_iconst (v := 0) 30 dX5_readNumber_29 rfl ic_0 ?_
    exact okX5_readNumber_J30 G a0 0 x
  · refine j_aload_n 12 0 dX5_readNumber_11 rfl rfl rfl ?_
    refine j_gR 15 kf_X5_9 dX5_readNumber_12 rfl ?_
    intro v17
    refine j_aload_n 16 0 dX5_readNumber_15 rfl rfl rfl ?_
    refine j_gI 19 kf_X5_25 dX5_readNumber_16 rfl ?_
    intro v18
    refine j_aI 20 dX5_readNumber_19 rfl ?_
    intro v19
    refine j_bipush (v := 45) 22 dX5_readNumber_20 rfl bc_45 ?_
    refine j_icmp_ne 29 25 dX5_readNumber_22 (by decide) rfl ?_ ?_
    · refine j_iconst (v := 0) 30 dX5_readNumber_29 rfl ic_0 ?_
      exact okX5_readNumber_J30 G a0 0 x
    · refine j_iconst (v := 1) 26 dX5_readNumber_25 rfl ic_1 ?_
      refine j_goto 30 dX5_readNumber_26 (by decide) ?_
      exact okX5_readNumber_J30 G a0 1 x
-- X6_between: ('BarSteps', 'between', '(III)Z')
def X6_between (a0 : Int32) (a1 : Int32) (a2 : Int32) : Option (Int32) := (if a0 < a1 then (zb 0).bind fun v1 => some v1 else
  (if a2 < a0 then (zb 0).bind fun v2 => some v2 else
  (zb 1).bind fun v3 => some v3))
theorem okX6_between (G : JG) (x : Hs) (a0 : Int32) (a1 : Int32) (a2 : Int32) : ∀ r, X6_between a0 a1 a2 = some r → JC G yX6_between cX6_between 3 (some .boolean) (jR 1 0 0) 0 0 [.int a0, .int a1, .int a2] x ((some (.int r), x)) := by
  refine jc_of (own := RX6) (E := (fun r : Int32 => ((some (.int r), x) : JR))) (by decide) rfl rfl (Nat.le_of_ble_eq_true rfl) rfl ?_
  unfold X6_between
  refine j_iload_n 1 0 dX6_between_0 rfl rfl rfl ?_
  refine j_iload_n 2 1 dX6_between_1 rfl rfl rfl ?_
  refine j_icmp_lt 14 5 dX6_between_2 (by decide) rfl ?_ ?_
  · refine j_iconst (v := 0) 15 dX6_between_14 rfl ic_0 ?_
    exact j_zret dX6_between_15 (fun _ => rfl)
  · refine j_iload_n 6 0 dX6_between_5 rfl rfl rfl ?_
    refine j_iload_n 7 2 dX6_between_6 rfl rfl rfl ?_
    refine j_icmp_gt 14 10 dX6_between_7 (by decide) rfl ?_ ?_
    · refine j_iconst (v := 0) 15 dX6_between_14 rfl ic_0 ?_
      exact j_zret dX6_between_15 (fun _ => rfl)
    · refine j_iconst (v := 1) 11 dX6_between_10 rfl ic_1 ?_
      refine j_goto 15 dX6_between_11 (by decide) ?_
      exact j_zret dX6_between_15 (fun _ => rfl)
-- X6_isKind: ('BarSteps', 'isKind', '(I)Z')
def X6_isKind (a0 : Int32) : Option (Int32) := (X6_between a0 0 5).bind fun v1 =>
  (zb v1).bind fun v2 => some v2
theorem okX6_isKind (G : JG) (x : Hs) (a0 : Int32) : ∀ r, X6_isKind a0 = some r → JC G yX6_isKind cX6_isKind 1 (some .boolean) (jR 2 0 0) 0 0 [.int a0] x ((some (.int r), x)) := by
  refine jc_of (own := RX6) (E := (fun r : Int32 => ((some (.int r), x) : JR))) (by decide) rfl rfl (Nat.le_of_ble_eq_true rfl) rfl ?_
  unfold X6_isKind
  refine j_iload_n 1 0 dX6_isKind_0 rfl rfl rfl ?_
  refine j_iconst (v := 0) 2 dX6_isKind_1 rfl ic_0 ?_
  refine j_iconst (v := 5) 3 dX6_isKind_2 rfl ic_5 ?_
  refine j_callS_i (As := [.int a0, .int 0, .int 5]) (st := []) 6 (okX6_between G x a0 0 5) kc_X6_between kl_X6_137 ks_X6_between ⟨rfl, rfl, Nat.le_of_ble_eq_true rfl, Nat.le_of_ble_eq_true rfl⟩ (Nat.le_of_ble_eq_true rfl) ⟨Nat.le_of_ble_eq_true rfl, Nat.le_of_ble_eq_true rfl⟩ rfl dX6_isKind_3 rfl rfl ?_
  intro v1
  exact j_zret dX6_isKind_6 (fun _ => rfl)
-- X6_isK: ('BarSteps', 'isK', '(I)Z')
def X6_isK (a0 : Int32) : Option (Int32) := (X6_between a0 1 9).bind fun v1 =>
  (zb v1).bind fun v2 => some v2
theorem okX6_isK (G : JG) (x : Hs) (a0 : Int32) : ∀ r, X6_isK a0 = some r → JC G yX6_isK cX6_isK 1 (some .boolean) (jR 2 0 0) 0 0 [.int a0] x ((some (.int r), x)) := by
  refine jc_of (own := RX6) (E := (fun r : Int32 => ((some (.int r), x) : JR))) (by decide) rfl rfl (Nat.le_of_ble_eq_true rfl) rfl ?_
  unfold X6_isK
  refine j_iload_n 1 0 dX6_isK_0 rfl rfl rfl ?_
  refine j_iconst (v := 1) 2 dX6_isK_1 rfl ic_1 ?_
  refine j_bipush (v := 9) 4 dX6_isK_2 rfl bc_9 ?_
  refine j_callS_i (As := [.int a0, .int 1, .int 9]) (st := []) 7 (okX6_between G x a0 1 9) kc_X6_between kl_X6_137 ks_X6_between ⟨rfl, rfl, Nat.le_of_ble_eq_true rfl, Nat.le_of_ble_eq_true rfl⟩ (Nat.le_of_ble_eq_true rfl) ⟨Nat.le_of_ble_eq_true rfl, Nat.le_of_ble_eq_true rfl⟩ rfl dX6_isK_4 rfl rfl ?_
  intro v1
  exact j_zret dX6_isK_7 (fun _ => rfl)
-- X6_isC: ('BarSteps', 'isC', '(I)Z')
def X6_isC (a0 : Int32) : Option (Int32) := (X6_between a0 1 4).bind fun v1 =>
  (zb v1).bind fun v2 => some v2
theorem okX6_isC (G : JG) (x : Hs) (a0 : Int32) : ∀ r, X6_isC a0 = some r → JC G yX6_isC cX6_isC 1 (some .boolean) (jR 2 0 0) 0 0 [.int a0] x ((some (.int r), x)) := by
  refine jc_of (own := RX6) (E := (fun r : Int32 => ((some (.int r), x) : JR))) (by decide) rfl rfl (Nat.le_of_ble_eq_true rfl) rfl ?_
  unfold X6_isC
  refine j_iload_n 1 0 dX6_isC_0 rfl rfl rfl ?_
  refine j_iconst (v := 1) 2 dX6_isC_1 rfl ic_1 ?_
  refine j_iconst (v := 4) 3 dX6_isC_2 rfl ic_4 ?_
  refine j_callS_i (As := [.int a0, .int 1, .int 4]) (st := []) 6 (okX6_between G x a0 1 4) kc_X6_between kl_X6_137 ks_X6_between ⟨rfl, rfl, Nat.le_of_ble_eq_true rfl, Nat.le_of_ble_eq_true rfl⟩ (Nat.le_of_ble_eq_true rfl) ⟨Nat.le_of_ble_eq_true rfl, Nat.le_of_ble_eq_true rfl⟩ rfl dX6_isC_3 rfl rfl ?_
  intro v1
  exact j_zret dX6_isC_6 (fun _ => rfl)
-- X6_isHeat: ('BarSteps', 'isHeat', '(I)Z')
def X6_isHeat (a0 : Int32) : Option (Int32) := (X6_between a0 0 999).bind fun v1 =>
  (zb v1).bind fun v2 => some v2
theorem okX6_isHeat (G : JG) (x : Hs) (a0 : Int32) : ∀ r, X6_isHeat a0 = some r → JC G yX6_isHeat cX6_isHeat 1 (some .boolean) (jR 2 0 0) 0 0 [.int a0] x ((some (.int r), x)) := by
  refine jc_of (own := RX6) (E := (fun r : Int32 => ((some (.int r), x) : JR))) (by decide) rfl rfl (Nat.le_of_ble_eq_true rfl) rfl ?_
  unfold X6_isHeat
  refine j_iload_n 1 0 dX6_isHeat_0 rfl rfl rfl ?_
  refine j_iconst (v := 0) 2 dX6_isHeat_1 rfl ic_0 ?_
  refine j_sipush (v := 999) 5 dX6_isHeat_2 rfl sc_999 ?_
  refine j_callS_i (As := [.int a0, .int 0, .int 999]) (st := []) 8 (okX6_between G x a0 0 999) kc_X6_between kl_X6_137 ks_X6_between ⟨rfl, rfl, Nat.le_of_ble_eq_true rfl, Nat.le_of_ble_eq_true rfl⟩ (Nat.le_of_ble_eq_true rfl) ⟨Nat.le_of_ble_eq_true rfl, Nat.le_of_ble_eq_true rfl⟩ rfl dX6_isHeat_5 rfl rfl ?_
  intro v1
  exact j_zret dX6_isHeat_8 (fun _ => rfl)
-- X6_cell: ('BarSteps', 'cell', '(IIII)I')
def X6_cell_J34 (l0 : Nat) (l1 : Int32) (l2 : Int32) (l3 : Int32) (l4 : Int32) (s0 : Int32) (x : Hs) : Option (Int32 × Hs) := (if s0 = 0 then some ((-2), x) else
  (gR x 5 l0 0).bind fun v2 =>
  (X0_append v2 l1 l2 l3 l4 x).bind fun q3 =>
  some (q3.1, q3.2))
theorem okX6_cell_J34 (G : JG) : ∀ (l0 : Nat) (l1 : Int32) (l2 : Int32) (l3 : Int32) (l4 : Int32) (s0 : Int32) (x : Hs), JM G RX6 cX6_cell 6 (jZ G (some .int) "cell" (jR 5 0 0) 0 0) (fun r : Int32 × Hs => ((some (.int r.1), r.2) : JR)) 34 [(0, .ref l0), (1, .int l1), (2, .int l2), (3, .int l3), (4, .int l4)] [.int s0] x 0 0 (X6_cell_J34 l0 l1 l2 l3 l4 s0 x) := by
  intro l0 l1 l2 l3 l4 s0 x
  unfold X6_cell_J34
  refine j_istore 36 [(5, .int s0), (0, .ref l0), (1, .int l1), (2, .int l2), (3, .int l3), (4, .int l4)] dX6_cell_34 rfl (by decide) rfl ?_
  refine j_iload 38 0 dX6_cell_36 rfl rfl ?_
  refine j_if_eq 56 41 dX6_cell_38 (by decide) rfl ?_ ?_
  · refine j_bipush (v := -2) 58 dX6_cell_56 rfl bc_m2 ?_
    exact j_iret dX6_cell_58 rfl
  · refine j_aload_n 42 1 dX6_cell_41 rfl rfl rfl ?_
    refine j_gR 45 kf_X6_12 dX6_cell_42 rfl ?_
    intro v2
    refine j_iload_n 46 2 dX6_cell_45 rfl rfl rfl ?_
    refine j_iload_n 47 3 dX6_cell_46 rfl rfl rfl ?_
    refine j_iload_n 48 4 dX6_cell_47 rfl rfl rfl ?_
    refine j_iload 50 5 dX6_cell_48 rfl rfl ?_
    refine j_callV_iw (ci := 0) (As := [.int l1, .int l2, .int l3, .int l4]) (st := []) 53 (okX0_append G x v2 l1 l2 l3 l4) kc_X0_append kl_X6_66 ki_X0_append kv_X0_append kh_X0 (by decide) (fun _ h => rvX0_append h) ⟨rfl, rfl, Nat.le_of_ble_eq_true rfl, Nat.le_of_ble_eq_true rfl⟩ (Nat.le_of_ble_eq_true rfl) ⟨Nat.le_of_ble_eq_true rfl, Nat.le_of_ble_eq_true rfl⟩ rfl dX6_cell_50 rfl rfl ?_
    intro q3
    refine j_goto 58 dX6_cell_53 (by decide) ?_
    exact j_iret dX6_cell_58 rfl
def X6_cell (a0 : Nat) (a1 : Int32) (a2 : Int32) (a3 : Int32) (a4 : Int32) (x : Hs) : Option (Int32 × Hs) := (vO x 5 a0).bind fun _ =>
  (X6_isKind a1).bind fun v1 =>
  (if v1 = 0 then X6_cell_J34 a0 a1 a2 a3 a4 0 x else
  (X6_isK a2).bind fun v4 =>
  (if v4 = 0 then X6_cell_J34 a0 a1 a2 a3 a4 0 x else
  (X6_isC a3).bind fun v5 =>
  (if v5 = 0 then X6_cell_J34 a0 a1 a2 a3 a4 0 x else
  (X6_isHeat a4).bind fun v6 =>
  (if v6 = 0 then X6_cell_J34 a0 a1 a2 a3 a4 0 x else
  X6_cell_J34 a0 a1 a2 a3 a4 1 x))))
theorem rvX6_cell {a0 : Nat} {a1 : Int32} {a2 : Int32} {a3 : Int32} {a4 : Int32} {x : Hs} {r : Int32 × Hs} (h : X6_cell a0 a1 a2 a3 a4 x = some r) : ∃ fs, x.1 a0 = .inr (5, fs) := vO_bind h
theorem okX6_cell (G : JG) (x : Hs) (a0 : Nat) (a1 : Int32) (a2 : Int32) (a3 : Int32) (a4 : Int32) : ∀ r, X6_cell a0 a1 a2 a3 a4 x = some r → JC G yX6_cell cX6_cell 6 (some .int) (jR 5 0 0) 0 0 [.ref a0, .int a1, .int a2, .int a3, .int a4] x ((some (.int r.1), r.2)) := by
  refine jc_of (own := RX6) (E := (fun r : Int32 × Hs => ((some (.int r.1), r.2) : JR))) (by decide) rfl rfl (Nat.le_of_ble_eq_true rfl) rfl ?_
  unfold X6_cell
  refine j_chk ?_
  refine j_iload_n 1 1 dX6_cell_0 rfl rfl rfl ?_
  refine j_callS_i (As := [.int a1]) (st := []) 4 (okX6_isKind G x a1) kc_X6_isKind kl_X6_53 ks_X6_isKind ⟨rfl, rfl, Nat.le_of_ble_eq_true rfl, Nat.le_of_ble_eq_true rfl⟩ (Nat.le_of_ble_eq_true rfl) ⟨Nat.le_of_ble_eq_true rfl, Nat.le_of_ble_eq_true rfl⟩ rfl dX6_cell_1 rfl rfl ?_
  intro v1
  refine j_if_eq 33 7 dX6_cell_4 (by decide) rfl ?_ ?_
  · refine j_iconst (v := 0) 34 dX6_cell_33 rfl ic_0 ?_
    exact okX6_cell_J34 G a0 a1 a2 a3 a4 0 x
  · refine j_iload_n 8 2 dX6_cell_7 rfl rfl rfl ?_
    refine j_callS_i (As := [.int a2]) (st := []) 11 (okX6_isK G x a2) kc_X6_isK kl_X6_57 ks_X6_isK ⟨rfl, rfl, Nat.le_of_ble_eq_true rfl, Nat.le_of_ble_eq_true rfl⟩ (Nat.le_of_ble_eq_true rfl) ⟨Nat.le_of_ble_eq_true rfl, Nat.le_of_ble_eq_true rfl⟩ rfl dX6_cell_8 rfl rfl ?_
    intro v4
    refine j_if_eq 33 14 dX6_cell_11 (by decide) rfl ?_ ?_
    · refine j_iconst (v := 0) 34 dX6_cell_33 rfl ic_0 ?_
      exact okX6_cell_J34 G a0 a1 a2 a3 a4 0 x
    · refine j_iload_n 15 3 dX6_cell_14 rfl rfl rfl ?_
      refine j_callS_i (As := [.int a3]) (st := []) 18 (okX6_isC G x a3) kc_X6_isC kl_X6_60 ks_X6_isC ⟨rfl, rfl, Nat.le_of_ble_eq_true rfl, Nat.le_of_ble_eq_true rfl⟩ (Nat.le_of_ble_eq_true rfl) ⟨Nat.le_of_ble_eq_true rfl, Nat.le_of_ble_eq_true rfl⟩ rfl dX6_cell_15 rfl rfl ?_
      intro v5
      refine j_if_eq 33 21 dX6_cell_18 (by decide) rfl ?_ ?_
      · refine j_iconst (v := 0) 34 dX6_cell_33 rfl ic_0 ?_
        exact okX6_cell_J34 G a0 a1 a2 a3 a4 0 x
      · refine j_iload 23 4 dX6_cell_21 rfl rfl ?_
        refine j_callS_i (As := [.int a4]) (st := []) 26 (okX6_isHeat G x a4) kc_X6_isHeat kl_X6_63 ks_X6_isHeat ⟨rfl, rfl, Nat.le_of_ble_eq_true rfl, Nat.le_of_ble_eq_true rfl⟩ (Nat.le_of_ble_eq_true rfl) ⟨Nat.le_of_ble_eq_true rfl, Nat.le_of_ble_eq_true rfl⟩ rfl dX6_cell_23 rfl rfl ?_
        intro v6
        refine j_if_eq 33 29 dX6_cell_26 (by decide) rfl ?_ ?_
        · refine j_iconst (v := 0) 34 dX6_cell_33 rfl ic_0 ?_
          exact okX6_cell_J34 G a0 a1 a2 a3 a4 0 x
        · refine j_iconst (v := 1) 30 dX6_cell_29 rfl ic_1 ?_
          refine j_goto 34 dX6_cell_30 (by decide) ?_
          exact okX6_cell_J34 G a0 a1 a2 a3 a4 1 x
-- X6_drop: ('BarSteps', 'drop', '()I')
def X6_drop (a0 : Nat) (x : Hs) : Option (Int32 × Hs) := (vO x 5 a0).bind fun _ =>
  (gR x 5 a0 0).bind fun v1 =>
  (gI x 0 v1 0).bind fun v2 =>
  (if v2 = 0 then some ((-3), x) else
  (gR x 5 a0 0).bind fun v3 =>
  (X0_removeLatest v3 x).bind fun q4 =>
  (gR q4 5 a0 0).bind fun v5 =>
  (gI q4 0 v5 0).bind fun v6 =>
  some (v6, q4))
theorem rvX6_drop {a0 : Nat} {x : Hs} {r : Int32 × Hs} (h : X6_drop a0 x = some r) : ∃ fs, x.1 a0 = .inr (5, fs) := vO_bind h
theorem okX6_drop (G : JG) (x : Hs) (a0 : Nat) : ∀ r, X6_drop a0 x = some r → JC G yX6_drop cX6_drop 1 (some .int) (jR 5 0 0) 0 0 [.ref a0] x ((some (.int r.1), r.2)) := by
  refine jc_of (own := RX6) (E := (fun r : Int32 × Hs => ((some (.int r.1), r.2) : JR))) (by decide) rfl rfl (Nat.le_of_ble_eq_true rfl) rfl ?_
  unfold X6_drop
  refine j_chk ?_
  refine j_aload_n 1 0 dX6_drop_0 rfl rfl rfl ?_
  refine j_gR 4 kf_X6_12 dX6_drop_1 rfl ?_
  intro v1
  refine j_gI 7 kf_X6_70 dX6_drop_4 rfl ?_
  intro v2
  refine j_if_ne 13 10 dX6_drop_7 (by decide) rfl ?_ ?_
  · refine j_aload_n 14 0 dX6_drop_13 rfl rfl rfl ?_
    refine j_gR 17 kf_X6_12 dX6_drop_14 rfl ?_
    intro v3
    refine j_callV_v (ci := 0) (As := []) (st := []) 20 (okX0_removeLatest G x v3) kc_X0_removeLatest kl_X6_74 ki_X0_removeLatest kv_X0_removeLatest kh_X0 (by decide) (fun _ h => rvX0_removeLatest h) ⟨rfl, rfl, Nat.le_of_ble_eq_true rfl, Nat.le_of_ble_eq_true rfl⟩ (Nat.le_of_ble_eq_true rfl) ⟨Nat.le_of_ble_eq_true rfl, Nat.le_of_ble_eq_true rfl⟩ rfl dX6_drop_17 rfl rfl ?_
    intro q4
    refine j_aload_n 21 0 dX6_drop_20 rfl rfl rfl ?_
    refine j_gR 24 kf_X6_12 dX6_drop_21 rfl ?_
    intro v5
    refine j_gI 27 kf_X6_70 dX6_drop_24 rfl ?_
    intro v6
    exact j_iret dX6_drop_27 rfl
  · refine j_bipush (v := -3) 12 dX6_drop_10 rfl bc_m3 ?_
    exact j_iret dX6_drop_12 rfl
-- X6_isSource: ('BarSteps', 'isSource', '(I)Z')
def X6_isSource (a0 : Int32) : Option (Int32) := (X6_between a0 (-9) 9).bind fun v1 =>
  (zb v1).bind fun v2 => some v2
theorem okX6_isSource (G : JG) (x : Hs) (a0 : Int32) : ∀ r, X6_isSource a0 = some r → JC G yX6_isSource cX6_isSource 1 (some .boolean) (jR 2 0 0) 0 0 [.int a0] x ((some (.int r), x)) := by
  refine jc_of (own := RX6) (E := (fun r : Int32 => ((some (.int r), x) : JR))) (by decide) rfl rfl (Nat.le_of_ble_eq_true rfl) rfl ?_
  unfold X6_isSource
  refine j_iload_n 1 0 dX6_isSource_0 rfl rfl rfl ?_
  refine j_bipush (v := -9) 3 dX6_isSource_1 rfl bc_m9 ?_
  refine j_bipush (v := 9) 5 dX6_isSource_3 rfl bc_9 ?_
  refine j_callS_i (As := [.int a0, .int (-9), .int 9]) (st := []) 8 (okX6_between G x a0 (-9) 9) kc_X6_between kl_X6_137 ks_X6_between ⟨rfl, rfl, Nat.le_of_ble_eq_true rfl, Nat.le_of_ble_eq_true rfl⟩ (Nat.le_of_ble_eq_true rfl) ⟨Nat.le_of_ble_eq_true rfl, Nat.le_of_ble_eq_true rfl⟩ rfl dX6_isSource_5 rfl rfl ?_
  intro v1
  exact j_zret dX6_isSource_8 (fun _ => rfl)
-- X6_set: ('BarSteps', 'set', '(III)I')
def X6_set (a0 : Nat) (a1 : Int32) (a2 : Int32) (a3 : Int32) (x : Hs) : Option (Int32 × Hs) := (vO x 5 a0).bind fun _ =>
  (gR x 5 a0 0).bind fun v1 =>
  (X0_has v1 a1 x).bind fun v2 =>
  (if v2 = 0 then some ((-1000), x) else
  (if a2 = 0 then (X6_isK a3).bind fun v3 =>
  (if v3 = 0 then some ((-1000), x) else
  (gR x 5 a0 0).bind fun v4 =>
  (X0_changeK v4 a1 a3 x).bind fun q5 =>
  some (q5.1, q5.2)) else
  (if a2 = 1 then (X6_isC a3).bind fun v7 =>
  (if v7 = 0 then some ((-1000), x) else
  (gR x 5 a0 0).bind fun v8 =>
  (X0_changeC v8 a1 a3 x).bind fun q9 =>
  some (q9.1, q9.2)) else
  (if a2 = 2 then (X6_isKind a3).bind fun v11 =>
  (if v11 = 0 then some ((-1000), x) else
  (gR x 5 a0 0).bind fun v12 =>
  (X0_changeKind v12 a1 a3 x).bind fun q13 =>
  some (q13.1, q13.2)) else
  (if a2 = 3 then (X6_isSource a3).bind fun v15 =>
  (if v15 = 0 then some ((-1000), x) else
  (gR x 5 a0 0).bind fun v16 =>
  (X0_changeSource v16 a1 a3 x).bind fun q17 =>
  some (q17.1, q17.2)) else
  some ((-1000), x))))))
theorem rvX6_set {a0 : Nat} {a1 : Int32} {a2 : Int32} {a3 : Int32} {x : Hs} {r : Int32 × Hs} (h : X6_set a0 a1 a2 a3 x = some r) : ∃ fs, x.1 a0 = .inr (5, fs) := vO_bind h
theorem okX6_set (G : JG) (x : Hs) (a0 : Nat) (a1 : Int32) (a2 : Int32) (a3 : Int32) : ∀ r, X6_set a0 a1 a2 a3 x = some r → JC G yX6_set cX6_set 4 (some .int) (jR 5 0 0) 0 0 [.ref a0, .int a1, .int a2, .int a3] x ((some (.int r.1), r.2)) := by
  refine jc_of (own := RX6) (E := (fun r : Int32 × Hs => ((some (.int r.1), r.2) : JR))) (by decide) rfl rfl (Nat.le_of_ble_eq_true rfl) rfl ?_
  unfold X6_set
  refine j_chk ?_
  refine j_aload_n 1 0 dX6_set_0 rfl rfl rfl ?_
  refine j_gR 4 kf_X6_12 dX6_set_1 rfl ?_
  intro v1
  refine j_iload_n 5 1 dX6_set_4 rfl rfl rfl ?_
  refine j_callV_i (ci := 0) (As := [.int a1]) (st := []) 8 (okX0_has G x v1 a1) kc_X0_has kl_X6_77 ki_X0_has kv_X0_has kh_X0 (by decide) (fun _ h => rvX0_has h) ⟨rfl, rfl, Nat.le_of_ble_eq_true rfl, Nat.le_of_ble_eq_true rfl⟩ (Nat.le_of_ble_eq_true rfl) ⟨Nat.le_of_ble_eq_true rfl, Nat.le_of_ble_eq_true rfl⟩ rfl dX6_set_5 rfl rfl ?_
  intro v2
  refine j_if_ne 15 11 dX6_set_8 (by decide) rfl ?_ ?_
  · refine j_iload_n 16 2 dX6_set_15 rfl rfl rfl ?_
    refine j_ite (fun h6 => ?_) (fun h6 => ?_)
    · refine j_tinE (w := 0) 48 dX6_set_16 h6 (by decide) (by decide) rfl (by decide) ?_
      refine j_iload_n 49 3 dX6_set_48 rfl rfl rfl ?_
      refine j_callS_i (As := [.int a3]) (st := []) 52 (okX6_isK G x a3) kc_X6_isK kl_X6_57 ks_X6_isK ⟨rfl, rfl, Nat.le_of_ble_eq_true rfl, Nat.le_of_ble_eq_true rfl⟩ (Nat.le_of_ble_eq_true rfl) ⟨Nat.le_of_ble_eq_true rfl, Nat.le_of_ble_eq_true rfl⟩ rfl dX6_set_49 rfl rfl ?_
      intro v3
      refine j_if_eq 67 55 dX6_set_52 (by decide) rfl ?_ ?_
      · refine j_sipush (v := -1000) 70 dX6_set_67 rfl sc_m1000 ?_
        exact j_iret dX6_set_70 rfl
      · refine j_aload_n 56 0 dX6_set_55 rfl rfl rfl ?_
        refine j_gR 59 kf_X6_12 dX6_set_56 rfl ?_
        intro v4
        refine j_iload_n 60 1 dX6_set_59 rfl rfl rfl ?_
        refine j_iload_n 61 3 dX6_set_60 rfl rfl rfl ?_
        refine j_callV_iw (ci := 0) (As := [.int a1, .int a3]) (st := []) 64 (okX0_changeK G x v4 a1 a3) kc_X0_changeK kl_X6_80 ki_X0_changeK kv_X0_changeK kh_X0 (by decide) (fun _ h => rvX0_changeK h) ⟨rfl, rfl, Nat.le_of_ble_eq_true rfl, Nat.le_of_ble_eq_true rfl⟩ (Nat.le_of_ble_eq_true rfl) ⟨Nat.le_of_ble_eq_true rfl, Nat.le_of_ble_eq_true rfl⟩ rfl dX6_set_61 rfl rfl ?_
        intro q5
        refine j_goto 70 dX6_set_64 (by decide) ?_
        exact j_iret dX6_set_70 rfl
    refine j_ite (fun h10 => ?_) (fun h10 => ?_)
    · refine j_tinE (w := 1) 71 dX6_set_16 h10 (by decide) (by decide) rfl (by decide) ?_
      refine j_iload_n 72 3 dX6_set_71 rfl rfl rfl ?_
      refine j_callS_i (As := [.int a3]) (st := []) 75 (okX6_isC G x a3) kc_X6_isC kl_X6_60 ks_X6_isC ⟨rfl, rfl, Nat.le_of_ble_eq_true rfl, Nat.le_of_ble_eq_true rfl⟩ (Nat.le_of_ble_eq_true rfl) ⟨Nat.le_of_ble_eq_true rfl, Nat.le_of_ble_eq_true rfl⟩ rfl dX6_set_72 rfl rfl ?_
      intro v7
      refine j_if_eq 90 78 dX6_set_75 (by decide) rfl ?_ ?_
      · refine j_sipush (v := -1000) 93 dX6_set_90 rfl sc_m1000 ?_
        exact j_iret dX6_set_93 rfl
      · refine j_aload_n 79 0 dX6_set_78 rfl rfl rfl ?_
        refine j_gR 82 kf_X6_12 dX6_set_79 rfl ?_
        intro v8
        refine j_iload_n 83 1 dX6_set_82 rfl rfl rfl ?_
        refine j_iload_n 84 3 dX6_set_83 rfl rfl rfl ?_
        refine j_callV_iw (ci := 0) (As := [.int a1, .int a3]) (st := []) 87 (okX0_changeC G x v8 a1 a3) kc_X0_changeC kl_X6_84 ki_X0_changeC kv_X0_changeC kh_X0 (by decide) (fun _ h => rvX0_changeC h) ⟨rfl, rfl, Nat.le_of_ble_eq_true rfl, Nat.le_of_ble_eq_true rfl⟩ (Nat.le_of_ble_eq_true rfl) ⟨Nat.le_of_ble_eq_true rfl, Nat.le_of_ble_eq_true rfl⟩ rfl dX6_set_84 rfl rfl ?_
        intro q9
        refine j_goto 93 dX6_set_87 (by decide) ?_
        exact j_iret dX6_set_93 rfl
    refine j_ite (fun h14 => ?_) (fun h14 => ?_)
    · refine j_tinE (w := 2) 94 dX6_set_16 h14 (by decide) (by decide) rfl (by decide) ?_
      refine j_iload_n 95 3 dX6_set_94 rfl rfl rfl ?_
      refine j_callS_i (As := [.int a3]) (st := []) 98 (okX6_isKind G x a3) kc_X6_isKind kl_X6_53 ks_X6_isKind ⟨rfl, rfl, Nat.le_of_ble_eq_true rfl, Nat.le_of_ble_eq_true rfl⟩ (Nat.le_of_ble_eq_true rfl) ⟨Nat.le_of_ble_eq_true rfl, Nat.le_of_ble_eq_true rfl⟩ rfl dX6_set_95 rfl rfl ?_
      intro v11
      refine j_if_eq 113 101 dX6_set_98 (by decide) rfl ?_ ?_
      · refine j_sipush (v := -1000) 116 dX6_set_113 rfl sc_m1000 ?_
        exact j_iret dX6_set_116 rfl
      · refine j_aload_n 102 0 dX6_set_101 rfl rfl rfl ?_
        refine j_gR 105 kf_X6_12 dX6_set_102 rfl ?_
        intro v12
        refine j_iload_n 106 1 dX6_set_105 rfl rfl rfl ?_
        refine j_iload_n 107 3 dX6_set_106 rfl rfl rfl ?_
        refine j_callV_iw (ci := 0) (As := [.int a1, .int a3]) (st := []) 110 (okX0_changeKind G x v12 a1 a3) kc_X0_changeKind kl_X6_87 ki_X0_changeKind kv_X0_changeKind kh_X0 (by decide) (fun _ h => rvX0_changeKind h) ⟨rfl, rfl, Nat.le_of_ble_eq_true rfl, Nat.le_of_ble_eq_true rfl⟩ (Nat.le_of_ble_eq_true rfl) ⟨Nat.le_of_ble_eq_true rfl, Nat.le_of_ble_eq_true rfl⟩ rfl dX6_set_107 rfl rfl ?_
        intro q13
        refine j_goto 116 dX6_set_110 (by decide) ?_
        exact j_iret dX6_set_116 rfl
    refine j_ite (fun h18 => ?_) (fun h18 => ?_)
    · refine j_tinE (w := 3) 117 dX6_set_16 h18 (by decide) (by decide) rfl (by decide) ?_
      refine j_iload_n 118 3 dX6_set_117 rfl rfl rfl ?_
      refine j_callS_i (As := [.int a3]) (st := []) 121 (okX6_isSource G x a3) kc_X6_isSource kl_X6_90 ks_X6_isSource ⟨rfl, rfl, Nat.le_of_ble_eq_true rfl, Nat.le_of_ble_eq_true rfl⟩ (Nat.le_of_ble_eq_true rfl) ⟨Nat.le_of_ble_eq_true rfl, Nat.le_of_ble_eq_true rfl⟩ rfl dX6_set_118 rfl rfl ?_
      intro v15
      refine j_if_eq 136 124 dX6_set_121 (by decide) rfl ?_ ?_
      · refine j_sipush (v := -1000) 139 dX6_set_136 rfl sc_m1000 ?_
        exact j_iret dX6_set_139 rfl
      · refine j_aload_n 125 0 dX6_set_124 rfl rfl rfl ?_
        refine j_gR 128 kf_X6_12 dX6_set_125 rfl ?_
        intro v16
        refine j_iload_n 129 1 dX6_set_128 rfl rfl rfl ?_
        refine j_iload_n 130 3 dX6_set_129 rfl rfl rfl ?_
        refine j_callV_iw (ci := 0) (As := [.int a1, .int a3]) (st := []) 133 (okX0_changeSource G x v16 a1 a3) kc_X0_changeSource kl_X6_93 ki_X0_changeSource kv_X0_changeSource kh_X0 (by decide) (fun _ h => rvX0_changeSource h) ⟨rfl, rfl, Nat.le_of_ble_eq_true rfl, Nat.le_of_ble_eq_true rfl⟩ (Nat.le_of_ble_eq_true rfl) ⟨Nat.le_of_ble_eq_true rfl, Nat.le_of_ble_eq_true rfl⟩ rfl dX6_set_130 rfl rfl ?_
        intro q17
        refine j_goto 139 dX6_set_133 (by decide) ?_
        exact j_iret dX6_set_139 rfl
    have h6n := sw_ne h6
    have h10n := sw_ne h10
    have h14n := sw_ne h14
    have h18n := sw_ne h18
    have h6m : (Int32.toInt 0) = 0 := by decide
    have h10m : (Int32.toInt 1) = 1 := by decide
    have h14m : (Int32.toInt 2) = 2 := by decide
    have h18m : (Int32.toInt 3) = 3 := by decide
    refine j_tout 140 dX6_set_16 (by omega) (by decide) ?_
    refine j_sipush (v := -1000) 143 dX6_set_140 rfl sc_m1000 ?_
    exact j_iret dX6_set_143 rfl
  · refine j_sipush (v := -1000) 14 dX6_set_11 rfl sc_m1000 ?_
    exact j_iret dX6_set_14 rfl
-- X6_heat: ('BarSteps', 'heat', '(II)I')
def X6_heat (a0 : Nat) (a1 : Int32) (a2 : Int32) (x : Hs) : Option (Int32 × Hs) := (vO x 5 a0).bind fun _ =>
  (gR x 5 a0 0).bind fun v1 =>
  (X0_has v1 a1 x).bind fun v2 =>
  (if v2 = 0 then some ((-2), x) else
  (X6_isHeat a2).bind fun v3 =>
  (if v3 = 0 then some ((-2), x) else
  (gR x 5 a0 0).bind fun v4 =>
  (X0_changeHeat v4 a1 a2 x).bind fun q5 =>
  some (1, q5)))
theorem rvX6_heat {a0 : Nat} {a1 : Int32} {a2 : Int32} {x : Hs} {r : Int32 × Hs} (h : X6_heat a0 a1 a2 x = some r) : ∃ fs, x.1 a0 = .inr (5, fs) := vO_bind h
theorem okX6_heat (G : JG) (x : Hs) (a0 : Nat) (a1 : Int32) (a2 : Int32) : ∀ r, X6_heat a0 a1 a2 x = some r → JC G yX6_heat cX6_heat 3 (some .int) (jR 5 0 0) 0 0 [.ref a0, .int a1, .int a2] x ((some (.int r.1), r.2)) := by
  refine jc_of (own := RX6) (E := (fun r : Int32 × Hs => ((some (.int r.1), r.2) : JR))) (by decide) rfl rfl (Nat.le_of_ble_eq_true rfl) rfl ?_
  unfold X6_heat
  refine j_chk ?_
  refine j_aload_n 1 0 dX6_heat_0 rfl rfl rfl ?_
  refine j_gR 4 kf_X6_12 dX6_heat_1 rfl ?_
  intro v1
  refine j_iload_n 5 1 dX6_heat_4 rfl rfl rfl ?_
  refine j_callV_i (ci := 0) (As := [.int a1]) (st := []) 8 (okX0_has G x v1 a1) kc_X0_has kl_X6_77 ki_X0_has kv_X0_has kh_X0 (by decide) (fun _ h => rvX0_has h) ⟨rfl, rfl, Nat.le_of_ble_eq_true rfl, Nat.le_of_ble_eq_true rfl⟩ (Nat.le_of_ble_eq_true rfl) ⟨Nat.le_of_ble_eq_true rfl, Nat.le_of_ble_eq_true rfl⟩ rfl dX6_heat_5 rfl rfl ?_
  intro v2
  refine j_if_eq 18 11 dX6_heat_8 (by decide) rfl ?_ ?_
  · refine j_bipush (v := -2) 20 dX6_heat_18 rfl bc_m2 ?_
    exact j_iret dX6_heat_20 rfl
  · refine j_iload_n 12 2 dX6_heat_11 rfl rfl rfl ?_
    refine j_callS_i (As := [.int a2]) (st := []) 15 (okX6_isHeat G x a2) kc_X6_isHeat kl_X6_63 ks_X6_isHeat ⟨rfl, rfl, Nat.le_of_ble_eq_true rfl, Nat.le_of_ble_eq_true rfl⟩ (Nat.le_of_ble_eq_true rfl) ⟨Nat.le_of_ble_eq_true rfl, Nat.le_of_ble_eq_true rfl⟩ rfl dX6_heat_12 rfl rfl ?_
    intro v3
    refine j_if_ne 21 18 dX6_heat_15 (by decide) rfl ?_ ?_
    · refine j_aload_n 22 0 dX6_heat_21 rfl rfl rfl ?_
      refine j_gR 25 kf_X6_12 dX6_heat_22 rfl ?_
      intro v4
      refine j_iload_n 26 1 dX6_heat_25 rfl rfl rfl ?_
      refine j_iload_n 27 2 dX6_heat_26 rfl rfl rfl ?_
      refine j_callV_v (ci := 0) (As := [.int a1, .int a2]) (st := []) 30 (okX0_changeHeat G x v4 a1 a2) kc_X0_changeHeat kl_X6_96 ki_X0_changeHeat kv_X0_changeHeat kh_X0 (by decide) (fun _ h => rvX0_changeHeat h) ⟨rfl, rfl, Nat.le_of_ble_eq_true rfl, Nat.le_of_ble_eq_true rfl⟩ (Nat.le_of_ble_eq_true rfl) ⟨Nat.le_of_ble_eq_true rfl, Nat.le_of_ble_eq_true rfl⟩ rfl dX6_heat_27 rfl rfl ?_
      intro q5
      refine j_iconst (v := 1) 31 dX6_heat_30 rfl ic_1 ?_
      exact j_iret dX6_heat_31 rfl
    · refine j_bipush (v := -2) 20 dX6_heat_18 rfl bc_m2 ?_
      exact j_iret dX6_heat_20 rfl
-- X6_of: ('BarSteps', 'of', '(II)I')
def X6_of (a0 : Nat) (a1 : Int32) (a2 : Int32) (x : Hs) : Option (Int32) := (vO x 5 a0).bind fun _ =>
  (gR x 5 a0 0).bind fun v1 =>
  (X0_has v1 a1 x).bind fun v2 =>
  (if v2 = 0 then some (-1000) else
  (if a2 = 0 then (gR x 5 a0 0).bind fun v3 =>
  (gR x 0 v3 1).bind fun v4 =>
  (aI x v4 a1).bind fun v5 =>
  some v5 else
  (if a2 = 1 then (gR x 5 a0 0).bind fun v7 =>
  (gR x 0 v7 2).bind fun v8 =>
  (aI x v8 a1).bind fun v9 =>
  some v9 else
  (if a2 = 2 then (gR x 5 a0 0).bind fun v11 =>
  (gR x 0 v11 3).bind fun v12 =>
  (aI x v12 a1).bind fun v13 =>
  some v13 else
  (if a2 = 3 then (gR x 5 a0 0).bind fun v15 =>
  (gR x 0 v15 4).bind fun v16 =>
  (aI x v16 a1).bind fun v17 =>
  some v17 else
  (if a2 = 4 then (gR x 5 a0 0).bind fun v19 =>
  (gR x 0 v19 5).bind fun v20 =>
  (aI x v20 a1).bind fun v21 =>
  some v21 else
  (if a2 = 5 then (gR x 5 a0 0).bind fun v23 =>
  (gR x 0 v23 6).bind fun v24 =>
  (aI x v24 a1).bind fun v25 =>
  some v25 else
  (if a2 = 6 then (gR x 5 a0 0).bind fun v27 =>
  (gR x 0 v27 7).bind fun v28 =>
  (aI x v28 a1).bind fun v29 =>
  some v29 else
  (if a2 = 7 then (gR x 5 a0 0).bind fun v31 =>
  (gR x 0 v31 1).bind fun v32 =>
  (aI x v32 a1).bind fun v33 =>
  (gR x 5 a0 0).bind fun v34 =>
  (gR x 0 v34 3).bind fun v35 =>
  (aI x v35 a1).bind fun v36 =>
  (X1_madeOf v33 v36).bind fun v37 =>
  some v37 else
  some (-1000))))))))))
theorem rvX6_of {a0 : Nat} {a1 : Int32} {a2 : Int32} {x : Hs} {r : Int32} (h : X6_of a0 a1 a2 x = some r) : ∃ fs, x.1 a0 = .inr (5, fs) := vO_bind h
theorem okX6_of (G : JG) (x : Hs) (a0 : Nat) (a1 : Int32) (a2 : Int32) : ∀ r, X6_of a0 a1 a2 x = some r → JC G yX6_of cX6_of 3 (some .int) (jR 4 0 0) 0 0 [.ref a0, .int a1, .int a2] x ((some (.int r), x)) := by
  refine jc_of (own := RX6) (E := (fun r : Int32 => ((some (.int r), x) : JR))) (by decide) rfl rfl (Nat.le_of_ble_eq_true rfl) rfl ?_
  unfold X6_of
  refine j_chk ?_
  refine j_aload_n 1 0 dX6_of_0 rfl rfl rfl ?_
  refine j_gR 4 kf_X6_12 dX6_of_1 rfl ?_
  intro v1
  refine j_iload_n 5 1 dX6_of_4 rfl rfl rfl ?_
  refine j_callV_i (ci := 0) (As := [.int a1]) (st := []) 8 (okX0_has G x v1 a1) kc_X0_has kl_X6_77 ki_X0_has kv_X0_has kh_X0 (by decide) (fun _ h => rvX0_has h) ⟨rfl, rfl, Nat.le_of_ble_eq_true rfl, Nat.le_of_ble_eq_true rfl⟩ (Nat.le_of_ble_eq_true rfl) ⟨Nat.le_of_ble_eq_true rfl, Nat.le_of_ble_eq_true rfl⟩ rfl dX6_of_5 rfl rfl ?_
  intro v2
  refine j_if_ne 15 11 dX6_of_8 (by decide) rfl ?_ ?_
  · refine j_iload_n 16 2 dX6_of_15 rfl rfl rfl ?_
    refine j_ite (fun h6 => ?_) (fun h6 => ?_)
    · refine j_tinE (w := 0) 64 dX6_of_16 h6 (by decide) (by decide) rfl (by decide) ?_
      refine j_aload_n 65 0 dX6_of_64 rfl rfl rfl ?_
      refine j_gR 68 kf_X6_12 dX6_of_65 rfl ?_
      intro v3
      refine j_gR 71 kf_X6_100 dX6_of_68 rfl ?_
      intro v4
      refine j_iload_n 72 1 dX6_of_71 rfl rfl rfl ?_
      refine j_aI 73 dX6_of_72 rfl ?_
      intro v5
      exact j_iret dX6_of_73 rfl
    refine j_ite (fun h10 => ?_) (fun h10 => ?_)
    · refine j_tinE (w := 1) 74 dX6_of_16 h10 (by decide) (by decide) rfl (by decide) ?_
      refine j_aload_n 75 0 dX6_of_74 rfl rfl rfl ?_
      refine j_gR 78 kf_X6_12 dX6_of_75 rfl ?_
      intro v7
      refine j_gR 81 kf_X6_103 dX6_of_78 rfl ?_
      intro v8
      refine j_iload_n 82 1 dX6_of_81 rfl rfl rfl ?_
      refine j_aI 83 dX6_of_82 rfl ?_
      intro v9
      exact j_iret dX6_of_83 rfl
    refine j_ite (fun h14 => ?_) (fun h14 => ?_)
    · refine j_tinE (w := 2) 84 dX6_of_16 h14 (by decide) (by decide) rfl (by decide) ?_
      refine j_aload_n 85 0 dX6_of_84 rfl rfl rfl ?_
      refine j_gR 88 kf_X6_12 dX6_of_85 rfl ?_
      intro v11
      refine j_gR 91 kf_X6_106 dX6_of_88 rfl ?_
      intro v12
      refine j_iload_n 92 1 dX6_of_91 rfl rfl rfl ?_
      refine j_aI 93 dX6_of_92 rfl ?_
      intro v13
      exact j_iret dX6_of_93 rfl
    refine j_ite (fun h18 => ?_) (fun h18 => ?_)
    · refine j_tinE (w := 3) 94 dX6_of_16 h18 (by decide) (by decide) rfl (by decide) ?_
      refine j_aload_n 95 0 dX6_of_94 rfl rfl rfl ?_
      refine j_gR 98 kf_X6_12 dX6_of_95 rfl ?_
      intro v15
      refine j_gR 101 kf_X6_109 dX6_of_98 rfl ?_
      intro v16
      refine j_iload_n 102 1 dX6_of_101 rfl rfl rfl ?_
      refine j_aI 103 dX6_of_102 rfl ?_
      intro v17
      exact j_iret dX6_of_103 rfl
    refine j_ite (fun h22 => ?_) (fun h22 => ?_)
    · refine j_tinE (w := 4) 104 dX6_of_16 h22 (by decide) (by decide) rfl (by decide) ?_
      refine j_aload_n 105 0 dX6_of_104 rfl rfl rfl ?_
      refine j_gR 108 kf_X6_12 dX6_of_105 rfl ?_
      intro v19
      refine j_gR 111 kf_X6_112 dX6_of_108 rfl ?_
      intro v20
      refine j_iload_n 112 1 dX6_of_111 rfl rfl rfl ?_
      refine j_aI 113 dX6_of_112 rfl ?_
      intro v21
      exact j_iret dX6_of_113 rfl
    refine j_ite (fun h26 => ?_) (fun h26 => ?_)
    · refine j_tinE (w := 5) 114 dX6_of_16 h26 (by decide) (by decide) rfl (by decide) ?_
      refine j_aload_n 115 0 dX6_of_114 rfl rfl rfl ?_
      refine j_gR 118 kf_X6_12 dX6_of_115 rfl ?_
      intro v23
      refine j_gR 121 kf_X6_115 dX6_of_118 rfl ?_
      intro v24
      refine j_iload_n 122 1 dX6_of_121 rfl rfl rfl ?_
      refine j_aI 123 dX6_of_122 rfl ?_
      intro v25
      exact j_iret dX6_of_123 rfl
    refine j_ite (fun h30 => ?_) (fun h30 => ?_)
    · refine j_tinE (w := 6) 124 dX6_of_16 h30 (by decide) (by decide) rfl (by decide) ?_
      refine j_aload_n 125 0 dX6_of_124 rfl rfl rfl ?_
      refine j_gR 128 kf_X6_12 dX6_of_125 rfl ?_
      intro v27
      refine j_gR 131 kf_X6_118 dX6_of_128 rfl ?_
      intro v28
      refine j_iload_n 132 1 dX6_of_131 rfl rfl rfl ?_
      refine j_aI 133 dX6_of_132 rfl ?_
      intro v29
      exact j_iret dX6_of_133 rfl
    refine j_ite (fun h38 => ?_) (fun h38 => ?_)
    · refine j_tinE (w := 7) 134 dX6_of_16 h38 (by decide) (by decide) rfl (by decide) ?_
      refine j_aload_n 135 0 dX6_of_134 rfl rfl rfl ?_
      refine j_gR 138 kf_X6_12 dX6_of_135 rfl ?_
      intro v31
      refine j_gR 141 kf_X6_100 dX6_of_138 rfl ?_
      intro v32
      refine j_iload_n 142 1 dX6_of_141 rfl rfl rfl ?_
      refine j_aI 143 dX6_of_142 rfl ?_
      intro v33
      refine j_aload_n 144 0 dX6_of_143 rfl rfl rfl ?_
      refine j_gR 147 kf_X6_12 dX6_of_144 rfl ?_
      intro v34
      refine j_gR 150 kf_X6_106 dX6_of_147 rfl ?_
      intro v35
      refine j_iload_n 151 1 dX6_of_150 rfl rfl rfl ?_
      refine j_aI 152 dX6_of_151 rfl ?_
      intro v36
      refine j_callS_i (As := [.int v33, .int v36]) (st := []) 155 (okX1_madeOf G x v33 v36) kc_X1_madeOf kl_X6_121 ks_X1_madeOf ⟨rfl, rfl, Nat.le_of_ble_eq_true rfl, Nat.le_of_ble_eq_true rfl⟩ (Nat.le_of_ble_eq_true rfl) ⟨Nat.le_of_ble_eq_true rfl, Nat.le_of_ble_eq_true rfl⟩ rfl dX6_of_152 rfl rfl ?_
      intro v37
      exact j_iret dX6_of_155 rfl
    have h6n := sw_ne h6
    have h10n := sw_ne h10
    have h14n := sw_ne h14
    have h18n := sw_ne h18
    have h22n := sw_ne h22
    have h26n := sw_ne h26
    have h30n := sw_ne h30
    have h38n := sw_ne h38
    have h6m : (Int32.toInt 0) = 0 := by decide
    have h10m : (Int32.toInt 1) = 1 := by decide
    have h14m : (Int32.toInt 2) = 2 := by decide
    have h18m : (Int32.toInt 3) = 3 := by decide
    have h22m : (Int32.toInt 4) = 4 := by decide
    have h26m : (Int32.toInt 5) = 5 := by decide
    have h30m : (Int32.toInt 6) = 6 := by decide
    have h38m : (Int32.toInt 7) = 7 := by decide
    refine j_tout 156 dX6_of_16 (by omega) (by decide) ?_
    refine j_sipush (v := -1000) 159 dX6_of_156 rfl sc_m1000 ?_
    exact j_iret dX6_of_159 rfl
  · refine j_sipush (v := -1000) 14 dX6_of_11 rfl sc_m1000 ?_
    exact j_iret dX6_of_14 rfl
-- X6_taken: ('BarSteps', 'taken', '(II)I')
def X6_taken (a0 : Nat) (a1 : Int32) (a2 : Int32) (x : Hs) : Option (Int32) := (vO x 5 a0).bind fun _ =>
  (gR x 5 a0 0).bind fun v1 =>
  (X0_has v1 a1 x).bind fun v2 =>
  (if v2 = 0 then some (-2) else
  (X6_isKind a2).bind fun v3 =>
  (if v3 = 0 then some (-2) else
  (gR x 5 a0 0).bind fun v4 =>
  (gR x 0 v4 1).bind fun v5 =>
  (aI x v5 a1).bind fun v6 =>
  (X1_isUnder v6 a2).bind fun v7 =>
  (if v7 = 0 then some (-13) else
  (gR x 5 a0 0).bind fun v8 =>
  (gR x 0 v8 2).bind fun v9 =>
  (aI x v9 a1).bind fun v10 =>
  some v10)))
theorem rvX6_taken {a0 : Nat} {a1 : Int32} {a2 : Int32} {x : Hs} {r : Int32} (h : X6_taken a0 a1 a2 x = some r) : ∃ fs, x.1 a0 = .inr (5, fs) := vO_bind h
theorem okX6_taken (G : JG) (x : Hs) (a0 : Nat) (a1 : Int32) (a2 : Int32) : ∀ r, X6_taken a0 a1 a2 x = some r → JC G yX6_taken cX6_taken 3 (some .int) (jR 3 0 0) 0 0 [.ref a0, .int a1, .int a2] x ((some (.int r), x)) := by
  refine jc_of (own := RX6) (E := (fun r : Int32 => ((some (.int r), x) : JR))) (by decide) rfl rfl (Nat.le_of_ble_eq_true rfl) rfl ?_
  unfold X6_taken
  refine j_chk ?_
  refine j_aload_n 1 0 dX6_taken_0 rfl rfl rfl ?_
  refine j_gR 4 kf_X6_12 dX6_taken_1 rfl ?_
  intro v1
  refine j_iload_n 5 1 dX6_taken_4 rfl rfl rfl ?_
  refine j_callV_i (ci := 0) (As := [.int a1]) (st := []) 8 (okX0_has G x v1 a1) kc_X0_has kl_X6_77 ki_X0_has kv_X0_has kh_X0 (by decide) (fun _ h => rvX0_has h) ⟨rfl, rfl, Nat.le_of_ble_eq_true rfl, Nat.le_of_ble_eq_true rfl⟩ (Nat.le_of_ble_eq_true rfl) ⟨Nat.le_of_ble_eq_true rfl, Nat.le_of_ble_eq_true rfl⟩ rfl dX6_taken_5 rfl rfl ?_
  intro v2
  refine j_if_eq 18 11 dX6_taken_8 (by decide) rfl ?_ ?_
  · refine j_bipush (v := -2) 20 dX6_taken_18 rfl bc_m2 ?_
    exact j_iret dX6_taken_20 rfl
  · refine j_iload_n 12 2 dX6_taken_11 rfl rfl rfl ?_
    refine j_callS_i (As := [.int a2]) (st := []) 15 (okX6_isKind G x a2) kc_X6_isKind kl_X6_53 ks_X6_isKind ⟨rfl, rfl, Nat.le_of_ble_eq_true rfl, Nat.le_of_ble_eq_true rfl⟩ (Nat.le_of_ble_eq_true rfl) ⟨Nat.le_of_ble_eq_true rfl, Nat.le_of_ble_eq_true rfl⟩ rfl dX6_taken_12 rfl rfl ?_
    intro v3
    refine j_if_ne 21 18 dX6_taken_15 (by decide) rfl ?_ ?_
    · refine j_aload_n 22 0 dX6_taken_21 rfl rfl rfl ?_
      refine j_gR 25 kf_X6_12 dX6_taken_22 rfl ?_
      intro v4
      refine j_gR 28 kf_X6_100 dX6_taken_25 rfl ?_
      intro v5
      refine j_iload_n 29 1 dX6_taken_28 rfl rfl rfl ?_
      refine j_aI 30 dX6_taken_29 rfl ?_
      intro v6
      refine j_iload_n 31 2 dX6_taken_30 rfl rfl rfl ?_
      refine j_callS_i (As := [.int v6, .int a2]) (st := []) 34 (okX1_isUnder G x v6 a2) kc_X1_isUnder kl_X6_126 ks_X1_isUnder ⟨rfl, rfl, Nat.le_of_ble_eq_true rfl, Nat.le_of_ble_eq_true rfl⟩ (Nat.le_of_ble_eq_true rfl) ⟨Nat.le_of_ble_eq_true rfl, Nat.le_of_ble_eq_true rfl⟩ rfl dX6_taken_31 rfl rfl ?_
      intro v7
      refine j_if_eq 49 37 dX6_taken_34 (by decide) rfl ?_ ?_
      · refine j_bipush (v := -13) 51 dX6_taken_49 rfl bc_m13 ?_
        exact j_iret dX6_taken_51 rfl
      · refine j_aload_n 38 0 dX6_taken_37 rfl rfl rfl ?_
        refine j_gR 41 kf_X6_12 dX6_taken_38 rfl ?_
        intro v8
        refine j_gR 44 kf_X6_103 dX6_taken_41 rfl ?_
        intro v9
        refine j_iload_n 45 1 dX6_taken_44 rfl rfl rfl ?_
        refine j_aI 46 dX6_taken_45 rfl ?_
        intro v10
        refine j_goto 51 dX6_taken_46 (by decide) ?_
        exact j_iret dX6_taken_51 rfl
    · refine j_bipush (v := -2) 20 dX6_taken_18 rfl bc_m2 ?_
      exact j_iret dX6_taken_20 rfl
-- X6_kin: ('BarSteps', 'kin', '(I)I')
def X6_kin (a0 : Nat) (a1 : Int32) (x : Hs) : Option (Int32) := (vO x 5 a0).bind fun _ =>
  (X6_isKind a1).bind fun v1 =>
  (if v1 = 0 then some (-2) else
  (X1_lineOf a1).bind fun v2 =>
  some v2)
theorem rvX6_kin {a0 : Nat} {a1 : Int32} {x : Hs} {r : Int32} (h : X6_kin a0 a1 x = some r) : ∃ fs, x.1 a0 = .inr (5, fs) := vO_bind h
theorem okX6_kin (G : JG) (x : Hs) (a0 : Nat) (a1 : Int32) : ∀ r, X6_kin a0 a1 x = some r → JC G yX6_kin cX6_kin 2 (some .int) (jR 3 0 0) 0 0 [.ref a0, .int a1] x ((some (.int r), x)) := by
  refine jc_of (own := RX6) (E := (fun r : Int32 => ((some (.int r), x) : JR))) (by decide) rfl rfl (Nat.le_of_ble_eq_true rfl) rfl ?_
  unfold X6_kin
  refine j_chk ?_
  refine j_iload_n 1 1 dX6_kin_0 rfl rfl rfl ?_
  refine j_callS_i (As := [.int a1]) (st := []) 4 (okX6_isKind G x a1) kc_X6_isKind kl_X6_53 ks_X6_isKind ⟨rfl, rfl, Nat.le_of_ble_eq_true rfl, Nat.le_of_ble_eq_true rfl⟩ (Nat.le_of_ble_eq_true rfl) ⟨Nat.le_of_ble_eq_true rfl, Nat.le_of_ble_eq_true rfl⟩ rfl dX6_kin_1 rfl rfl ?_
  intro v1
  refine j_if_eq 14 7 dX6_kin_4 (by decide) rfl ?_ ?_
  · refine j_bipush (v := -2) 16 dX6_kin_14 rfl bc_m2 ?_
    exact j_iret dX6_kin_16 rfl
  · refine j_iload_n 8 1 dX6_kin_7 rfl rfl rfl ?_
    refine j_callS_i (As := [.int a1]) (st := []) 11 (okX1_lineOf G x a1) kc_X1_lineOf kl_X6_130 ks_X1_lineOf ⟨rfl, rfl, Nat.le_of_ble_eq_true rfl, Nat.le_of_ble_eq_true rfl⟩ (Nat.le_of_ble_eq_true rfl) ⟨Nat.le_of_ble_eq_true rfl, Nat.le_of_ble_eq_true rfl⟩ rfl dX6_kin_8 rfl rfl ?_
    intro v2
    refine j_goto 16 dX6_kin_11 (by decide) ?_
    exact j_iret dX6_kin_16 rfl
-- X6_isBit: ('BarSteps', 'isBit', '(I)Z')
def X6_isBit (a0 : Int32) : Option (Int32) := (if a0 = 0 then (zb 1).bind fun v1 => some v1 else
  (if a0 = 1 then (zb 1).bind fun v3 => some v3 else
  (zb 0).bind fun v2 => some v2))
theorem okX6_isBit (G : JG) (x : Hs) (a0 : Int32) : ∀ r, X6_isBit a0 = some r → JC G yX6_isBit cX6_isBit 1 (some .boolean) (jR 1 0 0) 0 0 [.int a0] x ((some (.int r), x)) := by
  refine jc_of (own := RX6) (E := (fun r : Int32 => ((some (.int r), x) : JR))) (by decide) rfl rfl (Nat.le_of_ble_eq_true rfl) rfl ?_
  unfold X6_isBit
  refine j_iload_n 1 0 dX6_isBit_0 rfl rfl rfl ?_
  refine j_if_eq 9 4 dX6_isBit_1 (by decide) rfl ?_ ?_
  · refine j_iconst (v := 1) 10 dX6_isBit_9 rfl ic_1 ?_
    refine j_goto 14 dX6_isBit_10 (by decide) ?_
    exact j_zret dX6_isBit_14 (fun _ => rfl)
  · refine j_iload_n 5 0 dX6_isBit_4 rfl rfl rfl ?_
    refine j_iconst (v := 1) 6 dX6_isBit_5 rfl ic_1 ?_
    refine j_icmp_ne 13 9 dX6_isBit_6 (by decide) rfl ?_ ?_
    · refine j_iconst (v := 0) 14 dX6_isBit_13 rfl ic_0 ?_
      exact j_zret dX6_isBit_14 (fun _ => rfl)
    · refine j_iconst (v := 1) 10 dX6_isBit_9 rfl ic_1 ?_
      refine j_goto 14 dX6_isBit_10 (by decide) ?_
      exact j_zret dX6_isBit_14 (fun _ => rfl)
-- X6_end: ('BarSteps', 'end', '(II)I')
def X6_end (a0 : Nat) (a1 : Int32) (a2 : Int32) (x : Hs) : Option (Int32 × Hs) := (vO x 5 a0).bind fun _ =>
  (X6_isBit a1).bind fun v1 =>
  (if v1 = 0 then some ((-1000), x) else
  (X6_between a2 (-1) 999).bind fun v2 =>
  (if v2 = 0 then some ((-1000), x) else
  (gR x 5 a0 0).bind fun v3 =>
  (gR x 0 v3 10).bind fun v4 =>
  (aI x v4 a1).bind fun v5 =>
  (gR x 5 a0 0).bind fun v6 =>
  (gR x 0 v6 10).bind fun v7 =>
  (wI x v7 a1 a2).bind fun y8 =>
  some (v5, y8)))
theorem rvX6_end {a0 : Nat} {a1 : Int32} {a2 : Int32} {x : Hs} {r : Int32 × Hs} (h : X6_end a0 a1 a2 x = some r) : ∃ fs, x.1 a0 = .inr (5, fs) := vO_bind h
theorem okX6_end (G : JG) (x : Hs) (a0 : Nat) (a1 : Int32) (a2 : Int32) : ∀ r, X6_end a0 a1 a2 x = some r → JC G yX6_end cX6_end 4 (some .int) (jR 2 0 0) 0 0 [.ref a0, .int a1, .int a2] x ((some (.int r.1), r.2)) := by
  refine jc_of (own := RX6) (E := (fun r : Int32 × Hs => ((some (.int r.1), r.2) : JR))) (by decide) rfl rfl (Nat.le_of_ble_eq_true rfl) rfl ?_
  unfold X6_end
  refine j_chk ?_
  refine j_iload_n 1 1 dX6_end_0 rfl rfl rfl ?_
  refine j_callS_i (As := [.int a1]) (st := []) 4 (okX6_isBit G x a1) kc_X6_isBit kl_X6_134 ks_X6_isBit ⟨rfl, rfl, Nat.le_of_ble_eq_true rfl, Nat.le_of_ble_eq_true rfl⟩ (Nat.le_of_ble_eq_true rfl) ⟨Nat.le_of_ble_eq_true rfl, Nat.le_of_ble_eq_true rfl⟩ rfl dX6_end_1 rfl rfl ?_
  intro v1
  refine j_if_eq 18 7 dX6_end_4 (by decide) rfl ?_ ?_
  · refine j_sipush (v := -1000) 21 dX6_end_18 rfl sc_m1000 ?_
    exact j_iret dX6_end_21 rfl
  · refine j_iload_n 8 2 dX6_end_7 rfl rfl rfl ?_
    refine j_iconst (v := -1) 9 dX6_end_8 rfl ic_m1 ?_
    refine j_sipush (v := 999) 12 dX6_end_9 rfl sc_999 ?_
    refine j_callS_i (As := [.int a2, .int (-1), .int 999]) (st := []) 15 (okX6_between G x a2 (-1) 999) kc_X6_between kl_X6_137 ks_X6_between ⟨rfl, rfl, Nat.le_of_ble_eq_true rfl, Nat.le_of_ble_eq_true rfl⟩ (Nat.le_of_ble_eq_true rfl) ⟨Nat.le_of_ble_eq_true rfl, Nat.le_of_ble_eq_true rfl⟩ rfl dX6_end_12 rfl rfl ?_
    intro v2
    refine j_if_ne 22 18 dX6_end_15 (by decide) rfl ?_ ?_
    · refine j_aload_n 23 0 dX6_end_22 rfl rfl rfl ?_
      refine j_gR 26 kf_X6_12 dX6_end_23 rfl ?_
      intro v3
      refine j_gR 29 kf_X6_141 dX6_end_26 rfl ?_
      intro v4
      refine j_iload_n 30 1 dX6_end_29 rfl rfl rfl ?_
      refine j_aI 31 dX6_end_30 rfl ?_
      intro v5
      refine j_istore_n 32 [(3, .int v5), (0, .ref a0), (1, .int a1), (2, .int a2)] dX6_end_31 rfl rfl (by decide) rfl ?_
      refine j_aload_n 33 1 dX6_end_32 rfl rfl rfl ?_
      refine j_gR 36 kf_X6_12 dX6_end_33 rfl ?_
      intro v6
      refine j_gR 39 kf_X6_141 dX6_end_36 rfl ?_
      intro v7
      refine j_iload_n 40 2 dX6_end_39 rfl rfl rfl ?_
      refine j_iload_n 41 3 dX6_end_40 rfl rfl rfl ?_
      refine j_wI 42 dX6_end_41 rfl ?_
      intro y8
      refine j_iload_n 43 0 dX6_end_42 rfl rfl rfl ?_
      exact j_iret dX6_end_43 rfl
    · refine j_sipush (v := -1000) 21 dX6_end_18 rfl sc_m1000 ?_
      exact j_iret dX6_end_21 rfl
-- X6_rule: ('BarSteps', 'rule', '(II)I')
def X6_rule_J37 (l0 : Nat) (l1 : Int32) (l2 : Int32) (l3 : Int32) (x : Hs) : Option (Int32 × Hs) := (if l1 = 1 then (X6_isHeat l2).bind fun v1 =>
  (if v1 = 0 then some (l3, x) else
  (gR x 5 l0 0).bind fun v2 =>
  (gI x 0 v2 12).bind fun v3 =>
  (gR x 5 l0 0).bind fun v4 =>
  (pV x 0 v4 12 (.int l2)).bind fun y5 =>
  some (v3, y5)) else
  some (l3, x))
theorem okX6_rule_J37 (G : JG) : ∀ (l0 : Nat) (l1 : Int32) (l2 : Int32) (l3 : Int32) (x : Hs), JM G RX6 cX6_rule 4 (jZ G (some .int) "rule" (jR 3 0 0) 0 0) (fun r : Int32 × Hs => ((some (.int r.1), r.2) : JR)) 37 [(0, .ref l0), (1, .int l1), (2, .int l2), (3, .int l3)] [] x 0 0 (X6_rule_J37 l0 l1 l2 l3 x) := by
  intro l0 l1 l2 l3 x
  unfold X6_rule_J37
  refine j_iload_n 38 1 dX6_rule_37 rfl rfl rfl ?_
  refine j_iconst (v := 1) 39 dX6_rule_38 rfl ic_1 ?_
  refine j_icmp_ne 65 42 dX6_rule_39 (by decide) rfl ?_ ?_
  · refine j_iload_n 66 3 dX6_rule_65 rfl rfl rfl ?_
    exact j_iret dX6_rule_66 rfl
  · refine j_iload_n 43 2 dX6_rule_42 rfl rfl rfl ?_
    refine j_callS_i (As := [.int l2]) (st := []) 46 (okX6_isHeat G x l2) kc_X6_isHeat kl_X6_63 ks_X6_isHeat ⟨rfl, rfl, Nat.le_of_ble_eq_true rfl, Nat.le_of_ble_eq_true rfl⟩ (Nat.le_of_ble_eq_true rfl) ⟨Nat.le_of_ble_eq_true rfl, Nat.le_of_ble_eq_true rfl⟩ rfl dX6_rule_43 rfl rfl ?_
    intro v1
    refine j_if_eq 65 49 dX6_rule_46 (by decide) rfl ?_ ?_
    · refine j_iload_n 66 3 dX6_rule_65 rfl rfl rfl ?_
      exact j_iret dX6_rule_66 rfl
    · refine j_aload_n 50 0 dX6_rule_49 rfl rfl rfl ?_
      refine j_gR 53 kf_X6_12 dX6_rule_50 rfl ?_
      intro v2
      refine j_gI 56 kf_X6_147 dX6_rule_53 rfl ?_
      intro v3
      refine j_istore_n 57 [(3, .int v3), (0, .ref l0), (1, .int l1), (2, .int l2)] dX6_rule_56 rfl rfl (by decide) rfl ?_
      refine j_aload_n 58 1 dX6_rule_57 rfl rfl rfl ?_
      refine j_gR 61 kf_X6_12 dX6_rule_58 rfl ?_
      intro v4
      refine j_iload_n 62 3 dX6_rule_61 rfl rfl rfl ?_
      refine j_put 65 kf_X6_147 dX6_rule_62 rfl rfl rfl ?_
      intro y5
      refine j_iload_n 66 0 dX6_rule_65 rfl rfl rfl ?_
      exact j_iret dX6_rule_66 rfl
def X6_rule (a0 : Nat) (a1 : Int32) (a2 : Int32) (x : Hs) : Option (Int32 × Hs) := (vO x 5 a0).bind fun _ =>
  (if a1 = 0 then (X6_between a2 1 20).bind fun v6 =>
  (if v6 = 0 then X6_rule_J37 a0 a1 a2 (-1000) x else
  (gR x 5 a0 0).bind fun v7 =>
  (gI x 0 v7 11).bind fun v8 =>
  (gR x 5 a0 0).bind fun v9 =>
  (pV x 0 v9 11 (.int a2)).bind fun y10 =>
  some (v8, y10)) else
  X6_rule_J37 a0 a1 a2 (-1000) x)
theorem rvX6_rule {a0 : Nat} {a1 : Int32} {a2 : Int32} {x : Hs} {r : Int32 × Hs} (h : X6_rule a0 a1 a2 x = some r) : ∃ fs, x.1 a0 = .inr (5, fs) := vO_bind h
theorem okX6_rule (G : JG) (x : Hs) (a0 : Nat) (a1 : Int32) (a2 : Int32) : ∀ r, X6_rule a0 a1 a2 x = some r → JC G yX6_rule cX6_rule 4 (some .int) (jR 3 0 0) 0 0 [.ref a0, .int a1, .int a2] x ((some (.int r.1), r.2)) := by
  refine jc_of (own := RX6) (E := (fun r : Int32 × Hs => ((some (.int r.1), r.2) : JR))) (by decide) rfl rfl (Nat.le_of_ble_eq_true rfl) rfl ?_
  unfold X6_rule
  refine j_chk ?_
  refine j_sipush (v := -1000) 3 dX6_rule_0 rfl sc_m1000 ?_
  refine j_istore_n 4 [(3, .int (-1000)), (0, .ref a0), (1, .int a1), (2, .int a2)] dX6_rule_3 rfl rfl (by decide) rfl ?_
  refine j_iload_n 5 2 dX6_rule_4 rfl rfl rfl ?_
  refine j_if_ne 37 8 dX6_rule_5 (by decide) rfl ?_ ?_
  · refine j_sub [1, 2, 3, 0] rfl ?_
    exact okX6_rule_J37 G a0 a1 a2 (-1000) x
  · refine j_iload_n 9 3 dX6_rule_8 rfl rfl rfl ?_
    refine j_iconst (v := 1) 10 dX6_rule_9 rfl ic_1 ?_
    refine j_bipush (v := 20) 12 dX6_rule_10 rfl bc_20 ?_
    refine j_callS_i (As := [.int a2, .int 1, .int 20]) (st := []) 15 (okX6_between G x a2 1 20) kc_X6_between kl_X6_137 ks_X6_between ⟨rfl, rfl, Nat.le_of_ble_eq_true rfl, Nat.le_of_ble_eq_true rfl⟩ (Nat.le_of_ble_eq_true rfl) ⟨Nat.le_of_ble_eq_true rfl, Nat.le_of_ble_eq_true rfl⟩ rfl dX6_rule_12 rfl rfl ?_
    intro v6
    refine j_if_eq 37 18 dX6_rule_15 (by decide) rfl ?_ ?_
    · refine j_sub [1, 2, 3, 0] rfl ?_
      exact okX6_rule_J37 G a0 a1 a2 (-1000) x
    · refine j_aload_n 19 1 dX6_rule_18 rfl rfl rfl ?_
      refine j_gR 22 kf_X6_12 dX6_rule_19 rfl ?_
      intro v7
      refine j_gI 25 kf_X6_144 dX6_rule_22 rfl ?_
      intro v8
      refine j_istore_n 26 [(3, .int v8), (0, .ref a0), (1, .int a1), (2, .int a2)] dX6_rule_25 rfl rfl (by decide) rfl ?_
      refine j_aload_n 27 1 dX6_rule_26 rfl rfl rfl ?_
      refine j_gR 30 kf_X6_12 dX6_rule_27 rfl ?_
      intro v9
      refine j_iload_n 31 3 dX6_rule_30 rfl rfl rfl ?_
      refine j_put 34 kf_X6_144 dX6_rule_31 rfl rfl rfl ?_
      intro y10
      refine j_goto 65 dX6_rule_34 (by decide) ?_
      refine j_iload_n 66 0 dX6_rule_65 rfl rfl rfl ?_
      exact j_iret dX6_rule_66 rfl
-- X6_partOf: ('BarSteps', 'partOf', '(JJI)J')
def X6_partOf_J10 (l0 : Int64) (l2 : Int64) (s0 : Int64) : Option (Int64) := (X6_commonDivisor l0 l2).bind fun v1 =>
  (X6_quotient s0 v1).bind fun v2 =>
  some v2
theorem okX6_partOf_J10 (G : JG) (x : Hs) : ∀ (l0 : Int64) (l2 : Int64) (s0 : Int64), JM G RX6 cX6_partOf 5 (jZ G (some .long) "partOf" (jR 3 0 0) 0 0) (fun r : Int64 => ((some (.long r), x) : JR)) 10 [(0, .long l0), (2, .long l2)] [.long s0] x 0 0 (X6_partOf_J10 l0 l2 s0) := by
  intro l0 l2 s0
  unfold X6_partOf_J10
  refine j_lload_n 11 0 dX6_partOf_10 rfl rfl rfl ?_
  refine j_lload_n 12 1 dX6_partOf_11 rfl rfl rfl ?_
  refine j_callS_l (As := [.long l0, .long l2]) (st := [.long s0]) 15 (okX6_commonDivisor G x l0 l2) kc_X6_commonDivisor kl_X6_375 ks_X6_commonDivisor ⟨rfl, rfl, Nat.le_of_ble_eq_true rfl, Nat.le_of_ble_eq_true rfl⟩ (Nat.le_of_ble_eq_true rfl) ⟨Nat.le_of_ble_eq_true rfl, Nat.le_of_ble_eq_true rfl⟩ rfl dX6_partOf_12 rfl rfl ?_
  intro v1
  refine j_callS_l (As := [.long s0, .long v1]) (st := []) 18 (okX6_quotient G x s0 v1) kc_X6_quotient kl_X6_177 ks_X6_quotient ⟨rfl, rfl, Nat.le_of_ble_eq_true rfl, Nat.le_of_ble_eq_true rfl⟩ (Nat.le_of_ble_eq_true rfl) ⟨Nat.le_of_ble_eq_true rfl, Nat.le_of_ble_eq_true rfl⟩ rfl dX6_partOf_15 rfl rfl ?_
  intro v2
  exact j_lret dX6_partOf_18 rfl
def X6_partOf (a0 : Int64) (a1 : Int64) (a2 : Int32) : Option (Int64) := (if a2 = 0 then X6_partOf_J10 a0 a1 a0 else
  X6_partOf_J10 a0 a1 a1)
theorem okX6_partOf (G : JG) (x : Hs) (a0 : Int64) (a1 : Int64) (a2 : Int32) : ∀ r, X6_partOf a0 a1 a2 = some r → JC G yX6_partOf cX6_partOf 5 (some .long) (jR 3 0 0) 0 0 [.long a0, .long a1, .int a2] x ((some (.long r), x)) := by
  refine jc_of (own := RX6) (E := (fun r : Int64 => ((some (.long r), x) : JR))) (by decide) rfl rfl (Nat.le_of_ble_eq_true rfl) rfl ?_
  unfold X6_partOf
  refine j_iload 2 2 dX6_partOf_0 rfl rfl ?_
  refine j_if_ne 9 5 dX6_partOf_2 (by decide) rfl ?_ ?_
  · refine j_lload_n 10 1 dX6_partOf_9 rfl rfl rfl ?_
    refine j_sub [0, 1] rfl ?_
    exact okX6_partOf_J10 G x a0 a1 a1
  · refine j_lload_n 6 0 dX6_partOf_5 rfl rfl rfl ?_
    refine j_goto 10 dX6_partOf_6 (by decide) ?_
    refine j_sub [0, 1] rfl ?_
    exact okX6_partOf_J10 G x a0 a1 a0
-- X6_t: ('BarSteps', 't', '(II)J')
def X6_t (a0 : Nat) (a1 : Int32) (a2 : Int32) (x : Hs) : Option (Int64) := (vO x 5 a0).bind fun _ =>
  (gR x 5 a0 0).bind fun v1 =>
  (X0_has v1 a1 x).bind fun v2 =>
  (if v2 = 0 then some (-9223372036854775808) else
  (X6_isBit a2).bind fun v3 =>
  (if v3 = 0 then some (-9223372036854775808) else
  (gR x 5 a0 0).bind fun v4 =>
  (gR x 0 v4 8).bind fun v5 =>
  (aL x v5 a1).bind fun v6 =>
  (gR x 5 a0 0).bind fun v7 =>
  (gL x 0 v7 9).bind fun v8 =>
  (X6_partOf v6 v8 a2).bind fun v9 =>
  some v9))
theorem rvX6_t {a0 : Nat} {a1 : Int32} {a2 : Int32} {x : Hs} {r : Int64} (h : X6_t a0 a1 a2 x = some r) : ∃ fs, x.1 a0 = .inr (5, fs) := vO_bind h
theorem okX6_t (G : JG) (x : Hs) (a0 : Nat) (a1 : Int32) (a2 : Int32) : ∀ r, X6_t a0 a1 a2 x = some r → JC G yX6_t cX6_t 3 (some .long) (jR 4 0 0) 0 0 [.ref a0, .int a1, .int a2] x ((some (.long r), x)) := by
  refine jc_of (own := RX6) (E := (fun r : Int64 => ((some (.long r), x) : JR))) (by decide) rfl rfl (Nat.le_of_ble_eq_true rfl) rfl ?_
  unfold X6_t
  refine j_chk ?_
  refine j_aload_n 1 0 dX6_t_0 rfl rfl rfl ?_
  refine j_gR 4 kf_X6_12 dX6_t_1 rfl ?_
  intro v1
  refine j_iload_n 5 1 dX6_t_4 rfl rfl rfl ?_
  refine j_callV_i (ci := 0) (As := [.int a1]) (st := []) 8 (okX0_has G x v1 a1) kc_X0_has kl_X6_77 ki_X0_has kv_X0_has kh_X0 (by decide) (fun _ h => rvX0_has h) ⟨rfl, rfl, Nat.le_of_ble_eq_true rfl, Nat.le_of_ble_eq_true rfl⟩ (Nat.le_of_ble_eq_true rfl) ⟨Nat.le_of_ble_eq_true rfl, Nat.le_of_ble_eq_true rfl⟩ rfl dX6_t_5 rfl rfl ?_
  intro v2
  refine j_if_eq 18 11 dX6_t_8 (by decide) rfl ?_ ?_
  · refine j_ldc2 21 kk_X6_150 dX6_t_18 rfl ?_
    exact j_lret dX6_t_21 rfl
  · refine j_iload_n 12 2 dX6_t_11 rfl rfl rfl ?_
    refine j_callS_i (As := [.int a2]) (st := []) 15 (okX6_isBit G x a2) kc_X6_isBit kl_X6_134 ks_X6_isBit ⟨rfl, rfl, Nat.le_of_ble_eq_true rfl, Nat.le_of_ble_eq_true rfl⟩ (Nat.le_of_ble_eq_true rfl) ⟨Nat.le_of_ble_eq_true rfl, Nat.le_of_ble_eq_true rfl⟩ rfl dX6_t_12 rfl rfl ?_
    intro v3
    refine j_if_ne 22 18 dX6_t_15 (by decide) rfl ?_ ?_
    · refine j_aload_n 23 0 dX6_t_22 rfl rfl rfl ?_
      refine j_gR 26 kf_X6_12 dX6_t_23 rfl ?_
      intro v4
      refine j_gR 29 kf_X6_152 dX6_t_26 rfl ?_
      intro v5
      refine j_iload_n 30 1 dX6_t_29 rfl rfl rfl ?_
      refine j_aL 31 dX6_t_30 rfl ?_
      intro v6
      refine j_aload_n 32 0 dX6_t_31 rfl rfl rfl ?_
      refine j_gR 35 kf_X6_12 dX6_t_32 rfl ?_
      intro v7
      refine j_gL 38 kf_X6_156 dX6_t_35 rfl ?_
      intro v8
      refine j_iload_n 39 2 dX6_t_38 rfl rfl rfl ?_
      refine j_callS_l (As := [.long v6, .long v8, .int a2]) (st := []) 42 (okX6_partOf G x v6 v8 a2) kc_X6_partOf kl_X6_160 ks_X6_partOf ⟨rfl, rfl, Nat.le_of_ble_eq_true rfl, Nat.le_of_ble_eq_true rfl⟩ (Nat.le_of_ble_eq_true rfl) ⟨Nat.le_of_ble_eq_true rfl, Nat.le_of_ble_eq_true rfl⟩ rfl dX6_t_39 rfl rfl ?_
      intro v9
      exact j_lret dX6_t_42 rfl
    · refine j_ldc2 21 kk_X6_150 dX6_t_18 rfl ?_
      exact j_lret dX6_t_21 rfl
-- X6_line: ('BarSteps', 'line', '()J')
def X6_line (a0 : Nat) (x : Hs) : Option (Int64) := (vO x 5 a0).bind fun _ =>
  (gR x 5 a0 0).bind fun v1 =>
  (gL x 0 v1 9).bind fun v2 =>
  some v2
theorem rvX6_line {a0 : Nat} {x : Hs} {r : Int64} (h : X6_line a0 x = some r) : ∃ fs, x.1 a0 = .inr (5, fs) := vO_bind h
theorem okX6_line (G : JG) (x : Hs) (a0 : Nat) : ∀ r, X6_line a0 x = some r → JC G yX6_line cX6_line 1 (some .long) (jR 1 0 0) 0 0 [.ref a0] x ((some (.long r), x)) := by
  refine jc_of (own := RX6) (E := (fun r : Int64 => ((some (.long r), x) : JR))) (by decide) rfl rfl (Nat.le_of_ble_eq_true rfl) rfl ?_
  unfold X6_line
  refine j_chk ?_
  refine j_aload_n 1 0 dX6_line_0 rfl rfl rfl ?_
  refine j_gR 4 kf_X6_12 dX6_line_1 rfl ?_
  intro v1
  refine j_gL 7 kf_X6_156 dX6_line_4 rfl ?_
  intro v2
  exact j_lret dX6_line_7 rfl
-- X6_joint: ('BarSteps', 'joint', '(I)I')
def X6_joint (a0 : Nat) (a1 : Int32) (x : Hs) : Option (Int32) := (vO x 5 a0).bind fun _ =>
  (gR x 5 a0 0).bind fun v1 =>
  (X0_leads v1 a1 x).bind fun v2 =>
  some v2
theorem rvX6_joint {a0 : Nat} {a1 : Int32} {x : Hs} {r : Int32} (h : X6_joint a0 a1 x = some r) : ∃ fs, x.1 a0 = .inr (5, fs) := vO_bind h
theorem okX6_joint (G : JG) (x : Hs) (a0 : Nat) (a1 : Int32) : ∀ r, X6_joint a0 a1 x = some r → JC G yX6_joint cX6_joint 2 (some .int) (jR 3 0 0) 0 0 [.ref a0, .int a1] x ((some (.int r), x)) := by
  refine jc_of (own := RX6) (E := (fun r : Int32 => ((some (.int r), x) : JR))) (by decide) rfl rfl (Nat.le_of_ble_eq_true rfl) rfl ?_
  unfold X6_joint
  refine j_chk ?_
  refine j_aload_n 1 0 dX6_joint_0 rfl rfl rfl ?_
  refine j_gR 4 kf_X6_12 dX6_joint_1 rfl ?_
  intro v1
  refine j_iload_n 5 1 dX6_joint_4 rfl rfl rfl ?_
  refine j_callV_i (ci := 0) (As := [.int a1]) (st := []) 8 (okX0_leads G x v1 a1) kc_X0_leads kl_X6_164 ki_X0_leads kv_X0_leads kh_X0 (by decide) (fun _ h => rvX0_leads h) ⟨rfl, rfl, Nat.le_of_ble_eq_true rfl, Nat.le_of_ble_eq_true rfl⟩ (Nat.le_of_ble_eq_true rfl) ⟨Nat.le_of_ble_eq_true rfl, Nat.le_of_ble_eq_true rfl⟩ rfl dX6_joint_5 rfl rfl ?_
  intro v2
  exact j_iret dX6_joint_8 rfl
-- X6_flow: ('BarSteps', 'flow', '(II)J')
def X6_flow (a0 : Nat) (a1 : Int32) (a2 : Int32) (x : Hs) : Option (Int64) := (vO x 5 a0).bind fun _ =>
  (gR x 5 a0 0).bind fun v1 =>
  (X0_hasJoint v1 a1 x).bind fun v2 =>
  (if v2 = 0 then some (-9223372036854775808) else
  (X6_isBit a2).bind fun v3 =>
  (if v3 = 0 then some (-9223372036854775808) else
  (gR x 5 a0 0).bind fun v4 =>
  (gR x 5 a0 0).bind fun v5 =>
  (gR x 0 v5 8).bind fun v6 =>
  (gR x 5 a0 0).bind fun v7 =>
  (gL x 0 v7 9).bind fun v8 =>
  (X0_flowAbove v4 a1 v6 v8 x).bind fun v9 =>
  (gR x 5 a0 0).bind fun v10 =>
  (gL x 0 v10 9).bind fun v11 =>
  (X6_partOf v9 v11 a2).bind fun v12 =>
  some v12))
theorem rvX6_flow {a0 : Nat} {a1 : Int32} {a2 : Int32} {x : Hs} {r : Int64} (h : X6_flow a0 a1 a2 x = some r) : ∃ fs, x.1 a0 = .inr (5, fs) := vO_bind h
theorem okX6_flow (G : JG) (x : Hs) (a0 : Nat) (a1 : Int32) (a2 : Int32) : ∀ r, X6_flow a0 a1 a2 x = some r → JC G yX6_flow cX6_flow 3 (some .long) (jR 4 0 0) 0 0 [.ref a0, .int a1, .int a2] x ((some (.long r), x)) := by
  refine jc_of (own := RX6) (E := (fun r : Int64 => ((some (.long r), x) : JR))) (by decide) rfl rfl (Nat.le_of_ble_eq_true rfl) rfl ?_
  unfold X6_flow
  refine j_chk ?_
  refine j_aload_n 1 0 dX6_flow_0 rfl rfl rfl ?_
  refine j_gR 4 kf_X6_12 dX6_flow_1 rfl ?_
  intro v1
  refine j_iload_n 5 1 dX6_flow_4 rfl rfl rfl ?_
  refine j_callV_i (ci := 0) (As := [.int a1]) (st := []) 8 (okX0_hasJoint G x v1 a1) kc_X0_hasJoint kl_X6_167 ki_X0_hasJoint kv_X0_hasJoint kh_X0 (by decide) (fun _ h => rvX0_hasJoint h) ⟨rfl, rfl, Nat.le_of_ble_eq_true rfl, Nat.le_of_ble_eq_true rfl⟩ (Nat.le_of_ble_eq_true rfl) ⟨Nat.le_of_ble_eq_true rfl, Nat.le_of_ble_eq_true rfl⟩ rfl dX6_flow_5 rfl rfl ?_
  intro v2
  refine j_if_eq 18 11 dX6_flow_8 (by decide) rfl ?_ ?_
  · refine j_ldc2 21 kk_X6_150 dX6_flow_18 rfl ?_
    exact j_lret dX6_flow_21 rfl
  · refine j_iload_n 12 2 dX6_flow_11 rfl rfl rfl ?_
    refine j_callS_i (As := [.int a2]) (st := []) 15 (okX6_isBit G x a2) kc_X6_isBit kl_X6_134 ks_X6_isBit ⟨rfl, rfl, Nat.le_of_ble_eq_true rfl, Nat.le_of_ble_eq_true rfl⟩ (Nat.le_of_ble_eq_true rfl) ⟨Nat.le_of_ble_eq_true rfl, Nat.le_of_ble_eq_true rfl⟩ rfl dX6_flow_12 rfl rfl ?_
    intro v3
    refine j_if_ne 22 18 dX6_flow_15 (by decide) rfl ?_ ?_
    · refine j_aload_n 23 0 dX6_flow_22 rfl rfl rfl ?_
      refine j_gR 26 kf_X6_12 dX6_flow_23 rfl ?_
      intro v4
      refine j_iload_n 27 1 dX6_flow_26 rfl rfl rfl ?_
      refine j_aload_n 28 0 dX6_flow_27 rfl rfl rfl ?_
      refine j_gR 31 kf_X6_12 dX6_flow_28 rfl ?_
      intro v5
      refine j_gR 34 kf_X6_152 dX6_flow_31 rfl ?_
      intro v6
      refine j_aload_n 35 0 dX6_flow_34 rfl rfl rfl ?_
      refine j_gR 38 kf_X6_12 dX6_flow_35 rfl ?_
      intro v7
      refine j_gL 41 kf_X6_156 dX6_flow_38 rfl ?_
      intro v8
      refine j_callV_l (ci := 0) (As := [.int a1, .ref v6, .long v8]) (st := []) 44 (okX0_flowAbove G x v4 a1 v6 v8) kc_X0_flowAbove kl_X6_170 ki_X0_flowAbove kv_X0_flowAbove kh_X0 (by decide) (fun _ h => rvX0_flowAbove h) ⟨rfl, rfl, Nat.le_of_ble_eq_true rfl, Nat.le_of_ble_eq_true rfl⟩ (Nat.le_of_ble_eq_true rfl) ⟨Nat.le_of_ble_eq_true rfl, Nat.le_of_ble_eq_true rfl⟩ rfl dX6_flow_41 rfl rfl ?_
      intro v9
      refine j_aload_n 45 0 dX6_flow_44 rfl rfl rfl ?_
      refine j_gR 48 kf_X6_12 dX6_flow_45 rfl ?_
      intro v10
      refine j_gL 51 kf_X6_156 dX6_flow_48 rfl ?_
      intro v11
      refine j_iload_n 52 2 dX6_flow_51 rfl rfl rfl ?_
      refine j_callS_l (As := [.long v9, .long v11, .int a2]) (st := []) 55 (okX6_partOf G x v9 v11 a2) kc_X6_partOf kl_X6_160 ks_X6_partOf ⟨rfl, rfl, Nat.le_of_ble_eq_true rfl, Nat.le_of_ble_eq_true rfl⟩ (Nat.le_of_ble_eq_true rfl) ⟨Nat.le_of_ble_eq_true rfl, Nat.le_of_ble_eq_true rfl⟩ rfl dX6_flow_52 rfl rfl ?_
      intro v12
      exact j_lret dX6_flow_55 rfl
    · refine j_ldc2 21 kk_X6_150 dX6_flow_18 rfl ?_
      exact j_lret dX6_flow_21 rfl
-- X6_stable: ('BarSteps', 'stable', '(I)I')
def X6_stable_L52 (x : Hs) : Nat → Nat → Int32 → Int32 → Option (Int32)
  | 0, _, _, _ => none
  | n + 1, l0, l3, l4 => (if l3 < l4 then some 1 else
  (gR x 5 l0 0).bind fun v1 =>
  (X0_loss v1 l4 x).bind fun v2 =>
  (gR x 5 l0 0).bind fun v3 =>
  (gR x 0 v3 6).bind fun v4 =>
  (aI x v4 l4).bind fun v5 =>
  (gR x 5 l0 0).bind fun v6 =>
  (gI x 0 v6 11).bind fun v7 =>
  (if v2 ≤ (v5 * v7) then X6_stable_L52 x n l0 l3 (l4 + 1) else
  some 0))
theorem okX6_stable_L52 (G : JG) (x : Hs) : ∀ (n : Nat), ∀ (l0 : Nat) (l3 : Int32) (l4 : Int32), JM G RX6 cX6_stable 5 (jZ G (some .int) "stable" (jR 4 0 0) 0 0) (fun r : Int32 => ((some (.int r), x) : JR)) 52 [(0, .ref l0), (3, .int l3), (4, .int l4)] [] x 0 0 (X6_stable_L52 x n l0 l3 l4) := by
  intro n
  induction n with
  | zero => intro l0 l3 l4; exact j_none
  | succ n ih =>
    intro l0 l3 l4
    unfold X6_stable_L52
    refine j_iload 54 2 dX6_stable_52 rfl rfl ?_
    refine j_iload_n 55 1 dX6_stable_54 rfl rfl rfl ?_
    refine j_icmp_gt 96 58 dX6_stable_55 (by decide) rfl ?_ ?_
    · refine j_iconst (v := 1) 97 dX6_stable_96 rfl ic_1 ?_
      exact j_iret dX6_stable_97 rfl
    · refine j_aload_n 59 0 dX6_stable_58 rfl rfl rfl ?_
      refine j_gR 62 kf_X6_12 dX6_stable_59 rfl ?_
      intro v1
      refine j_iload 64 2 dX6_stable_62 rfl rfl ?_
      refine j_callV_i (ci := 0) (As := [.int l4]) (st := []) 67 (okX0_loss G x v1 l4) kc_X0_loss kl_X6_174 ki_X0_loss kv_X0_loss kh_X0 (by decide) (fun _ h => rvX0_loss h) ⟨rfl, rfl, Nat.le_of_ble_eq_true rfl, Nat.le_of_ble_eq_true rfl⟩ (Nat.le_of_ble_eq_true rfl) ⟨Nat.le_of_ble_eq_true rfl, Nat.le_of_ble_eq_true rfl⟩ rfl dX6_stable_64 rfl rfl ?_
      intro v2
      refine j_aload_n 68 0 dX6_stable_67 rfl rfl rfl ?_
      refine j_gR 71 kf_X6_12 dX6_stable_68 rfl ?_
      intro v3
      refine j_gR 74 kf_X6_115 dX6_stable_71 rfl ?_
      intro v4
      refine j_iload 76 2 dX6_stable_74 rfl rfl ?_
      refine j_aI 77 dX6_stable_76 rfl ?_
      intro v5
      refine j_aload_n 78 0 dX6_stable_77 rfl rfl rfl ?_
      refine j_gR 81 kf_X6_12 dX6_stable_78 rfl ?_
      intro v6
      refine j_gI 84 kf_X6_144 dX6_stable_81 rfl ?_
      intro v7
      refine j_imul 85 dX6_stable_84 rfl ?_
      refine j_icmp_le 90 88 dX6_stable_85 (by decide) rfl ?_ ?_
      · refine j_iinc 93 2 [(4, .int (l4 + 1)), (0, .ref l0), (3, .int l3)] dX6_stable_90 rfl rfl (ii_1 _) (by decide) rfl ?_
        refine j_goto 52 dX6_stable_93 (by decide) ?_
        refine j_sub [1, 2, 0] rfl ?_
        exact ih l0 l3 (l4 + 1)
      · refine j_iconst (v := 0) 89 dX6_stable_88 rfl ic_0 ?_
        exact j_iret dX6_stable_89 rfl
def X6_stable_J48 (x : Hs) (l0 : Nat) (l2 : Int32) (s0 : Int32) : Option (Int32) := X6_stable_L52 x fu l0 s0 l2
theorem okX6_stable_J48 (G : JG) (x : Hs) : ∀ (l0 : Nat) (l2 : Int32) (s0 : Int32), JM G RX6 cX6_stable 5 (jZ G (some .int) "stable" (jR 4 0 0) 0 0) (fun r : Int32 => ((some (.int r), x) : JR)) 48 [(0, .ref l0), (2, .int l2)] [.int s0] x 0 0 (X6_stable_J48 x l0 l2 s0) := by
  intro l0 l2 s0
  unfold X6_stable_J48
  refine j_istore_n 49 [(3, .int s0), (0, .ref l0), (2, .int l2)] dX6_stable_48 rfl rfl (by decide) rfl ?_
  refine j_iload_n 50 2 dX6_stable_49 rfl rfl rfl ?_
  refine j_istore 52 [(4, .int l2), (3, .int s0), (0, .ref l0), (2, .int l2)] dX6_stable_50 rfl (by decide) rfl ?_
  refine j_sub [2, 1, 0] rfl ?_
  exact okX6_stable_L52 G x fu l0 s0 l2
def X6_stable_J29 (x : Hs) (l0 : Nat) (l1 : Int32) (s0 : Int32) : Option (Int32) := (if l1 = (-1) then (gR x 5 l0 0).bind fun v8 =>
  (gI x 0 v8 0).bind fun v9 =>
  X6_stable_J48 x l0 s0 (v9 - 1) else
  X6_stable_J48 x l0 s0 l1)
theorem okX6_stable_J29 (G : JG) (x : Hs) : ∀ (l0 : Nat) (l1 : Int32) (s0 : Int32), JM G RX6 cX6_stable 5 (jZ G (some .int) "stable" (jR 4 0 0) 0 0) (fun r : Int32 => ((some (.int r), x) : JR)) 29 [(0, .ref l0), (1, .int l1)] [.int s0] x 0 0 (X6_stable_J29 x l0 l1 s0) := by
  intro l0 l1 s0
  unfold X6_stable_J29
  refine j_istore_n 30 [(2, .int s0), (0, .ref l0), (1, .int l1)] dX6_stable_29 rfl rfl (by decide) rfl ?_
  refine j_iload_n 31 2 dX6_stable_30 rfl rfl rfl ?_
  refine j_iconst (v := -1) 32 dX6_stable_31 rfl ic_m1 ?_
  refine j_icmp_ne 47 35 dX6_stable_32 (by decide) rfl ?_ ?_
  · refine j_iload_n 48 2 dX6_stable_47 rfl rfl rfl ?_
    refine j_sub [1, 0] rfl ?_
    exact okX6_stable_J48 G x l0 s0 l1
  · refine j_aload_n 36 1 dX6_stable_35 rfl rfl rfl ?_
    refine j_gR 39 kf_X6_12 dX6_stable_36 rfl ?_
    intro v8
    refine j_gI 42 kf_X6_70 dX6_stable_39 rfl ?_
    intro v9
    refine j_iconst (v := 1) 43 dX6_stable_42 rfl ic_1 ?_
    refine j_isub 44 dX6_stable_43 rfl ?_
    refine j_goto 48 dX6_stable_44 (by decide) ?_
    refine j_sub [1, 0] rfl ?_
    exact okX6_stable_J48 G x l0 s0 (v9 - 1)
def X6_stable_J19 (x : Hs) (l0 : Nat) (l1 : Int32) : Option (Int32) := (if l1 = (-1) then X6_stable_J29 x l0 l1 0 else
  X6_stable_J29 x l0 l1 l1)
theorem okX6_stable_J19 (G : JG) (x : Hs) : ∀ (l0 : Nat) (l1 : Int32), JM G RX6 cX6_stable 5 (jZ G (some .int) "stable" (jR 4 0 0) 0 0) (fun r : Int32 => ((some (.int r), x) : JR)) 19 [(0, .ref l0), (1, .int l1)] [] x 0 0 (X6_stable_J19 x l0 l1) := by
  intro l0 l1
  unfold X6_stable_J19
  refine j_iload_n 20 1 dX6_stable_19 rfl rfl rfl ?_
  refine j_iconst (v := -1) 21 dX6_stable_20 rfl ic_m1 ?_
  refine j_icmp_ne 28 24 dX6_stable_21 (by decide) rfl ?_ ?_
  · refine j_iload_n 29 1 dX6_stable_28 rfl rfl rfl ?_
    exact okX6_stable_J29 G x l0 l1 l1
  · refine j_iconst (v := 0) 25 dX6_stable_24 rfl ic_0 ?_
    refine j_goto 29 dX6_stable_25 (by decide) ?_
    exact okX6_stable_J29 G x l0 l1 0
def X6_stable (a0 : Nat) (a1 : Int32) (x : Hs) : Option (Int32) := (vO x 5 a0).bind fun _ =>
  (if a1 = (-1) then X6_stable_J19 x a0 a1 else
  (gR x 5 a0 0).bind fun v10 =>
  (X0_has v10 a1 x).bind fun v11 =>
  (if v11 = 0 then some (-2) else
  X6_stable_J19 x a0 a1))
theorem rvX6_stable {a0 : Nat} {a1 : Int32} {x : Hs} {r : Int32} (h : X6_stable a0 a1 x = some r) : ∃ fs, x.1 a0 = .inr (5, fs) := vO_bind h
theorem okX6_stable (G : JG) (x : Hs) (a0 : Nat) (a1 : Int32) : ∀ r, X6_stable a0 a1 x = some r → JC G yX6_stable cX6_stable 5 (some .int) (jR 4 0 0) 0 0 [.ref a0, .int a1] x ((some (.int r), x)) := by
  refine jc_of (own := RX6) (E := (fun r : Int32 => ((some (.int r), x) : JR))) (by decide) rfl rfl (Nat.le_of_ble_eq_true rfl) rfl ?_
  unfold X6_stable
  refine j_chk ?_
  refine j_iload_n 1 1 dX6_stable_0 rfl rfl rfl ?_
  refine j_iconst (v := -1) 2 dX6_stable_1 rfl ic_m1 ?_
  refine j_icmp_eq 19 5 dX6_stable_2 (by decide) rfl ?_ ?_
  · exact okX6_stable_J19 G x a0 a1
  · refine j_aload_n 6 0 dX6_stable_5 rfl rfl rfl ?_
    refine j_gR 9 kf_X6_12 dX6_stable_6 rfl ?_
    intro v10
    refine j_iload_n 10 1 dX6_stable_9 rfl rfl rfl ?_
    refine j_callV_i (ci := 0) (As := [.int a1]) (st := []) 13 (okX0_has G x v10 a1) kc_X0_has kl_X6_77 ki_X0_has kv_X0_has kh_X0 (by decide) (fun _ h => rvX0_has h) ⟨rfl, rfl, Nat.le_of_ble_eq_true rfl, Nat.le_of_ble_eq_true rfl⟩ (Nat.le_of_ble_eq_true rfl) ⟨Nat.le_of_ble_eq_true rfl, Nat.le_of_ble_eq_true rfl⟩ rfl dX6_stable_10 rfl rfl ?_
    intro v11
    refine j_if_ne 19 16 dX6_stable_13 (by decide) rfl ?_ ?_
    · exact okX6_stable_J19 G x a0 a1
    · refine j_bipush (v := -2) 18 dX6_stable_16 rfl bc_m2 ?_
      exact j_iret dX6_stable_18 rfl
-- J9_max_7cf53: ('java/lang/Math', 'max', '(II)I')
def J9_max_7cf53 (a0 : Int32) (a1 : Int32) : Option (Int32) := (if a0 < a1 then some a1 else
  some a0)
theorem okJ9_max_7cf53 (G : JG) (x : Hs) (a0 : Int32) (a1 : Int32) : ∀ r, J9_max_7cf53 a0 a1 = some r → JC G yJ9_max_7cf53 cJ9_max_7cf53 2 (some .int) (jR 1 0 0) 0 0 [.int a0, .int a1] x ((some (.int r), x)) := by
  refine jc_ofF (own := RJ9) (E := (fun r : Int32 => ((some (.int r), x) : JR))) (by decide +kernel) rfl rfl (Nat.le_of_ble_eq_true rfl) rfl ?_
  unfold J9_max_7cf53
  refine j_iload_n 1 0 dJ9_max_7cf53_0 rfl rfl rfl ?_
  refine j_iload_n 2 1 dJ9_max_7cf53_1 rfl rfl rfl ?_
  refine j_icmp_lt 9 5 dJ9_max_7cf53_2 (by decide) rfl ?_ ?_
  · refine j_iload_n 10 1 dJ9_max_7cf53_9 rfl rfl rfl ?_
    exact j_iret dJ9_max_7cf53_10 rfl
  · refine j_iload_n 6 0 dJ9_max_7cf53_5 rfl rfl rfl ?_
    refine j_goto 10 dJ9_max_7cf53_6 (by decide) ?_
    exact j_iret dJ9_max_7cf53_10 rfl
-- X6_need: ('BarSteps', 'need', '()I')
def X6_need_L4 (x : Hs) : Nat → Nat → Int32 → Int32 → Option (Int32)
  | 0, _, _, _ => none
  | n + 1, l0, l1, l2 => (gR x 5 l0 0).bind fun v1 =>
  (gI x 0 v1 0).bind fun v2 =>
  (if v2 ≤ l2 then some l1 else
  (gR x 5 l0 0).bind fun v3 =>
  (gR x 0 v3 6).bind fun v4 =>
  (aI x v4 l2).bind fun v5 =>
  (gR x 5 l0 0).bind fun v6 =>
  (X0_loss v6 l2 x).bind fun v7 =>
  (X6_quotient (Int32.toInt64 ((v7 + v5) - 1)) (Int32.toInt64 v5)).bind fun v8 =>
  (J9_max_7cf53 l1 (Int64.toInt32 v8)).bind fun v9 =>
  X6_need_L4 x n l0 v9 (l2 + 1))
theorem okX6_need_L4 (G : JG) (x : Hs) : ∀ (n : Nat), ∀ (l0 : Nat) (l1 : Int32) (l2 : Int32), JM G RX6 cX6_need 5 (jZ G (some .int) "need" (jR 4 0 0) 0 0) (fun r : Int32 => ((some (.int r), x) : JR)) 4 [(0, .ref l0), (1, .int l1), (2, .int l2)] [] x 0 0 (X6_need_L4 x n l0 l1 l2) := by
  intro n
  induction n with
  | zero => intro l0 l1 l2; exact j_none
  | succ n ih =>
    intro l0 l1 l2
    unfold X6_need_L4
    refine j_iload_n 5 2 dX6_need_4 rfl rfl rfl ?_
    refine j_aload_n 6 0 dX6_need_5 rfl rfl rfl ?_
    refine j_gR 9 kf_X6_12 dX6_need_6 rfl ?_
    intro v1
    refine j_gI 12 kf_X6_70 dX6_need_9 rfl ?_
    intro v2
    refine j_icmp_ge 59 15 dX6_need_12 (by decide) rfl ?_ ?_
    · refine j_iload_n 60 1 dX6_need_59 rfl rfl rfl ?_
      exact j_iret dX6_need_60 rfl
    · refine j_aload_n 16 0 dX6_need_15 rfl rfl rfl ?_
      refine j_gR 19 kf_X6_12 dX6_need_16 rfl ?_
      intro v3
      refine j_gR 22 kf_X6_115 dX6_need_19 rfl ?_
      intro v4
      refine j_iload_n 23 2 dX6_need_22 rfl rfl rfl ?_
      refine j_aI 24 dX6_need_23 rfl ?_
      intro v5
      refine j_istore_n 25 [(3, .int v5), (0, .ref l0), (1, .int l1), (2, .int l2)] dX6_need_24 rfl rfl (by decide) rfl ?_
      refine j_aload_n 26 1 dX6_need_25 rfl rfl rfl ?_
      refine j_gR 29 kf_X6_12 dX6_need_26 rfl ?_
      intro v6
      refine j_iload_n 30 3 dX6_need_29 rfl rfl rfl ?_
      refine j_callV_i (ci := 0) (As := [.int l2]) (st := []) 33 (okX0_loss G x v6 l2) kc_X0_loss kl_X6_174 ki_X0_loss kv_X0_loss kh_X0 (by decide) (fun _ h => rvX0_loss h) ⟨rfl, rfl, Nat.le_of_ble_eq_true rfl, Nat.le_of_ble_eq_true rfl⟩ (Nat.le_of_ble_eq_true rfl) ⟨Nat.le_of_ble_eq_true rfl, Nat.le_of_ble_eq_true rfl⟩ rfl dX6_need_30 rfl rfl ?_
      intro v7
      refine j_iload_n 34 0 dX6_need_33 rfl rfl rfl ?_
      refine j_iadd 35 dX6_need_34 rfl ?_
      refine j_iconst (v := 1) 36 dX6_need_35 rfl ic_1 ?_
      refine j_isub 37 dX6_need_36 rfl ?_
      refine j_i2l 38 dX6_need_37 rfl ?_
      refine j_iload_n 39 0 dX6_need_38 rfl rfl rfl ?_
      refine j_i2l 40 dX6_need_39 rfl ?_
      refine j_callS_l (As := [.long (Int32.toInt64 ((v7 + v5) - 1)), .long (Int32.toInt64 v5)]) (st := []) 43 (okX6_quotient G x (Int32.toInt64 ((v7 + v5) - 1)) (Int32.toInt64 v5)) kc_X6_quotient kl_X6_177 ks_X6_quotient ⟨rfl, rfl, Nat.le_of_ble_eq_true rfl, Nat.le_of_ble_eq_true rfl⟩ (Nat.le_of_ble_eq_true rfl) ⟨Nat.le_of_ble_eq_true rfl, Nat.le_of_ble_eq_true rfl⟩ rfl dX6_need_40 rfl rfl ?_
      intro v8
      refine j_l2i 44 dX6_need_43 rfl ?_
      refine j_istore 46 [(4, .int (Int64.toInt32 v8)), (3, .int v5), (0, .ref l0), (1, .int l1), (2, .int l2)] dX6_need_44 rfl (by decide) rfl ?_
      refine j_iload_n 47 3 dX6_need_46 rfl rfl rfl ?_
      refine j_iload 49 0 dX6_need_47 rfl rfl ?_
      refine j_callS_i (As := [.int l1, .int (Int64.toInt32 v8)]) (st := []) 52 (okJ9_max_7cf53 G x l1 (Int64.toInt32 v8)) kc_J9_max_7cf53 kl_X6_181 ks_J9_max_7cf53 ⟨rfl, rfl, Nat.le_of_ble_eq_true rfl, Nat.le_of_ble_eq_true rfl⟩ (Nat.le_of_ble_eq_true rfl) ⟨Nat.le_of_ble_eq_true rfl, Nat.le_of_ble_eq_true rfl⟩ rfl dX6_need_49 rfl rfl ?_
      intro v9
      refine j_istore_n 53 [(1, .int v9), (4, .int (Int64.toInt32 v8)), (3, .int v5), (0, .ref l0), (2, .int l2)] dX6_need_52 rfl rfl (by decide) rfl ?_
      refine j_iinc 56 4 [(2, .int (l2 + 1)), (1, .int v9), (4, .int (Int64.toInt32 v8)), (3, .int v5), (0, .ref l0)] dX6_need_53 rfl rfl (ii_1 _) (by decide) rfl ?_
      refine j_goto 4 dX6_need_56 (by decide) ?_
      refine j_sub [4, 1, 0] rfl ?_
      exact ih l0 v9 (l2 + 1)
def X6_need (a0 : Nat) (x : Hs) : Option (Int32) := (vO x 5 a0).bind fun _ =>
  X6_need_L4 x fu a0 1 0
theorem rvX6_need {a0 : Nat} {x : Hs} {r : Int32} (h : X6_need a0 x = some r) : ∃ fs, x.1 a0 = .inr (5, fs) := vO_bind h
theorem okX6_need (G : JG) (x : Hs) (a0 : Nat) : ∀ r, X6_need a0 x = some r → JC G yX6_need cX6_need 5 (some .int) (jR 4 0 0) 0 0 [.ref a0] x ((some (.int r), x)) := by
  refine jc_of (own := RX6) (E := (fun r : Int32 => ((some (.int r), x) : JR))) (by decide) rfl rfl (Nat.le_of_ble_eq_true rfl) rfl ?_
  unfold X6_need
  refine j_chk ?_
  refine j_iconst (v := 1) 1 dX6_need_0 rfl ic_1 ?_
  refine j_istore_n 2 [(1, .int 1), (0, .ref a0)] dX6_need_1 rfl rfl (by decide) rfl ?_
  refine j_iconst (v := 0) 3 dX6_need_2 rfl ic_0 ?_
  refine j_istore_n 4 [(2, .int 0), (1, .int 1), (0, .ref a0)] dX6_need_3 rfl rfl (by decide) rfl ?_
  refine j_sub [2, 1, 0] rfl ?_
  exact okX6_need_L4 G x fu a0 1 0
-- X6_sum: ('BarSteps', 'sum', '(I)J')
def X6_sum_L16 (x : Hs) : Nat → Nat → Int32 → Int64 → Int32 → Option (Int64)
  | 0, _, _, _, _ => none
  | n + 1, l0, l1, l2, l4 => (gR x 5 l0 0).bind fun v2 =>
  (gI x 0 v2 0).bind fun v3 =>
  (if v3 ≤ l4 then (gR x 5 l0 0).bind fun v4 =>
  (gL x 0 v4 9).bind fun v5 =>
  (X6_partOf l2 v5 l1).bind fun v6 =>
  some v6 else
  (gR x 5 l0 0).bind fun v7 =>
  (gR x 0 v7 6).bind fun v8 =>
  (aI x v8 l4).bind fun v9 =>
  (gR x 5 l0 0).bind fun v10 =>
  (gR x 0 v10 8).bind fun v11 =>
  (aL x v11 l4).bind fun v12 =>
  X6_sum_L16 x n l0 l1 (l2 + ((Int32.toInt64 v9) * v12)) (l4 + 1))
theorem okX6_sum_L16 (G : JG) (x : Hs) : ∀ (n : Nat), ∀ (l0 : Nat) (l1 : Int32) (l2 : Int64) (l4 : Int32), JM G RX6 cX6_sum 5 (jZ G (some .long) "sum" (jR 4 0 0) 0 0) (fun r : Int64 => ((some (.long r), x) : JR)) 16 [(0, .ref l0), (1, .int l1), (2, .long l2), (4, .int l4)] [] x 0 0 (X6_sum_L16 x n l0 l1 l2 l4) := by
  intro n
  induction n with
  | zero => intro l0 l1 l2 l4; exact j_none
  | succ n ih =>
    intro l0 l1 l2 l4
    unfold X6_sum_L16
    refine j_iload 18 3 dX6_sum_16 rfl rfl ?_
    refine j_aload_n 19 0 dX6_sum_18 rfl rfl rfl ?_
    refine j_gR 22 kf_X6_12 dX6_sum_19 rfl ?_
    intro v2
    refine j_gI 25 kf_X6_70 dX6_sum_22 rfl ?_
    intro v3
    refine j_icmp_ge 59 28 dX6_sum_25 (by decide) rfl ?_ ?_
    · refine j_lload_n 60 2 dX6_sum_59 rfl rfl rfl ?_
      refine j_aload_n 61 0 dX6_sum_60 rfl rfl rfl ?_
      refine j_gR 64 kf_X6_12 dX6_sum_61 rfl ?_
      intro v4
      refine j_gL 67 kf_X6_156 dX6_sum_64 rfl ?_
      intro v5
      refine j_iload_n 68 1 dX6_sum_67 rfl rfl rfl ?_
      refine j_callS_l (As := [.long l2, .long v5, .int l1]) (st := []) 71 (okX6_partOf G x l2 v5 l1) kc_X6_partOf kl_X6_160 ks_X6_partOf ⟨rfl, rfl, Nat.le_of_ble_eq_true rfl, Nat.le_of_ble_eq_true rfl⟩ (Nat.le_of_ble_eq_true rfl) ⟨Nat.le_of_ble_eq_true rfl, Nat.le_of_ble_eq_true rfl⟩ rfl dX6_sum_68 rfl rfl ?_
      intro v6
      exact j_lret dX6_sum_71 rfl
    · refine j_lload_n 29 2 dX6_sum_28 rfl rfl rfl ?_
      refine j_aload_n 30 0 dX6_sum_29 rfl rfl rfl ?_
      refine j_gR 33 kf_X6_12 dX6_sum_30 rfl ?_
      intro v7
      refine j_gR 36 kf_X6_115 dX6_sum_33 rfl ?_
      intro v8
      refine j_iload 38 3 dX6_sum_36 rfl rfl ?_
      refine j_aI 39 dX6_sum_38 rfl ?_
      intro v9
      refine j_i2l 40 dX6_sum_39 rfl ?_
      refine j_aload_n 41 0 dX6_sum_40 rfl rfl rfl ?_
      refine j_gR 44 kf_X6_12 dX6_sum_41 rfl ?_
      intro v10
      refine j_gR 47 kf_X6_152 dX6_sum_44 rfl ?_
      intro v11
      refine j_iload 49 3 dX6_sum_47 rfl rfl ?_
      refine j_aL 50 dX6_sum_49 rfl ?_
      intro v12
      refine j_lmul 51 dX6_sum_50 rfl ?_
      refine j_ladd 52 dX6_sum_51 rfl ?_
      refine j_lstore_n 53 [(2, .long (l2 + ((Int32.toInt64 v9) * v12))), (0, .ref l0), (1, .int l1), (4, .int l4)] dX6_sum_52 rfl rfl (by decide) rfl ?_
      refine j_iinc 56 3 [(4, .int (l4 + 1)), (2, .long (l2 + ((Int32.toInt64 v9) * v12))), (0, .ref l0), (1, .int l1)] dX6_sum_53 rfl rfl (ii_1 _) (by decide) rfl ?_
      refine j_goto 16 dX6_sum_56 (by decide) ?_
      refine j_sub [2, 3, 1, 0] rfl ?_
      exact ih l0 l1 (l2 + ((Int32.toInt64 v9) * v12)) (l4 + 1)
def X6_sum (a0 : Nat) (a1 : Int32) (x : Hs) : Option (Int64) := (vO x 5 a0).bind fun _ =>
  (X6_isBit a1).bind fun v1 =>
  (if v1 = 0 then some (-9223372036854775808) else
  X6_sum_L16 x fu a0 a1 0 0)
theorem rvX6_sum {a0 : Nat} {a1 : Int32} {x : Hs} {r : Int64} (h : X6_sum a0 a1 x = some r) : ∃ fs, x.1 a0 = .inr (5, fs) := vO_bind h
theorem okX6_sum (G : JG) (x : Hs) (a0 : Nat) (a1 : Int32) : ∀ r, X6_sum a0 a1 x = some r → JC G yX6_sum cX6_sum 5 (some .long) (jR 4 0 0) 0 0 [.ref a0, .int a1] x ((some (.long r), x)) := by
  refine jc_of (own := RX6) (E := (fun r : Int64 => ((some (.long r), x) : JR))) (by decide) rfl rfl (Nat.le_of_ble_eq_true rfl) rfl ?_
  unfold X6_sum
  refine j_chk ?_
  refine j_iload_n 1 1 dX6_sum_0 rfl rfl rfl ?_
  refine j_callS_i (As := [.int a1]) (st := []) 4 (okX6_isBit G x a1) kc_X6_isBit kl_X6_134 ks_X6_isBit ⟨rfl, rfl, Nat.le_of_ble_eq_true rfl, Nat.le_of_ble_eq_true rfl⟩ (Nat.le_of_ble_eq_true rfl) ⟨Nat.le_of_ble_eq_true rfl, Nat.le_of_ble_eq_true rfl⟩ rfl dX6_sum_1 rfl rfl ?_
  intro v1
  refine j_if_ne 11 7 dX6_sum_4 (by decide) rfl ?_ ?_
  · refine j_lconst (v := 0) 12 dX6_sum_11 rfl lc_0 ?_
    refine j_lstore_n 13 [(2, .long 0), (0, .ref a0), (1, .int a1)] dX6_sum_12 rfl rfl (by decide) rfl ?_
    refine j_iconst (v := 0) 14 dX6_sum_13 rfl ic_0 ?_
    refine j_istore 16 [(4, .int 0), (2, .long 0), (0, .ref a0), (1, .int a1)] dX6_sum_14 rfl (by decide) rfl ?_
    refine j_sub [2, 3, 1, 0] rfl ?_
    exact okX6_sum_L16 G x fu a0 a1 0 0
  · refine j_ldc2 10 kk_X6_150 dX6_sum_7 rfl ?_
    exact j_lret dX6_sum_10 rfl
