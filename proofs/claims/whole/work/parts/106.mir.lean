/-! Each method as a pure term, and the machine's rows. Written by wip/whole/decomp.py. -/
-- X7_isIn: ('BarStepsModel', 'isIn', '(JJJ)Z')
def X7_isIn (a0 : Int64) (a1 : Int64) (a2 : Int64) : Option (Int32) := (if a0 < a1 then (zb 0).bind fun v1 => some v1 else
  (if a2 < a0 then (zb 0).bind fun v2 => some v2 else
  (zb 1).bind fun v3 => some v3))
theorem okX7_isIn (G : JG) (x : Hs) (a0 : Int64) (a1 : Int64) (a2 : Int64) : ∀ r, X7_isIn a0 a1 a2 = some r → JC G yX7_isIn cX7_isIn 6 (some .boolean) (jR 1 0 0) 0 0 [.long a0, .long a1, .long a2] x ((some (.int r), x)) := by
  refine jc_of (own := RX7) (E := (fun r : Int32 => ((some (.int r), x) : JR))) (by decide) rfl rfl (Nat.le_of_ble_eq_true rfl) rfl ?_
  unfold X7_isIn
  refine j_lload_n 1 0 dX7_isIn_0 rfl rfl rfl ?_
  refine j_lload_n 2 1 dX7_isIn_1 rfl rfl rfl ?_
  refine j_lcmp_lt 3 17 6 dX7_isIn_2 rfl dX7_isIn_3 (by decide) rfl ?_ ?_
  · refine j_iconst (v := 0) 18 dX7_isIn_17 rfl ic_0 ?_
    exact j_zret dX7_isIn_18 (fun _ => rfl)
  · refine j_lload_n 7 0 dX7_isIn_6 rfl rfl rfl ?_
    refine j_lload 9 2 dX7_isIn_7 rfl rfl ?_
    refine j_lcmp_gt 10 17 13 dX7_isIn_9 rfl dX7_isIn_10 (by decide) rfl ?_ ?_
    · refine j_iconst (v := 0) 18 dX7_isIn_17 rfl ic_0 ?_
      exact j_zret dX7_isIn_18 (fun _ => rfl)
    · refine j_iconst (v := 1) 14 dX7_isIn_13 rfl ic_1 ?_
      refine j_goto 18 dX7_isIn_14 (by decide) ?_
      exact j_zret dX7_isIn_18 (fun _ => rfl)
-- X7_isCell: ('BarStepsModel', 'isCell', '(I)Z')
def X7_isCell (a0 : Nat) (a1 : Int32) (x : Hs) : Option (Int32) := (vO x 6 a0).bind fun _ =>
  (gI x 6 a0 0).bind fun v1 =>
  (X7_isIn (Int32.toInt64 a1) 0 (Int32.toInt64 (v1 - 1))).bind fun v2 =>
  (zb v2).bind fun v3 => some v3
theorem rvX7_isCell {a0 : Nat} {a1 : Int32} {x : Hs} {r : Int32} (h : X7_isCell a0 a1 x = some r) : ∃ fs, x.1 a0 = .inr (6, fs) := vO_bind h
theorem okX7_isCell (G : JG) (x : Hs) (a0 : Nat) (a1 : Int32) : ∀ r, X7_isCell a0 a1 x = some r → JC G yX7_isCell cX7_isCell 2 (some .boolean) (jR 2 0 0) 0 0 [.ref a0, .int a1] x ((some (.int r), x)) := by
  refine jc_of (own := RX7) (E := (fun r : Int32 => ((some (.int r), x) : JR))) (by decide) rfl rfl (Nat.le_of_ble_eq_true rfl) rfl ?_
  unfold X7_isCell
  refine j_chk ?_
  refine j_iload_n 1 1 dX7_isCell_0 rfl rfl rfl ?_
  refine j_i2l 2 dX7_isCell_1 rfl ?_
  refine j_lconst (v := 0) 3 dX7_isCell_2 rfl lc_0 ?_
  refine j_aload_n 4 0 dX7_isCell_3 rfl rfl rfl ?_
  refine j_gI 7 kf_X7_129 dX7_isCell_4 rfl ?_
  intro v1
  refine j_iconst (v := 1) 8 dX7_isCell_7 rfl ic_1 ?_
  refine j_isub 9 dX7_isCell_8 rfl ?_
  refine j_i2l 10 dX7_isCell_9 rfl ?_
  refine j_callS_i (As := [.long (Int32.toInt64 a1), .long 0, .long (Int32.toInt64 (v1 - 1))]) (st := []) 13 (okX7_isIn G x (Int32.toInt64 a1) 0 (Int32.toInt64 (v1 - 1))) kc_X7_isIn kl_X7_133 ks_X7_isIn ⟨rfl, rfl, Nat.le_of_ble_eq_true rfl, Nat.le_of_ble_eq_true rfl⟩ (Nat.le_of_ble_eq_true rfl) ⟨Nat.le_of_ble_eq_true rfl, Nat.le_of_ble_eq_true rfl⟩ rfl dX7_isCell_10 rfl rfl ?_
  intro v2
  exact j_zret dX7_isCell_13 (fun _ => rfl)
-- X7_divisor: ('BarStepsModel', 'divisor', '(JJ)J')
def X7_divisor_L12 : Nat → Int64 → Int64 → Option (Int64)
  | 0, _, _ => none
  | n + 1, l4, l6 => (if l6 = 0 then some l4 else
  (o_lrem l4 l6).bind fun v3 =>
  X7_divisor_L12 n l6 v3)
theorem okX7_divisor_L12 (G : JG) (x : Hs) : ∀ (n : Nat), ∀ (l4 : Int64) (l6 : Int64), JM G RX7 cX7_divisor 10 (jZ G (some .long) "divisor" (jR 2 0 0) 0 0) (fun r : Int64 => ((some (.long r), x) : JR)) 12 [(4, .long l4), (6, .long l6)] [] x 0 0 (X7_divisor_L12 n l4 l6) := by
  intro n
  induction n with
  | zero => intro l4 l6; exact j_none
  | succ n ih =>
    intro l4 l6
    unfold X7_divisor_L12
    refine j_lload 14 1 dX7_divisor_12 rfl rfl ?_
    refine j_lconst (v := 0) 15 dX7_divisor_14 rfl lc_0 ?_
    refine j_lcmp_eq 16 37 19 dX7_divisor_15 rfl dX7_divisor_16 (by decide) rfl ?_ ?_
    · refine j_lload 39 0 dX7_divisor_37 rfl rfl ?_
      exact j_lret dX7_divisor_39 rfl
    · refine j_lload 21 0 dX7_divisor_19 rfl rfl ?_
      refine j_lload 23 1 dX7_divisor_21 rfl rfl ?_
      refine j_lrem 24 dX7_divisor_23 rfl ?_
      intro v3
      refine j_lstore 26 [(8, .long v3), (4, .long l4), (6, .long l6)] dX7_divisor_24 rfl (by decide) rfl ?_
      refine j_lload 28 2 dX7_divisor_26 rfl rfl ?_
      refine j_lstore 30 [(4, .long l6), (8, .long v3), (6, .long l6)] dX7_divisor_28 rfl (by decide) rfl ?_
      refine j_lload 32 1 dX7_divisor_30 rfl rfl ?_
      refine j_lstore 34 [(6, .long v3), (4, .long l6), (8, .long v3)] dX7_divisor_32 rfl (by decide) rfl ?_
      refine j_goto 12 dX7_divisor_34 (by decide) ?_
      refine j_sub [1, 0] rfl ?_
      exact ih l6 v3
def X7_divisor (a0 : Int64) (a1 : Int64) : Option (Int64) := (J9_abs_067f4 a0).bind fun v1 =>
  (J9_abs_067f4 a1).bind fun v2 =>
  X7_divisor_L12 fu v1 v2
theorem okX7_divisor (G : JG) (x : Hs) (a0 : Int64) (a1 : Int64) : ∀ r, X7_divisor a0 a1 = some r → JC G yX7_divisor cX7_divisor 10 (some .long) (jR 2 0 0) 0 0 [.long a0, .long a1] x ((some (.long r), x)) := by
  refine jc_of (own := RX7) (E := (fun r : Int64 => ((some (.long r), x) : JR))) (by decide) rfl rfl (Nat.le_of_ble_eq_true rfl) rfl ?_
  unfold X7_divisor
  refine j_lload_n 1 0 dX7_divisor_0 rfl rfl rfl ?_
  refine j_callS_l (As := [.long a0]) (st := []) 4 (okJ9_abs_067f4 G x a0) kc_J9_abs_067f4 kl_X7_137 ks_J9_abs_067f4 ⟨rfl, rfl, Nat.le_of_ble_eq_true rfl, Nat.le_of_ble_eq_true rfl⟩ (Nat.le_of_ble_eq_true rfl) ⟨Nat.le_of_ble_eq_true rfl, Nat.le_of_ble_eq_true rfl⟩ rfl dX7_divisor_1 rfl rfl ?_
  intro v1
  refine j_lstore 6 [(4, .long v1), (0, .long a0), (2, .long a1)] dX7_divisor_4 rfl (by decide) rfl ?_
  refine j_lload_n 7 2 dX7_divisor_6 rfl rfl rfl ?_
  refine j_callS_l (As := [.long a1]) (st := []) 10 (okJ9_abs_067f4 G x a1) kc_J9_abs_067f4 kl_X7_137 ks_J9_abs_067f4 ⟨rfl, rfl, Nat.le_of_ble_eq_true rfl, Nat.le_of_ble_eq_true rfl⟩ (Nat.le_of_ble_eq_true rfl) ⟨Nat.le_of_ble_eq_true rfl, Nat.le_of_ble_eq_true rfl⟩ rfl dX7_divisor_7 rfl rfl ?_
  intro v2
  refine j_lstore 12 [(6, .long v2), (4, .long v1), (0, .long a0), (2, .long a1)] dX7_divisor_10 rfl (by decide) rfl ?_
  refine j_sub [1, 0] rfl ?_
  exact okX7_divisor_L12 G x fu v1 v2
-- X7_part: ('BarStepsModel', 'part', '(JJI)J')
def X7_part (a0 : Int64) (a1 : Int64) (a2 : Int32) : Option (Int64) := (X7_divisor a0 a1).bind fun v1 =>
  (if a2 = 0 then (o_ldiv a0 v1).bind fun v3 =>
  some v3 else
  (o_ldiv a1 v1).bind fun v2 =>
  some v2)
theorem okX7_part (G : JG) (x : Hs) (a0 : Int64) (a1 : Int64) (a2 : Int32) : ∀ r, X7_part a0 a1 a2 = some r → JC G yX7_part cX7_part 7 (some .long) (jR 3 0 0) 0 0 [.long a0, .long a1, .int a2] x ((some (.long r), x)) := by
  refine jc_of (own := RX7) (E := (fun r : Int64 => ((some (.long r), x) : JR))) (by decide) rfl rfl (Nat.le_of_ble_eq_true rfl) rfl ?_
  unfold X7_part
  refine j_lload_n 1 0 dX7_part_0 rfl rfl rfl ?_
  refine j_lload_n 2 1 dX7_part_1 rfl rfl rfl ?_
  refine j_callS_l (As := [.long a0, .long a1]) (st := []) 5 (okX7_divisor G x a0 a1) kc_X7_divisor kl_X7_143 ks_X7_divisor ⟨rfl, rfl, Nat.le_of_ble_eq_true rfl, Nat.le_of_ble_eq_true rfl⟩ (Nat.le_of_ble_eq_true rfl) ⟨Nat.le_of_ble_eq_true rfl, Nat.le_of_ble_eq_true rfl⟩ rfl dX7_part_2 rfl rfl ?_
  intro v1
  refine j_lstore 7 [(5, .long v1), (0, .long a0), (2, .long a1), (4, .int a2)] dX7_part_5 rfl (by decide) rfl ?_
  refine j_iload 9 3 dX7_part_7 rfl rfl ?_
  refine j_if_ne 19 12 dX7_part_9 (by decide) rfl ?_ ?_
  · refine j_lload_n 20 2 dX7_part_19 rfl rfl rfl ?_
    refine j_lload 22 0 dX7_part_20 rfl rfl ?_
    refine j_ldiv 23 dX7_part_22 rfl ?_
    intro v2
    exact j_lret dX7_part_23 rfl
  · refine j_lload_n 13 1 dX7_part_12 rfl rfl rfl ?_
    refine j_lload 15 0 dX7_part_13 rfl rfl ?_
    refine j_ldiv 16 dX7_part_15 rfl ?_
    intro v3
    refine j_goto 23 dX7_part_16 (by decide) ?_
    exact j_lret dX7_part_23 rfl
-- X7_lesser: ('BarStepsModel', 'lesser', '(JJ)J')
def X7_lesser (a0 : Int64) (a1 : Int64) : Option (Int64) := (if a1 ≤ a0 then some a1 else
  some a0)
theorem okX7_lesser (G : JG) (x : Hs) (a0 : Int64) (a1 : Int64) : ∀ r, X7_lesser a0 a1 = some r → JC G yX7_lesser cX7_lesser 4 (some .long) (jR 1 0 0) 0 0 [.long a0, .long a1] x ((some (.long r), x)) := by
  refine jc_of (own := RX7) (E := (fun r : Int64 => ((some (.long r), x) : JR))) (by decide) rfl rfl (Nat.le_of_ble_eq_true rfl) rfl ?_
  unfold X7_lesser
  refine j_lload_n 1 0 dX7_lesser_0 rfl rfl rfl ?_
  refine j_lload_n 2 1 dX7_lesser_1 rfl rfl rfl ?_
  refine j_lcmp_ge 3 10 6 dX7_lesser_2 rfl dX7_lesser_3 (by decide) rfl ?_ ?_
  · refine j_lload_n 11 1 dX7_lesser_10 rfl rfl rfl ?_
    exact j_lret dX7_lesser_11 rfl
  · refine j_lload_n 7 0 dX7_lesser_6 rfl rfl rfl ?_
    refine j_goto 11 dX7_lesser_7 (by decide) ?_
    exact j_lret dX7_lesser_11 rfl
-- X7_above: ('BarStepsModel', 'above', '(I)I')
def X7_above (a0 : Int32) : Option (Int32) := (if a0 = 0 then some (-1) else
  (if 3 ≤ a0 then (if a0 = 4 then some 2 else
  some 1) else
  some 0))
theorem okX7_above (G : JG) (x : Hs) (a0 : Int32) : ∀ r, X7_above a0 = some r → JC G yX7_above cX7_above 1 (some .int) (jR 1 0 0) 0 0 [.int a0] x ((some (.int r), x)) := by
  refine jc_of (own := RX7) (E := (fun r : Int32 => ((some (.int r), x) : JR))) (by decide) rfl rfl (Nat.le_of_ble_eq_true rfl) rfl ?_
  unfold X7_above
  refine j_iload_n 1 0 dX7_above_0 rfl rfl rfl ?_
  refine j_if_ne 8 4 dX7_above_1 (by decide) rfl ?_ ?_
  · refine j_iload_n 9 0 dX7_above_8 rfl rfl rfl ?_
    refine j_iconst (v := 3) 10 dX7_above_9 rfl ic_3 ?_
    refine j_icmp_ge 17 13 dX7_above_10 (by decide) rfl ?_ ?_
    · refine j_iload_n 18 0 dX7_above_17 rfl rfl rfl ?_
      refine j_iconst (v := 4) 19 dX7_above_18 rfl ic_4 ?_
      refine j_icmp_ne 26 22 dX7_above_19 (by decide) rfl ?_ ?_
      · refine j_iconst (v := 1) 27 dX7_above_26 rfl ic_1 ?_
        exact j_iret dX7_above_27 rfl
      · refine j_iconst (v := 2) 23 dX7_above_22 rfl ic_2 ?_
        refine j_goto 27 dX7_above_23 (by decide) ?_
        exact j_iret dX7_above_27 rfl
    · refine j_iconst (v := 0) 14 dX7_above_13 rfl ic_0 ?_
      refine j_goto 27 dX7_above_14 (by decide) ?_
      exact j_iret dX7_above_27 rfl
  · refine j_iconst (v := -1) 5 dX7_above_4 rfl ic_m1 ?_
    refine j_goto 27 dX7_above_5 (by decide) ?_
    exact j_iret dX7_above_27 rfl
-- X7_isUnder: ('BarStepsModel', 'isUnder', '(II)Z')
def X7_isUnder_J20 (l1 : Int32) (l2 : Int32) : Option (Int32) := (if l2 = l1 then (zb 1).bind fun v2 => some v2 else
  (zb 0).bind fun v1 => some v1)
theorem okX7_isUnder_J20 (G : JG) (x : Hs) : ∀ (l1 : Int32) (l2 : Int32), JM G RX7 cX7_isUnder 3 (jZ G (some .boolean) "isUnder" (jR 2 0 0) 0 0) (fun r : Int32 => ((some (.int r), x) : JR)) 20 [(1, .int l1), (2, .int l2)] [] x 0 0 (X7_isUnder_J20 l1 l2) := by
  intro l1 l2
  unfold X7_isUnder_J20
  refine j_iload_n 21 1 dX7_isUnder_20 rfl rfl rfl ?_
  refine j_iload_n 22 0 dX7_isUnder_21 rfl rfl rfl ?_
  refine j_icmp_ne 29 25 dX7_isUnder_22 (by decide) rfl ?_ ?_
  · refine j_iconst (v := 0) 30 dX7_isUnder_29 rfl ic_0 ?_
    exact j_zret dX7_isUnder_30 (fun _ => rfl)
  · refine j_iconst (v := 1) 26 dX7_isUnder_25 rfl ic_1 ?_
    refine j_goto 30 dX7_isUnder_26 (by decide) ?_
    exact j_zret dX7_isUnder_30 (fun _ => rfl)
def X7_isUnder_L2 : Nat → Int32 → Int32 → Option (Int32)
  | 0, _, _ => none
  | n + 1, l1, l2 => (if l2 = (-1) then X7_isUnder_J20 l1 l2 else
  (if l2 = l1 then X7_isUnder_J20 l1 l2 else
  (X7_above l2).bind fun v3 =>
  X7_isUnder_L2 n l1 v3))
theorem okX7_isUnder_L2 (G : JG) (x : Hs) : ∀ (n : Nat), ∀ (l1 : Int32) (l2 : Int32), JM G RX7 cX7_isUnder 3 (jZ G (some .boolean) "isUnder" (jR 2 0 0) 0 0) (fun r : Int32 => ((some (.int r), x) : JR)) 2 [(1, .int l1), (2, .int l2)] [] x 0 0 (X7_isUnder_L2 n l1 l2) := by
  intro n
  induction n with
  | zero => intro l1 l2; exact j_none
  | succ n ih =>
    intro l1 l2
    unfold X7_isUnder_L2
    refine j_iload_n 3 1 dX7_isUnder_2 rfl rfl rfl ?_
    refine j_iconst (v := -1) 4 dX7_isUnder_3 rfl ic_m1 ?_
    refine j_icmp_eq 20 7 dX7_isUnder_4 (by decide) rfl ?_ ?_
    · exact okX7_isUnder_J20 G x l1 l2
    · refine j_iload_n 8 1 dX7_isUnder_7 rfl rfl rfl ?_
      refine j_iload_n 9 0 dX7_isUnder_8 rfl rfl rfl ?_
      refine j_icmp_eq 20 12 dX7_isUnder_9 (by decide) rfl ?_ ?_
      · exact okX7_isUnder_J20 G x l1 l2
      · refine j_iload_n 13 1 dX7_isUnder_12 rfl rfl rfl ?_
        refine j_callS_i (As := [.int l2]) (st := []) 16 (okX7_above G x l2) kc_X7_above kl_X7_147 ks_X7_above ⟨rfl, rfl, Nat.le_of_ble_eq_true rfl, Nat.le_of_ble_eq_true rfl⟩ (Nat.le_of_ble_eq_true rfl) ⟨Nat.le_of_ble_eq_true rfl, Nat.le_of_ble_eq_true rfl⟩ rfl dX7_isUnder_13 rfl rfl ?_
        intro v3
        refine j_istore_n 17 [(2, .int v3), (1, .int l1)] dX7_isUnder_16 rfl rfl (by decide) rfl ?_
        refine j_goto 2 dX7_isUnder_17 (by decide) ?_
        refine j_sub [1, 0] rfl ?_
        exact ih l1 v3
def X7_isUnder (a0 : Int32) (a1 : Int32) : Option (Int32) := X7_isUnder_L2 fu a1 a0
theorem okX7_isUnder (G : JG) (x : Hs) (a0 : Int32) (a1 : Int32) : ∀ r, X7_isUnder a0 a1 = some r → JC G yX7_isUnder cX7_isUnder 3 (some .boolean) (jR 2 0 0) 0 0 [.int a0, .int a1] x ((some (.int r), x)) := by
  refine jc_of (own := RX7) (E := (fun r : Int32 => ((some (.int r), x) : JR))) (by decide) rfl rfl (Nat.le_of_ble_eq_true rfl) rfl ?_
  unfold X7_isUnder
  refine j_iload_n 1 0 dX7_isUnder_0 rfl rfl rfl ?_
  refine j_istore_n 2 [(2, .int a0), (0, .int a0), (1, .int a1)] dX7_isUnder_1 rfl rfl (by decide) rfl ?_
  refine j_sub [2, 0] rfl ?_
  exact okX7_isUnder_L2 G x fu a1 a0
-- X7_side: ('BarStepsModel', 'side', '(I)I')
def X7_side (a0 : Nat) (a1 : Int32) (x : Hs) : Option (Int32) := (vO x 6 a0).bind fun _ =>
  (gR x 6 a0 2).bind fun v1 =>
  (aI x v1 a1).bind fun v2 =>
  (gR x 6 a0 1).bind fun v3 =>
  (aI x v3 a1).bind fun v4 =>
  (if v4 = 1 then (o_idiv (v2 + 1) 2).bind fun v5 =>
  some v5 else
  (if v4 = 2 then some v2 else
  (if v4 = 3 then (o_idiv (v2 + 1) 2).bind fun v8 =>
  some v8 else
  (if v4 = 4 then some (10 - v2) else
  (if v4 = 5 then (o_idiv (v2 + 1) 2).bind fun v11 =>
  (J9_min_7cf53 2 v11).bind fun v12 =>
  some v12 else
  some v2)))))
theorem rvX7_side {a0 : Nat} {a1 : Int32} {x : Hs} {r : Int32} (h : X7_side a0 a1 x = some r) : ∃ fs, x.1 a0 = .inr (6, fs) := vO_bind h
theorem okX7_side (G : JG) (x : Hs) (a0 : Nat) (a1 : Int32) : ∀ r, X7_side a0 a1 x = some r → JC G yX7_side cX7_side 3 (some .int) (jR 2 0 0) 0 0 [.ref a0, .int a1] x ((some (.int r), x)) := by
  refine jc_of (own := RX7) (E := (fun r : Int32 => ((some (.int r), x) : JR))) (by decide) rfl rfl (Nat.le_of_ble_eq_true rfl) rfl ?_
  unfold X7_side
  refine j_chk ?_
  refine j_aload_n 1 0 dX7_side_0 rfl rfl rfl ?_
  refine j_gR 4 kf_X7_15 dX7_side_1 rfl ?_
  intro v1
  refine j_iload_n 5 1 dX7_side_4 rfl rfl rfl ?_
  refine j_aI 6 dX7_side_5 rfl ?_
  intro v2
  refine j_istore_n 7 [(2, .int v2), (0, .ref a0), (1, .int a1)] dX7_side_6 rfl rfl (by decide) rfl ?_
  refine j_aload_n 8 1 dX7_side_7 rfl rfl rfl ?_
  refine j_gR 11 kf_X7_11 dX7_side_8 rfl ?_
  intro v3
  refine j_iload_n 12 2 dX7_side_11 rfl rfl rfl ?_
  refine j_aI 13 dX7_side_12 rfl ?_
  intro v4
  refine j_ite (fun h6 => ?_) (fun h6 => ?_)
  · refine j_tinE (w := 1) 48 dX7_side_13 h6 (by decide) (by decide) rfl (by decide) ?_
    refine j_iload_n 49 0 dX7_side_48 rfl rfl rfl ?_
    refine j_iconst (v := 1) 50 dX7_side_49 rfl ic_1 ?_
    refine j_iadd 51 dX7_side_50 rfl ?_
    refine j_iconst (v := 2) 52 dX7_side_51 rfl ic_2 ?_
    refine j_idiv 53 dX7_side_52 rfl ?_
    intro v5
    exact j_iret dX7_side_53 rfl
  refine j_ite (fun h7 => ?_) (fun h7 => ?_)
  · refine j_tinE (w := 2) 69 dX7_side_13 h7 (by decide) (by decide) rfl (by decide) ?_
    refine j_iload_n 70 0 dX7_side_69 rfl rfl rfl ?_
    exact j_iret dX7_side_70 rfl
  refine j_ite (fun h9 => ?_) (fun h9 => ?_)
  · refine j_tinE (w := 3) 48 dX7_side_13 h9 (by decide) (by decide) rfl (by decide) ?_
    refine j_iload_n 49 0 dX7_side_48 rfl rfl rfl ?_
    refine j_iconst (v := 1) 50 dX7_side_49 rfl ic_1 ?_
    refine j_iadd 51 dX7_side_50 rfl ?_
    refine j_iconst (v := 2) 52 dX7_side_51 rfl ic_2 ?_
    refine j_idiv 53 dX7_side_52 rfl ?_
    intro v8
    exact j_iret dX7_side_53 rfl
  refine j_ite (fun h10 => ?_) (fun h10 => ?_)
  · refine j_tinE (w := 4) 54 dX7_side_13 h10 (by decide) (by decide) rfl (by decide) ?_
    refine j_bipush (v := 10) 56 dX7_side_54 rfl bc_10 ?_
    refine j_iload_n 57 0 dX7_side_56 rfl rfl rfl ?_
    refine j_isub 58 dX7_side_57 rfl ?_
    exact j_iret dX7_side_58 rfl
  refine j_ite (fun h13 => ?_) (fun h13 => ?_)
  · refine j_tinE (w := 5) 59 dX7_side_13 h13 (by decide) (by decide) rfl (by decide) ?_
    refine j_iconst (v := 2) 60 dX7_side_59 rfl ic_2 ?_
    refine j_iload_n 61 0 dX7_side_60 rfl rfl rfl ?_
    refine j_iconst (v := 1) 62 dX7_side_61 rfl ic_1 ?_
    refine j_iadd 63 dX7_side_62 rfl ?_
    refine j_iconst (v := 2) 64 dX7_side_63 rfl ic_2 ?_
    refine j_idiv 65 dX7_side_64 rfl ?_
    intro v11
    refine j_callS_i (As := [.int 2, .int v11]) (st := []) 68 (okJ9_min_7cf53 G x 2 v11) kc_J9_min_7cf53 kl_X7_151 ks_J9_min_7cf53 ⟨rfl, rfl, Nat.le_of_ble_eq_true rfl, Nat.le_of_ble_eq_true rfl⟩ (Nat.le_of_ble_eq_true rfl) ⟨Nat.le_of_ble_eq_true rfl, Nat.le_of_ble_eq_true rfl⟩ rfl dX7_side_65 rfl rfl ?_
    intro v12
    exact j_iret dX7_side_68 rfl
  have h6n := sw_ne h6
  have h7n := sw_ne h7
  have h9n := sw_ne h9
  have h10n := sw_ne h10
  have h13n := sw_ne h13
  have h6m : (Int32.toInt 1) = 1 := by decide
  have h7m : (Int32.toInt 2) = 2 := by decide
  have h9m : (Int32.toInt 3) = 3 := by decide
  have h10m : (Int32.toInt 4) = 4 := by decide
  have h13m : (Int32.toInt 5) = 5 := by decide
  refine j_tout 69 dX7_side_13 (by omega) (by decide) ?_
  refine j_iload_n 70 0 dX7_side_69 rfl rfl rfl ?_
  exact j_iret dX7_side_70 rfl
-- X7_holds: ('BarStepsModel', 'holds', '(I)I')
def X7_holds (a0 : Nat) (a1 : Int32) (x : Hs) : Option (Int32) := (vO x 6 a0).bind fun _ =>
  (gR x 6 a0 1).bind fun v1 =>
  (aI x v1 a1).bind fun v2 =>
  (X7_isUnder v2 2).bind fun v3 =>
  (if v3 = 0 then (gR x 6 a0 3).bind fun v4 =>
  (aI x v4 a1).bind fun v5 =>
  some v5 else
  (gR x 6 a0 3).bind fun v6 =>
  (aI x v6 a1).bind fun v7 =>
  some (2 * v7))
theorem rvX7_holds {a0 : Nat} {a1 : Int32} {x : Hs} {r : Int32} (h : X7_holds a0 a1 x = some r) : ∃ fs, x.1 a0 = .inr (6, fs) := vO_bind h
theorem okX7_holds (G : JG) (x : Hs) (a0 : Nat) (a1 : Int32) : ∀ r, X7_holds a0 a1 x = some r → JC G yX7_holds cX7_holds 2 (some .int) (jR 3 0 0) 0 0 [.ref a0, .int a1] x ((some (.int r), x)) := by
  refine jc_of (own := RX7) (E := (fun r : Int32 => ((some (.int r), x) : JR))) (by decide) rfl rfl (Nat.le_of_ble_eq_true rfl) rfl ?_
  unfold X7_holds
  refine j_chk ?_
  refine j_aload_n 1 0 dX7_holds_0 rfl rfl rfl ?_
  refine j_gR 4 kf_X7_11 dX7_holds_1 rfl ?_
  intro v1
  refine j_iload_n 5 1 dX7_holds_4 rfl rfl rfl ?_
  refine j_aI 6 dX7_holds_5 rfl ?_
  intro v2
  refine j_iconst (v := 2) 7 dX7_holds_6 rfl ic_2 ?_
  refine j_callS_i (As := [.int v2, .int 2]) (st := []) 10 (okX7_isUnder G x v2 2) kc_X7_isUnder kl_X7_155 ks_X7_isUnder ⟨rfl, rfl, Nat.le_of_ble_eq_true rfl, Nat.le_of_ble_eq_true rfl⟩ (Nat.le_of_ble_eq_true rfl) ⟨Nat.le_of_ble_eq_true rfl, Nat.le_of_ble_eq_true rfl⟩ rfl dX7_holds_7 rfl rfl ?_
  intro v3
  refine j_if_eq 24 13 dX7_holds_10 (by decide) rfl ?_ ?_
  · refine j_aload_n 25 0 dX7_holds_24 rfl rfl rfl ?_
    refine j_gR 28 kf_X7_18 dX7_holds_25 rfl ?_
    intro v4
    refine j_iload_n 29 1 dX7_holds_28 rfl rfl rfl ?_
    refine j_aI 30 dX7_holds_29 rfl ?_
    intro v5
    exact j_iret dX7_holds_30 rfl
  · refine j_iconst (v := 2) 14 dX7_holds_13 rfl ic_2 ?_
    refine j_aload_n 15 0 dX7_holds_14 rfl rfl rfl ?_
    refine j_gR 18 kf_X7_18 dX7_holds_15 rfl ?_
    intro v6
    refine j_iload_n 19 1 dX7_holds_18 rfl rfl rfl ?_
    refine j_aI 20 dX7_holds_19 rfl ?_
    intro v7
    refine j_imul 21 dX7_holds_20 rfl ?_
    refine j_goto 30 dX7_holds_21 (by decide) ?_
    exact j_iret dX7_holds_30 rfl
-- X7_fin: ('BarStepsModel', 'fin', '(I)I')
def X7_fin (a0 : Nat) (a1 : Int32) (x : Hs) : Option (Int32) := (vO x 6 a0).bind fun _ =>
  (gR x 6 a0 1).bind fun v1 =>
  (aI x v1 a1).bind fun v2 =>
  (if v2 = 3 then some 1 else
  some 0)
theorem rvX7_fin {a0 : Nat} {a1 : Int32} {x : Hs} {r : Int32} (h : X7_fin a0 a1 x = some r) : ∃ fs, x.1 a0 = .inr (6, fs) := vO_bind h
theorem okX7_fin (G : JG) (x : Hs) (a0 : Nat) (a1 : Int32) : ∀ r, X7_fin a0 a1 x = some r → JC G yX7_fin cX7_fin 2 (some .int) (jR 1 0 0) 0 0 [.ref a0, .int a1] x ((some (.int r), x)) := by
  refine jc_of (own := RX7) (E := (fun r : Int32 => ((some (.int r), x) : JR))) (by decide) rfl rfl (Nat.le_of_ble_eq_true rfl) rfl ?_
  unfold X7_fin
  refine j_chk ?_
  refine j_aload_n 1 0 dX7_fin_0 rfl rfl rfl ?_
  refine j_gR 4 kf_X7_11 dX7_fin_1 rfl ?_
  intro v1
  refine j_iload_n 5 1 dX7_fin_4 rfl rfl rfl ?_
  refine j_aI 6 dX7_fin_5 rfl ?_
  intro v2
  refine j_iconst (v := 3) 7 dX7_fin_6 rfl ic_3 ?_
  refine j_icmp_ne 14 10 dX7_fin_7 (by decide) rfl ?_ ?_
  · refine j_iconst (v := 0) 15 dX7_fin_14 rfl ic_0 ?_
    exact j_iret dX7_fin_15 rfl
  · refine j_iconst (v := 1) 11 dX7_fin_10 rfl ic_1 ?_
    refine j_goto 15 dX7_fin_11 (by decide) ?_
    exact j_iret dX7_fin_15 rfl
-- X7_made: ('BarStepsModel', 'made', '(I)I')
def X7_made_J61 (x : Hs) (l2 : Int32) (s0 : Int32) : Option (Int32) := (if l2 ≤ 2 then some s0 else
  some (((10 * s0) + l2) + 3))
theorem okX7_made_J61 (G : JG) (x : Hs) : ∀ (l2 : Int32) (s0 : Int32), JM G RX7 cX7_made 4 (jZ G (some .int) "made" (jR 3 0 0) 0 0) (fun r : Int32 => ((some (.int r), x) : JR)) 61 [(2, .int l2)] [.int s0] x 0 0 (X7_made_J61 x l2 s0) := by
  intro l2 s0
  unfold X7_made_J61
  refine j_istore_n 62 [(3, .int s0), (2, .int l2)] dX7_made_61 rfl rfl (by decide) rfl ?_
  refine j_iload_n 63 1 dX7_made_62 rfl rfl rfl ?_
  refine j_iconst (v := 2) 64 dX7_made_63 rfl ic_2 ?_
  refine j_icmp_le 78 67 dX7_made_64 (by decide) rfl ?_ ?_
  · refine j_iload_n 79 0 dX7_made_78 rfl rfl rfl ?_
    exact j_iret dX7_made_79 rfl
  · refine j_bipush (v := 10) 69 dX7_made_67 rfl bc_10 ?_
    refine j_iload_n 70 0 dX7_made_69 rfl rfl rfl ?_
    refine j_imul 71 dX7_made_70 rfl ?_
    refine j_iload_n 72 1 dX7_made_71 rfl rfl rfl ?_
    refine j_iadd 73 dX7_made_72 rfl ?_
    refine j_iconst (v := 3) 74 dX7_made_73 rfl ic_3 ?_
    refine j_iadd 75 dX7_made_74 rfl ?_
    refine j_goto 79 dX7_made_75 (by decide) ?_
    exact j_iret dX7_made_79 rfl
def X7_made_J25 (x : Hs) (l2 : Int32) (s0 : Int32) : Option (Int32) := (X7_isUnder l2 1).bind fun v5 =>
  (if v5 = 0 then (X7_isUnder l2 2).bind fun v6 =>
  (if v6 = 0 then X7_made_J61 x l2 s0 else
  X7_made_J61 x l2 ((10 * s0) + 5)) else
  X7_made_J61 x l2 ((10 * s0) + 4))
theorem okX7_made_J25 (G : JG) (x : Hs) : ∀ (l2 : Int32) (s0 : Int32), JM G RX7 cX7_made 4 (jZ G (some .int) "made" (jR 3 0 0) 0 0) (fun r : Int32 => ((some (.int r), x) : JR)) 25 [(2, .int l2)] [.int s0] x 0 0 (X7_made_J25 x l2 s0) := by
  intro l2 s0
  unfold X7_made_J25
  refine j_istore_n 26 [(3, .int s0), (2, .int l2)] dX7_made_25 rfl rfl (by decide) rfl ?_
  refine j_iload_n 27 1 dX7_made_26 rfl rfl rfl ?_
  refine j_iconst (v := 1) 28 dX7_made_27 rfl ic_1 ?_
  refine j_callS_i (As := [.int l2, .int 1]) (st := []) 31 (okX7_isUnder G x l2 1) kc_X7_isUnder kl_X7_155 ks_X7_isUnder ⟨rfl, rfl, Nat.le_of_ble_eq_true rfl, Nat.le_of_ble_eq_true rfl⟩ (Nat.le_of_ble_eq_true rfl) ⟨Nat.le_of_ble_eq_true rfl, Nat.le_of_ble_eq_true rfl⟩ rfl dX7_made_28 rfl rfl ?_
  intro v5
  refine j_if_eq 43 34 dX7_made_31 (by decide) rfl ?_ ?_
  · refine j_iload_n 44 1 dX7_made_43 rfl rfl rfl ?_
    refine j_iconst (v := 2) 45 dX7_made_44 rfl ic_2 ?_
    refine j_callS_i (As := [.int l2, .int 2]) (st := []) 48 (okX7_isUnder G x l2 2) kc_X7_isUnder kl_X7_155 ks_X7_isUnder ⟨rfl, rfl, Nat.le_of_ble_eq_true rfl, Nat.le_of_ble_eq_true rfl⟩ (Nat.le_of_ble_eq_true rfl) ⟨Nat.le_of_ble_eq_true rfl, Nat.le_of_ble_eq_true rfl⟩ rfl dX7_made_45 rfl rfl ?_
    intro v6
    refine j_if_eq 60 51 dX7_made_48 (by decide) rfl ?_ ?_
    · refine j_iload_n 61 0 dX7_made_60 rfl rfl rfl ?_
      refine j_sub [1] rfl ?_
      exact okX7_made_J61 G x l2 s0
    · refine j_bipush (v := 10) 53 dX7_made_51 rfl bc_10 ?_
      refine j_iload_n 54 0 dX7_made_53 rfl rfl rfl ?_
      refine j_imul 55 dX7_made_54 rfl ?_
      refine j_iconst (v := 5) 56 dX7_made_55 rfl ic_5 ?_
      refine j_iadd 57 dX7_made_56 rfl ?_
      refine j_goto 61 dX7_made_57 (by decide) ?_
      refine j_sub [1] rfl ?_
      exact okX7_made_J61 G x l2 ((10 * s0) + 5)
  · refine j_bipush (v := 10) 36 dX7_made_34 rfl bc_10 ?_
    refine j_iload_n 37 0 dX7_made_36 rfl rfl rfl ?_
    refine j_imul 38 dX7_made_37 rfl ?_
    refine j_iconst (v := 4) 39 dX7_made_38 rfl ic_4 ?_
    refine j_iadd 40 dX7_made_39 rfl ?_
    refine j_goto 61 dX7_made_40 (by decide) ?_
    refine j_sub [1] rfl ?_
    exact okX7_made_J61 G x l2 ((10 * s0) + 4)
def X7_made (a0 : Nat) (a1 : Int32) (x : Hs) : Option (Int32) := (vO x 6 a0).bind fun _ =>
  (gR x 6 a0 1).bind fun v1 =>
  (aI x v1 a1).bind fun v2 =>
  (gR x 6 a0 3).bind fun v3 =>
  (aI x v3 a1).bind fun v4 =>
  (if v4 = 1 then X7_made_J25 x v2 132 else
  X7_made_J25 x v2 13)
theorem rvX7_made {a0 : Nat} {a1 : Int32} {x : Hs} {r : Int32} (h : X7_made a0 a1 x = some r) : ∃ fs, x.1 a0 = .inr (6, fs) := vO_bind h
theorem okX7_made (G : JG) (x : Hs) (a0 : Nat) (a1 : Int32) : ∀ r, X7_made a0 a1 x = some r → JC G yX7_made cX7_made 4 (some .int) (jR 3 0 0) 0 0 [.ref a0, .int a1] x ((some (.int r), x)) := by
  refine jc_of (own := RX7) (E := (fun r : Int32 => ((some (.int r), x) : JR))) (by decide) rfl rfl (Nat.le_of_ble_eq_true rfl) rfl ?_
  unfold X7_made
  refine j_chk ?_
  refine j_aload_n 1 0 dX7_made_0 rfl rfl rfl ?_
  refine j_gR 4 kf_X7_11 dX7_made_1 rfl ?_
  intro v1
  refine j_iload_n 5 1 dX7_made_4 rfl rfl rfl ?_
  refine j_aI 6 dX7_made_5 rfl ?_
  intro v2
  refine j_istore_n 7 [(2, .int v2), (0, .ref a0), (1, .int a1)] dX7_made_6 rfl rfl (by decide) rfl ?_
  refine j_aload_n 8 1 dX7_made_7 rfl rfl rfl ?_
  refine j_gR 11 kf_X7_18 dX7_made_8 rfl ?_
  intro v3
  refine j_iload_n 12 2 dX7_made_11 rfl rfl rfl ?_
  refine j_aI 13 dX7_made_12 rfl ?_
  intro v4
  refine j_iconst (v := 1) 14 dX7_made_13 rfl ic_1 ?_
  refine j_icmp_ne 23 17 dX7_made_14 (by decide) rfl ?_ ?_
  · refine j_bipush (v := 13) 25 dX7_made_23 rfl bc_13 ?_
    refine j_sub [0] rfl ?_
    exact okX7_made_J25 G x v2 13
  · refine j_sipush (v := 132) 20 dX7_made_17 rfl sc_132 ?_
    refine j_goto 25 dX7_made_20 (by decide) ?_
    refine j_sub [0] rfl ?_
    exact okX7_made_J25 G x v2 132
-- X7_shorten: ('BarStepsModel', 'shorten', '()V')
def X7_shorten_L44 : Nat → Nat → Int64 → Int32 → Hs → Option (Hs)
  | 0, _, _, _, _ => none
  | n + 1, l0, l1, l3, x => (gI x 6 l0 0).bind fun v6 =>
  (if v6 ≤ l3 then some x else
  (gR x 6 l0 5).bind fun v7 =>
  (aL x v7 l3).bind fun v8 =>
  (o_ldiv v8 l1).bind fun v9 =>
  (wL x v7 l3 v9).bind fun y10 =>
  X7_shorten_L44 n l0 l1 (l3 + 1) y10)
theorem okX7_shorten_L44 (G : JG) : ∀ (n : Nat), ∀ (l0 : Nat) (l1 : Int64) (l3 : Int32) (x : Hs), JM G RX7 cX7_shorten 4 (jZ G (none) "shorten" (jR 3 0 0) 0 0) (fun r : Hs => ((none, r) : JR)) 44 [(0, .ref l0), (1, .long l1), (3, .int l3)] [] x 0 0 (X7_shorten_L44 n l0 l1 l3 x) := by
  intro n
  induction n with
  | zero => intro l0 l1 l3 x; exact j_none
  | succ n ih =>
    intro l0 l1 l3 x
    unfold X7_shorten_L44
    refine j_iload_n 45 2 dX7_shorten_44 rfl rfl rfl ?_
    refine j_aload_n 46 0 dX7_shorten_45 rfl rfl rfl ?_
    refine j_gI 49 kf_X7_129 dX7_shorten_46 rfl ?_
    intro v6
    refine j_icmp_ge 68 52 dX7_shorten_49 (by decide) rfl ?_ ?_
    · exact j_vret dX7_shorten_68 rfl
    · refine j_aload_n 53 0 dX7_shorten_52 rfl rfl rfl ?_
      refine j_gR 56 kf_X7_24 dX7_shorten_53 rfl ?_
      intro v7
      refine j_iload_n 57 2 dX7_shorten_56 rfl rfl rfl ?_
      refine j_dup2_11 58 dX7_shorten_57 rfl rfl rfl ?_
      refine j_aL 59 dX7_shorten_58 rfl ?_
      intro v8
      refine j_lload_n 60 1 dX7_shorten_59 rfl rfl rfl ?_
      refine j_ldiv 61 dX7_shorten_60 rfl ?_
      intro v9
      refine j_wL 62 dX7_shorten_61 rfl ?_
      intro y10
      refine j_iinc 65 2 [(3, .int (l3 + 1)), (0, .ref l0), (1, .long l1)] dX7_shorten_62 rfl rfl (ii_1 _) (by decide) rfl ?_
      refine j_goto 44 dX7_shorten_65 (by decide) ?_
      refine j_sub [1, 2, 0] rfl ?_
      exact ih l0 l1 (l3 + 1) y10
def X7_shorten_L7 : Nat → Nat → Int64 → Int32 → Hs → Option (Hs)
  | 0, _, _, _, _ => none
  | n + 1, l0, l1, l3, x => (gI x 6 l0 0).bind fun v2 =>
  (if v2 ≤ l3 then (gL x 6 l0 6).bind fun v3 =>
  (o_ldiv v3 l1).bind fun v4 =>
  (pV x 6 l0 6 (.long v4)).bind fun y5 =>
  X7_shorten_L44 fu l0 l1 0 y5 else
  (gR x 6 l0 5).bind fun v11 =>
  (aL x v11 l3).bind fun v12 =>
  (X7_divisor v12 l1).bind fun v13 =>
  X7_shorten_L7 n l0 v13 (l3 + 1) x)
theorem okX7_shorten_L7 (G : JG) : ∀ (n : Nat), ∀ (l0 : Nat) (l1 : Int64) (l3 : Int32) (x : Hs), JM G RX7 cX7_shorten 4 (jZ G (none) "shorten" (jR 3 0 0) 0 0) (fun r : Hs => ((none, r) : JR)) 7 [(0, .ref l0), (1, .long l1), (3, .int l3)] [] x 0 0 (X7_shorten_L7 n l0 l1 l3 x) := by
  intro n
  induction n with
  | zero => intro l0 l1 l3 x; exact j_none
  | succ n ih =>
    intro l0 l1 l3 x
    unfold X7_shorten_L7
    refine j_iload_n 8 2 dX7_shorten_7 rfl rfl rfl ?_
    refine j_aload_n 9 0 dX7_shorten_8 rfl rfl rfl ?_
    refine j_gI 12 kf_X7_129 dX7_shorten_9 rfl ?_
    intro v2
    refine j_icmp_ge 32 15 dX7_shorten_12 (by decide) rfl ?_ ?_
    · refine j_aload_n 33 0 dX7_shorten_32 rfl rfl rfl ?_
      refine j_dup 34 dX7_shorten_33 rfl rfl ?_
      refine j_gL 37 kf_X7_28 dX7_shorten_34 rfl ?_
      intro v3
      refine j_lload_n 38 1 dX7_shorten_37 rfl rfl rfl ?_
      refine j_ldiv 39 dX7_shorten_38 rfl ?_
      intro v4
      refine j_put 42 kf_X7_28 dX7_shorten_39 rfl rfl rfl ?_
      intro y5
      refine j_iconst (v := 0) 43 dX7_shorten_42 rfl ic_0 ?_
      refine j_istore_n 44 [(3, .int 0), (0, .ref l0), (1, .long l1)] dX7_shorten_43 rfl rfl (by decide) rfl ?_
      refine j_sub [1, 2, 0] rfl ?_
      exact okX7_shorten_L44 G fu l0 l1 0 y5
    · refine j_aload_n 16 0 dX7_shorten_15 rfl rfl rfl ?_
      refine j_gR 19 kf_X7_24 dX7_shorten_16 rfl ?_
      intro v11
      refine j_iload_n 20 2 dX7_shorten_19 rfl rfl rfl ?_
      refine j_aL 21 dX7_shorten_20 rfl ?_
      intro v12
      refine j_lload_n 22 1 dX7_shorten_21 rfl rfl rfl ?_
      refine j_callS_l (As := [.long v12, .long l1]) (st := []) 25 (okX7_divisor G x v12 l1) kc_X7_divisor kl_X7_143 ks_X7_divisor ⟨rfl, rfl, Nat.le_of_ble_eq_true rfl, Nat.le_of_ble_eq_true rfl⟩ (Nat.le_of_ble_eq_true rfl) ⟨Nat.le_of_ble_eq_true rfl, Nat.le_of_ble_eq_true rfl⟩ rfl dX7_shorten_22 rfl rfl ?_
      intro v13
      refine j_lstore_n 26 [(1, .long v13), (0, .ref l0), (3, .int l3)] dX7_shorten_25 rfl rfl (by decide) rfl ?_
      refine j_iinc 29 2 [(3, .int (l3 + 1)), (1, .long v13), (0, .ref l0)] dX7_shorten_26 rfl rfl (ii_1 _) (by decide) rfl ?_
      refine j_goto 7 dX7_shorten_29 (by decide) ?_
      refine j_sub [2, 1, 0] rfl ?_
      exact ih l0 v13 (l3 + 1) x
def X7_shorten (a0 : Nat) (x : Hs) : Option (Hs) := (vO x 6 a0).bind fun _ =>
  (gL x 6 a0 6).bind fun v1 =>
  X7_shorten_L7 fu a0 v1 0 x
theorem rvX7_shorten {a0 : Nat} {x : Hs} {r : Hs} (h : X7_shorten a0 x = some r) : ∃ fs, x.1 a0 = .inr (6, fs) := vO_bind h
theorem okX7_shorten (G : JG) (x : Hs) (a0 : Nat) : ∀ r, X7_shorten a0 x = some r → JC G yX7_shorten cX7_shorten 4 (none) (jR 3 0 0) 0 0 [.ref a0] x ((none, r)) := by
  refine jc_of (own := RX7) (E := (fun r : Hs => ((none, r) : JR))) (by decide) rfl rfl (Nat.le_of_ble_eq_true rfl) rfl ?_
  unfold X7_shorten
  refine j_chk ?_
  refine j_aload_n 1 0 dX7_shorten_0 rfl rfl rfl ?_
  refine j_gL 4 kf_X7_28 dX7_shorten_1 rfl ?_
  intro v1
  refine j_lstore_n 5 [(1, .long v1), (0, .ref a0)] dX7_shorten_4 rfl rfl (by decide) rfl ?_
  refine j_iconst (v := 0) 6 dX7_shorten_5 rfl ic_0 ?_
  refine j_istore_n 7 [(3, .int 0), (1, .long v1), (0, .ref a0)] dX7_shorten_6 rfl rfl (by decide) rfl ?_
  refine j_sub [2, 1, 0] rfl ?_
  exact okX7_shorten_L7 G fu a0 v1 0 x
-- X7_isMade: ('BarStepsModel', 'isMade', '(III)Z')
def X7_isMade (a0 : Int32) (a1 : Int32) (a2 : Int32) : Option (Int32) := (X7_isIn (Int32.toInt64 a0) 0 5).bind fun v1 =>
  (if v1 = 0 then (zb 0).bind fun v2 => some v2 else
  (X7_isIn (Int32.toInt64 a1) 1 9).bind fun v3 =>
  (if v3 = 0 then (zb 0).bind fun v4 => some v4 else
  (X7_isIn (Int32.toInt64 a2) 1 4).bind fun v5 =>
  (if v5 = 0 then (zb 0).bind fun v6 => some v6 else
  (zb 1).bind fun v7 => some v7)))
theorem okX7_isMade (G : JG) (x : Hs) (a0 : Int32) (a1 : Int32) (a2 : Int32) : ∀ r, X7_isMade a0 a1 a2 = some r → JC G yX7_isMade cX7_isMade 3 (some .boolean) (jR 2 0 0) 0 0 [.int a0, .int a1, .int a2] x ((some (.int r), x)) := by
  refine jc_of (own := RX7) (E := (fun r : Int32 => ((some (.int r), x) : JR))) (by decide) rfl rfl (Nat.le_of_ble_eq_true rfl) rfl ?_
  unfold X7_isMade
  refine j_iload_n 1 0 dX7_isMade_0 rfl rfl rfl ?_
  refine j_i2l 2 dX7_isMade_1 rfl ?_
  refine j_lconst (v := 0) 3 dX7_isMade_2 rfl lc_0 ?_
  refine j_ldc2 6 kk_X7_159 dX7_isMade_3 rfl ?_
  refine j_callS_i (As := [.long (Int32.toInt64 a0), .long 0, .long 5]) (st := []) 9 (okX7_isIn G x (Int32.toInt64 a0) 0 5) kc_X7_isIn kl_X7_133 ks_X7_isIn ⟨rfl, rfl, Nat.le_of_ble_eq_true rfl, Nat.le_of_ble_eq_true rfl⟩ (Nat.le_of_ble_eq_true rfl) ⟨Nat.le_of_ble_eq_true rfl, Nat.le_of_ble_eq_true rfl⟩ rfl dX7_isMade_6 rfl rfl ?_
  intro v1
  refine j_if_eq 40 12 dX7_isMade_9 (by decide) rfl ?_ ?_
  · refine j_iconst (v := 0) 41 dX7_isMade_40 rfl ic_0 ?_
    exact j_zret dX7_isMade_41 (fun _ => rfl)
  · refine j_iload_n 13 1 dX7_isMade_12 rfl rfl rfl ?_
    refine j_i2l 14 dX7_isMade_13 rfl ?_
    refine j_lconst (v := 1) 15 dX7_isMade_14 rfl lc_1 ?_
    refine j_ldc2 18 kk_X7_161 dX7_isMade_15 rfl ?_
    refine j_callS_i (As := [.long (Int32.toInt64 a1), .long 1, .long 9]) (st := []) 21 (okX7_isIn G x (Int32.toInt64 a1) 1 9) kc_X7_isIn kl_X7_133 ks_X7_isIn ⟨rfl, rfl, Nat.le_of_ble_eq_true rfl, Nat.le_of_ble_eq_true rfl⟩ (Nat.le_of_ble_eq_true rfl) ⟨Nat.le_of_ble_eq_true rfl, Nat.le_of_ble_eq_true rfl⟩ rfl dX7_isMade_18 rfl rfl ?_
    intro v3
    refine j_if_eq 40 24 dX7_isMade_21 (by decide) rfl ?_ ?_
    · refine j_iconst (v := 0) 41 dX7_isMade_40 rfl ic_0 ?_
      exact j_zret dX7_isMade_41 (fun _ => rfl)
    · refine j_iload_n 25 2 dX7_isMade_24 rfl rfl rfl ?_
      refine j_i2l 26 dX7_isMade_25 rfl ?_
      refine j_lconst (v := 1) 27 dX7_isMade_26 rfl lc_1 ?_
      refine j_ldc2 30 kk_X7_163 dX7_isMade_27 rfl ?_
      refine j_callS_i (As := [.long (Int32.toInt64 a2), .long 1, .long 4]) (st := []) 33 (okX7_isIn G x (Int32.toInt64 a2) 1 4) kc_X7_isIn kl_X7_133 ks_X7_isIn ⟨rfl, rfl, Nat.le_of_ble_eq_true rfl, Nat.le_of_ble_eq_true rfl⟩ (Nat.le_of_ble_eq_true rfl) ⟨Nat.le_of_ble_eq_true rfl, Nat.le_of_ble_eq_true rfl⟩ rfl dX7_isMade_30 rfl rfl ?_
      intro v5
      refine j_if_eq 40 36 dX7_isMade_33 (by decide) rfl ?_ ?_
      · refine j_iconst (v := 0) 41 dX7_isMade_40 rfl ic_0 ?_
        exact j_zret dX7_isMade_41 (fun _ => rfl)
      · refine j_iconst (v := 1) 37 dX7_isMade_36 rfl ic_1 ?_
        refine j_goto 41 dX7_isMade_37 (by decide) ?_
        exact j_zret dX7_isMade_41 (fun _ => rfl)
-- X7_cell: ('BarStepsModel', 'cell', '(IIII)I')
def X7_cell (a0 : Nat) (a1 : Int32) (a2 : Int32) (a3 : Int32) (a4 : Int32) (x : Hs) : Option (Int32 × Hs) := (vO x 6 a0).bind fun _ =>
  (X7_isMade a1 a2 a3).bind fun v1 =>
  (if v1 = 0 then some ((-2), x) else
  (X7_isIn (Int32.toInt64 a4) 0 999).bind fun v2 =>
  (if v2 = 0 then some ((-2), x) else
  (gI x 6 a0 0).bind fun v3 =>
  (if v3 = 8 then some ((-4), x) else
  (gR x 6 a0 1).bind fun v4 =>
  (gI x 6 a0 0).bind fun v5 =>
  (wI x v4 v5 a1).bind fun y6 =>
  (gR y6 6 a0 2).bind fun v7 =>
  (gI y6 6 a0 0).bind fun v8 =>
  (wI y6 v7 v8 a2).bind fun y9 =>
  (gR y9 6 a0 3).bind fun v10 =>
  (gI y9 6 a0 0).bind fun v11 =>
  (wI y9 v10 v11 a3).bind fun y12 =>
  (gR y12 6 a0 4).bind fun v13 =>
  (gI y12 6 a0 0).bind fun v14 =>
  (wI y12 v13 v14 0).bind fun y15 =>
  (gR y15 6 a0 5).bind fun v16 =>
  (gI y15 6 a0 0).bind fun v17 =>
  (gL y15 6 a0 6).bind fun v18 =>
  (wL y15 v16 v17 ((Int32.toInt64 a4) * v18)).bind fun y19 =>
  (gI y19 6 a0 0).bind fun v20 =>
  (pV y19 6 a0 0 (.int (v20 + 1))).bind fun y21 =>
  (gI y21 6 a0 0).bind fun v22 =>
  some ((v22 - 1), y21))))
theorem rvX7_cell {a0 : Nat} {a1 : Int32} {a2 : Int32} {a3 : Int32} {a4 : Int32} {x : Hs} {r : Int32 × Hs} (h : X7_cell a0 a1 a2 a3 a4 x = some r) : ∃ fs, x.1 a0 = .inr (6, fs) := vO_bind h
theorem okX7_cell (G : JG) (x : Hs) (a0 : Nat) (a1 : Int32) (a2 : Int32) (a3 : Int32) (a4 : Int32) : ∀ r, X7_cell a0 a1 a2 a3 a4 x = some r → JC G yX7_cell cX7_cell 5 (some .int) (jR 3 0 0) 0 0 [.ref a0, .int a1, .int a2, .int a3, .int a4] x ((some (.int r.1), r.2)) := by
  refine jc_of (own := RX7) (E := (fun r : Int32 × Hs => ((some (.int r.1), r.2) : JR))) (by decide) rfl rfl (Nat.le_of_ble_eq_true rfl) rfl ?_
  unfold X7_cell
  refine j_chk ?_
  refine j_iload_n 1 1 dX7_cell_0 rfl rfl rfl ?_
  refine j_iload_n 2 2 dX7_cell_1 rfl rfl rfl ?_
  refine j_iload_n 3 3 dX7_cell_2 rfl rfl rfl ?_
  refine j_callS_i (As := [.int a1, .int a2, .int a3]) (st := []) 6 (okX7_isMade G x a1 a2 a3) kc_X7_isMade kl_X7_165 ks_X7_isMade ⟨rfl, rfl, Nat.le_of_ble_eq_true rfl, Nat.le_of_ble_eq_true rfl⟩ (Nat.le_of_ble_eq_true rfl) ⟨Nat.le_of_ble_eq_true rfl, Nat.le_of_ble_eq_true rfl⟩ rfl dX7_cell_3 rfl rfl ?_
  intro v1
  refine j_if_eq 22 9 dX7_cell_6 (by decide) rfl ?_ ?_
  · refine j_bipush (v := -2) 24 dX7_cell_22 rfl bc_m2 ?_
    exact j_iret dX7_cell_24 rfl
  · refine j_iload 11 4 dX7_cell_9 rfl rfl ?_
    refine j_i2l 12 dX7_cell_11 rfl ?_
    refine j_lconst (v := 0) 13 dX7_cell_12 rfl lc_0 ?_
    refine j_ldc2 16 kk_X7_169 dX7_cell_13 rfl ?_
    refine j_callS_i (As := [.long (Int32.toInt64 a4), .long 0, .long 999]) (st := []) 19 (okX7_isIn G x (Int32.toInt64 a4) 0 999) kc_X7_isIn kl_X7_133 ks_X7_isIn ⟨rfl, rfl, Nat.le_of_ble_eq_true rfl, Nat.le_of_ble_eq_true rfl⟩ (Nat.le_of_ble_eq_true rfl) ⟨Nat.le_of_ble_eq_true rfl, Nat.le_of_ble_eq_true rfl⟩ rfl dX7_cell_16 rfl rfl ?_
    intro v2
    refine j_if_ne 25 22 dX7_cell_19 (by decide) rfl ?_ ?_
    · refine j_aload_n 26 0 dX7_cell_25 rfl rfl rfl ?_
      refine j_gI 29 kf_X7_129 dX7_cell_26 rfl ?_
      intro v3
      refine j_bipush (v := 8) 31 dX7_cell_29 rfl bc_8 ?_
      refine j_icmp_ne 37 34 dX7_cell_31 (by decide) rfl ?_ ?_
      · refine j_aload_n 38 0 dX7_cell_37 rfl rfl rfl ?_
        refine j_gR 41 kf_X7_11 dX7_cell_38 rfl ?_
        intro v4
        refine j_aload_n 42 0 dX7_cell_41 rfl rfl rfl ?_
        refine j_gI 45 kf_X7_129 dX7_cell_42 rfl ?_
        intro v5
        refine j_iload_n 46 1 dX7_cell_45 rfl rfl rfl ?_
        refine j_wI 47 dX7_cell_46 rfl ?_
        intro y6
        refine j_aload_n 48 0 dX7_cell_47 rfl rfl rfl ?_
        refine j_gR 51 kf_X7_15 dX7_cell_48 rfl ?_
        intro v7
        refine j_aload_n 52 0 dX7_cell_51 rfl rfl rfl ?_
        refine j_gI 55 kf_X7_129 dX7_cell_52 rfl ?_
        intro v8
        refine j_iload_n 56 2 dX7_cell_55 rfl rfl rfl ?_
        refine j_wI 57 dX7_cell_56 rfl ?_
        intro y9
        refine j_aload_n 58 0 dX7_cell_57 rfl rfl rfl ?_
        refine j_gR 61 kf_X7_18 dX7_cell_58 rfl ?_
        intro v10
        refine j_aload_n 62 0 dX7_cell_61 rfl rfl rfl ?_
        refine j_gI 65 kf_X7_129 dX7_cell_62 rfl ?_
        intro v11
        refine j_iload_n 66 3 dX7_cell_65 rfl rfl rfl ?_
        refine j_wI 67 dX7_cell_66 rfl ?_
        intro y12
        refine j_aload_n 68 0 dX7_cell_67 rfl rfl rfl ?_
        refine j_gR 71 kf_X7_21 dX7_cell_68 rfl ?_
        intro v13
        refine j_aload_n 72 0 dX7_cell_71 rfl rfl rfl ?_
        refine j_gI 75 kf_X7_129 dX7_cell_72 rfl ?_
        intro v14
        refine j_iconst (v := 0) 76 dX7_cell_75 rfl ic_0 ?_
        refine j_wI 77 dX7_cell_76 rfl ?_
        intro y15
        refine j_aload_n 78 0 dX7_cell_77 rfl rfl rfl ?_
        refine j_gR 81 kf_X7_24 dX7_cell_78 rfl ?_
        intro v16
        refine j_aload_n 82 0 dX7_cell_81 rfl rfl rfl ?_
        refine j_gI 85 kf_X7_129 dX7_cell_82 rfl ?_
        intro v17
        refine j_iload 87 4 dX7_cell_85 rfl rfl ?_
        refine j_i2l 88 dX7_cell_87 rfl ?_
        refine j_aload_n 89 0 dX7_cell_88 rfl rfl rfl ?_
        refine j_gL 92 kf_X7_28 dX7_cell_89 rfl ?_
        intro v18
        refine j_lmul 93 dX7_cell_92 rfl ?_
        refine j_wL 94 dX7_cell_93 rfl ?_
        intro y19
        refine j_aload_n 95 0 dX7_cell_94 rfl rfl rfl ?_
        refine j_dup 96 dX7_cell_95 rfl rfl ?_
        refine j_gI 99 kf_X7_129 dX7_cell_96 rfl ?_
        intro v20
        refine j_iconst (v := 1) 100 dX7_cell_99 rfl ic_1 ?_
        refine j_iadd 101 dX7_cell_100 rfl ?_
        refine j_put 104 kf_X7_129 dX7_cell_101 rfl rfl rfl ?_
        intro y21
        refine j_aload_n 105 0 dX7_cell_104 rfl rfl rfl ?_
        refine j_gI 108 kf_X7_129 dX7_cell_105 rfl ?_
        intro v22
        refine j_iconst (v := 1) 109 dX7_cell_108 rfl ic_1 ?_
        refine j_isub 110 dX7_cell_109 rfl ?_
        exact j_iret dX7_cell_110 rfl
      · refine j_bipush (v := -4) 36 dX7_cell_34 rfl bc_m4 ?_
        exact j_iret dX7_cell_36 rfl
    · refine j_bipush (v := -2) 24 dX7_cell_22 rfl bc_m2 ?_
      exact j_iret dX7_cell_24 rfl
-- X7_hushed: ('BarStepsModel', 'hushed', '(I)I')
def X7_hushed_L4 : Nat → Nat → Int32 → Int32 → Int32 → Hs → Option (Int32 × Hs)
  | 0, _, _, _, _, _ => none
  | n + 1, l0, l1, l2, l3, x => (gI x 6 l0 9).bind fun v1 =>
  (if v1 ≤ l3 then (gI x 6 l0 9).bind fun v2 =>
  (pV x 6 l0 9 (.int l2)).bind fun y3 =>
  some ((v2 - l2), y3) else
  (gR x 6 l0 10).bind fun v4 =>
  (aI x v4 l3).bind fun v5 =>
  (if v5 = l1 then X7_hushed_L4 n l0 l1 l2 (l3 + 1) x else
  (gR x 6 l0 10).bind fun v6 =>
  (gR x 6 l0 10).bind fun v7 =>
  (aI x v7 l3).bind fun v8 =>
  (wI x v6 l2 v8).bind fun y9 =>
  (gR y9 6 l0 11).bind fun v10 =>
  (gR y9 6 l0 11).bind fun v11 =>
  (aI y9 v11 l3).bind fun v12 =>
  (wI y9 v10 l2 v12).bind fun y13 =>
  (gR y13 6 l0 12).bind fun v14 =>
  (gR y13 6 l0 12).bind fun v15 =>
  (aI y13 v15 l3).bind fun v16 =>
  (wI y13 v14 l2 v16).bind fun y17 =>
  X7_hushed_L4 n l0 l1 (l2 + 1) (l3 + 1) y17))
theorem okX7_hushed_L4 (G : JG) : ∀ (n : Nat), ∀ (l0 : Nat) (l1 : Int32) (l2 : Int32) (l3 : Int32) (x : Hs), JM G RX7 cX7_hushed 4 (jZ G (some .int) "hushed" (jR 1 0 0) 0 0) (fun r : Int32 × Hs => ((some (.int r.1), r.2) : JR)) 4 [(0, .ref l0), (1, .int l1), (2, .int l2), (3, .int l3)] [] x 0 0 (X7_hushed_L4 n l0 l1 l2 l3 x) := by
  intro n
  induction n with
  | zero => intro l0 l1 l2 l3 x; exact j_none
  | succ n ih =>
    intro l0 l1 l2 l3 x
    unfold X7_hushed_L4
    refine j_iload_n 5 3 dX7_hushed_4 rfl rfl rfl ?_
    refine j_aload_n 6 0 dX7_hushed_5 rfl rfl rfl ?_
    refine j_gI 9 kf_X7_210 dX7_hushed_6 rfl ?_
    intro v1
    refine j_icmp_ge 67 12 dX7_hushed_9 (by decide) rfl ?_ ?_
    · refine j_aload_n 68 0 dX7_hushed_67 rfl rfl rfl ?_
      refine j_gI 71 kf_X7_210 dX7_hushed_68 rfl ?_
      intro v2
      refine j_iload_n 72 2 dX7_hushed_71 rfl rfl rfl ?_
      refine j_isub 73 dX7_hushed_72 rfl ?_
      refine j_istore_n 74 [(3, .int (v2 - l2)), (0, .ref l0), (1, .int l1), (2, .int l2)] dX7_hushed_73 rfl rfl (by decide) rfl ?_
      refine j_aload_n 75 1 dX7_hushed_74 rfl rfl rfl ?_
      refine j_iload_n 76 3 dX7_hushed_75 rfl rfl rfl ?_
      refine j_put 79 kf_X7_210 dX7_hushed_76 rfl rfl rfl ?_
      intro y3
      refine j_iload_n 80 0 dX7_hushed_79 rfl rfl rfl ?_
      exact j_iret dX7_hushed_80 rfl
    · refine j_aload_n 13 0 dX7_hushed_12 rfl rfl rfl ?_
      refine j_gR 16 kf_X7_38 dX7_hushed_13 rfl ?_
      intro v4
      refine j_iload_n 17 3 dX7_hushed_16 rfl rfl rfl ?_
      refine j_aI 18 dX7_hushed_17 rfl ?_
      intro v5
      refine j_iload_n 19 1 dX7_hushed_18 rfl rfl rfl ?_
      refine j_icmp_eq 61 22 dX7_hushed_19 (by decide) rfl ?_ ?_
      · refine j_iinc 64 3 [(3, .int (l3 + 1)), (0, .ref l0), (1, .int l1), (2, .int l2)] dX7_hushed_61 rfl rfl (ii_1 _) (by decide) rfl ?_
        refine j_goto 4 dX7_hushed_64 (by decide) ?_
        refine j_sub [1, 2, 3, 0] rfl ?_
        exact ih l0 l1 l2 (l3 + 1) x
      · refine j_aload_n 23 0 dX7_hushed_22 rfl rfl rfl ?_
        refine j_gR 26 kf_X7_38 dX7_hushed_23 rfl ?_
        intro v6
        refine j_iload_n 27 2 dX7_hushed_26 rfl rfl rfl ?_
        refine j_aload_n 28 0 dX7_hushed_27 rfl rfl rfl ?_
        refine j_gR 31 kf_X7_38 dX7_hushed_28 rfl ?_
        intro v7
        refine j_iload_n 32 3 dX7_hushed_31 rfl rfl rfl ?_
        refine j_aI 33 dX7_hushed_32 rfl ?_
        intro v8
        refine j_wI 34 dX7_hushed_33 rfl ?_
        intro y9
        refine j_aload_n 35 0 dX7_hushed_34 rfl rfl rfl ?_
        refine j_gR 38 kf_X7_41 dX7_hushed_35 rfl ?_
        intro v10
        refine j_iload_n 39 2 dX7_hushed_38 rfl rfl rfl ?_
        refine j_aload_n 40 0 dX7_hushed_39 rfl rfl rfl ?_
        refine j_gR 43 kf_X7_41 dX7_hushed_40 rfl ?_
        intro v11
        refine j_iload_n 44 3 dX7_hushed_43 rfl rfl rfl ?_
        refine j_aI 45 dX7_hushed_44 rfl ?_
        intro v12
        refine j_wI 46 dX7_hushed_45 rfl ?_
        intro y13
        refine j_aload_n 47 0 dX7_hushed_46 rfl rfl rfl ?_
        refine j_gR 50 kf_X7_44 dX7_hushed_47 rfl ?_
        intro v14
        refine j_iload_n 51 2 dX7_hushed_50 rfl rfl rfl ?_
        refine j_aload_n 52 0 dX7_hushed_51 rfl rfl rfl ?_
        refine j_gR 55 kf_X7_44 dX7_hushed_52 rfl ?_
        intro v15
        refine j_iload_n 56 3 dX7_hushed_55 rfl rfl rfl ?_
        refine j_aI 57 dX7_hushed_56 rfl ?_
        intro v16
        refine j_wI 58 dX7_hushed_57 rfl ?_
        intro y17
        refine j_iinc 61 2 [(2, .int (l2 + 1)), (0, .ref l0), (1, .int l1), (3, .int l3)] dX7_hushed_58 rfl rfl (ii_1 _) (by decide) rfl ?_
        refine j_iinc 64 3 [(3, .int (l3 + 1)), (2, .int (l2 + 1)), (0, .ref l0), (1, .int l1)] dX7_hushed_61 rfl rfl (ii_1 _) (by decide) rfl ?_
        refine j_goto 4 dX7_hushed_64 (by decide) ?_
        refine j_sub [2, 3, 1, 0] rfl ?_
        exact ih l0 l1 (l2 + 1) (l3 + 1) y17
def X7_hushed (a0 : Nat) (a1 : Int32) (x : Hs) : Option (Int32 × Hs) := (vO x 6 a0).bind fun _ =>
  X7_hushed_L4 fu a0 a1 0 0 x
theorem rvX7_hushed {a0 : Nat} {a1 : Int32} {x : Hs} {r : Int32 × Hs} (h : X7_hushed a0 a1 x = some r) : ∃ fs, x.1 a0 = .inr (6, fs) := vO_bind h
theorem okX7_hushed (G : JG) (x : Hs) (a0 : Nat) (a1 : Int32) : ∀ r, X7_hushed a0 a1 x = some r → JC G yX7_hushed cX7_hushed 4 (some .int) (jR 1 0 0) 0 0 [.ref a0, .int a1] x ((some (.int r.1), r.2)) := by
  refine jc_of (own := RX7) (E := (fun r : Int32 × Hs => ((some (.int r.1), r.2) : JR))) (by decide) rfl rfl (Nat.le_of_ble_eq_true rfl) rfl ?_
  unfold X7_hushed
  refine j_chk ?_
  refine j_iconst (v := 0) 1 dX7_hushed_0 rfl ic_0 ?_
  refine j_istore_n 2 [(2, .int 0), (0, .ref a0), (1, .int a1)] dX7_hushed_1 rfl rfl (by decide) rfl ?_
  refine j_iconst (v := 0) 3 dX7_hushed_2 rfl ic_0 ?_
  refine j_istore_n 4 [(3, .int 0), (2, .int 0), (0, .ref a0), (1, .int a1)] dX7_hushed_3 rfl rfl (by decide) rfl ?_
  refine j_sub [2, 3, 1, 0] rfl ?_
  exact okX7_hushed_L4 G fu a0 a1 0 0 x
-- X7_drop: ('BarStepsModel', 'drop', '()I')
def X7_drop (a0 : Nat) (x : Hs) : Option (Int32 × Hs) := (vO x 6 a0).bind fun _ =>
  (gI x 6 a0 0).bind fun v1 =>
  (if v1 = 0 then some ((-3), x) else
  (gI x 6 a0 0).bind fun v2 =>
  (X7_hushed a0 (v2 - 1) x).bind fun q3 =>
  (gI q3.2 6 a0 0).bind fun v4 =>
  (pV q3.2 6 a0 0 (.int (v4 - 1))).bind fun y5 =>
  (X7_shorten a0 y5).bind fun q6 =>
  (gI q6 6 a0 0).bind fun v7 =>
  some (v7, q6))
theorem rvX7_drop {a0 : Nat} {x : Hs} {r : Int32 × Hs} (h : X7_drop a0 x = some r) : ∃ fs, x.1 a0 = .inr (6, fs) := vO_bind h
theorem okX7_drop (G : JG) (x : Hs) (a0 : Nat) : ∀ r, X7_drop a0 x = some r → JC G yX7_drop cX7_drop 1 (some .int) (jR 4 0 0) 0 0 [.ref a0] x ((some (.int r.1), r.2)) := by
  refine jc_of (own := RX7) (E := (fun r : Int32 × Hs => ((some (.int r.1), r.2) : JR))) (by decide) rfl rfl (Nat.le_of_ble_eq_true rfl) rfl ?_
  unfold X7_drop
  refine j_chk ?_
  refine j_aload_n 1 0 dX7_drop_0 rfl rfl rfl ?_
  refine j_gI 4 kf_X7_129 dX7_drop_1 rfl ?_
  intro v1
  refine j_if_ne 10 7 dX7_drop_4 (by decide) rfl ?_ ?_
  · refine j_aload_n 11 0 dX7_drop_10 rfl rfl rfl ?_
    refine j_aload_n 12 0 dX7_drop_11 rfl rfl rfl ?_
    refine j_gI 15 kf_X7_129 dX7_drop_12 rfl ?_
    intro v2
    refine j_iconst (v := 1) 16 dX7_drop_15 rfl ic_1 ?_
    refine j_isub 17 dX7_drop_16 rfl ?_
    refine j_callV_iw (ci := 6) (As := [.int (v2 - 1)]) (st := []) 20 (okX7_hushed G x a0 (v2 - 1)) kc_X7_hushed kl_X7_171 ki_X7_hushed kv_X7_hushed kh_X7 (by decide) (fun _ h => rvX7_hushed h) ⟨rfl, rfl, Nat.le_of_ble_eq_true rfl, Nat.le_of_ble_eq_true rfl⟩ (Nat.le_of_ble_eq_true rfl) ⟨Nat.le_of_ble_eq_true rfl, Nat.le_of_ble_eq_true rfl⟩ rfl dX7_drop_17 rfl rfl ?_
    intro q3
    refine j_pop 21 dX7_drop_20 rfl rfl ?_
    refine j_aload_n 22 0 dX7_drop_21 rfl rfl rfl ?_
    refine j_dup 23 dX7_drop_22 rfl rfl ?_
    refine j_gI 26 kf_X7_129 dX7_drop_23 rfl ?_
    intro v4
    refine j_iconst (v := 1) 27 dX7_drop_26 rfl ic_1 ?_
    refine j_isub 28 dX7_drop_27 rfl ?_
    refine j_put 31 kf_X7_129 dX7_drop_28 rfl rfl rfl ?_
    intro y5
    refine j_aload_n 32 0 dX7_drop_31 rfl rfl rfl ?_
    refine j_callV_v (ci := 6) (As := []) (st := []) 35 (okX7_shorten G y5 a0) kc_X7_shorten kl_X7_174 ki_X7_shorten kv_X7_shorten kh_X7 (by decide) (fun _ h => rvX7_shorten h) ⟨rfl, rfl, Nat.le_of_ble_eq_true rfl, Nat.le_of_ble_eq_true rfl⟩ (Nat.le_of_ble_eq_true rfl) ⟨Nat.le_of_ble_eq_true rfl, Nat.le_of_ble_eq_true rfl⟩ rfl dX7_drop_32 rfl rfl ?_
    intro q6
    refine j_aload_n 36 0 dX7_drop_35 rfl rfl rfl ?_
    refine j_gI 39 kf_X7_129 dX7_drop_36 rfl ?_
    intro v7
    exact j_iret dX7_drop_39 rfl
  · refine j_bipush (v := -3) 9 dX7_drop_7 rfl bc_m3 ?_
    exact j_iret dX7_drop_9 rfl
-- X7_set: ('BarStepsModel', 'set', '(III)I')
def X7_set_J143 (l0 : Nat) (l1 : Int32) (l2 : Int32) (l3 : Int32) (s0 : Int32) (x : Hs) : Option (Int32 × Hs) := (if l2 = 0 then (gR x 6 l0 2).bind fun v12 =>
  (wI x v12 l1 l3).bind fun y13 =>
  some (s0, y13) else
  (if l2 = 1 then (gR x 6 l0 3).bind fun v10 =>
  (wI x v10 l1 l3).bind fun y11 =>
  some (s0, y11) else
  (if l2 = 2 then (gR x 6 l0 1).bind fun v8 =>
  (wI x v8 l1 l3).bind fun y9 =>
  some (s0, y9) else
  (gR x 6 l0 4).bind fun v6 =>
  (wI x v6 l1 l3).bind fun y7 =>
  some (s0, y7))))
theorem okX7_set_J143 (G : JG) : ∀ (l0 : Nat) (l1 : Int32) (l2 : Int32) (l3 : Int32) (s0 : Int32) (x : Hs), JM G RX7 cX7_set 6 (jZ G (some .int) "set" (jR 3 0 0) 0 0) (fun r : Int32 × Hs => ((some (.int r.1), r.2) : JR)) 143 [(0, .ref l0), (1, .int l1), (2, .int l2), (3, .int l3)] [.int s0] x 0 0 (X7_set_J143 l0 l1 l2 l3 s0 x) := by
  intro l0 l1 l2 l3 s0 x
  unfold X7_set_J143
  refine j_istore 145 [(5, .int s0), (0, .ref l0), (1, .int l1), (2, .int l2), (3, .int l3)] dX7_set_143 rfl (by decide) rfl ?_
  refine j_iload_n 146 3 dX7_set_145 rfl rfl rfl ?_
  refine j_if_ne 159 149 dX7_set_146 (by decide) rfl ?_ ?_
  · refine j_iload_n 160 3 dX7_set_159 rfl rfl rfl ?_
    refine j_iconst (v := 1) 161 dX7_set_160 rfl ic_1 ?_
    refine j_icmp_ne 174 164 dX7_set_161 (by decide) rfl ?_ ?_
    · refine j_iload_n 175 3 dX7_set_174 rfl rfl rfl ?_
      refine j_iconst (v := 2) 176 dX7_set_175 rfl ic_2 ?_
      refine j_icmp_ne 189 179 dX7_set_176 (by decide) rfl ?_ ?_
      · refine j_aload_n 190 1 dX7_set_189 rfl rfl rfl ?_
        refine j_gR 193 kf_X7_21 dX7_set_190 rfl ?_
        intro v6
        refine j_iload_n 194 2 dX7_set_193 rfl rfl rfl ?_
        refine j_iload_n 195 4 dX7_set_194 rfl rfl rfl ?_
        refine j_wI 196 dX7_set_195 rfl ?_
        intro y7
        refine j_iload 198 0 dX7_set_196 rfl rfl ?_
        exact j_iret dX7_set_198 rfl
      · refine j_aload_n 180 1 dX7_set_179 rfl rfl rfl ?_
        refine j_gR 183 kf_X7_11 dX7_set_180 rfl ?_
        intro v8
        refine j_iload_n 184 2 dX7_set_183 rfl rfl rfl ?_
        refine j_iload_n 185 4 dX7_set_184 rfl rfl rfl ?_
        refine j_wI 186 dX7_set_185 rfl ?_
        intro y9
        refine j_goto 196 dX7_set_186 (by decide) ?_
        refine j_iload 198 0 dX7_set_196 rfl rfl ?_
        exact j_iret dX7_set_198 rfl
    · refine j_aload_n 165 1 dX7_set_164 rfl rfl rfl ?_
      refine j_gR 168 kf_X7_18 dX7_set_165 rfl ?_
      intro v10
      refine j_iload_n 169 2 dX7_set_168 rfl rfl rfl ?_
      refine j_iload_n 170 4 dX7_set_169 rfl rfl rfl ?_
      refine j_wI 171 dX7_set_170 rfl ?_
      intro y11
      refine j_goto 196 dX7_set_171 (by decide) ?_
      refine j_iload 198 0 dX7_set_196 rfl rfl ?_
      exact j_iret dX7_set_198 rfl
  · refine j_aload_n 150 1 dX7_set_149 rfl rfl rfl ?_
    refine j_gR 153 kf_X7_15 dX7_set_150 rfl ?_
    intro v12
    refine j_iload_n 154 2 dX7_set_153 rfl rfl rfl ?_
    refine j_iload_n 155 4 dX7_set_154 rfl rfl rfl ?_
    refine j_wI 156 dX7_set_155 rfl ?_
    intro y13
    refine j_goto 196 dX7_set_156 (by decide) ?_
    refine j_iload 198 0 dX7_set_196 rfl rfl ?_
    exact j_iret dX7_set_198 rfl
def X7_set_J85 (l0 : Nat) (l1 : Int32) (l2 : Int32) (l3 : Int32) (s0 : Int32) (x : Hs) : Option (Int32 × Hs) := (if s0 = 0 then some ((-1000), x) else
  (if l2 = 0 then (gR x 6 l0 2).bind fun v18 =>
  (aI x v18 l1).bind fun v19 =>
  X7_set_J143 l0 l1 l2 l3 v19 x else
  (if l2 = 1 then (gR x 6 l0 3).bind fun v16 =>
  (aI x v16 l1).bind fun v17 =>
  X7_set_J143 l0 l1 l2 l3 v17 x else
  (if l2 = 2 then (gR x 6 l0 1).bind fun v14 =>
  (aI x v14 l1).bind fun v15 =>
  X7_set_J143 l0 l1 l2 l3 v15 x else
  (gR x 6 l0 4).bind fun v4 =>
  (aI x v4 l1).bind fun v5 =>
  X7_set_J143 l0 l1 l2 l3 v5 x))))
theorem okX7_set_J85 (G : JG) : ∀ (l0 : Nat) (l1 : Int32) (l2 : Int32) (l3 : Int32) (s0 : Int32) (x : Hs), JM G RX7 cX7_set 6 (jZ G (some .int) "set" (jR 3 0 0) 0 0) (fun r : Int32 × Hs => ((some (.int r.1), r.2) : JR)) 85 [(0, .ref l0), (1, .int l1), (2, .int l2), (3, .int l3)] [.int s0] x 0 0 (X7_set_J85 l0 l1 l2 l3 s0 x) := by
  intro l0 l1 l2 l3 s0 x
  unfold X7_set_J85
  refine j_istore 87 [(4, .int s0), (0, .ref l0), (1, .int l1), (2, .int l2), (3, .int l3)] dX7_set_85 rfl (by decide) rfl ?_
  refine j_iload 89 0 dX7_set_87 rfl rfl ?_
  refine j_if_ne 96 92 dX7_set_89 (by decide) rfl ?_ ?_
  · refine j_iload_n 97 3 dX7_set_96 rfl rfl rfl ?_
    refine j_if_ne 109 100 dX7_set_97 (by decide) rfl ?_ ?_
    · refine j_iload_n 110 3 dX7_set_109 rfl rfl rfl ?_
      refine j_iconst (v := 1) 111 dX7_set_110 rfl ic_1 ?_
      refine j_icmp_ne 123 114 dX7_set_111 (by decide) rfl ?_ ?_
      · refine j_iload_n 124 3 dX7_set_123 rfl rfl rfl ?_
        refine j_iconst (v := 2) 125 dX7_set_124 rfl ic_2 ?_
        refine j_icmp_ne 137 128 dX7_set_125 (by decide) rfl ?_ ?_
        · refine j_aload_n 138 1 dX7_set_137 rfl rfl rfl ?_
          refine j_gR 141 kf_X7_21 dX7_set_138 rfl ?_
          intro v4
          refine j_iload_n 142 2 dX7_set_141 rfl rfl rfl ?_
          refine j_aI 143 dX7_set_142 rfl ?_
          intro v5
          refine j_sub [1, 2, 3, 4] rfl ?_
          exact okX7_set_J143 G l0 l1 l2 l3 v5 x
        · refine j_aload_n 129 1 dX7_set_128 rfl rfl rfl ?_
          refine j_gR 132 kf_X7_11 dX7_set_129 rfl ?_
          intro v14
          refine j_iload_n 133 2 dX7_set_132 rfl rfl rfl ?_
          refine j_aI 134 dX7_set_133 rfl ?_
          intro v15
          refine j_goto 143 dX7_set_134 (by decide) ?_
          refine j_sub [1, 2, 3, 4] rfl ?_
          exact okX7_set_J143 G l0 l1 l2 l3 v15 x
      · refine j_aload_n 115 1 dX7_set_114 rfl rfl rfl ?_
        refine j_gR 118 kf_X7_18 dX7_set_115 rfl ?_
        intro v16
        refine j_iload_n 119 2 dX7_set_118 rfl rfl rfl ?_
        refine j_aI 120 dX7_set_119 rfl ?_
        intro v17
        refine j_goto 143 dX7_set_120 (by decide) ?_
        refine j_sub [1, 2, 3, 4] rfl ?_
        exact okX7_set_J143 G l0 l1 l2 l3 v17 x
    · refine j_aload_n 101 1 dX7_set_100 rfl rfl rfl ?_
      refine j_gR 104 kf_X7_15 dX7_set_101 rfl ?_
      intro v18
      refine j_iload_n 105 2 dX7_set_104 rfl rfl rfl ?_
      refine j_aI 106 dX7_set_105 rfl ?_
      intro v19
      refine j_goto 143 dX7_set_106 (by decide) ?_
      refine j_sub [1, 2, 3, 4] rfl ?_
      exact okX7_set_J143 G l0 l1 l2 l3 v19 x
  · refine j_sipush (v := -1000) 95 dX7_set_92 rfl sc_m1000 ?_
    exact j_iret dX7_set_95 rfl
def X7_set (a0 : Nat) (a1 : Int32) (a2 : Int32) (a3 : Int32) (x : Hs) : Option (Int32 × Hs) := (vO x 6 a0).bind fun _ =>
  (X7_isCell a0 a1 x).bind fun v1 =>
  (if v1 = 0 then some ((-1000), x) else
  (X7_isIn (Int32.toInt64 a2) 0 3).bind fun v2 =>
  (if v2 = 0 then some ((-1000), x) else
  (if a2 = 0 then (X7_isIn (Int32.toInt64 a3) 1 9).bind fun v22 =>
  X7_set_J85 a0 a1 a2 a3 v22 x else
  (if a2 = 1 then (X7_isIn (Int32.toInt64 a3) 1 4).bind fun v21 =>
  X7_set_J85 a0 a1 a2 a3 v21 x else
  (if a2 = 2 then (X7_isIn (Int32.toInt64 a3) 0 5).bind fun v20 =>
  X7_set_J85 a0 a1 a2 a3 v20 x else
  (X7_isIn (Int32.toInt64 a3) (-9) 9).bind fun v3 =>
  X7_set_J85 a0 a1 a2 a3 v3 x)))))
theorem rvX7_set {a0 : Nat} {a1 : Int32} {a2 : Int32} {a3 : Int32} {x : Hs} {r : Int32 × Hs} (h : X7_set a0 a1 a2 a3 x = some r) : ∃ fs, x.1 a0 = .inr (6, fs) := vO_bind h
theorem okX7_set (G : JG) (x : Hs) (a0 : Nat) (a1 : Int32) (a2 : Int32) (a3 : Int32) : ∀ r, X7_set a0 a1 a2 a3 x = some r → JC G yX7_set cX7_set 6 (some .int) (jR 3 0 0) 0 0 [.ref a0, .int a1, .int a2, .int a3] x ((some (.int r.1), r.2)) := by
  refine jc_of (own := RX7) (E := (fun r : Int32 × Hs => ((some (.int r.1), r.2) : JR))) (by decide) rfl rfl (Nat.le_of_ble_eq_true rfl) rfl ?_
  unfold X7_set
  refine j_chk ?_
  refine j_aload_n 1 0 dX7_set_0 rfl rfl rfl ?_
  refine j_iload_n 2 1 dX7_set_1 rfl rfl rfl ?_
  refine j_callV_i (ci := 6) (As := [.int a1]) (st := []) 5 (okX7_isCell G x a0 a1) kc_X7_isCell kl_X7_177 ki_X7_isCell kv_X7_isCell kh_X7 (by decide) (fun _ h => rvX7_isCell h) ⟨rfl, rfl, Nat.le_of_ble_eq_true rfl, Nat.le_of_ble_eq_true rfl⟩ (Nat.le_of_ble_eq_true rfl) ⟨Nat.le_of_ble_eq_true rfl, Nat.le_of_ble_eq_true rfl⟩ rfl dX7_set_2 rfl rfl ?_
  intro v1
  refine j_if_eq 20 8 dX7_set_5 (by decide) rfl ?_ ?_
  · refine j_sipush (v := -1000) 23 dX7_set_20 rfl sc_m1000 ?_
    exact j_iret dX7_set_23 rfl
  · refine j_iload_n 9 2 dX7_set_8 rfl rfl rfl ?_
    refine j_i2l 10 dX7_set_9 rfl ?_
    refine j_lconst (v := 0) 11 dX7_set_10 rfl lc_0 ?_
    refine j_ldc2 14 kk_X7_181 dX7_set_11 rfl ?_
    refine j_callS_i (As := [.long (Int32.toInt64 a2), .long 0, .long 3]) (st := []) 17 (okX7_isIn G x (Int32.toInt64 a2) 0 3) kc_X7_isIn kl_X7_133 ks_X7_isIn ⟨rfl, rfl, Nat.le_of_ble_eq_true rfl, Nat.le_of_ble_eq_true rfl⟩ (Nat.le_of_ble_eq_true rfl) ⟨Nat.le_of_ble_eq_true rfl, Nat.le_of_ble_eq_true rfl⟩ rfl dX7_set_14 rfl rfl ?_
    intro v2
    refine j_if_ne 24 20 dX7_set_17 (by decide) rfl ?_ ?_
    · refine j_iload_n 25 2 dX7_set_24 rfl rfl rfl ?_
      refine j_if_ne 40 28 dX7_set_25 (by decide) rfl ?_ ?_
      · refine j_iload_n 41 2 dX7_set_40 rfl rfl rfl ?_
        refine j_iconst (v := 1) 42 dX7_set_41 rfl ic_1 ?_
        refine j_icmp_ne 57 45 dX7_set_42 (by decide) rfl ?_ ?_
        · refine j_iload_n 58 2 dX7_set_57 rfl rfl rfl ?_
          refine j_iconst (v := 2) 59 dX7_set_58 rfl ic_2 ?_
          refine j_icmp_ne 74 62 dX7_set_59 (by decide) rfl ?_ ?_
          · refine j_iload_n 75 3 dX7_set_74 rfl rfl rfl ?_
            refine j_i2l 76 dX7_set_75 rfl ?_
            refine j_ldc2 79 kk_X7_183 dX7_set_76 rfl ?_
            refine j_ldc2 82 kk_X7_161 dX7_set_79 rfl ?_
            refine j_callS_i (As := [.long (Int32.toInt64 a3), .long (-9), .long 9]) (st := []) 85 (okX7_isIn G x (Int32.toInt64 a3) (-9) 9) kc_X7_isIn kl_X7_133 ks_X7_isIn ⟨rfl, rfl, Nat.le_of_ble_eq_true rfl, Nat.le_of_ble_eq_true rfl⟩ (Nat.le_of_ble_eq_true rfl) ⟨Nat.le_of_ble_eq_true rfl, Nat.le_of_ble_eq_true rfl⟩ rfl dX7_set_82 rfl rfl ?_
            intro v3
            exact okX7_set_J85 G a0 a1 a2 a3 v3 x
          · refine j_iload_n 63 3 dX7_set_62 rfl rfl rfl ?_
            refine j_i2l 64 dX7_set_63 rfl ?_
            refine j_lconst (v := 0) 65 dX7_set_64 rfl lc_0 ?_
            refine j_ldc2 68 kk_X7_159 dX7_set_65 rfl ?_
            refine j_callS_i (As := [.long (Int32.toInt64 a3), .long 0, .long 5]) (st := []) 71 (okX7_isIn G x (Int32.toInt64 a3) 0 5) kc_X7_isIn kl_X7_133 ks_X7_isIn ⟨rfl, rfl, Nat.le_of_ble_eq_true rfl, Nat.le_of_ble_eq_true rfl⟩ (Nat.le_of_ble_eq_true rfl) ⟨Nat.le_of_ble_eq_true rfl, Nat.le_of_ble_eq_true rfl⟩ rfl dX7_set_68 rfl rfl ?_
            intro v20
            refine j_goto 85 dX7_set_71 (by decide) ?_
            exact okX7_set_J85 G a0 a1 a2 a3 v20 x
        · refine j_iload_n 46 3 dX7_set_45 rfl rfl rfl ?_
          refine j_i2l 47 dX7_set_46 rfl ?_
          refine j_lconst (v := 1) 48 dX7_set_47 rfl lc_1 ?_
          refine j_ldc2 51 kk_X7_163 dX7_set_48 rfl ?_
          refine j_callS_i (As := [.long (Int32.toInt64 a3), .long 1, .long 4]) (st := []) 54 (okX7_isIn G x (Int32.toInt64 a3) 1 4) kc_X7_isIn kl_X7_133 ks_X7_isIn ⟨rfl, rfl, Nat.le_of_ble_eq_true rfl, Nat.le_of_ble_eq_true rfl⟩ (Nat.le_of_ble_eq_true rfl) ⟨Nat.le_of_ble_eq_true rfl, Nat.le_of_ble_eq_true rfl⟩ rfl dX7_set_51 rfl rfl ?_
          intro v21
          refine j_goto 85 dX7_set_54 (by decide) ?_
          exact okX7_set_J85 G a0 a1 a2 a3 v21 x
      · refine j_iload_n 29 3 dX7_set_28 rfl rfl rfl ?_
        refine j_i2l 30 dX7_set_29 rfl ?_
        refine j_lconst (v := 1) 31 dX7_set_30 rfl lc_1 ?_
        refine j_ldc2 34 kk_X7_161 dX7_set_31 rfl ?_
        refine j_callS_i (As := [.long (Int32.toInt64 a3), .long 1, .long 9]) (st := []) 37 (okX7_isIn G x (Int32.toInt64 a3) 1 9) kc_X7_isIn kl_X7_133 ks_X7_isIn ⟨rfl, rfl, Nat.le_of_ble_eq_true rfl, Nat.le_of_ble_eq_true rfl⟩ (Nat.le_of_ble_eq_true rfl) ⟨Nat.le_of_ble_eq_true rfl, Nat.le_of_ble_eq_true rfl⟩ rfl dX7_set_34 rfl rfl ?_
        intro v22
        refine j_goto 85 dX7_set_37 (by decide) ?_
        exact okX7_set_J85 G a0 a1 a2 a3 v22 x
    · refine j_sipush (v := -1000) 23 dX7_set_20 rfl sc_m1000 ?_
      exact j_iret dX7_set_23 rfl
-- X7_heat: ('BarStepsModel', 'heat', '(II)I')
def X7_heat (a0 : Nat) (a1 : Int32) (a2 : Int32) (x : Hs) : Option (Int32 × Hs) := (vO x 6 a0).bind fun _ =>
  (X7_isCell a0 a1 x).bind fun v1 =>
  (if v1 = 0 then some ((-2), x) else
  (X7_isIn (Int32.toInt64 a2) 0 999).bind fun v2 =>
  (if v2 = 0 then some ((-2), x) else
  (gR x 6 a0 5).bind fun v3 =>
  (gL x 6 a0 6).bind fun v4 =>
  (wL x v3 a1 ((Int32.toInt64 a2) * v4)).bind fun y5 =>
  (X7_shorten a0 y5).bind fun q6 =>
  some (1, q6)))
theorem rvX7_heat {a0 : Nat} {a1 : Int32} {a2 : Int32} {x : Hs} {r : Int32 × Hs} (h : X7_heat a0 a1 a2 x = some r) : ∃ fs, x.1 a0 = .inr (6, fs) := vO_bind h
theorem okX7_heat (G : JG) (x : Hs) (a0 : Nat) (a1 : Int32) (a2 : Int32) : ∀ r, X7_heat a0 a1 a2 x = some r → JC G yX7_heat cX7_heat 3 (some .int) (jR 4 0 0) 0 0 [.ref a0, .int a1, .int a2] x ((some (.int r.1), r.2)) := by
  refine jc_of (own := RX7) (E := (fun r : Int32 × Hs => ((some (.int r.1), r.2) : JR))) (by decide) rfl rfl (Nat.le_of_ble_eq_true rfl) rfl ?_
  unfold X7_heat
  refine j_chk ?_
  refine j_aload_n 1 0 dX7_heat_0 rfl rfl rfl ?_
  refine j_iload_n 2 1 dX7_heat_1 rfl rfl rfl ?_
  refine j_callV_i (ci := 6) (As := [.int a1]) (st := []) 5 (okX7_isCell G x a0 a1) kc_X7_isCell kl_X7_177 ki_X7_isCell kv_X7_isCell kh_X7 (by decide) (fun _ h => rvX7_isCell h) ⟨rfl, rfl, Nat.le_of_ble_eq_true rfl, Nat.le_of_ble_eq_true rfl⟩ (Nat.le_of_ble_eq_true rfl) ⟨Nat.le_of_ble_eq_true rfl, Nat.le_of_ble_eq_true rfl⟩ rfl dX7_heat_2 rfl rfl ?_
  intro v1
  refine j_if_eq 20 8 dX7_heat_5 (by decide) rfl ?_ ?_
  · refine j_bipush (v := -2) 22 dX7_heat_20 rfl bc_m2 ?_
    exact j_iret dX7_heat_22 rfl
  · refine j_iload_n 9 2 dX7_heat_8 rfl rfl rfl ?_
    refine j_i2l 10 dX7_heat_9 rfl ?_
    refine j_lconst (v := 0) 11 dX7_heat_10 rfl lc_0 ?_
    refine j_ldc2 14 kk_X7_169 dX7_heat_11 rfl ?_
    refine j_callS_i (As := [.long (Int32.toInt64 a2), .long 0, .long 999]) (st := []) 17 (okX7_isIn G x (Int32.toInt64 a2) 0 999) kc_X7_isIn kl_X7_133 ks_X7_isIn ⟨rfl, rfl, Nat.le_of_ble_eq_true rfl, Nat.le_of_ble_eq_true rfl⟩ (Nat.le_of_ble_eq_true rfl) ⟨Nat.le_of_ble_eq_true rfl, Nat.le_of_ble_eq_true rfl⟩ rfl dX7_heat_14 rfl rfl ?_
    intro v2
    refine j_if_ne 23 20 dX7_heat_17 (by decide) rfl ?_ ?_
    · refine j_aload_n 24 0 dX7_heat_23 rfl rfl rfl ?_
      refine j_gR 27 kf_X7_24 dX7_heat_24 rfl ?_
      intro v3
      refine j_iload_n 28 1 dX7_heat_27 rfl rfl rfl ?_
      refine j_iload_n 29 2 dX7_heat_28 rfl rfl rfl ?_
      refine j_i2l 30 dX7_heat_29 rfl ?_
      refine j_aload_n 31 0 dX7_heat_30 rfl rfl rfl ?_
      refine j_gL 34 kf_X7_28 dX7_heat_31 rfl ?_
      intro v4
      refine j_lmul 35 dX7_heat_34 rfl ?_
      refine j_wL 36 dX7_heat_35 rfl ?_
      intro y5
      refine j_aload_n 37 0 dX7_heat_36 rfl rfl rfl ?_
      refine j_callV_v (ci := 6) (As := []) (st := []) 40 (okX7_shorten G y5 a0) kc_X7_shorten kl_X7_174 ki_X7_shorten kv_X7_shorten kh_X7 (by decide) (fun _ h => rvX7_shorten h) ⟨rfl, rfl, Nat.le_of_ble_eq_true rfl, Nat.le_of_ble_eq_true rfl⟩ (Nat.le_of_ble_eq_true rfl) ⟨Nat.le_of_ble_eq_true rfl, Nat.le_of_ble_eq_true rfl⟩ rfl dX7_heat_37 rfl rfl ?_
      intro q6
      refine j_iconst (v := 1) 41 dX7_heat_40 rfl ic_1 ?_
      exact j_iret dX7_heat_41 rfl
    · refine j_bipush (v := -2) 22 dX7_heat_20 rfl bc_m2 ?_
      exact j_iret dX7_heat_22 rfl
-- X7_of: ('BarStepsModel', 'of', '(II)I')
def X7_of (a0 : Nat) (a1 : Int32) (a2 : Int32) (x : Hs) : Option (Int32) := (vO x 6 a0).bind fun _ =>
  (X7_isCell a0 a1 x).bind fun v1 =>
  (if v1 = 0 then some (-1000) else
  (if a2 = 0 then (gR x 6 a0 1).bind fun v2 =>
  (aI x v2 a1).bind fun v3 =>
  some v3 else
  (if a2 = 1 then (gR x 6 a0 2).bind fun v5 =>
  (aI x v5 a1).bind fun v6 =>
  some v6 else
  (if a2 = 2 then (gR x 6 a0 3).bind fun v8 =>
  (aI x v8 a1).bind fun v9 =>
  some v9 else
  (if a2 = 3 then (gR x 6 a0 4).bind fun v11 =>
  (aI x v11 a1).bind fun v12 =>
  some v12 else
  (if a2 = 4 then (X7_side a0 a1 x).bind fun v14 =>
  some v14 else
  (if a2 = 5 then (X7_holds a0 a1 x).bind fun v16 =>
  some v16 else
  (if a2 = 6 then (X7_fin a0 a1 x).bind fun v18 =>
  some v18 else
  (if a2 = 7 then (X7_made a0 a1 x).bind fun v20 =>
  some v20 else
  some (-1000))))))))))
theorem rvX7_of {a0 : Nat} {a1 : Int32} {a2 : Int32} {x : Hs} {r : Int32} (h : X7_of a0 a1 a2 x = some r) : ∃ fs, x.1 a0 = .inr (6, fs) := vO_bind h
theorem okX7_of (G : JG) (x : Hs) (a0 : Nat) (a1 : Int32) (a2 : Int32) : ∀ r, X7_of a0 a1 a2 x = some r → JC G yX7_of cX7_of 3 (some .int) (jR 4 0 0) 0 0 [.ref a0, .int a1, .int a2] x ((some (.int r), x)) := by
  refine jc_of (own := RX7) (E := (fun r : Int32 => ((some (.int r), x) : JR))) (by decide) rfl rfl (Nat.le_of_ble_eq_true rfl) rfl ?_
  unfold X7_of
  refine j_chk ?_
  refine j_aload_n 1 0 dX7_of_0 rfl rfl rfl ?_
  refine j_iload_n 2 1 dX7_of_1 rfl rfl rfl ?_
  refine j_callV_i (ci := 6) (As := [.int a1]) (st := []) 5 (okX7_isCell G x a0 a1) kc_X7_isCell kl_X7_177 ki_X7_isCell kv_X7_isCell kh_X7 (by decide) (fun _ h => rvX7_isCell h) ⟨rfl, rfl, Nat.le_of_ble_eq_true rfl, Nat.le_of_ble_eq_true rfl⟩ (Nat.le_of_ble_eq_true rfl) ⟨Nat.le_of_ble_eq_true rfl, Nat.le_of_ble_eq_true rfl⟩ rfl dX7_of_2 rfl rfl ?_
  intro v1
  refine j_if_ne 12 8 dX7_of_5 (by decide) rfl ?_ ?_
  · refine j_iload_n 13 2 dX7_of_12 rfl rfl rfl ?_
    refine j_ite (fun h4 => ?_) (fun h4 => ?_)
    · refine j_tinE (w := 0) 60 dX7_of_13 h4 (by decide) (by decide) rfl (by decide) ?_
      refine j_aload_n 61 0 dX7_of_60 rfl rfl rfl ?_
      refine j_gR 64 kf_X7_11 dX7_of_61 rfl ?_
      intro v2
      refine j_iload_n 65 1 dX7_of_64 rfl rfl rfl ?_
      refine j_aI 66 dX7_of_65 rfl ?_
      intro v3
      exact j_iret dX7_of_66 rfl
    refine j_ite (fun h7 => ?_) (fun h7 => ?_)
    · refine j_tinE (w := 1) 67 dX7_of_13 h7 (by decide) (by decide) rfl (by decide) ?_
      refine j_aload_n 68 0 dX7_of_67 rfl rfl rfl ?_
      refine j_gR 71 kf_X7_15 dX7_of_68 rfl ?_
      intro v5
      refine j_iload_n 72 1 dX7_of_71 rfl rfl rfl ?_
      refine j_aI 73 dX7_of_72 rfl ?_
      intro v6
      exact j_iret dX7_of_73 rfl
    refine j_ite (fun h10 => ?_) (fun h10 => ?_)
    · refine j_tinE (w := 2) 74 dX7_of_13 h10 (by decide) (by decide) rfl (by decide) ?_
      refine j_aload_n 75 0 dX7_of_74 rfl rfl rfl ?_
      refine j_gR 78 kf_X7_18 dX7_of_75 rfl ?_
      intro v8
      refine j_iload_n 79 1 dX7_of_78 rfl rfl rfl ?_
      refine j_aI 80 dX7_of_79 rfl ?_
      intro v9
      exact j_iret dX7_of_80 rfl
    refine j_ite (fun h13 => ?_) (fun h13 => ?_)
    · refine j_tinE (w := 3) 81 dX7_of_13 h13 (by decide) (by decide) rfl (by decide) ?_
      refine j_aload_n 82 0 dX7_of_81 rfl rfl rfl ?_
      refine j_gR 85 kf_X7_21 dX7_of_82 rfl ?_
      intro v11
      refine j_iload_n 86 1 dX7_of_85 rfl rfl rfl ?_
      refine j_aI 87 dX7_of_86 rfl ?_
      intro v12
      exact j_iret dX7_of_87 rfl
    refine j_ite (fun h15 => ?_) (fun h15 => ?_)
    · refine j_tinE (w := 4) 88 dX7_of_13 h15 (by decide) (by decide) rfl (by decide) ?_
      refine j_aload_n 89 0 dX7_of_88 rfl rfl rfl ?_
      refine j_iload_n 90 1 dX7_of_89 rfl rfl rfl ?_
      refine j_callV_i (ci := 6) (As := [.int a1]) (st := []) 93 (okX7_side G x a0 a1) kc_X7_side kl_X7_185 ki_X7_side kv_X7_side kh_X7 (by decide) (fun _ h => rvX7_side h) ⟨rfl, rfl, Nat.le_of_ble_eq_true rfl, Nat.le_of_ble_eq_true rfl⟩ (Nat.le_of_ble_eq_true rfl) ⟨Nat.le_of_ble_eq_true rfl, Nat.le_of_ble_eq_true rfl⟩ rfl dX7_of_90 rfl rfl ?_
      intro v14
      exact j_iret dX7_of_93 rfl
    refine j_ite (fun h17 => ?_) (fun h17 => ?_)
    · refine j_tinE (w := 5) 94 dX7_of_13 h17 (by decide) (by decide) rfl (by decide) ?_
      refine j_aload_n 95 0 dX7_of_94 rfl rfl rfl ?_
      refine j_iload_n 96 1 dX7_of_95 rfl rfl rfl ?_
      refine j_callV_i (ci := 6) (As := [.int a1]) (st := []) 99 (okX7_holds G x a0 a1) kc_X7_holds kl_X7_188 ki_X7_holds kv_X7_holds kh_X7 (by decide) (fun _ h => rvX7_holds h) ⟨rfl, rfl, Nat.le_of_ble_eq_true rfl, Nat.le_of_ble_eq_true rfl⟩ (Nat.le_of_ble_eq_true rfl) ⟨Nat.le_of_ble_eq_true rfl, Nat.le_of_ble_eq_true rfl⟩ rfl dX7_of_96 rfl rfl ?_
      intro v16
      exact j_iret dX7_of_99 rfl
    refine j_ite (fun h19 => ?_) (fun h19 => ?_)
    · refine j_tinE (w := 6) 100 dX7_of_13 h19 (by decide) (by decide) rfl (by decide) ?_
      refine j_aload_n 101 0 dX7_of_100 rfl rfl rfl ?_
      refine j_iload_n 102 1 dX7_of_101 rfl rfl rfl ?_
      refine j_callV_i (ci := 6) (As := [.int a1]) (st := []) 105 (okX7_fin G x a0 a1) kc_X7_fin kl_X7_191 ki_X7_fin kv_X7_fin kh_X7 (by decide) (fun _ h => rvX7_fin h) ⟨rfl, rfl, Nat.le_of_ble_eq_true rfl, Nat.le_of_ble_eq_true rfl⟩ (Nat.le_of_ble_eq_true rfl) ⟨Nat.le_of_ble_eq_true rfl, Nat.le_of_ble_eq_true rfl⟩ rfl dX7_of_102 rfl rfl ?_
      intro v18
      exact j_iret dX7_of_105 rfl
    refine j_ite (fun h21 => ?_) (fun h21 => ?_)
    · refine j_tinE (w := 7) 106 dX7_of_13 h21 (by decide) (by decide) rfl (by decide) ?_
      refine j_aload_n 107 0 dX7_of_106 rfl rfl rfl ?_
      refine j_iload_n 108 1 dX7_of_107 rfl rfl rfl ?_
      refine j_callV_i (ci := 6) (As := [.int a1]) (st := []) 111 (okX7_made G x a0 a1) kc_X7_made kl_X7_194 ki_X7_made kv_X7_made kh_X7 (by decide) (fun _ h => rvX7_made h) ⟨rfl, rfl, Nat.le_of_ble_eq_true rfl, Nat.le_of_ble_eq_true rfl⟩ (Nat.le_of_ble_eq_true rfl) ⟨Nat.le_of_ble_eq_true rfl, Nat.le_of_ble_eq_true rfl⟩ rfl dX7_of_108 rfl rfl ?_
      intro v20
      exact j_iret dX7_of_111 rfl
    have h4n := sw_ne h4
    have h7n := sw_ne h7
    have h10n := sw_ne h10
    have h13n := sw_ne h13
    have h15n := sw_ne h15
    have h17n := sw_ne h17
    have h19n := sw_ne h19
    have h21n := sw_ne h21
    have h4m : (Int32.toInt 0) = 0 := by decide
    have h7m : (Int32.toInt 1) = 1 := by decide
    have h10m : (Int32.toInt 2) = 2 := by decide
    have h13m : (Int32.toInt 3) = 3 := by decide
    have h15m : (Int32.toInt 4) = 4 := by decide
    have h17m : (Int32.toInt 5) = 5 := by decide
    have h19m : (Int32.toInt 6) = 6 := by decide
    have h21m : (Int32.toInt 7) = 7 := by decide
    refine j_tout 112 dX7_of_13 (by omega) (by decide) ?_
    refine j_sipush (v := -1000) 115 dX7_of_112 rfl sc_m1000 ?_
    exact j_iret dX7_of_115 rfl
  · refine j_sipush (v := -1000) 11 dX7_of_8 rfl sc_m1000 ?_
    exact j_iret dX7_of_11 rfl
-- X7_taken: ('BarStepsModel', 'taken', '(II)I')
def X7_taken (a0 : Nat) (a1 : Int32) (a2 : Int32) (x : Hs) : Option (Int32) := (vO x 6 a0).bind fun _ =>
  (X7_isCell a0 a1 x).bind fun v1 =>
  (if v1 = 0 then some (-2) else
  (X7_isIn (Int32.toInt64 a2) 0 5).bind fun v2 =>
  (if v2 = 0 then some (-2) else
  (gR x 6 a0 1).bind fun v3 =>
  (aI x v3 a1).bind fun v4 =>
  (X7_isUnder v4 a2).bind fun v5 =>
  (if v5 = 0 then some (-13) else
  (gR x 6 a0 2).bind fun v6 =>
  (aI x v6 a1).bind fun v7 =>
  some v7)))
theorem rvX7_taken {a0 : Nat} {a1 : Int32} {a2 : Int32} {x : Hs} {r : Int32} (h : X7_taken a0 a1 a2 x = some r) : ∃ fs, x.1 a0 = .inr (6, fs) := vO_bind h
theorem okX7_taken (G : JG) (x : Hs) (a0 : Nat) (a1 : Int32) (a2 : Int32) : ∀ r, X7_taken a0 a1 a2 x = some r → JC G yX7_taken cX7_taken 3 (some .int) (jR 3 0 0) 0 0 [.ref a0, .int a1, .int a2] x ((some (.int r), x)) := by
  refine jc_of (own := RX7) (E := (fun r : Int32 => ((some (.int r), x) : JR))) (by decide) rfl rfl (Nat.le_of_ble_eq_true rfl) rfl ?_
  unfold X7_taken
  refine j_chk ?_
  refine j_aload_n 1 0 dX7_taken_0 rfl rfl rfl ?_
  refine j_iload_n 2 1 dX7_taken_1 rfl rfl rfl ?_
  refine j_callV_i (ci := 6) (As := [.int a1]) (st := []) 5 (okX7_isCell G x a0 a1) kc_X7_isCell kl_X7_177 ki_X7_isCell kv_X7_isCell kh_X7 (by decide) (fun _ h => rvX7_isCell h) ⟨rfl, rfl, Nat.le_of_ble_eq_true rfl, Nat.le_of_ble_eq_true rfl⟩ (Nat.le_of_ble_eq_true rfl) ⟨Nat.le_of_ble_eq_true rfl, Nat.le_of_ble_eq_true rfl⟩ rfl dX7_taken_2 rfl rfl ?_
  intro v1
  refine j_if_eq 20 8 dX7_taken_5 (by decide) rfl ?_ ?_
  · refine j_bipush (v := -2) 22 dX7_taken_20 rfl bc_m2 ?_
    exact j_iret dX7_taken_22 rfl
  · refine j_iload_n 9 2 dX7_taken_8 rfl rfl rfl ?_
    refine j_i2l 10 dX7_taken_9 rfl ?_
    refine j_lconst (v := 0) 11 dX7_taken_10 rfl lc_0 ?_
    refine j_ldc2 14 kk_X7_159 dX7_taken_11 rfl ?_
    refine j_callS_i (As := [.long (Int32.toInt64 a2), .long 0, .long 5]) (st := []) 17 (okX7_isIn G x (Int32.toInt64 a2) 0 5) kc_X7_isIn kl_X7_133 ks_X7_isIn ⟨rfl, rfl, Nat.le_of_ble_eq_true rfl, Nat.le_of_ble_eq_true rfl⟩ (Nat.le_of_ble_eq_true rfl) ⟨Nat.le_of_ble_eq_true rfl, Nat.le_of_ble_eq_true rfl⟩ rfl dX7_taken_14 rfl rfl ?_
    intro v2
    refine j_if_ne 23 20 dX7_taken_17 (by decide) rfl ?_ ?_
    · refine j_aload_n 24 0 dX7_taken_23 rfl rfl rfl ?_
      refine j_gR 27 kf_X7_11 dX7_taken_24 rfl ?_
      intro v3
      refine j_iload_n 28 1 dX7_taken_27 rfl rfl rfl ?_
      refine j_aI 29 dX7_taken_28 rfl ?_
      intro v4
      refine j_iload_n 30 2 dX7_taken_29 rfl rfl rfl ?_
      refine j_callS_i (As := [.int v4, .int a2]) (st := []) 33 (okX7_isUnder G x v4 a2) kc_X7_isUnder kl_X7_155 ks_X7_isUnder ⟨rfl, rfl, Nat.le_of_ble_eq_true rfl, Nat.le_of_ble_eq_true rfl⟩ (Nat.le_of_ble_eq_true rfl) ⟨Nat.le_of_ble_eq_true rfl, Nat.le_of_ble_eq_true rfl⟩ rfl dX7_taken_30 rfl rfl ?_
      intro v5
      refine j_if_eq 45 36 dX7_taken_33 (by decide) rfl ?_ ?_
      · refine j_bipush (v := -13) 47 dX7_taken_45 rfl bc_m13 ?_
        exact j_iret dX7_taken_47 rfl
      · refine j_aload_n 37 0 dX7_taken_36 rfl rfl rfl ?_
        refine j_gR 40 kf_X7_15 dX7_taken_37 rfl ?_
        intro v6
        refine j_iload_n 41 1 dX7_taken_40 rfl rfl rfl ?_
        refine j_aI 42 dX7_taken_41 rfl ?_
        intro v7
        refine j_goto 47 dX7_taken_42 (by decide) ?_
        exact j_iret dX7_taken_47 rfl
    · refine j_bipush (v := -2) 22 dX7_taken_20 rfl bc_m2 ?_
      exact j_iret dX7_taken_22 rfl
-- X7_kin: ('BarStepsModel', 'kin', '(I)I')
def X7_kin_J41 (x : Hs) (r19 : Int32 → Int32 → Int32 → Option (Int32)) (l1 : Int32) (l3 : Int32) (s0 : Int32) (s1 : Int32) : Option (Int32) := r19 l1 (s1 ||| s0) (l3 + 1)
theorem okX7_kin_J41 (G : JG) (x : Hs) (r19 : Int32 → Int32 → Int32 → Option (Int32)) (hr19 : ∀ (l1 : Int32) (l2 : Int32) (l3 : Int32), JM G RX7 cX7_kin 4 (jZ G (some .int) "kin" (jR 3 0 0) 0 0) (fun r : Int32 => ((some (.int r), x) : JR)) 19 [(1, .int l1), (2, .int l2), (3, .int l3)] [] x 0 0 (r19 l1 l2 l3)) : ∀ (l1 : Int32) (l3 : Int32) (s0 : Int32) (s1 : Int32), JM G RX7 cX7_kin 4 (jZ G (some .int) "kin" (jR 3 0 0) 0 0) (fun r : Int32 => ((some (.int r), x) : JR)) 41 [(1, .int l1), (3, .int l3)] [.int s0, .int s1] x 0 0 (X7_kin_J41 x r19 l1 l3 s0 s1) := by
  intro l1 l3 s0 s1
  unfold X7_kin_J41
  refine j_ior 42 dX7_kin_41 rfl ?_
  refine j_istore_n 43 [(2, .int (s1 ||| s0)), (1, .int l1), (3, .int l3)] dX7_kin_42 rfl rfl (by decide) rfl ?_
  refine j_iinc 46 2 [(3, .int (l3 + 1)), (2, .int (s1 ||| s0)), (1, .int l1)] dX7_kin_43 rfl rfl (ii_1 _) (by decide) rfl ?_
  refine j_goto 19 dX7_kin_46 (by decide) ?_
  refine j_sub [2, 1, 0] rfl ?_
  exact hr19 l1 (s1 ||| s0) (l3 + 1)
def X7_kin_L19 (x : Hs) : Nat → Int32 → Int32 → Int32 → Option (Int32)
  | 0, _, _, _ => none
  | n + 1, l1, l2, l3 => (if 6 ≤ l3 then some l2 else
  (X7_isUnder l1 l3).bind fun v2 =>
  (if v2 = 0 then X7_kin_J41 x (fun l1 l2 l3 => X7_kin_L19 x n l1 l2 l3) l1 l3 0 l2 else
  X7_kin_J41 x (fun l1 l2 l3 => X7_kin_L19 x n l1 l2 l3) l1 l3 (1 <<< (l3 &&& 31)) l2))
theorem okX7_kin_L19 (G : JG) (x : Hs) : ∀ (n : Nat), ∀ (l1 : Int32) (l2 : Int32) (l3 : Int32), JM G RX7 cX7_kin 4 (jZ G (some .int) "kin" (jR 3 0 0) 0 0) (fun r : Int32 => ((some (.int r), x) : JR)) 19 [(1, .int l1), (2, .int l2), (3, .int l3)] [] x 0 0 (X7_kin_L19 x n l1 l2 l3) := by
  intro n
  induction n with
  | zero => intro l1 l2 l3; exact j_none
  | succ n ih =>
    intro l1 l2 l3
    unfold X7_kin_L19
    refine j_iload_n 20 2 dX7_kin_19 rfl rfl rfl ?_
    refine j_bipush (v := 6) 22 dX7_kin_20 rfl bc_6 ?_
    refine j_icmp_ge 49 25 dX7_kin_22 (by decide) rfl ?_ ?_
    · refine j_iload_n 50 1 dX7_kin_49 rfl rfl rfl ?_
      exact j_iret dX7_kin_50 rfl
    · refine j_iload_n 26 1 dX7_kin_25 rfl rfl rfl ?_
      refine j_iload_n 27 0 dX7_kin_26 rfl rfl rfl ?_
      refine j_iload_n 28 2 dX7_kin_27 rfl rfl rfl ?_
      refine j_callS_i (As := [.int l1, .int l3]) (st := [.int l2]) 31 (okX7_isUnder G x l1 l3) kc_X7_isUnder kl_X7_155 ks_X7_isUnder ⟨rfl, rfl, Nat.le_of_ble_eq_true rfl, Nat.le_of_ble_eq_true rfl⟩ (Nat.le_of_ble_eq_true rfl) ⟨Nat.le_of_ble_eq_true rfl, Nat.le_of_ble_eq_true rfl⟩ rfl dX7_kin_28 rfl rfl ?_
      intro v2
      refine j_if_eq 40 34 dX7_kin_31 (by decide) rfl ?_ ?_
      · refine j_iconst (v := 0) 41 dX7_kin_40 rfl ic_0 ?_
        refine j_sub [0, 2] rfl ?_
        exact okX7_kin_J41 G x (fun l1 l2 l3 => X7_kin_L19 x n l1 l2 l3) ih l1 l3 0 l2
      · refine j_iconst (v := 1) 35 dX7_kin_34 rfl ic_1 ?_
        refine j_iload_n 36 2 dX7_kin_35 rfl rfl rfl ?_
        refine j_ishl 37 dX7_kin_36 rfl ?_
        refine j_goto 41 dX7_kin_37 (by decide) ?_
        refine j_sub [0, 2] rfl ?_
        exact okX7_kin_J41 G x (fun l1 l2 l3 => X7_kin_L19 x n l1 l2 l3) ih l1 l3 (1 <<< (l3 &&& 31)) l2
def X7_kin (a0 : Nat) (a1 : Int32) (x : Hs) : Option (Int32) := (vO x 6 a0).bind fun _ =>
  (X7_isIn (Int32.toInt64 a1) 0 5).bind fun v1 =>
  (if v1 = 0 then some (-2) else
  X7_kin_L19 x fu a1 0 0)
theorem rvX7_kin {a0 : Nat} {a1 : Int32} {x : Hs} {r : Int32} (h : X7_kin a0 a1 x = some r) : ∃ fs, x.1 a0 = .inr (6, fs) := vO_bind h
theorem okX7_kin (G : JG) (x : Hs) (a0 : Nat) (a1 : Int32) : ∀ r, X7_kin a0 a1 x = some r → JC G yX7_kin cX7_kin 4 (some .int) (jR 3 0 0) 0 0 [.ref a0, .int a1] x ((some (.int r), x)) := by
  refine jc_of (own := RX7) (E := (fun r : Int32 => ((some (.int r), x) : JR))) (by decide) rfl rfl (Nat.le_of_ble_eq_true rfl) rfl ?_
  unfold X7_kin
  refine j_chk ?_
  refine j_iload_n 1 1 dX7_kin_0 rfl rfl rfl ?_
  refine j_i2l 2 dX7_kin_1 rfl ?_
  refine j_lconst (v := 0) 3 dX7_kin_2 rfl lc_0 ?_
  refine j_ldc2 6 kk_X7_159 dX7_kin_3 rfl ?_
  refine j_callS_i (As := [.long (Int32.toInt64 a1), .long 0, .long 5]) (st := []) 9 (okX7_isIn G x (Int32.toInt64 a1) 0 5) kc_X7_isIn kl_X7_133 ks_X7_isIn ⟨rfl, rfl, Nat.le_of_ble_eq_true rfl, Nat.le_of_ble_eq_true rfl⟩ (Nat.le_of_ble_eq_true rfl) ⟨Nat.le_of_ble_eq_true rfl, Nat.le_of_ble_eq_true rfl⟩ rfl dX7_kin_6 rfl rfl ?_
  intro v1
  refine j_if_ne 15 12 dX7_kin_9 (by decide) rfl ?_ ?_
  · refine j_iconst (v := 0) 16 dX7_kin_15 rfl ic_0 ?_
    refine j_istore_n 17 [(2, .int 0), (0, .ref a0), (1, .int a1)] dX7_kin_16 rfl rfl (by decide) rfl ?_
    refine j_iconst (v := 0) 18 dX7_kin_17 rfl ic_0 ?_
    refine j_istore_n 19 [(3, .int 0), (2, .int 0), (0, .ref a0), (1, .int a1)] dX7_kin_18 rfl rfl (by decide) rfl ?_
    refine j_sub [3, 1, 0] rfl ?_
    exact okX7_kin_L19 G x fu a1 0 0
  · refine j_bipush (v := -2) 14 dX7_kin_12 rfl bc_m2 ?_
    exact j_iret dX7_kin_14 rfl
-- X7_end: ('BarStepsModel', 'end', '(II)I')
def X7_end (a0 : Nat) (a1 : Int32) (a2 : Int32) (x : Hs) : Option (Int32 × Hs) := (vO x 6 a0).bind fun _ =>
  (X7_isIn (Int32.toInt64 a1) 0 1).bind fun v1 =>
  (if v1 = 0 then some ((-1000), x) else
  (X7_isIn (Int32.toInt64 a2) (-1) 999).bind fun v2 =>
  (if v2 = 0 then some ((-1000), x) else
  (gR x 6 a0 7).bind fun v3 =>
  (aI x v3 a1).bind fun v4 =>
  (gR x 6 a0 7).bind fun v5 =>
  (wI x v5 a1 a2).bind fun y6 =>
  some (v4, y6)))
theorem rvX7_end {a0 : Nat} {a1 : Int32} {a2 : Int32} {x : Hs} {r : Int32 × Hs} (h : X7_end a0 a1 a2 x = some r) : ∃ fs, x.1 a0 = .inr (6, fs) := vO_bind h
theorem okX7_end (G : JG) (x : Hs) (a0 : Nat) (a1 : Int32) (a2 : Int32) : ∀ r, X7_end a0 a1 a2 x = some r → JC G yX7_end cX7_end 4 (some .int) (jR 2 0 0) 0 0 [.ref a0, .int a1, .int a2] x ((some (.int r.1), r.2)) := by
  refine jc_of (own := RX7) (E := (fun r : Int32 × Hs => ((some (.int r.1), r.2) : JR))) (by decide) rfl rfl (Nat.le_of_ble_eq_true rfl) rfl ?_
  unfold X7_end
  refine j_chk ?_
  refine j_iload_n 1 1 dX7_end_0 rfl rfl rfl ?_
  refine j_i2l 2 dX7_end_1 rfl ?_
  refine j_lconst (v := 0) 3 dX7_end_2 rfl lc_0 ?_
  refine j_lconst (v := 1) 4 dX7_end_3 rfl lc_1 ?_
  refine j_callS_i (As := [.long (Int32.toInt64 a1), .long 0, .long 1]) (st := []) 7 (okX7_isIn G x (Int32.toInt64 a1) 0 1) kc_X7_isIn kl_X7_133 ks_X7_isIn ⟨rfl, rfl, Nat.le_of_ble_eq_true rfl, Nat.le_of_ble_eq_true rfl⟩ (Nat.le_of_ble_eq_true rfl) ⟨Nat.le_of_ble_eq_true rfl, Nat.le_of_ble_eq_true rfl⟩ rfl dX7_end_4 rfl rfl ?_
  intro v1
  refine j_if_eq 24 10 dX7_end_7 (by decide) rfl ?_ ?_
  · refine j_sipush (v := -1000) 27 dX7_end_24 rfl sc_m1000 ?_
    exact j_iret dX7_end_27 rfl
  · refine j_iload_n 11 2 dX7_end_10 rfl rfl rfl ?_
    refine j_i2l 12 dX7_end_11 rfl ?_
    refine j_ldc2 15 kk_X7_197 dX7_end_12 rfl ?_
    refine j_ldc2 18 kk_X7_169 dX7_end_15 rfl ?_
    refine j_callS_i (As := [.long (Int32.toInt64 a2), .long (-1), .long 999]) (st := []) 21 (okX7_isIn G x (Int32.toInt64 a2) (-1) 999) kc_X7_isIn kl_X7_133 ks_X7_isIn ⟨rfl, rfl, Nat.le_of_ble_eq_true rfl, Nat.le_of_ble_eq_true rfl⟩ (Nat.le_of_ble_eq_true rfl) ⟨Nat.le_of_ble_eq_true rfl, Nat.le_of_ble_eq_true rfl⟩ rfl dX7_end_18 rfl rfl ?_
    intro v2
    refine j_if_ne 28 24 dX7_end_21 (by decide) rfl ?_ ?_
    · refine j_aload_n 29 0 dX7_end_28 rfl rfl rfl ?_
      refine j_gR 32 kf_X7_32 dX7_end_29 rfl ?_
      intro v3
      refine j_iload_n 33 1 dX7_end_32 rfl rfl rfl ?_
      refine j_aI 34 dX7_end_33 rfl ?_
      intro v4
      refine j_istore_n 35 [(3, .int v4), (0, .ref a0), (1, .int a1), (2, .int a2)] dX7_end_34 rfl rfl (by decide) rfl ?_
      refine j_aload_n 36 1 dX7_end_35 rfl rfl rfl ?_
      refine j_gR 39 kf_X7_32 dX7_end_36 rfl ?_
      intro v5
      refine j_iload_n 40 2 dX7_end_39 rfl rfl rfl ?_
      refine j_iload_n 41 3 dX7_end_40 rfl rfl rfl ?_
      refine j_wI 42 dX7_end_41 rfl ?_
      intro y6
      refine j_iload_n 43 0 dX7_end_42 rfl rfl rfl ?_
      exact j_iret dX7_end_43 rfl
    · refine j_sipush (v := -1000) 27 dX7_end_24 rfl sc_m1000 ?_
      exact j_iret dX7_end_27 rfl
-- X7_rule: ('BarStepsModel', 'rule', '(II)I')
def X7_rule_J45 (l0 : Nat) (l1 : Int32) (l2 : Int32) (x : Hs) : Option (Int32 × Hs) := (gR x 6 l0 8).bind fun v3 =>
  (aI x v3 l1).bind fun v4 =>
  (gR x 6 l0 8).bind fun v5 =>
  (wI x v5 l1 l2).bind fun y6 =>
  some (v4, y6)
theorem okX7_rule_J45 (G : JG) : ∀ (l0 : Nat) (l1 : Int32) (l2 : Int32) (x : Hs), JM G RX7 cX7_rule 4 (jZ G (some .int) "rule" (jR 2 0 0) 0 0) (fun r : Int32 × Hs => ((some (.int r.1), r.2) : JR)) 45 [(0, .ref l0), (1, .int l1), (2, .int l2)] [] x 0 0 (X7_rule_J45 l0 l1 l2 x) := by
  intro l0 l1 l2 x
  unfold X7_rule_J45
  refine j_aload_n 46 0 dX7_rule_45 rfl rfl rfl ?_
  refine j_gR 49 kf_X7_35 dX7_rule_46 rfl ?_
  intro v3
  refine j_iload_n 50 1 dX7_rule_49 rfl rfl rfl ?_
  refine j_aI 51 dX7_rule_50 rfl ?_
  intro v4
  refine j_istore_n 52 [(3, .int v4), (0, .ref l0), (1, .int l1), (2, .int l2)] dX7_rule_51 rfl rfl (by decide) rfl ?_
  refine j_aload_n 53 1 dX7_rule_52 rfl rfl rfl ?_
  refine j_gR 56 kf_X7_35 dX7_rule_53 rfl ?_
  intro v5
  refine j_iload_n 57 2 dX7_rule_56 rfl rfl rfl ?_
  refine j_iload_n 58 3 dX7_rule_57 rfl rfl rfl ?_
  refine j_wI 59 dX7_rule_58 rfl ?_
  intro y6
  refine j_iload_n 60 0 dX7_rule_59 rfl rfl rfl ?_
  exact j_iret dX7_rule_60 rfl
def X7_rule (a0 : Nat) (a1 : Int32) (a2 : Int32) (x : Hs) : Option (Int32 × Hs) := (vO x 6 a0).bind fun _ =>
  (X7_isIn (Int32.toInt64 a1) 0 1).bind fun v1 =>
  (if v1 = 0 then some ((-1000), x) else
  (if a1 = 0 then (X7_isIn (Int32.toInt64 a2) 1 20).bind fun v7 =>
  (if v7 = 0 then some ((-1000), x) else
  X7_rule_J45 a0 a1 a2 x) else
  (X7_isIn (Int32.toInt64 a2) 0 999).bind fun v2 =>
  (if v2 = 0 then some ((-1000), x) else
  X7_rule_J45 a0 a1 a2 x)))
theorem rvX7_rule {a0 : Nat} {a1 : Int32} {a2 : Int32} {x : Hs} {r : Int32 × Hs} (h : X7_rule a0 a1 a2 x = some r) : ∃ fs, x.1 a0 = .inr (6, fs) := vO_bind h
theorem okX7_rule (G : JG) (x : Hs) (a0 : Nat) (a1 : Int32) (a2 : Int32) : ∀ r, X7_rule a0 a1 a2 x = some r → JC G yX7_rule cX7_rule 4 (some .int) (jR 2 0 0) 0 0 [.ref a0, .int a1, .int a2] x ((some (.int r.1), r.2)) := by
  refine jc_of (own := RX7) (E := (fun r : Int32 × Hs => ((some (.int r.1), r.2) : JR))) (by decide) rfl rfl (Nat.le_of_ble_eq_true rfl) rfl ?_
  unfold X7_rule
  refine j_chk ?_
  refine j_iload_n 1 1 dX7_rule_0 rfl rfl rfl ?_
  refine j_i2l 2 dX7_rule_1 rfl ?_
  refine j_lconst (v := 0) 3 dX7_rule_2 rfl lc_0 ?_
  refine j_lconst (v := 1) 4 dX7_rule_3 rfl lc_1 ?_
  refine j_callS_i (As := [.long (Int32.toInt64 a1), .long 0, .long 1]) (st := []) 7 (okX7_isIn G x (Int32.toInt64 a1) 0 1) kc_X7_isIn kl_X7_133 ks_X7_isIn ⟨rfl, rfl, Nat.le_of_ble_eq_true rfl, Nat.le_of_ble_eq_true rfl⟩ (Nat.le_of_ble_eq_true rfl) ⟨Nat.le_of_ble_eq_true rfl, Nat.le_of_ble_eq_true rfl⟩ rfl dX7_rule_4 rfl rfl ?_
  intro v1
  refine j_if_eq 41 10 dX7_rule_7 (by decide) rfl ?_ ?_
  · refine j_sipush (v := -1000) 44 dX7_rule_41 rfl sc_m1000 ?_
    exact j_iret dX7_rule_44 rfl
  · refine j_iload_n 11 1 dX7_rule_10 rfl rfl rfl ?_
    refine j_if_ne 29 14 dX7_rule_11 (by decide) rfl ?_ ?_
    · refine j_iload_n 30 2 dX7_rule_29 rfl rfl rfl ?_
      refine j_i2l 31 dX7_rule_30 rfl ?_
      refine j_lconst (v := 0) 32 dX7_rule_31 rfl lc_0 ?_
      refine j_ldc2 35 kk_X7_169 dX7_rule_32 rfl ?_
      refine j_callS_i (As := [.long (Int32.toInt64 a2), .long 0, .long 999]) (st := []) 38 (okX7_isIn G x (Int32.toInt64 a2) 0 999) kc_X7_isIn kl_X7_133 ks_X7_isIn ⟨rfl, rfl, Nat.le_of_ble_eq_true rfl, Nat.le_of_ble_eq_true rfl⟩ (Nat.le_of_ble_eq_true rfl) ⟨Nat.le_of_ble_eq_true rfl, Nat.le_of_ble_eq_true rfl⟩ rfl dX7_rule_35 rfl rfl ?_
      intro v2
      refine j_if_ne 45 41 dX7_rule_38 (by decide) rfl ?_ ?_
      · exact okX7_rule_J45 G a0 a1 a2 x
      · refine j_sipush (v := -1000) 44 dX7_rule_41 rfl sc_m1000 ?_
        exact j_iret dX7_rule_44 rfl
    · refine j_iload_n 15 2 dX7_rule_14 rfl rfl rfl ?_
      refine j_i2l 16 dX7_rule_15 rfl ?_
      refine j_lconst (v := 1) 17 dX7_rule_16 rfl lc_1 ?_
      refine j_ldc2 20 kk_X7_199 dX7_rule_17 rfl ?_
      refine j_callS_i (As := [.long (Int32.toInt64 a2), .long 1, .long 20]) (st := []) 23 (okX7_isIn G x (Int32.toInt64 a2) 1 20) kc_X7_isIn kl_X7_133 ks_X7_isIn ⟨rfl, rfl, Nat.le_of_ble_eq_true rfl, Nat.le_of_ble_eq_true rfl⟩ (Nat.le_of_ble_eq_true rfl) ⟨Nat.le_of_ble_eq_true rfl, Nat.le_of_ble_eq_true rfl⟩ rfl dX7_rule_20 rfl rfl ?_
      intro v7
      refine j_if_eq 41 26 dX7_rule_23 (by decide) rfl ?_ ?_
      · refine j_sipush (v := -1000) 44 dX7_rule_41 rfl sc_m1000 ?_
        exact j_iret dX7_rule_44 rfl
      · refine j_goto 45 dX7_rule_26 (by decide) ?_
        exact okX7_rule_J45 G a0 a1 a2 x
