/-! Each method as a pure term, and the machine's rows. Written by wip/whole/decomp.py. -/
-- X7_need: ('BarStepsModel', 'need', '()I')
def X7_need_L4 (x : Hs) : Nat → Nat → Int32 → Int32 → Option (Int32)
  | 0, _, _, _ => none
  | n + 1, l0, l1, l2 => (gI x 6 l0 0).bind fun v1 =>
  (if v1 ≤ l2 then some l1 else
  (X7_together l0 l2 x).bind fun v2 =>
  (X7_holds l0 l2 x).bind fun v3 =>
  (X7_holds l0 l2 x).bind fun v4 =>
  (o_idiv ((v2 + v3) - 1) v4).bind fun v5 =>
  (J9_max_7cf53 l1 v5).bind fun v6 =>
  X7_need_L4 x n l0 v6 (l2 + 1))
theorem okX7_need_L4 (G : JG) (x : Hs) : ∀ (n : Nat), ∀ (l0 : Nat) (l1 : Int32) (l2 : Int32), JM G RX7 cX7_need 3 (jZ G (some .int) "need" (jR 5 0 0) 0 0) (fun r : Int32 => ((some (.int r), x) : JR)) 4 [(0, .ref l0), (1, .int l1), (2, .int l2)] [] x 0 0 (X7_need_L4 x n l0 l1 l2) := by
  intro n
  induction n with
  | zero => intro l0 l1 l2; exact j_none
  | succ n ih =>
    intro l0 l1 l2
    unfold X7_need_L4
    refine j_iload_n 5 2 dX7_need_4 rfl rfl rfl ?_
    refine j_aload_n 6 0 dX7_need_5 rfl rfl rfl ?_
    refine j_gI 9 kf_X7_129 dX7_need_6 rfl ?_
    intro v1
    refine j_icmp_ge 42 12 dX7_need_9 (by decide) rfl ?_ ?_
    · refine j_iload_n 43 1 dX7_need_42 rfl rfl rfl ?_
      exact j_iret dX7_need_43 rfl
    · refine j_iload_n 13 1 dX7_need_12 rfl rfl rfl ?_
      refine j_aload_n 14 0 dX7_need_13 rfl rfl rfl ?_
      refine j_iload_n 15 2 dX7_need_14 rfl rfl rfl ?_
      refine j_callV_i (ci := 6) (As := [.int l2]) (st := [.int l1]) 18 (okX7_together G x l0 l2) kc_X7_together kl_X7_258 ki_X7_together kv_X7_together kh_X7 (by decide) (fun _ h => rvX7_together h) ⟨rfl, rfl, Nat.le_of_ble_eq_true rfl, Nat.le_of_ble_eq_true rfl⟩ (Nat.le_of_ble_eq_true rfl) ⟨Nat.le_of_ble_eq_true rfl, Nat.le_of_ble_eq_true rfl⟩ rfl dX7_need_15 rfl rfl ?_
      intro v2
      refine j_aload_n 19 0 dX7_need_18 rfl rfl rfl ?_
      refine j_iload_n 20 2 dX7_need_19 rfl rfl rfl ?_
      refine j_callV_i (ci := 6) (As := [.int l2]) (st := [.int v2, .int l1]) 23 (okX7_holds G x l0 l2) kc_X7_holds kl_X7_188 ki_X7_holds kv_X7_holds kh_X7 (by decide) (fun _ h => rvX7_holds h) ⟨rfl, rfl, Nat.le_of_ble_eq_true rfl, Nat.le_of_ble_eq_true rfl⟩ (Nat.le_of_ble_eq_true rfl) ⟨Nat.le_of_ble_eq_true rfl, Nat.le_of_ble_eq_true rfl⟩ rfl dX7_need_20 rfl rfl ?_
      intro v3
      refine j_iadd 24 dX7_need_23 rfl ?_
      refine j_iconst (v := 1) 25 dX7_need_24 rfl ic_1 ?_
      refine j_isub 26 dX7_need_25 rfl ?_
      refine j_aload_n 27 0 dX7_need_26 rfl rfl rfl ?_
      refine j_iload_n 28 2 dX7_need_27 rfl rfl rfl ?_
      refine j_callV_i (ci := 6) (As := [.int l2]) (st := [.int ((v2 + v3) - 1), .int l1]) 31 (okX7_holds G x l0 l2) kc_X7_holds kl_X7_188 ki_X7_holds kv_X7_holds kh_X7 (by decide) (fun _ h => rvX7_holds h) ⟨rfl, rfl, Nat.le_of_ble_eq_true rfl, Nat.le_of_ble_eq_true rfl⟩ (Nat.le_of_ble_eq_true rfl) ⟨Nat.le_of_ble_eq_true rfl, Nat.le_of_ble_eq_true rfl⟩ rfl dX7_need_28 rfl rfl ?_
      intro v4
      refine j_idiv 32 dX7_need_31 rfl ?_
      intro v5
      refine j_callS_i (As := [.int l1, .int v5]) (st := []) 35 (okJ9_max_7cf53 G x l1 v5) kc_J9_max_7cf53 kl_X7_261 ks_J9_max_7cf53 ⟨rfl, rfl, Nat.le_of_ble_eq_true rfl, Nat.le_of_ble_eq_true rfl⟩ (Nat.le_of_ble_eq_true rfl) ⟨Nat.le_of_ble_eq_true rfl, Nat.le_of_ble_eq_true rfl⟩ rfl dX7_need_32 rfl rfl ?_
      intro v6
      refine j_istore_n 36 [(1, .int v6), (0, .ref l0), (2, .int l2)] dX7_need_35 rfl rfl (by decide) rfl ?_
      refine j_iinc 39 2 [(2, .int (l2 + 1)), (1, .int v6), (0, .ref l0)] dX7_need_36 rfl rfl (ii_1 _) (by decide) rfl ?_
      refine j_goto 4 dX7_need_39 (by decide) ?_
      refine j_sub [2, 1, 0] rfl ?_
      exact ih l0 v6 (l2 + 1)
def X7_need (a0 : Nat) (x : Hs) : Option (Int32) := (vO x 6 a0).bind fun _ =>
  X7_need_L4 x fu a0 1 0
theorem rvX7_need {a0 : Nat} {x : Hs} {r : Int32} (h : X7_need a0 x = some r) : ∃ fs, x.1 a0 = .inr (6, fs) := vO_bind h
theorem okX7_need (G : JG) (x : Hs) (a0 : Nat) : ∀ r, X7_need a0 x = some r → JC G yX7_need cX7_need 3 (some .int) (jR 5 0 0) 0 0 [.ref a0] x ((some (.int r), x)) := by
  refine jc_of (own := RX7) (E := (fun r : Int32 => ((some (.int r), x) : JR))) (by decide) rfl rfl (Nat.le_of_ble_eq_true rfl) rfl ?_
  unfold X7_need
  refine j_chk ?_
  refine j_iconst (v := 1) 1 dX7_need_0 rfl ic_1 ?_
  refine j_istore_n 2 [(1, .int 1), (0, .ref a0)] dX7_need_1 rfl rfl (by decide) rfl ?_
  refine j_iconst (v := 0) 3 dX7_need_2 rfl ic_0 ?_
  refine j_istore_n 4 [(2, .int 0), (1, .int 1), (0, .ref a0)] dX7_need_3 rfl rfl (by decide) rfl ?_
  refine j_sub [2, 1, 0] rfl ?_
  exact okX7_need_L4 G x fu a0 1 0
-- X7_sum: ('BarStepsModel', 'sum', '(I)J')
def X7_sum_L19 (x : Hs) : Nat → Nat → Int32 → Int64 → Int32 → Option (Int64)
  | 0, _, _, _, _ => none
  | n + 1, l0, l1, l2, l4 => (gI x 6 l0 0).bind fun v2 =>
  (if v2 ≤ l4 then (gL x 6 l0 6).bind fun v3 =>
  (X7_part l2 v3 l1).bind fun v4 =>
  some v4 else
  (X7_holds l0 l4 x).bind fun v5 =>
  (gR x 6 l0 5).bind fun v6 =>
  (aL x v6 l4).bind fun v7 =>
  X7_sum_L19 x n l0 l1 (l2 + ((Int32.toInt64 v5) * v7)) (l4 + 1))
theorem okX7_sum_L19 (G : JG) (x : Hs) : ∀ (n : Nat), ∀ (l0 : Nat) (l1 : Int32) (l2 : Int64) (l4 : Int32), JM G RX7 cX7_sum 5 (jZ G (some .long) "sum" (jR 4 0 0) 0 0) (fun r : Int64 => ((some (.long r), x) : JR)) 19 [(0, .ref l0), (1, .int l1), (2, .long l2), (4, .int l4)] [] x 0 0 (X7_sum_L19 x n l0 l1 l2 l4) := by
  intro n
  induction n with
  | zero => intro l0 l1 l2 l4; exact j_none
  | succ n ih =>
    intro l0 l1 l2 l4
    unfold X7_sum_L19
    refine j_iload 21 3 dX7_sum_19 rfl rfl ?_
    refine j_aload_n 22 0 dX7_sum_21 rfl rfl rfl ?_
    refine j_gI 25 kf_X7_129 dX7_sum_22 rfl ?_
    intro v2
    refine j_icmp_ge 52 28 dX7_sum_25 (by decide) rfl ?_ ?_
    · refine j_lload_n 53 2 dX7_sum_52 rfl rfl rfl ?_
      refine j_aload_n 54 0 dX7_sum_53 rfl rfl rfl ?_
      refine j_gL 57 kf_X7_28 dX7_sum_54 rfl ?_
      intro v3
      refine j_iload_n 58 1 dX7_sum_57 rfl rfl rfl ?_
      refine j_callS_l (As := [.long l2, .long v3, .int l1]) (st := []) 61 (okX7_part G x l2 v3 l1) kc_X7_part kl_X7_252 ks_X7_part ⟨rfl, rfl, Nat.le_of_ble_eq_true rfl, Nat.le_of_ble_eq_true rfl⟩ (Nat.le_of_ble_eq_true rfl) ⟨Nat.le_of_ble_eq_true rfl, Nat.le_of_ble_eq_true rfl⟩ rfl dX7_sum_58 rfl rfl ?_
      intro v4
      exact j_lret dX7_sum_61 rfl
    · refine j_lload_n 29 2 dX7_sum_28 rfl rfl rfl ?_
      refine j_aload_n 30 0 dX7_sum_29 rfl rfl rfl ?_
      refine j_iload 32 3 dX7_sum_30 rfl rfl ?_
      refine j_callV_i (ci := 6) (As := [.int l4]) (st := [.long l2]) 35 (okX7_holds G x l0 l4) kc_X7_holds kl_X7_188 ki_X7_holds kv_X7_holds kh_X7 (by decide) (fun _ h => rvX7_holds h) ⟨rfl, rfl, Nat.le_of_ble_eq_true rfl, Nat.le_of_ble_eq_true rfl⟩ (Nat.le_of_ble_eq_true rfl) ⟨Nat.le_of_ble_eq_true rfl, Nat.le_of_ble_eq_true rfl⟩ rfl dX7_sum_32 rfl rfl ?_
      intro v5
      refine j_i2l 36 dX7_sum_35 rfl ?_
      refine j_aload_n 37 0 dX7_sum_36 rfl rfl rfl ?_
      refine j_gR 40 kf_X7_24 dX7_sum_37 rfl ?_
      intro v6
      refine j_iload 42 3 dX7_sum_40 rfl rfl ?_
      refine j_aL 43 dX7_sum_42 rfl ?_
      intro v7
      refine j_lmul 44 dX7_sum_43 rfl ?_
      refine j_ladd 45 dX7_sum_44 rfl ?_
      refine j_lstore_n 46 [(2, .long (l2 + ((Int32.toInt64 v5) * v7))), (0, .ref l0), (1, .int l1), (4, .int l4)] dX7_sum_45 rfl rfl (by decide) rfl ?_
      refine j_iinc 49 3 [(4, .int (l4 + 1)), (2, .long (l2 + ((Int32.toInt64 v5) * v7))), (0, .ref l0), (1, .int l1)] dX7_sum_46 rfl rfl (ii_1 _) (by decide) rfl ?_
      refine j_goto 19 dX7_sum_49 (by decide) ?_
      refine j_sub [2, 3, 1, 0] rfl ?_
      exact ih l0 l1 (l2 + ((Int32.toInt64 v5) * v7)) (l4 + 1)
def X7_sum (a0 : Nat) (a1 : Int32) (x : Hs) : Option (Int64) := (vO x 6 a0).bind fun _ =>
  (X7_isIn (Int32.toInt64 a1) 0 1).bind fun v1 =>
  (if v1 = 0 then some (-9223372036854775808) else
  X7_sum_L19 x fu a0 a1 0 0)
theorem rvX7_sum {a0 : Nat} {a1 : Int32} {x : Hs} {r : Int64} (h : X7_sum a0 a1 x = some r) : ∃ fs, x.1 a0 = .inr (6, fs) := vO_bind h
theorem okX7_sum (G : JG) (x : Hs) (a0 : Nat) (a1 : Int32) : ∀ r, X7_sum a0 a1 x = some r → JC G yX7_sum cX7_sum 5 (some .long) (jR 4 0 0) 0 0 [.ref a0, .int a1] x ((some (.long r), x)) := by
  refine jc_of (own := RX7) (E := (fun r : Int64 => ((some (.long r), x) : JR))) (by decide) rfl rfl (Nat.le_of_ble_eq_true rfl) rfl ?_
  unfold X7_sum
  refine j_chk ?_
  refine j_iload_n 1 1 dX7_sum_0 rfl rfl rfl ?_
  refine j_i2l 2 dX7_sum_1 rfl ?_
  refine j_lconst (v := 0) 3 dX7_sum_2 rfl lc_0 ?_
  refine j_lconst (v := 1) 4 dX7_sum_3 rfl lc_1 ?_
  refine j_callS_i (As := [.long (Int32.toInt64 a1), .long 0, .long 1]) (st := []) 7 (okX7_isIn G x (Int32.toInt64 a1) 0 1) kc_X7_isIn kl_X7_133 ks_X7_isIn ⟨rfl, rfl, Nat.le_of_ble_eq_true rfl, Nat.le_of_ble_eq_true rfl⟩ (Nat.le_of_ble_eq_true rfl) ⟨Nat.le_of_ble_eq_true rfl, Nat.le_of_ble_eq_true rfl⟩ rfl dX7_sum_4 rfl rfl ?_
  intro v1
  refine j_if_ne 14 10 dX7_sum_7 (by decide) rfl ?_ ?_
  · refine j_lconst (v := 0) 15 dX7_sum_14 rfl lc_0 ?_
    refine j_lstore_n 16 [(2, .long 0), (0, .ref a0), (1, .int a1)] dX7_sum_15 rfl rfl (by decide) rfl ?_
    refine j_iconst (v := 0) 17 dX7_sum_16 rfl ic_0 ?_
    refine j_istore 19 [(4, .int 0), (2, .long 0), (0, .ref a0), (1, .int a1)] dX7_sum_17 rfl (by decide) rfl ?_
    refine j_sub [2, 3, 1, 0] rfl ?_
    exact okX7_sum_L19 G x fu a0 a1 0 0
  · refine j_ldc2 13 kk_X7_256 dX7_sum_10 rfl ?_
    exact j_lret dX7_sum_13 rfl
-- X7_most: ('BarStepsModel', 'most', '(I)I')
def X7_most_J74 (x : Hs) (r17 : Nat → Int32 → Int32 → Int32 → Option (Int32)) (l0 : Nat) (l1 : Int32) (l2 : Int32) (l3 : Int32) (s0 : Int32) : Option (Int32) := (if s0 = 0 then r17 l0 l1 l2 (l3 + 1) else
  r17 l0 l1 l3 (l3 + 1))
theorem okX7_most_J74 (G : JG) (x : Hs) (r17 : Nat → Int32 → Int32 → Int32 → Option (Int32)) (hr17 : ∀ (l0 : Nat) (l1 : Int32) (l2 : Int32) (l3 : Int32), JM G RX7 cX7_most 5 (jZ G (some .int) "most" (jR 2 0 0) 0 0) (fun r : Int32 => ((some (.int r), x) : JR)) 17 [(0, .ref l0), (1, .int l1), (2, .int l2), (3, .int l3)] [] x 0 0 (r17 l0 l1 l2 l3)) : ∀ (l0 : Nat) (l1 : Int32) (l2 : Int32) (l3 : Int32) (s0 : Int32), JM G RX7 cX7_most 5 (jZ G (some .int) "most" (jR 2 0 0) 0 0) (fun r : Int32 => ((some (.int r), x) : JR)) 74 [(0, .ref l0), (1, .int l1), (2, .int l2), (3, .int l3)] [.int s0] x 0 0 (X7_most_J74 x r17 l0 l1 l2 l3 s0) := by
  intro l0 l1 l2 l3 s0
  unfold X7_most_J74
  refine j_istore 76 [(4, .int s0), (0, .ref l0), (1, .int l1), (2, .int l2), (3, .int l3)] dX7_most_74 rfl (by decide) rfl ?_
  refine j_iload 78 0 dX7_most_76 rfl rfl ?_
  refine j_if_eq 85 81 dX7_most_78 (by decide) rfl ?_ ?_
  · refine j_iload_n 86 3 dX7_most_85 rfl rfl rfl ?_
    refine j_istore_n 87 [(2, .int l2), (4, .int s0), (0, .ref l0), (1, .int l1), (3, .int l3)] dX7_most_86 rfl rfl (by decide) rfl ?_
    refine j_iinc 90 4 [(3, .int (l3 + 1)), (2, .int l2), (4, .int s0), (0, .ref l0), (1, .int l1)] dX7_most_87 rfl rfl (ii_1 _) (by decide) rfl ?_
    refine j_goto 17 dX7_most_90 (by decide) ?_
    refine j_sub [3, 4, 1, 0] rfl ?_
    exact hr17 l0 l1 l2 (l3 + 1)
  · refine j_iload_n 82 4 dX7_most_81 rfl rfl rfl ?_
    refine j_goto 86 dX7_most_82 (by decide) ?_
    refine j_istore_n 87 [(2, .int l3), (4, .int s0), (0, .ref l0), (1, .int l1), (3, .int l3)] dX7_most_86 rfl rfl (by decide) rfl ?_
    refine j_iinc 90 4 [(3, .int (l3 + 1)), (2, .int l3), (4, .int s0), (0, .ref l0), (1, .int l1)] dX7_most_87 rfl rfl (ii_1 _) (by decide) rfl ?_
    refine j_goto 17 dX7_most_90 (by decide) ?_
    refine j_sub [3, 4, 1, 0] rfl ?_
    exact hr17 l0 l1 l3 (l3 + 1)
def X7_most_L17 (x : Hs) : Nat → Nat → Int32 → Int32 → Int32 → Option (Int32)
  | 0, _, _, _, _ => none
  | n + 1, l0, l1, l2, l3 => (gI x 6 l0 0).bind fun v2 =>
  (if v2 ≤ l3 then some l2 else
  (if l2 = (-1) then X7_most_J74 x (fun l0 l1 l2 l3 => X7_most_L17 x n l0 l1 l2 l3) l0 l1 l2 l3 1 else
  (if l1 = 0 then (gR x 6 l0 5).bind fun v7 =>
  (aL x v7 l3).bind fun v8 =>
  (gR x 6 l0 5).bind fun v9 =>
  (aL x v9 l2).bind fun v10 =>
  (if v8 ≤ v10 then X7_most_J74 x (fun l0 l1 l2 l3 => X7_most_L17 x n l0 l1 l2 l3) l0 l1 l2 l3 0 else
  X7_most_J74 x (fun l0 l1 l2 l3 => X7_most_L17 x n l0 l1 l2 l3) l0 l1 l2 l3 1) else
  (gR x 6 l0 5).bind fun v3 =>
  (aL x v3 l3).bind fun v4 =>
  (gR x 6 l0 5).bind fun v5 =>
  (aL x v5 l2).bind fun v6 =>
  (if v6 ≤ v4 then X7_most_J74 x (fun l0 l1 l2 l3 => X7_most_L17 x n l0 l1 l2 l3) l0 l1 l2 l3 0 else
  X7_most_J74 x (fun l0 l1 l2 l3 => X7_most_L17 x n l0 l1 l2 l3) l0 l1 l2 l3 1))))
theorem okX7_most_L17 (G : JG) (x : Hs) : ∀ (n : Nat), ∀ (l0 : Nat) (l1 : Int32) (l2 : Int32) (l3 : Int32), JM G RX7 cX7_most 5 (jZ G (some .int) "most" (jR 2 0 0) 0 0) (fun r : Int32 => ((some (.int r), x) : JR)) 17 [(0, .ref l0), (1, .int l1), (2, .int l2), (3, .int l3)] [] x 0 0 (X7_most_L17 x n l0 l1 l2 l3) := by
  intro n
  induction n with
  | zero => intro l0 l1 l2 l3; exact j_none
  | succ n ih =>
    intro l0 l1 l2 l3
    unfold X7_most_L17
    refine j_iload_n 18 3 dX7_most_17 rfl rfl rfl ?_
    refine j_aload_n 19 0 dX7_most_18 rfl rfl rfl ?_
    refine j_gI 22 kf_X7_129 dX7_most_19 rfl ?_
    intro v2
    refine j_icmp_ge 93 25 dX7_most_22 (by decide) rfl ?_ ?_
    · refine j_iload_n 94 2 dX7_most_93 rfl rfl rfl ?_
      exact j_iret dX7_most_94 rfl
    · refine j_iload_n 26 2 dX7_most_25 rfl rfl rfl ?_
      refine j_iconst (v := -1) 27 dX7_most_26 rfl ic_m1 ?_
      refine j_icmp_eq 69 30 dX7_most_27 (by decide) rfl ?_ ?_
      · refine j_iconst (v := 1) 70 dX7_most_69 rfl ic_1 ?_
        refine j_goto 74 dX7_most_70 (by decide) ?_
        exact okX7_most_J74 G x (fun l0 l1 l2 l3 => X7_most_L17 x n l0 l1 l2 l3) ih l0 l1 l2 l3 1
      · refine j_iload_n 31 1 dX7_most_30 rfl rfl rfl ?_
        refine j_if_ne 53 34 dX7_most_31 (by decide) rfl ?_ ?_
        · refine j_aload_n 54 0 dX7_most_53 rfl rfl rfl ?_
          refine j_gR 57 kf_X7_24 dX7_most_54 rfl ?_
          intro v3
          refine j_iload_n 58 3 dX7_most_57 rfl rfl rfl ?_
          refine j_aL 59 dX7_most_58 rfl ?_
          intro v4
          refine j_aload_n 60 0 dX7_most_59 rfl rfl rfl ?_
          refine j_gR 63 kf_X7_24 dX7_most_60 rfl ?_
          intro v5
          refine j_iload_n 64 2 dX7_most_63 rfl rfl rfl ?_
          refine j_aL 65 dX7_most_64 rfl ?_
          intro v6
          refine j_lcmp_ge 66 73 69 dX7_most_65 rfl dX7_most_66 (by decide) rfl ?_ ?_
          · refine j_iconst (v := 0) 74 dX7_most_73 rfl ic_0 ?_
            exact okX7_most_J74 G x (fun l0 l1 l2 l3 => X7_most_L17 x n l0 l1 l2 l3) ih l0 l1 l2 l3 0
          · refine j_iconst (v := 1) 70 dX7_most_69 rfl ic_1 ?_
            refine j_goto 74 dX7_most_70 (by decide) ?_
            exact okX7_most_J74 G x (fun l0 l1 l2 l3 => X7_most_L17 x n l0 l1 l2 l3) ih l0 l1 l2 l3 1
        · refine j_aload_n 35 0 dX7_most_34 rfl rfl rfl ?_
          refine j_gR 38 kf_X7_24 dX7_most_35 rfl ?_
          intro v7
          refine j_iload_n 39 3 dX7_most_38 rfl rfl rfl ?_
          refine j_aL 40 dX7_most_39 rfl ?_
          intro v8
          refine j_aload_n 41 0 dX7_most_40 rfl rfl rfl ?_
          refine j_gR 44 kf_X7_24 dX7_most_41 rfl ?_
          intro v9
          refine j_iload_n 45 2 dX7_most_44 rfl rfl rfl ?_
          refine j_aL 46 dX7_most_45 rfl ?_
          intro v10
          refine j_lcmp_le 47 73 50 dX7_most_46 rfl dX7_most_47 (by decide) rfl ?_ ?_
          · refine j_iconst (v := 0) 74 dX7_most_73 rfl ic_0 ?_
            exact okX7_most_J74 G x (fun l0 l1 l2 l3 => X7_most_L17 x n l0 l1 l2 l3) ih l0 l1 l2 l3 0
          · refine j_goto 69 dX7_most_50 (by decide) ?_
            refine j_iconst (v := 1) 70 dX7_most_69 rfl ic_1 ?_
            refine j_goto 74 dX7_most_70 (by decide) ?_
            exact okX7_most_J74 G x (fun l0 l1 l2 l3 => X7_most_L17 x n l0 l1 l2 l3) ih l0 l1 l2 l3 1
def X7_most (a0 : Nat) (a1 : Int32) (x : Hs) : Option (Int32) := (vO x 6 a0).bind fun _ =>
  (X7_isIn (Int32.toInt64 a1) 0 1).bind fun v1 =>
  (if v1 = 0 then some (-2) else
  X7_most_L17 x fu a0 a1 (-1) 0)
theorem rvX7_most {a0 : Nat} {a1 : Int32} {x : Hs} {r : Int32} (h : X7_most a0 a1 x = some r) : ∃ fs, x.1 a0 = .inr (6, fs) := vO_bind h
theorem okX7_most (G : JG) (x : Hs) (a0 : Nat) (a1 : Int32) : ∀ r, X7_most a0 a1 x = some r → JC G yX7_most cX7_most 5 (some .int) (jR 2 0 0) 0 0 [.ref a0, .int a1] x ((some (.int r), x)) := by
  refine jc_of (own := RX7) (E := (fun r : Int32 => ((some (.int r), x) : JR))) (by decide) rfl rfl (Nat.le_of_ble_eq_true rfl) rfl ?_
  unfold X7_most
  refine j_chk ?_
  refine j_iload_n 1 1 dX7_most_0 rfl rfl rfl ?_
  refine j_i2l 2 dX7_most_1 rfl ?_
  refine j_lconst (v := 0) 3 dX7_most_2 rfl lc_0 ?_
  refine j_lconst (v := 1) 4 dX7_most_3 rfl lc_1 ?_
  refine j_callS_i (As := [.long (Int32.toInt64 a1), .long 0, .long 1]) (st := []) 7 (okX7_isIn G x (Int32.toInt64 a1) 0 1) kc_X7_isIn kl_X7_133 ks_X7_isIn ⟨rfl, rfl, Nat.le_of_ble_eq_true rfl, Nat.le_of_ble_eq_true rfl⟩ (Nat.le_of_ble_eq_true rfl) ⟨Nat.le_of_ble_eq_true rfl, Nat.le_of_ble_eq_true rfl⟩ rfl dX7_most_4 rfl rfl ?_
  intro v1
  refine j_if_ne 13 10 dX7_most_7 (by decide) rfl ?_ ?_
  · refine j_iconst (v := -1) 14 dX7_most_13 rfl ic_m1 ?_
    refine j_istore_n 15 [(2, .int (-1)), (0, .ref a0), (1, .int a1)] dX7_most_14 rfl rfl (by decide) rfl ?_
    refine j_iconst (v := 0) 16 dX7_most_15 rfl ic_0 ?_
    refine j_istore_n 17 [(3, .int 0), (2, .int (-1)), (0, .ref a0), (1, .int a1)] dX7_most_16 rfl rfl (by decide) rfl ?_
    refine j_sub [2, 3, 1, 0] rfl ?_
    exact okX7_most_L17 G x fu a0 a1 (-1) 0
  · refine j_bipush (v := -2) 12 dX7_most_10 rfl bc_m2 ?_
    exact j_iret dX7_most_12 rfl
-- X7_step: ('BarStepsModel', 'step', '(I)I')
def X7_step_J49 (l0 : Nat) (l2 : Int32) (x : Hs) : Option (Int32 × Hs) := (X7_keep l0 x).bind fun q4 =>
  some (l2, q4)
theorem okX7_step_J49 (G : JG) : ∀ (l0 : Nat) (l2 : Int32) (x : Hs), JM G RX7 cX7_step 3 (jZ G (some .int) "step" (jR 8 0 0) 0 0) (fun r : Int32 × Hs => ((some (.int r.1), r.2) : JR)) 49 [(0, .ref l0), (2, .int l2)] [] x 0 0 (X7_step_J49 l0 l2 x) := by
  intro l0 l2 x
  unfold X7_step_J49
  refine j_aload_n 50 0 dX7_step_49 rfl rfl rfl ?_
  refine j_callV_v (ci := 6) (As := []) (st := []) 53 (okX7_keep G x l0) kc_X7_keep kl_X7_265 ki_X7_keep kv_X7_keep kh_X7 (by decide) (fun _ h => rvX7_keep h) ⟨rfl, rfl, Nat.le_of_ble_eq_true rfl, Nat.le_of_ble_eq_true rfl⟩ (Nat.le_of_ble_eq_true rfl) ⟨Nat.le_of_ble_eq_true rfl, Nat.le_of_ble_eq_true rfl⟩ rfl dX7_step_50 rfl rfl ?_
  intro q4
  refine j_iload_n 54 1 dX7_step_53 rfl rfl rfl ?_
  exact j_iret dX7_step_54 rfl
def X7_step_L31 : Nat → Nat → Int32 → Int32 → Hs → Option (Int32 × Hs)
  | 0, _, _, _, _ => none
  | n + 1, l0, l1, l2, x => (if l1 ≤ l2 then X7_step_J49 l0 l2 x else
  (X7_goes l0 x).bind fun q5 =>
  (if q5.1 = 0 then X7_step_J49 l0 l2 q5.2 else
  X7_step_L31 n l0 l1 (l2 + 1) q5.2))
theorem okX7_step_L31 (G : JG) : ∀ (n : Nat), ∀ (l0 : Nat) (l1 : Int32) (l2 : Int32) (x : Hs), JM G RX7 cX7_step 3 (jZ G (some .int) "step" (jR 8 0 0) 0 0) (fun r : Int32 × Hs => ((some (.int r.1), r.2) : JR)) 31 [(0, .ref l0), (1, .int l1), (2, .int l2)] [] x 0 0 (X7_step_L31 n l0 l1 l2 x) := by
  intro n
  induction n with
  | zero => intro l0 l1 l2 x; exact j_none
  | succ n ih =>
    intro l0 l1 l2 x
    unfold X7_step_L31
    refine j_iload_n 32 2 dX7_step_31 rfl rfl rfl ?_
    refine j_iload_n 33 1 dX7_step_32 rfl rfl rfl ?_
    refine j_icmp_ge 49 36 dX7_step_33 (by decide) rfl ?_ ?_
    · refine j_sub [0, 2] rfl ?_
      exact okX7_step_J49 G l0 l2 x
    · refine j_aload_n 37 0 dX7_step_36 rfl rfl rfl ?_
      refine j_callV_iw (ci := 6) (As := []) (st := []) 40 (okX7_goes G x l0) kc_X7_goes kl_X7_235 ki_X7_goes kv_X7_goes kh_X7 (by decide) (fun _ h => rvX7_goes h) ⟨rfl, rfl, Nat.le_of_ble_eq_true rfl, Nat.le_of_ble_eq_true rfl⟩ (Nat.le_of_ble_eq_true rfl) ⟨Nat.le_of_ble_eq_true rfl, Nat.le_of_ble_eq_true rfl⟩ rfl dX7_step_37 rfl rfl ?_
      intro q5
      refine j_if_eq 49 43 dX7_step_40 (by decide) rfl ?_ ?_
      · refine j_sub [0, 2] rfl ?_
        exact okX7_step_J49 G l0 l2 q5.2
      · refine j_iinc 46 2 [(2, .int (l2 + 1)), (0, .ref l0), (1, .int l1)] dX7_step_43 rfl rfl (ii_1 _) (by decide) rfl ?_
        refine j_goto 31 dX7_step_46 (by decide) ?_
        refine j_sub [1, 2, 0] rfl ?_
        exact ih l0 l1 (l2 + 1) q5.2
def X7_step (a0 : Nat) (a1 : Int32) (x : Hs) : Option (Int32 × Hs) := (vO x 6 a0).bind fun _ =>
  (X7_isIn (Int32.toInt64 a1) 1 40).bind fun v1 =>
  (if v1 = 0 then some ((-2), x) else
  (gI x 6 a0 0).bind fun v2 =>
  (if v2 = 0 then some ((-3), x) else
  (X7_think a0 x).bind fun q3 =>
  X7_step_L31 fu a0 a1 0 q3))
theorem rvX7_step {a0 : Nat} {a1 : Int32} {x : Hs} {r : Int32 × Hs} (h : X7_step a0 a1 x = some r) : ∃ fs, x.1 a0 = .inr (6, fs) := vO_bind h
theorem okX7_step (G : JG) (x : Hs) (a0 : Nat) (a1 : Int32) : ∀ r, X7_step a0 a1 x = some r → JC G yX7_step cX7_step 3 (some .int) (jR 8 0 0) 0 0 [.ref a0, .int a1] x ((some (.int r.1), r.2)) := by
  refine jc_of (own := RX7) (E := (fun r : Int32 × Hs => ((some (.int r.1), r.2) : JR))) (by decide) rfl rfl (Nat.le_of_ble_eq_true rfl) rfl ?_
  unfold X7_step
  refine j_chk ?_
  refine j_iload_n 1 1 dX7_step_0 rfl rfl rfl ?_
  refine j_i2l 2 dX7_step_1 rfl ?_
  refine j_lconst (v := 1) 3 dX7_step_2 rfl lc_1 ?_
  refine j_ldc2 6 kk_X7_263 dX7_step_3 rfl ?_
  refine j_callS_i (As := [.long (Int32.toInt64 a1), .long 1, .long 40]) (st := []) 9 (okX7_isIn G x (Int32.toInt64 a1) 1 40) kc_X7_isIn kl_X7_133 ks_X7_isIn ⟨rfl, rfl, Nat.le_of_ble_eq_true rfl, Nat.le_of_ble_eq_true rfl⟩ (Nat.le_of_ble_eq_true rfl) ⟨Nat.le_of_ble_eq_true rfl, Nat.le_of_ble_eq_true rfl⟩ rfl dX7_step_6 rfl rfl ?_
  intro v1
  refine j_if_ne 15 12 dX7_step_9 (by decide) rfl ?_ ?_
  · refine j_aload_n 16 0 dX7_step_15 rfl rfl rfl ?_
    refine j_gI 19 kf_X7_129 dX7_step_16 rfl ?_
    intro v2
    refine j_if_ne 25 22 dX7_step_19 (by decide) rfl ?_ ?_
    · refine j_aload_n 26 0 dX7_step_25 rfl rfl rfl ?_
      refine j_callV_v (ci := 6) (As := []) (st := []) 29 (okX7_think G x a0) kc_X7_think kl_X7_232 ki_X7_think kv_X7_think kh_X7 (by decide) (fun _ h => rvX7_think h) ⟨rfl, rfl, Nat.le_of_ble_eq_true rfl, Nat.le_of_ble_eq_true rfl⟩ (Nat.le_of_ble_eq_true rfl) ⟨Nat.le_of_ble_eq_true rfl, Nat.le_of_ble_eq_true rfl⟩ rfl dX7_step_26 rfl rfl ?_
      intro q3
      refine j_iconst (v := 0) 30 dX7_step_29 rfl ic_0 ?_
      refine j_istore_n 31 [(2, .int 0), (0, .ref a0), (1, .int a1)] dX7_step_30 rfl rfl (by decide) rfl ?_
      refine j_sub [1, 2, 0] rfl ?_
      exact okX7_step_L31 G fu a0 a1 0 q3
    · refine j_bipush (v := -3) 24 dX7_step_22 rfl bc_m3 ?_
      exact j_iret dX7_step_24 rfl
  · refine j_bipush (v := -2) 14 dX7_step_12 rfl bc_m2 ?_
    exact j_iret dX7_step_14 rfl
-- X7_then: ('BarStepsModel', 'then', '(III)J')
def X7_then (a0 : Nat) (a1 : Int32) (a2 : Int32) (a3 : Int32) (x : Hs) : Option (Int64 × Hs) := (vO x 6 a0).bind fun _ =>
  (X7_isIn (Int32.toInt64 a1) 0 40).bind fun v1 =>
  (if v1 = 0 then some ((-9223372036854775808), x) else
  (X7_isCell a0 a2 x).bind fun v2 =>
  (if v2 = 0 then some ((-9223372036854775808), x) else
  (X7_isIn (Int32.toInt64 a3) 0 1).bind fun v3 =>
  (if v3 = 0 then some ((-9223372036854775808), x) else
  (X7_goes_ a0 a1 x).bind fun q4 =>
  (if q4.1 = 0 then some ((-9223372036854775808), q4.2) else
  (gR q4.2 6 a0 13).bind fun v5 =>
  (aL q4.2 v5 a2).bind fun v6 =>
  (gL q4.2 6 a0 14).bind fun v7 =>
  (X7_part v6 v7 a3).bind fun v8 =>
  some (v8, q4.2)))))
theorem rvX7_then {a0 : Nat} {a1 : Int32} {a2 : Int32} {a3 : Int32} {x : Hs} {r : Int64 × Hs} (h : X7_then a0 a1 a2 a3 x = some r) : ∃ fs, x.1 a0 = .inr (6, fs) := vO_bind h
theorem okX7_then (G : JG) (x : Hs) (a0 : Nat) (a1 : Int32) (a2 : Int32) (a3 : Int32) : ∀ r, X7_then a0 a1 a2 a3 x = some r → JC G yX7_then cX7_then 4 (some .long) (jR 9 0 0) 0 0 [.ref a0, .int a1, .int a2, .int a3] x ((some (.long r.1), r.2)) := by
  refine jc_of (own := RX7) (E := (fun r : Int64 × Hs => ((some (.long r.1), r.2) : JR))) (by decide) rfl rfl (Nat.le_of_ble_eq_true rfl) rfl ?_
  unfold X7_then
  refine j_chk ?_
  refine j_iload_n 1 1 dX7_then_0 rfl rfl rfl ?_
  refine j_i2l 2 dX7_then_1 rfl ?_
  refine j_lconst (v := 0) 3 dX7_then_2 rfl lc_0 ?_
  refine j_ldc2 6 kk_X7_263 dX7_then_3 rfl ?_
  refine j_callS_i (As := [.long (Int32.toInt64 a1), .long 0, .long 40]) (st := []) 9 (okX7_isIn G x (Int32.toInt64 a1) 0 40) kc_X7_isIn kl_X7_133 ks_X7_isIn ⟨rfl, rfl, Nat.le_of_ble_eq_true rfl, Nat.le_of_ble_eq_true rfl⟩ (Nat.le_of_ble_eq_true rfl) ⟨Nat.le_of_ble_eq_true rfl, Nat.le_of_ble_eq_true rfl⟩ rfl dX7_then_6 rfl rfl ?_
  intro v1
  refine j_if_eq 38 12 dX7_then_9 (by decide) rfl ?_ ?_
  · refine j_ldc2 41 kk_X7_256 dX7_then_38 rfl ?_
    exact j_lret dX7_then_41 rfl
  · refine j_aload_n 13 0 dX7_then_12 rfl rfl rfl ?_
    refine j_iload_n 14 2 dX7_then_13 rfl rfl rfl ?_
    refine j_callV_i (ci := 6) (As := [.int a2]) (st := []) 17 (okX7_isCell G x a0 a2) kc_X7_isCell kl_X7_177 ki_X7_isCell kv_X7_isCell kh_X7 (by decide) (fun _ h => rvX7_isCell h) ⟨rfl, rfl, Nat.le_of_ble_eq_true rfl, Nat.le_of_ble_eq_true rfl⟩ (Nat.le_of_ble_eq_true rfl) ⟨Nat.le_of_ble_eq_true rfl, Nat.le_of_ble_eq_true rfl⟩ rfl dX7_then_14 rfl rfl ?_
    intro v2
    refine j_if_eq 38 20 dX7_then_17 (by decide) rfl ?_ ?_
    · refine j_ldc2 41 kk_X7_256 dX7_then_38 rfl ?_
      exact j_lret dX7_then_41 rfl
    · refine j_iload_n 21 3 dX7_then_20 rfl rfl rfl ?_
      refine j_i2l 22 dX7_then_21 rfl ?_
      refine j_lconst (v := 0) 23 dX7_then_22 rfl lc_0 ?_
      refine j_lconst (v := 1) 24 dX7_then_23 rfl lc_1 ?_
      refine j_callS_i (As := [.long (Int32.toInt64 a3), .long 0, .long 1]) (st := []) 27 (okX7_isIn G x (Int32.toInt64 a3) 0 1) kc_X7_isIn kl_X7_133 ks_X7_isIn ⟨rfl, rfl, Nat.le_of_ble_eq_true rfl, Nat.le_of_ble_eq_true rfl⟩ (Nat.le_of_ble_eq_true rfl) ⟨Nat.le_of_ble_eq_true rfl, Nat.le_of_ble_eq_true rfl⟩ rfl dX7_then_24 rfl rfl ?_
      intro v3
      refine j_if_eq 38 30 dX7_then_27 (by decide) rfl ?_ ?_
      · refine j_ldc2 41 kk_X7_256 dX7_then_38 rfl ?_
        exact j_lret dX7_then_41 rfl
      · refine j_aload_n 31 0 dX7_then_30 rfl rfl rfl ?_
        refine j_iload_n 32 1 dX7_then_31 rfl rfl rfl ?_
        refine j_callV_iw (ci := 6) (As := [.int a1]) (st := []) 35 (okX7_goes_ G x a0 a1) kc_X7_goes_ kl_X7_268 ki_X7_goes_ kv_X7_goes_ kh_X7 (by decide) (fun _ h => rvX7_goes_ h) ⟨rfl, rfl, Nat.le_of_ble_eq_true rfl, Nat.le_of_ble_eq_true rfl⟩ (Nat.le_of_ble_eq_true rfl) ⟨Nat.le_of_ble_eq_true rfl, Nat.le_of_ble_eq_true rfl⟩ rfl dX7_then_32 rfl rfl ?_
        intro q4
        refine j_if_ne 42 38 dX7_then_35 (by decide) rfl ?_ ?_
        · refine j_aload_n 43 0 dX7_then_42 rfl rfl rfl ?_
          refine j_gR 46 kf_X7_47 dX7_then_43 rfl ?_
          intro v5
          refine j_iload_n 47 2 dX7_then_46 rfl rfl rfl ?_
          refine j_aL 48 dX7_then_47 rfl ?_
          intro v6
          refine j_aload_n 49 0 dX7_then_48 rfl rfl rfl ?_
          refine j_gL 52 kf_X7_207 dX7_then_49 rfl ?_
          intro v7
          refine j_iload_n 53 3 dX7_then_52 rfl rfl rfl ?_
          refine j_callS_l (As := [.long v6, .long v7, .int a3]) (st := []) 56 (okX7_part G q4.2 v6 v7 a3) kc_X7_part kl_X7_252 ks_X7_part ⟨rfl, rfl, Nat.le_of_ble_eq_true rfl, Nat.le_of_ble_eq_true rfl⟩ (Nat.le_of_ble_eq_true rfl) ⟨Nat.le_of_ble_eq_true rfl, Nat.le_of_ble_eq_true rfl⟩ rfl dX7_then_53 rfl rfl ?_
          intro v8
          exact j_lret dX7_then_56 rfl
        · refine j_ldc2 41 kk_X7_256 dX7_then_38 rfl ?_
          exact j_lret dX7_then_41 rfl
-- X7_spent: ('BarStepsModel', 'spent', '(I)I')
def X7_spent_L19 : Nat → Nat → Int32 → Int32 → Hs → Option (Int32 × Hs)
  | 0, _, _, _, _ => none
  | n + 1, l0, l1, l2, x => (if 40 < l2 then some ((-1), x) else
  (gI x 6 l0 0).bind fun v3 =>
  (if v3 ≤ 0 then some ((-1), x) else
  (X7_goes l0 x).bind fun q4 =>
  (if q4.1 = 0 then (if l1 = 0 then some (l2, q4.2) else
  (gI q4.2 6 l0 20).bind fun v5 =>
  some (v5, q4.2)) else
  X7_spent_L19 n l0 l1 (l2 + 1) q4.2)))
theorem okX7_spent_L19 (G : JG) : ∀ (n : Nat), ∀ (l0 : Nat) (l1 : Int32) (l2 : Int32) (x : Hs), JM G RX7 cX7_spent 3 (jZ G (some .int) "spent" (jR 8 0 0) 0 0) (fun r : Int32 × Hs => ((some (.int r.1), r.2) : JR)) 19 [(0, .ref l0), (1, .int l1), (2, .int l2)] [] x 0 0 (X7_spent_L19 n l0 l1 l2 x) := by
  intro n
  induction n with
  | zero => intro l0 l1 l2 x; exact j_none
  | succ n ih =>
    intro l0 l1 l2 x
    unfold X7_spent_L19
    refine j_iload_n 20 2 dX7_spent_19 rfl rfl rfl ?_
    refine j_bipush (v := 40) 22 dX7_spent_20 rfl bc_40 ?_
    refine j_icmp_gt 58 25 dX7_spent_22 (by decide) rfl ?_ ?_
    · refine j_iconst (v := -1) 59 dX7_spent_58 rfl ic_m1 ?_
      exact j_iret dX7_spent_59 rfl
    · refine j_aload_n 26 0 dX7_spent_25 rfl rfl rfl ?_
      refine j_gI 29 kf_X7_129 dX7_spent_26 rfl ?_
      intro v3
      refine j_if_le 58 32 dX7_spent_29 (by decide) rfl ?_ ?_
      · refine j_iconst (v := -1) 59 dX7_spent_58 rfl ic_m1 ?_
        exact j_iret dX7_spent_59 rfl
      · refine j_aload_n 33 0 dX7_spent_32 rfl rfl rfl ?_
        refine j_callV_iw (ci := 6) (As := []) (st := []) 36 (okX7_goes G x l0) kc_X7_goes kl_X7_235 ki_X7_goes kv_X7_goes kh_X7 (by decide) (fun _ h => rvX7_goes h) ⟨rfl, rfl, Nat.le_of_ble_eq_true rfl, Nat.le_of_ble_eq_true rfl⟩ (Nat.le_of_ble_eq_true rfl) ⟨Nat.le_of_ble_eq_true rfl, Nat.le_of_ble_eq_true rfl⟩ rfl dX7_spent_33 rfl rfl ?_
        intro q4
        refine j_if_ne 52 39 dX7_spent_36 (by decide) rfl ?_ ?_
        · refine j_iinc 55 2 [(2, .int (l2 + 1)), (0, .ref l0), (1, .int l1)] dX7_spent_52 rfl rfl (ii_1 _) (by decide) rfl ?_
          refine j_goto 19 dX7_spent_55 (by decide) ?_
          refine j_sub [1, 2, 0] rfl ?_
          exact ih l0 l1 (l2 + 1) q4.2
        · refine j_iload_n 40 1 dX7_spent_39 rfl rfl rfl ?_
          refine j_if_ne 47 43 dX7_spent_40 (by decide) rfl ?_ ?_
          · refine j_aload_n 48 0 dX7_spent_47 rfl rfl rfl ?_
            refine j_gI 51 kf_X7_227 dX7_spent_48 rfl ?_
            intro v5
            exact j_iret dX7_spent_51 rfl
          · refine j_iload_n 44 2 dX7_spent_43 rfl rfl rfl ?_
            refine j_goto 51 dX7_spent_44 (by decide) ?_
            exact j_iret dX7_spent_51 rfl
def X7_spent (a0 : Nat) (a1 : Int32) (x : Hs) : Option (Int32 × Hs) := (vO x 6 a0).bind fun _ =>
  (X7_isIn (Int32.toInt64 a1) 0 1).bind fun v1 =>
  (if v1 = 0 then some ((-2), x) else
  (X7_think a0 x).bind fun q2 =>
  X7_spent_L19 fu a0 a1 1 q2)
theorem rvX7_spent {a0 : Nat} {a1 : Int32} {x : Hs} {r : Int32 × Hs} (h : X7_spent a0 a1 x = some r) : ∃ fs, x.1 a0 = .inr (6, fs) := vO_bind h
theorem okX7_spent (G : JG) (x : Hs) (a0 : Nat) (a1 : Int32) : ∀ r, X7_spent a0 a1 x = some r → JC G yX7_spent cX7_spent 3 (some .int) (jR 8 0 0) 0 0 [.ref a0, .int a1] x ((some (.int r.1), r.2)) := by
  refine jc_of (own := RX7) (E := (fun r : Int32 × Hs => ((some (.int r.1), r.2) : JR))) (by decide) rfl rfl (Nat.le_of_ble_eq_true rfl) rfl ?_
  unfold X7_spent
  refine j_chk ?_
  refine j_iload_n 1 1 dX7_spent_0 rfl rfl rfl ?_
  refine j_i2l 2 dX7_spent_1 rfl ?_
  refine j_lconst (v := 0) 3 dX7_spent_2 rfl lc_0 ?_
  refine j_lconst (v := 1) 4 dX7_spent_3 rfl lc_1 ?_
  refine j_callS_i (As := [.long (Int32.toInt64 a1), .long 0, .long 1]) (st := []) 7 (okX7_isIn G x (Int32.toInt64 a1) 0 1) kc_X7_isIn kl_X7_133 ks_X7_isIn ⟨rfl, rfl, Nat.le_of_ble_eq_true rfl, Nat.le_of_ble_eq_true rfl⟩ (Nat.le_of_ble_eq_true rfl) ⟨Nat.le_of_ble_eq_true rfl, Nat.le_of_ble_eq_true rfl⟩ rfl dX7_spent_4 rfl rfl ?_
  intro v1
  refine j_if_ne 13 10 dX7_spent_7 (by decide) rfl ?_ ?_
  · refine j_aload_n 14 0 dX7_spent_13 rfl rfl rfl ?_
    refine j_callV_v (ci := 6) (As := []) (st := []) 17 (okX7_think G x a0) kc_X7_think kl_X7_232 ki_X7_think kv_X7_think kh_X7 (by decide) (fun _ h => rvX7_think h) ⟨rfl, rfl, Nat.le_of_ble_eq_true rfl, Nat.le_of_ble_eq_true rfl⟩ (Nat.le_of_ble_eq_true rfl) ⟨Nat.le_of_ble_eq_true rfl, Nat.le_of_ble_eq_true rfl⟩ rfl dX7_spent_14 rfl rfl ?_
    intro q2
    refine j_iconst (v := 1) 18 dX7_spent_17 rfl ic_1 ?_
    refine j_istore_n 19 [(2, .int 1), (0, .ref a0), (1, .int a1)] dX7_spent_18 rfl rfl (by decide) rfl ?_
    refine j_sub [1, 2, 0] rfl ?_
    exact okX7_spent_L19 G fu a0 a1 1 q2
  · refine j_bipush (v := -2) 12 dX7_spent_10 rfl bc_m2 ?_
    exact j_iret dX7_spent_12 rfl
-- X7_rises: ('BarStepsModel', 'rises', '(I)I')
def X7_rises_L31 : Nat → Nat → Int32 → Int32 → Hs → Option (Int32 × Hs)
  | 0, _, _, _, _ => none
  | n + 1, l0, l1, l2, x => (if l1 < l2 then some ((-1), x) else
  (X7_greatest l0 x).bind fun v4 =>
  (gL x 6 l0 14).bind fun v5 =>
  (X7_goes l0 x).bind fun q6 =>
  (if q6.1 = 0 then some ((-1), q6.2) else
  (X7_greatest l0 q6.2).bind fun v7 =>
  (gL q6.2 6 l0 14).bind fun v8 =>
  (X7_isMore 200 v7 v8 v4 v5).bind fun v9 =>
  (if v9 = 0 then X7_rises_L31 n l0 l1 (l2 + 1) q6.2 else
  some (l2, q6.2))))
theorem okX7_rises_L31 (G : JG) : ∀ (n : Nat), ∀ (l0 : Nat) (l1 : Int32) (l2 : Int32) (x : Hs), JM G RX7 cX7_rises 7 (jZ G (some .int) "rises" (jR 203 0 0) 0 0) (fun r : Int32 × Hs => ((some (.int r.1), r.2) : JR)) 31 [(0, .ref l0), (1, .int l1), (2, .int l2)] [] x 0 0 (X7_rises_L31 n l0 l1 l2 x) := by
  intro n
  induction n with
  | zero => intro l0 l1 l2 x; exact j_none
  | succ n ih =>
    intro l0 l1 l2 x
    unfold X7_rises_L31
    refine j_iload_n 32 2 dX7_rises_31 rfl rfl rfl ?_
    refine j_iload_n 33 1 dX7_rises_32 rfl rfl rfl ?_
    refine j_icmp_gt 81 36 dX7_rises_33 (by decide) rfl ?_ ?_
    · refine j_iconst (v := -1) 82 dX7_rises_81 rfl ic_m1 ?_
      exact j_iret dX7_rises_82 rfl
    · refine j_aload_n 37 0 dX7_rises_36 rfl rfl rfl ?_
      refine j_callV_l (ci := 6) (As := []) (st := []) 40 (okX7_greatest G x l0) kc_X7_greatest kl_X7_270 ki_X7_greatest kv_X7_greatest kh_X7 (by decide) (fun _ h => rvX7_greatest h) ⟨rfl, rfl, Nat.le_of_ble_eq_true rfl, Nat.le_of_ble_eq_true rfl⟩ (Nat.le_of_ble_eq_true rfl) ⟨Nat.le_of_ble_eq_true rfl, Nat.le_of_ble_eq_true rfl⟩ rfl dX7_rises_37 rfl rfl ?_
      intro v4
      refine j_lstore_n 41 [(3, .long v4), (0, .ref l0), (1, .int l1), (2, .int l2)] dX7_rises_40 rfl rfl (by decide) rfl ?_
      refine j_aload_n 42 1 dX7_rises_41 rfl rfl rfl ?_
      refine j_gL 45 kf_X7_207 dX7_rises_42 rfl ?_
      intro v5
      refine j_lstore 47 [(5, .long v5), (3, .long v4), (0, .ref l0), (1, .int l1), (2, .int l2)] dX7_rises_45 rfl (by decide) rfl ?_
      refine j_aload_n 48 2 dX7_rises_47 rfl rfl rfl ?_
      refine j_callV_iw (ci := 6) (As := []) (st := []) 51 (okX7_goes G x l0) kc_X7_goes kl_X7_235 ki_X7_goes kv_X7_goes kh_X7 (by decide) (fun _ h => rvX7_goes h) ⟨rfl, rfl, Nat.le_of_ble_eq_true rfl, Nat.le_of_ble_eq_true rfl⟩ (Nat.le_of_ble_eq_true rfl) ⟨Nat.le_of_ble_eq_true rfl, Nat.le_of_ble_eq_true rfl⟩ rfl dX7_rises_48 rfl rfl ?_
      intro q6
      refine j_if_ne 56 54 dX7_rises_51 (by decide) rfl ?_ ?_
      · refine j_aload_n 57 2 dX7_rises_56 rfl rfl rfl ?_
        refine j_callV_l (ci := 6) (As := []) (st := []) 60 (okX7_greatest G q6.2 l0) kc_X7_greatest kl_X7_270 ki_X7_greatest kv_X7_greatest kh_X7 (by decide) (fun _ h => rvX7_greatest h) ⟨rfl, rfl, Nat.le_of_ble_eq_true rfl, Nat.le_of_ble_eq_true rfl⟩ (Nat.le_of_ble_eq_true rfl) ⟨Nat.le_of_ble_eq_true rfl, Nat.le_of_ble_eq_true rfl⟩ rfl dX7_rises_57 rfl rfl ?_
        intro v7
        refine j_aload_n 61 2 dX7_rises_60 rfl rfl rfl ?_
        refine j_gL 64 kf_X7_207 dX7_rises_61 rfl ?_
        intro v8
        refine j_lload_n 65 1 dX7_rises_64 rfl rfl rfl ?_
        refine j_lload 67 0 dX7_rises_65 rfl rfl ?_
        refine j_callS_i (As := [.long v7, .long v8, .long v4, .long v5]) (st := []) 70 (okX7_isMore G q6.2 200 v7 v8 v4 v5) kc_X7_isMore kl_X7_248 ks_X7_isMore ⟨rfl, rfl, Nat.le_of_ble_eq_true rfl, Nat.le_of_ble_eq_true rfl⟩ (Nat.le_of_ble_eq_true rfl) ⟨Nat.le_of_ble_eq_true rfl, Nat.le_of_ble_eq_true rfl⟩ rfl dX7_rises_67 rfl rfl ?_
        intro v9
        refine j_if_eq 75 73 dX7_rises_70 (by decide) rfl ?_ ?_
        · refine j_iinc 78 4 [(2, .int (l2 + 1)), (5, .long v5), (3, .long v4), (0, .ref l0), (1, .int l1)] dX7_rises_75 rfl rfl (ii_1 _) (by decide) rfl ?_
          refine j_goto 31 dX7_rises_78 (by decide) ?_
          refine j_sub [3, 4, 0] rfl ?_
          exact ih l0 l1 (l2 + 1) q6.2
        · refine j_iload_n 74 4 dX7_rises_73 rfl rfl rfl ?_
          exact j_iret dX7_rises_74 rfl
      · refine j_iconst (v := -1) 55 dX7_rises_54 rfl ic_m1 ?_
        exact j_iret dX7_rises_55 rfl
def X7_rises (a0 : Nat) (a1 : Int32) (x : Hs) : Option (Int32 × Hs) := (vO x 6 a0).bind fun _ =>
  (X7_isIn (Int32.toInt64 a1) 1 40).bind fun v1 =>
  (if v1 = 0 then some ((-2), x) else
  (gI x 6 a0 0).bind fun v2 =>
  (if v2 = 0 then some ((-3), x) else
  (X7_think a0 x).bind fun q3 =>
  X7_rises_L31 fu a0 a1 1 q3))
theorem rvX7_rises {a0 : Nat} {a1 : Int32} {x : Hs} {r : Int32 × Hs} (h : X7_rises a0 a1 x = some r) : ∃ fs, x.1 a0 = .inr (6, fs) := vO_bind h
theorem okX7_rises (G : JG) (x : Hs) (a0 : Nat) (a1 : Int32) : ∀ r, X7_rises a0 a1 x = some r → JC G yX7_rises cX7_rises 7 (some .int) (jR 203 0 0) 0 0 [.ref a0, .int a1] x ((some (.int r.1), r.2)) := by
  refine jc_of (own := RX7) (E := (fun r : Int32 × Hs => ((some (.int r.1), r.2) : JR))) (by decide) rfl rfl (Nat.le_of_ble_eq_true rfl) rfl ?_
  unfold X7_rises
  refine j_chk ?_
  refine j_iload_n 1 1 dX7_rises_0 rfl rfl rfl ?_
  refine j_i2l 2 dX7_rises_1 rfl ?_
  refine j_lconst (v := 1) 3 dX7_rises_2 rfl lc_1 ?_
  refine j_ldc2 6 kk_X7_263 dX7_rises_3 rfl ?_
  refine j_callS_i (As := [.long (Int32.toInt64 a1), .long 1, .long 40]) (st := []) 9 (okX7_isIn G x (Int32.toInt64 a1) 1 40) kc_X7_isIn kl_X7_133 ks_X7_isIn ⟨rfl, rfl, Nat.le_of_ble_eq_true rfl, Nat.le_of_ble_eq_true rfl⟩ (Nat.le_of_ble_eq_true rfl) ⟨Nat.le_of_ble_eq_true rfl, Nat.le_of_ble_eq_true rfl⟩ rfl dX7_rises_6 rfl rfl ?_
  intro v1
  refine j_if_ne 15 12 dX7_rises_9 (by decide) rfl ?_ ?_
  · refine j_aload_n 16 0 dX7_rises_15 rfl rfl rfl ?_
    refine j_gI 19 kf_X7_129 dX7_rises_16 rfl ?_
    intro v2
    refine j_if_ne 25 22 dX7_rises_19 (by decide) rfl ?_ ?_
    · refine j_aload_n 26 0 dX7_rises_25 rfl rfl rfl ?_
      refine j_callV_v (ci := 6) (As := []) (st := []) 29 (okX7_think G x a0) kc_X7_think kl_X7_232 ki_X7_think kv_X7_think kh_X7 (by decide) (fun _ h => rvX7_think h) ⟨rfl, rfl, Nat.le_of_ble_eq_true rfl, Nat.le_of_ble_eq_true rfl⟩ (Nat.le_of_ble_eq_true rfl) ⟨Nat.le_of_ble_eq_true rfl, Nat.le_of_ble_eq_true rfl⟩ rfl dX7_rises_26 rfl rfl ?_
      intro q3
      refine j_iconst (v := 1) 30 dX7_rises_29 rfl ic_1 ?_
      refine j_istore_n 31 [(2, .int 1), (0, .ref a0), (1, .int a1)] dX7_rises_30 rfl rfl (by decide) rfl ?_
      refine j_sub [1, 2, 0] rfl ?_
      exact okX7_rises_L31 G fu a0 a1 1 q3
    · refine j_bipush (v := -3) 24 dX7_rises_22 rfl bc_m3 ?_
      exact j_iret dX7_rises_24 rfl
  · refine j_bipush (v := -2) 14 dX7_rises_12 rfl bc_m2 ?_
    exact j_iret dX7_rises_14 rfl
-- X7_calm: ('BarStepsModel', 'calm', '(I)I')
def X7_calm_L31 : Nat → Nat → Int32 → Int32 → Hs → Option (Int32 × Hs)
  | 0, _, _, _, _ => none
  | n + 1, l0, l1, l2, x => (if 40 < l2 then some ((-1), x) else
  (X7_greatest l0 x).bind fun v4 =>
  (X7_least l0 x).bind fun v5 =>
  (gL x 6 l0 14).bind fun v6 =>
  (if ((Int32.toInt64 l1) * v6) < (v4 - v5) then (X7_goes l0 x).bind fun q7 =>
  (if q7.1 = 0 then some ((-1), q7.2) else
  X7_calm_L31 n l0 l1 (l2 + 1) q7.2) else
  some (l2, x)))
theorem okX7_calm_L31 (G : JG) : ∀ (n : Nat), ∀ (l0 : Nat) (l1 : Int32) (l2 : Int32) (x : Hs), JM G RX7 cX7_calm 3 (jZ G (some .int) "calm" (jR 8 0 0) 0 0) (fun r : Int32 × Hs => ((some (.int r.1), r.2) : JR)) 31 [(0, .ref l0), (1, .int l1), (2, .int l2)] [] x 0 0 (X7_calm_L31 n l0 l1 l2 x) := by
  intro n
  induction n with
  | zero => intro l0 l1 l2 x; exact j_none
  | succ n ih =>
    intro l0 l1 l2 x
    unfold X7_calm_L31
    refine j_iload_n 32 2 dX7_calm_31 rfl rfl rfl ?_
    refine j_bipush (v := 40) 34 dX7_calm_32 rfl bc_40 ?_
    refine j_icmp_gt 74 37 dX7_calm_34 (by decide) rfl ?_ ?_
    · refine j_iconst (v := -1) 75 dX7_calm_74 rfl ic_m1 ?_
      exact j_iret dX7_calm_75 rfl
    · refine j_aload_n 38 0 dX7_calm_37 rfl rfl rfl ?_
      refine j_callV_l (ci := 6) (As := []) (st := []) 41 (okX7_greatest G x l0) kc_X7_greatest kl_X7_270 ki_X7_greatest kv_X7_greatest kh_X7 (by decide) (fun _ h => rvX7_greatest h) ⟨rfl, rfl, Nat.le_of_ble_eq_true rfl, Nat.le_of_ble_eq_true rfl⟩ (Nat.le_of_ble_eq_true rfl) ⟨Nat.le_of_ble_eq_true rfl, Nat.le_of_ble_eq_true rfl⟩ rfl dX7_calm_38 rfl rfl ?_
      intro v4
      refine j_aload_n 42 0 dX7_calm_41 rfl rfl rfl ?_
      refine j_callV_l (ci := 6) (As := []) (st := [.long v4]) 45 (okX7_least G x l0) kc_X7_least kl_X7_273 ki_X7_least kv_X7_least kh_X7 (by decide) (fun _ h => rvX7_least h) ⟨rfl, rfl, Nat.le_of_ble_eq_true rfl, Nat.le_of_ble_eq_true rfl⟩ (Nat.le_of_ble_eq_true rfl) ⟨Nat.le_of_ble_eq_true rfl, Nat.le_of_ble_eq_true rfl⟩ rfl dX7_calm_42 rfl rfl ?_
      intro v5
      refine j_lsub 46 dX7_calm_45 rfl ?_
      refine j_iload_n 47 1 dX7_calm_46 rfl rfl rfl ?_
      refine j_i2l 48 dX7_calm_47 rfl ?_
      refine j_aload_n 49 0 dX7_calm_48 rfl rfl rfl ?_
      refine j_gL 52 kf_X7_207 dX7_calm_49 rfl ?_
      intro v6
      refine j_lmul 53 dX7_calm_52 rfl ?_
      refine j_lcmp_gt 54 59 57 dX7_calm_53 rfl dX7_calm_54 (by decide) rfl ?_ ?_
      · refine j_aload_n 60 0 dX7_calm_59 rfl rfl rfl ?_
        refine j_callV_iw (ci := 6) (As := []) (st := []) 63 (okX7_goes G x l0) kc_X7_goes kl_X7_235 ki_X7_goes kv_X7_goes kh_X7 (by decide) (fun _ h => rvX7_goes h) ⟨rfl, rfl, Nat.le_of_ble_eq_true rfl, Nat.le_of_ble_eq_true rfl⟩ (Nat.le_of_ble_eq_true rfl) ⟨Nat.le_of_ble_eq_true rfl, Nat.le_of_ble_eq_true rfl⟩ rfl dX7_calm_60 rfl rfl ?_
        intro q7
        refine j_if_ne 68 66 dX7_calm_63 (by decide) rfl ?_ ?_
        · refine j_iinc 71 2 [(2, .int (l2 + 1)), (0, .ref l0), (1, .int l1)] dX7_calm_68 rfl rfl (ii_1 _) (by decide) rfl ?_
          refine j_goto 31 dX7_calm_71 (by decide) ?_
          refine j_sub [1, 2, 0] rfl ?_
          exact ih l0 l1 (l2 + 1) q7.2
        · refine j_iconst (v := -1) 67 dX7_calm_66 rfl ic_m1 ?_
          exact j_iret dX7_calm_67 rfl
      · refine j_iload_n 58 2 dX7_calm_57 rfl rfl rfl ?_
        exact j_iret dX7_calm_58 rfl
def X7_calm (a0 : Nat) (a1 : Int32) (x : Hs) : Option (Int32 × Hs) := (vO x 6 a0).bind fun _ =>
  (X7_isIn (Int32.toInt64 a1) 0 999).bind fun v1 =>
  (if v1 = 0 then some ((-2), x) else
  (gI x 6 a0 0).bind fun v2 =>
  (if v2 = 0 then some ((-3), x) else
  (X7_think a0 x).bind fun q3 =>
  X7_calm_L31 fu a0 a1 0 q3))
theorem rvX7_calm {a0 : Nat} {a1 : Int32} {x : Hs} {r : Int32 × Hs} (h : X7_calm a0 a1 x = some r) : ∃ fs, x.1 a0 = .inr (6, fs) := vO_bind h
theorem okX7_calm (G : JG) (x : Hs) (a0 : Nat) (a1 : Int32) : ∀ r, X7_calm a0 a1 x = some r → JC G yX7_calm cX7_calm 3 (some .int) (jR 8 0 0) 0 0 [.ref a0, .int a1] x ((some (.int r.1), r.2)) := by
  refine jc_of (own := RX7) (E := (fun r : Int32 × Hs => ((some (.int r.1), r.2) : JR))) (by decide) rfl rfl (Nat.le_of_ble_eq_true rfl) rfl ?_
  unfold X7_calm
  refine j_chk ?_
  refine j_iload_n 1 1 dX7_calm_0 rfl rfl rfl ?_
  refine j_i2l 2 dX7_calm_1 rfl ?_
  refine j_lconst (v := 0) 3 dX7_calm_2 rfl lc_0 ?_
  refine j_ldc2 6 kk_X7_169 dX7_calm_3 rfl ?_
  refine j_callS_i (As := [.long (Int32.toInt64 a1), .long 0, .long 999]) (st := []) 9 (okX7_isIn G x (Int32.toInt64 a1) 0 999) kc_X7_isIn kl_X7_133 ks_X7_isIn ⟨rfl, rfl, Nat.le_of_ble_eq_true rfl, Nat.le_of_ble_eq_true rfl⟩ (Nat.le_of_ble_eq_true rfl) ⟨Nat.le_of_ble_eq_true rfl, Nat.le_of_ble_eq_true rfl⟩ rfl dX7_calm_6 rfl rfl ?_
  intro v1
  refine j_if_ne 15 12 dX7_calm_9 (by decide) rfl ?_ ?_
  · refine j_aload_n 16 0 dX7_calm_15 rfl rfl rfl ?_
    refine j_gI 19 kf_X7_129 dX7_calm_16 rfl ?_
    intro v2
    refine j_if_ne 25 22 dX7_calm_19 (by decide) rfl ?_ ?_
    · refine j_aload_n 26 0 dX7_calm_25 rfl rfl rfl ?_
      refine j_callV_v (ci := 6) (As := []) (st := []) 29 (okX7_think G x a0) kc_X7_think kl_X7_232 ki_X7_think kv_X7_think kh_X7 (by decide) (fun _ h => rvX7_think h) ⟨rfl, rfl, Nat.le_of_ble_eq_true rfl, Nat.le_of_ble_eq_true rfl⟩ (Nat.le_of_ble_eq_true rfl) ⟨Nat.le_of_ble_eq_true rfl, Nat.le_of_ble_eq_true rfl⟩ rfl dX7_calm_26 rfl rfl ?_
      intro q3
      refine j_iconst (v := 0) 30 dX7_calm_29 rfl ic_0 ?_
      refine j_istore_n 31 [(2, .int 0), (0, .ref a0), (1, .int a1)] dX7_calm_30 rfl rfl (by decide) rfl ?_
      refine j_sub [1, 2, 0] rfl ?_
      exact okX7_calm_L31 G fu a0 a1 0 q3
    · refine j_bipush (v := -3) 24 dX7_calm_22 rfl bc_m3 ?_
      exact j_iret dX7_calm_24 rfl
  · refine j_bipush (v := -2) 14 dX7_calm_12 rfl bc_m2 ?_
    exact j_iret dX7_calm_14 rfl
-- X7_pulse: ('BarStepsModel', 'pulse', '(III)I')
def X7_pulse (a0 : Nat) (a1 : Int32) (a2 : Int32) (a3 : Int32) (x : Hs) : Option (Int32 × Hs) := (vO x 6 a0).bind fun _ =>
  (X7_isCell a0 a1 x).bind fun v1 =>
  (if v1 = 0 then some ((-2), x) else
  (X7_isIn (Int32.toInt64 a2) 1 20).bind fun v2 =>
  (if v2 = 0 then some ((-2), x) else
  (X7_isIn (Int32.toInt64 a3) (-99) 99).bind fun v3 =>
  (if v3 = 0 then some ((-2), x) else
  (gI x 6 a0 9).bind fun v4 =>
  (if v4 = 12 then some ((-4), x) else
  (gR x 6 a0 10).bind fun v5 =>
  (gI x 6 a0 9).bind fun v6 =>
  (wI x v5 v6 a1).bind fun y7 =>
  (gR y7 6 a0 11).bind fun v8 =>
  (gI y7 6 a0 9).bind fun v9 =>
  (wI y7 v8 v9 a2).bind fun y10 =>
  (gR y10 6 a0 12).bind fun v11 =>
  (gI y10 6 a0 9).bind fun v12 =>
  (wI y10 v11 v12 a3).bind fun y13 =>
  (gI y13 6 a0 9).bind fun v14 =>
  (pV y13 6 a0 9 (.int (v14 + 1))).bind fun y15 =>
  (gI y15 6 a0 9).bind fun v16 =>
  some (v16, y15)))))
theorem rvX7_pulse {a0 : Nat} {a1 : Int32} {a2 : Int32} {a3 : Int32} {x : Hs} {r : Int32 × Hs} (h : X7_pulse a0 a1 a2 a3 x = some r) : ∃ fs, x.1 a0 = .inr (6, fs) := vO_bind h
theorem okX7_pulse (G : JG) (x : Hs) (a0 : Nat) (a1 : Int32) (a2 : Int32) (a3 : Int32) : ∀ r, X7_pulse a0 a1 a2 a3 x = some r → JC G yX7_pulse cX7_pulse 4 (some .int) (jR 3 0 0) 0 0 [.ref a0, .int a1, .int a2, .int a3] x ((some (.int r.1), r.2)) := by
  refine jc_of (own := RX7) (E := (fun r : Int32 × Hs => ((some (.int r.1), r.2) : JR))) (by decide) rfl rfl (Nat.le_of_ble_eq_true rfl) rfl ?_
  unfold X7_pulse
  refine j_chk ?_
  refine j_aload_n 1 0 dX7_pulse_0 rfl rfl rfl ?_
  refine j_iload_n 2 1 dX7_pulse_1 rfl rfl rfl ?_
  refine j_callV_i (ci := 6) (As := [.int a1]) (st := []) 5 (okX7_isCell G x a0 a1) kc_X7_isCell kl_X7_177 ki_X7_isCell kv_X7_isCell kh_X7 (by decide) (fun _ h => rvX7_isCell h) ⟨rfl, rfl, Nat.le_of_ble_eq_true rfl, Nat.le_of_ble_eq_true rfl⟩ (Nat.le_of_ble_eq_true rfl) ⟨Nat.le_of_ble_eq_true rfl, Nat.le_of_ble_eq_true rfl⟩ rfl dX7_pulse_2 rfl rfl ?_
  intro v1
  refine j_if_eq 34 8 dX7_pulse_5 (by decide) rfl ?_ ?_
  · refine j_bipush (v := -2) 36 dX7_pulse_34 rfl bc_m2 ?_
    exact j_iret dX7_pulse_36 rfl
  · refine j_iload_n 9 2 dX7_pulse_8 rfl rfl rfl ?_
    refine j_i2l 10 dX7_pulse_9 rfl ?_
    refine j_lconst (v := 1) 11 dX7_pulse_10 rfl lc_1 ?_
    refine j_ldc2 14 kk_X7_199 dX7_pulse_11 rfl ?_
    refine j_callS_i (As := [.long (Int32.toInt64 a2), .long 1, .long 20]) (st := []) 17 (okX7_isIn G x (Int32.toInt64 a2) 1 20) kc_X7_isIn kl_X7_133 ks_X7_isIn ⟨rfl, rfl, Nat.le_of_ble_eq_true rfl, Nat.le_of_ble_eq_true rfl⟩ (Nat.le_of_ble_eq_true rfl) ⟨Nat.le_of_ble_eq_true rfl, Nat.le_of_ble_eq_true rfl⟩ rfl dX7_pulse_14 rfl rfl ?_
    intro v2
    refine j_if_eq 34 20 dX7_pulse_17 (by decide) rfl ?_ ?_
    · refine j_bipush (v := -2) 36 dX7_pulse_34 rfl bc_m2 ?_
      exact j_iret dX7_pulse_36 rfl
    · refine j_iload_n 21 3 dX7_pulse_20 rfl rfl rfl ?_
      refine j_i2l 22 dX7_pulse_21 rfl ?_
      refine j_ldc2 25 kk_X7_276 dX7_pulse_22 rfl ?_
      refine j_ldc2 28 kk_X7_278 dX7_pulse_25 rfl ?_
      refine j_callS_i (As := [.long (Int32.toInt64 a3), .long (-99), .long 99]) (st := []) 31 (okX7_isIn G x (Int32.toInt64 a3) (-99) 99) kc_X7_isIn kl_X7_133 ks_X7_isIn ⟨rfl, rfl, Nat.le_of_ble_eq_true rfl, Nat.le_of_ble_eq_true rfl⟩ (Nat.le_of_ble_eq_true rfl) ⟨Nat.le_of_ble_eq_true rfl, Nat.le_of_ble_eq_true rfl⟩ rfl dX7_pulse_28 rfl rfl ?_
      intro v3
      refine j_if_ne 37 34 dX7_pulse_31 (by decide) rfl ?_ ?_
      · refine j_aload_n 38 0 dX7_pulse_37 rfl rfl rfl ?_
        refine j_gI 41 kf_X7_210 dX7_pulse_38 rfl ?_
        intro v4
        refine j_bipush (v := 12) 43 dX7_pulse_41 rfl bc_12 ?_
        refine j_icmp_ne 49 46 dX7_pulse_43 (by decide) rfl ?_ ?_
        · refine j_aload_n 50 0 dX7_pulse_49 rfl rfl rfl ?_
          refine j_gR 53 kf_X7_38 dX7_pulse_50 rfl ?_
          intro v5
          refine j_aload_n 54 0 dX7_pulse_53 rfl rfl rfl ?_
          refine j_gI 57 kf_X7_210 dX7_pulse_54 rfl ?_
          intro v6
          refine j_iload_n 58 1 dX7_pulse_57 rfl rfl rfl ?_
          refine j_wI 59 dX7_pulse_58 rfl ?_
          intro y7
          refine j_aload_n 60 0 dX7_pulse_59 rfl rfl rfl ?_
          refine j_gR 63 kf_X7_41 dX7_pulse_60 rfl ?_
          intro v8
          refine j_aload_n 64 0 dX7_pulse_63 rfl rfl rfl ?_
          refine j_gI 67 kf_X7_210 dX7_pulse_64 rfl ?_
          intro v9
          refine j_iload_n 68 2 dX7_pulse_67 rfl rfl rfl ?_
          refine j_wI 69 dX7_pulse_68 rfl ?_
          intro y10
          refine j_aload_n 70 0 dX7_pulse_69 rfl rfl rfl ?_
          refine j_gR 73 kf_X7_44 dX7_pulse_70 rfl ?_
          intro v11
          refine j_aload_n 74 0 dX7_pulse_73 rfl rfl rfl ?_
          refine j_gI 77 kf_X7_210 dX7_pulse_74 rfl ?_
          intro v12
          refine j_iload_n 78 3 dX7_pulse_77 rfl rfl rfl ?_
          refine j_wI 79 dX7_pulse_78 rfl ?_
          intro y13
          refine j_aload_n 80 0 dX7_pulse_79 rfl rfl rfl ?_
          refine j_dup 81 dX7_pulse_80 rfl rfl ?_
          refine j_gI 84 kf_X7_210 dX7_pulse_81 rfl ?_
          intro v14
          refine j_iconst (v := 1) 85 dX7_pulse_84 rfl ic_1 ?_
          refine j_iadd 86 dX7_pulse_85 rfl ?_
          refine j_put 89 kf_X7_210 dX7_pulse_86 rfl rfl rfl ?_
          intro y15
          refine j_aload_n 90 0 dX7_pulse_89 rfl rfl rfl ?_
          refine j_gI 93 kf_X7_210 dX7_pulse_90 rfl ?_
          intro v16
          exact j_iret dX7_pulse_93 rfl
        · refine j_bipush (v := -4) 48 dX7_pulse_46 rfl bc_m4 ?_
          exact j_iret dX7_pulse_48 rfl
      · refine j_bipush (v := -2) 36 dX7_pulse_34 rfl bc_m2 ?_
        exact j_iret dX7_pulse_36 rfl
-- X7_pulseOf: ('BarStepsModel', 'pulseOf', '(II)I')
def X7_pulseOf (a0 : Nat) (a1 : Int32) (a2 : Int32) (x : Hs) : Option (Int32) := (vO x 6 a0).bind fun _ =>
  (gI x 6 a0 9).bind fun v1 =>
  (X7_isIn (Int32.toInt64 a1) 0 (Int32.toInt64 (v1 - 1))).bind fun v2 =>
  (if v2 = 0 then some (-1000) else
  (X7_isIn (Int32.toInt64 a2) 0 2).bind fun v3 =>
  (if v3 = 0 then some (-1000) else
  (if a2 = 0 then (gR x 6 a0 10).bind fun v8 =>
  (aI x v8 a1).bind fun v9 =>
  some v9 else
  (if a2 = 1 then (gR x 6 a0 11).bind fun v6 =>
  (aI x v6 a1).bind fun v7 =>
  some v7 else
  (gR x 6 a0 12).bind fun v4 =>
  (aI x v4 a1).bind fun v5 =>
  some v5))))
theorem rvX7_pulseOf {a0 : Nat} {a1 : Int32} {a2 : Int32} {x : Hs} {r : Int32} (h : X7_pulseOf a0 a1 a2 x = some r) : ∃ fs, x.1 a0 = .inr (6, fs) := vO_bind h
theorem okX7_pulseOf (G : JG) (x : Hs) (a0 : Nat) (a1 : Int32) (a2 : Int32) : ∀ r, X7_pulseOf a0 a1 a2 x = some r → JC G yX7_pulseOf cX7_pulseOf 3 (some .int) (jR 2 0 0) 0 0 [.ref a0, .int a1, .int a2] x ((some (.int r), x)) := by
  refine jc_of (own := RX7) (E := (fun r : Int32 => ((some (.int r), x) : JR))) (by decide) rfl rfl (Nat.le_of_ble_eq_true rfl) rfl ?_
  unfold X7_pulseOf
  refine j_chk ?_
  refine j_iload_n 1 1 dX7_pulseOf_0 rfl rfl rfl ?_
  refine j_i2l 2 dX7_pulseOf_1 rfl ?_
  refine j_lconst (v := 0) 3 dX7_pulseOf_2 rfl lc_0 ?_
  refine j_aload_n 4 0 dX7_pulseOf_3 rfl rfl rfl ?_
  refine j_gI 7 kf_X7_210 dX7_pulseOf_4 rfl ?_
  intro v1
  refine j_iconst (v := 1) 8 dX7_pulseOf_7 rfl ic_1 ?_
  refine j_isub 9 dX7_pulseOf_8 rfl ?_
  refine j_i2l 10 dX7_pulseOf_9 rfl ?_
  refine j_callS_i (As := [.long (Int32.toInt64 a1), .long 0, .long (Int32.toInt64 (v1 - 1))]) (st := []) 13 (okX7_isIn G x (Int32.toInt64 a1) 0 (Int32.toInt64 (v1 - 1))) kc_X7_isIn kl_X7_133 ks_X7_isIn ⟨rfl, rfl, Nat.le_of_ble_eq_true rfl, Nat.le_of_ble_eq_true rfl⟩ (Nat.le_of_ble_eq_true rfl) ⟨Nat.le_of_ble_eq_true rfl, Nat.le_of_ble_eq_true rfl⟩ rfl dX7_pulseOf_10 rfl rfl ?_
  intro v2
  refine j_if_eq 28 16 dX7_pulseOf_13 (by decide) rfl ?_ ?_
  · refine j_sipush (v := -1000) 31 dX7_pulseOf_28 rfl sc_m1000 ?_
    exact j_iret dX7_pulseOf_31 rfl
  · refine j_iload_n 17 2 dX7_pulseOf_16 rfl rfl rfl ?_
    refine j_i2l 18 dX7_pulseOf_17 rfl ?_
    refine j_lconst (v := 0) 19 dX7_pulseOf_18 rfl lc_0 ?_
    refine j_ldc2 22 kk_X7_280 dX7_pulseOf_19 rfl ?_
    refine j_callS_i (As := [.long (Int32.toInt64 a2), .long 0, .long 2]) (st := []) 25 (okX7_isIn G x (Int32.toInt64 a2) 0 2) kc_X7_isIn kl_X7_133 ks_X7_isIn ⟨rfl, rfl, Nat.le_of_ble_eq_true rfl, Nat.le_of_ble_eq_true rfl⟩ (Nat.le_of_ble_eq_true rfl) ⟨Nat.le_of_ble_eq_true rfl, Nat.le_of_ble_eq_true rfl⟩ rfl dX7_pulseOf_22 rfl rfl ?_
    intro v3
    refine j_if_ne 32 28 dX7_pulseOf_25 (by decide) rfl ?_ ?_
    · refine j_iload_n 33 2 dX7_pulseOf_32 rfl rfl rfl ?_
      refine j_if_ne 45 36 dX7_pulseOf_33 (by decide) rfl ?_ ?_
      · refine j_iload_n 46 2 dX7_pulseOf_45 rfl rfl rfl ?_
        refine j_iconst (v := 1) 47 dX7_pulseOf_46 rfl ic_1 ?_
        refine j_icmp_ne 59 50 dX7_pulseOf_47 (by decide) rfl ?_ ?_
        · refine j_aload_n 60 0 dX7_pulseOf_59 rfl rfl rfl ?_
          refine j_gR 63 kf_X7_44 dX7_pulseOf_60 rfl ?_
          intro v4
          refine j_iload_n 64 1 dX7_pulseOf_63 rfl rfl rfl ?_
          refine j_aI 65 dX7_pulseOf_64 rfl ?_
          intro v5
          exact j_iret dX7_pulseOf_65 rfl
        · refine j_aload_n 51 0 dX7_pulseOf_50 rfl rfl rfl ?_
          refine j_gR 54 kf_X7_41 dX7_pulseOf_51 rfl ?_
          intro v6
          refine j_iload_n 55 1 dX7_pulseOf_54 rfl rfl rfl ?_
          refine j_aI 56 dX7_pulseOf_55 rfl ?_
          intro v7
          refine j_goto 65 dX7_pulseOf_56 (by decide) ?_
          exact j_iret dX7_pulseOf_65 rfl
      · refine j_aload_n 37 0 dX7_pulseOf_36 rfl rfl rfl ?_
        refine j_gR 40 kf_X7_38 dX7_pulseOf_37 rfl ?_
        intro v8
        refine j_iload_n 41 1 dX7_pulseOf_40 rfl rfl rfl ?_
        refine j_aI 42 dX7_pulseOf_41 rfl ?_
        intro v9
        refine j_goto 65 dX7_pulseOf_42 (by decide) ?_
        exact j_iret dX7_pulseOf_65 rfl
    · refine j_sipush (v := -1000) 31 dX7_pulseOf_28 rfl sc_m1000 ?_
      exact j_iret dX7_pulseOf_31 rfl
-- X7_hush: ('BarStepsModel', 'hush', '(I)I')
def X7_hush (a0 : Nat) (a1 : Int32) (x : Hs) : Option (Int32 × Hs) := (vO x 6 a0).bind fun _ =>
  (X7_isCell a0 a1 x).bind fun v1 =>
  (if v1 = 0 then some ((-2), x) else
  (X7_hushed a0 a1 x).bind fun q2 =>
  some (q2.1, q2.2))
theorem rvX7_hush {a0 : Nat} {a1 : Int32} {x : Hs} {r : Int32 × Hs} (h : X7_hush a0 a1 x = some r) : ∃ fs, x.1 a0 = .inr (6, fs) := vO_bind h
theorem okX7_hush (G : JG) (x : Hs) (a0 : Nat) (a1 : Int32) : ∀ r, X7_hush a0 a1 x = some r → JC G yX7_hush cX7_hush 2 (some .int) (jR 3 0 0) 0 0 [.ref a0, .int a1] x ((some (.int r.1), r.2)) := by
  refine jc_of (own := RX7) (E := (fun r : Int32 × Hs => ((some (.int r.1), r.2) : JR))) (by decide) rfl rfl (Nat.le_of_ble_eq_true rfl) rfl ?_
  unfold X7_hush
  refine j_chk ?_
  refine j_aload_n 1 0 dX7_hush_0 rfl rfl rfl ?_
  refine j_iload_n 2 1 dX7_hush_1 rfl rfl rfl ?_
  refine j_callV_i (ci := 6) (As := [.int a1]) (st := []) 5 (okX7_isCell G x a0 a1) kc_X7_isCell kl_X7_177 ki_X7_isCell kv_X7_isCell kh_X7 (by decide) (fun _ h => rvX7_isCell h) ⟨rfl, rfl, Nat.le_of_ble_eq_true rfl, Nat.le_of_ble_eq_true rfl⟩ (Nat.le_of_ble_eq_true rfl) ⟨Nat.le_of_ble_eq_true rfl, Nat.le_of_ble_eq_true rfl⟩ rfl dX7_hush_2 rfl rfl ?_
  intro v1
  refine j_if_eq 16 8 dX7_hush_5 (by decide) rfl ?_ ?_
  · refine j_bipush (v := -2) 18 dX7_hush_16 rfl bc_m2 ?_
    exact j_iret dX7_hush_18 rfl
  · refine j_aload_n 9 0 dX7_hush_8 rfl rfl rfl ?_
    refine j_iload_n 10 1 dX7_hush_9 rfl rfl rfl ?_
    refine j_callV_iw (ci := 6) (As := [.int a1]) (st := []) 13 (okX7_hushed G x a0 a1) kc_X7_hushed kl_X7_171 ki_X7_hushed kv_X7_hushed kh_X7 (by decide) (fun _ h => rvX7_hushed h) ⟨rfl, rfl, Nat.le_of_ble_eq_true rfl, Nat.le_of_ble_eq_true rfl⟩ (Nat.le_of_ble_eq_true rfl) ⟨Nat.le_of_ble_eq_true rfl, Nat.le_of_ble_eq_true rfl⟩ rfl dX7_hush_10 rfl rfl ?_
    intro q2
    refine j_goto 18 dX7_hush_13 (by decide) ?_
    exact j_iret dX7_hush_18 rfl
-- X7_brings: ('BarStepsModel', 'brings', '(III)J')
def X7_brings_J50 (x : Hs) (l0 : Nat) (l1 : Int32) (l2 : Int32) (l3 : Int32) (l4 : Int64) (s0 : Int64) : Option (Int64) := (X7_fin l0 l1 x).bind fun v2 =>
  (gR x 6 l0 8).bind fun v3 =>
  (aI x v3 1).bind fun v4 =>
  (if l1 = l2 then some (((l4 + s0) + (Int32.toInt64 (v2 * v4))) + (Int32.toInt64 l3)) else
  (gR x 6 l0 4).bind fun v5 =>
  (aI x v5 l1).bind fun v6 =>
  some (((l4 + s0) + (Int32.toInt64 (v2 * v4))) + (Int32.toInt64 v6)))
theorem okX7_brings_J50 (G : JG) (x : Hs) : ∀ (l0 : Nat) (l1 : Int32) (l2 : Int32) (l3 : Int32) (l4 : Int64) (s0 : Int64), JM G RX7 cX7_brings 8 (jZ G (some .long) "brings" (jR 4 0 0) 0 0) (fun r : Int64 => ((some (.long r), x) : JR)) 50 [(0, .ref l0), (1, .int l1), (2, .int l2), (3, .int l3), (4, .long l4)] [.long s0] x 0 0 (X7_brings_J50 x l0 l1 l2 l3 l4 s0) := by
  intro l0 l1 l2 l3 l4 s0
  unfold X7_brings_J50
  refine j_lstore 52 [(6, .long s0), (0, .ref l0), (1, .int l1), (2, .int l2), (3, .int l3), (4, .long l4)] dX7_brings_50 rfl (by decide) rfl ?_
  refine j_lload 54 5 dX7_brings_52 rfl rfl ?_
  refine j_lload 56 0 dX7_brings_54 rfl rfl ?_
  refine j_ladd 57 dX7_brings_56 rfl ?_
  refine j_aload_n 58 1 dX7_brings_57 rfl rfl rfl ?_
  refine j_iload_n 59 2 dX7_brings_58 rfl rfl rfl ?_
  refine j_callV_i (ci := 6) (As := [.int l1]) (st := [.long (l4 + s0)]) 62 (okX7_fin G x l0 l1) kc_X7_fin kl_X7_191 ki_X7_fin kv_X7_fin kh_X7 (by decide) (fun _ h => rvX7_fin h) ⟨rfl, rfl, Nat.le_of_ble_eq_true rfl, Nat.le_of_ble_eq_true rfl⟩ (Nat.le_of_ble_eq_true rfl) ⟨Nat.le_of_ble_eq_true rfl, Nat.le_of_ble_eq_true rfl⟩ rfl dX7_brings_59 rfl rfl ?_
  intro v2
  refine j_aload_n 63 1 dX7_brings_62 rfl rfl rfl ?_
  refine j_gR 66 kf_X7_35 dX7_brings_63 rfl ?_
  intro v3
  refine j_iconst (v := 1) 67 dX7_brings_66 rfl ic_1 ?_
  refine j_aI 68 dX7_brings_67 rfl ?_
  intro v4
  refine j_imul 69 dX7_brings_68 rfl ?_
  refine j_i2l 70 dX7_brings_69 rfl ?_
  refine j_ladd 71 dX7_brings_70 rfl ?_
  refine j_iload_n 72 2 dX7_brings_71 rfl rfl rfl ?_
  refine j_iload_n 73 3 dX7_brings_72 rfl rfl rfl ?_
  refine j_icmp_ne 80 76 dX7_brings_73 (by decide) rfl ?_ ?_
  · refine j_aload_n 81 1 dX7_brings_80 rfl rfl rfl ?_
    refine j_gR 84 kf_X7_21 dX7_brings_81 rfl ?_
    intro v5
    refine j_iload_n 85 2 dX7_brings_84 rfl rfl rfl ?_
    refine j_aI 86 dX7_brings_85 rfl ?_
    intro v6
    refine j_i2l 87 dX7_brings_86 rfl ?_
    refine j_ladd 88 dX7_brings_87 rfl ?_
    exact j_lret dX7_brings_88 rfl
  · refine j_iload_n 77 4 dX7_brings_76 rfl rfl rfl ?_
    refine j_goto 86 dX7_brings_77 (by decide) ?_
    refine j_i2l 87 dX7_brings_86 rfl ?_
    refine j_ladd 88 dX7_brings_87 rfl ?_
    exact j_lret dX7_brings_88 rfl
def X7_brings_J21 (x : Hs) (l0 : Nat) (l1 : Int32) (l2 : Int32) (l3 : Int32) (s0 : Int64) : Option (Int64) := (gI x 6 l0 0).bind fun v1 =>
  (if l1 = (v1 - 1) then (X7_leads l0 l1 x).bind fun v7 =>
  (gR x 6 l0 7).bind fun v8 =>
  (aI x v8 1).bind fun v9 =>
  X7_brings_J50 x l0 l1 l2 l3 s0 (Int32.toInt64 (v7 * v9)) else
  X7_brings_J50 x l0 l1 l2 l3 s0 0)
theorem okX7_brings_J21 (G : JG) (x : Hs) : ∀ (l0 : Nat) (l1 : Int32) (l2 : Int32) (l3 : Int32) (s0 : Int64), JM G RX7 cX7_brings 8 (jZ G (some .long) "brings" (jR 4 0 0) 0 0) (fun r : Int64 => ((some (.long r), x) : JR)) 21 [(0, .ref l0), (1, .int l1), (2, .int l2), (3, .int l3)] [.long s0] x 0 0 (X7_brings_J21 x l0 l1 l2 l3 s0) := by
  intro l0 l1 l2 l3 s0
  unfold X7_brings_J21
  refine j_lstore 23 [(4, .long s0), (0, .ref l0), (1, .int l1), (2, .int l2), (3, .int l3)] dX7_brings_21 rfl (by decide) rfl ?_
  refine j_iload_n 24 2 dX7_brings_23 rfl rfl rfl ?_
  refine j_aload_n 25 1 dX7_brings_24 rfl rfl rfl ?_
  refine j_gI 28 kf_X7_129 dX7_brings_25 rfl ?_
  intro v1
  refine j_iconst (v := 1) 29 dX7_brings_28 rfl ic_1 ?_
  refine j_isub 30 dX7_brings_29 rfl ?_
  refine j_icmp_ne 49 33 dX7_brings_30 (by decide) rfl ?_ ?_
  · refine j_lconst (v := 0) 50 dX7_brings_49 rfl lc_0 ?_
    refine j_sub [1, 2, 3, 4, 0] rfl ?_
    exact okX7_brings_J50 G x l0 l1 l2 l3 s0 0
  · refine j_aload_n 34 1 dX7_brings_33 rfl rfl rfl ?_
    refine j_iload_n 35 2 dX7_brings_34 rfl rfl rfl ?_
    refine j_callV_i (ci := 6) (As := [.int l1]) (st := []) 38 (okX7_leads G x l0 l1) kc_X7_leads kl_X7_204 ki_X7_leads kv_X7_leads kh_X7 (by decide) (fun _ h => rvX7_leads h) ⟨rfl, rfl, Nat.le_of_ble_eq_true rfl, Nat.le_of_ble_eq_true rfl⟩ (Nat.le_of_ble_eq_true rfl) ⟨Nat.le_of_ble_eq_true rfl, Nat.le_of_ble_eq_true rfl⟩ rfl dX7_brings_35 rfl rfl ?_
    intro v7
    refine j_aload_n 39 1 dX7_brings_38 rfl rfl rfl ?_
    refine j_gR 42 kf_X7_32 dX7_brings_39 rfl ?_
    intro v8
    refine j_iconst (v := 1) 43 dX7_brings_42 rfl ic_1 ?_
    refine j_aI 44 dX7_brings_43 rfl ?_
    intro v9
    refine j_imul 45 dX7_brings_44 rfl ?_
    refine j_i2l 46 dX7_brings_45 rfl ?_
    refine j_goto 50 dX7_brings_46 (by decide) ?_
    refine j_sub [1, 2, 3, 4, 0] rfl ?_
    exact okX7_brings_J50 G x l0 l1 l2 l3 s0 (Int32.toInt64 (v7 * v9))
def X7_brings (a0 : Nat) (a1 : Int32) (a2 : Int32) (a3 : Int32) (x : Hs) : Option (Int64) := (vO x 6 a0).bind fun _ =>
  (if a1 = 0 then (X7_leads a0 (-1) x).bind fun v10 =>
  (gR x 6 a0 7).bind fun v11 =>
  (aI x v11 0).bind fun v12 =>
  X7_brings_J21 x a0 a1 a2 a3 (Int32.toInt64 (v10 * v12)) else
  X7_brings_J21 x a0 a1 a2 a3 0)
theorem rvX7_brings {a0 : Nat} {a1 : Int32} {a2 : Int32} {a3 : Int32} {x : Hs} {r : Int64} (h : X7_brings a0 a1 a2 a3 x = some r) : ∃ fs, x.1 a0 = .inr (6, fs) := vO_bind h
theorem okX7_brings (G : JG) (x : Hs) (a0 : Nat) (a1 : Int32) (a2 : Int32) (a3 : Int32) : ∀ r, X7_brings a0 a1 a2 a3 x = some r → JC G yX7_brings cX7_brings 8 (some .long) (jR 4 0 0) 0 0 [.ref a0, .int a1, .int a2, .int a3] x ((some (.long r), x)) := by
  refine jc_of (own := RX7) (E := (fun r : Int64 => ((some (.long r), x) : JR))) (by decide) rfl rfl (Nat.le_of_ble_eq_true rfl) rfl ?_
  unfold X7_brings
  refine j_chk ?_
  refine j_iload_n 1 1 dX7_brings_0 rfl rfl rfl ?_
  refine j_if_ne 20 4 dX7_brings_1 (by decide) rfl ?_ ?_
  · refine j_lconst (v := 0) 21 dX7_brings_20 rfl lc_0 ?_
    exact okX7_brings_J21 G x a0 a1 a2 a3 0
  · refine j_aload_n 5 0 dX7_brings_4 rfl rfl rfl ?_
    refine j_iconst (v := -1) 6 dX7_brings_5 rfl ic_m1 ?_
    refine j_callV_i (ci := 6) (As := [.int (-1)]) (st := []) 9 (okX7_leads G x a0 (-1)) kc_X7_leads kl_X7_204 ki_X7_leads kv_X7_leads kh_X7 (by decide) (fun _ h => rvX7_leads h) ⟨rfl, rfl, Nat.le_of_ble_eq_true rfl, Nat.le_of_ble_eq_true rfl⟩ (Nat.le_of_ble_eq_true rfl) ⟨Nat.le_of_ble_eq_true rfl, Nat.le_of_ble_eq_true rfl⟩ rfl dX7_brings_6 rfl rfl ?_
    intro v10
    refine j_aload_n 10 0 dX7_brings_9 rfl rfl rfl ?_
    refine j_gR 13 kf_X7_32 dX7_brings_10 rfl ?_
    intro v11
    refine j_iconst (v := 0) 14 dX7_brings_13 rfl ic_0 ?_
    refine j_aI 15 dX7_brings_14 rfl ?_
    intro v12
    refine j_imul 16 dX7_brings_15 rfl ?_
    refine j_i2l 17 dX7_brings_16 rfl ?_
    refine j_goto 21 dX7_brings_17 (by decide) ?_
    exact okX7_brings_J21 G x a0 a1 a2 a3 (Int32.toInt64 (v10 * v12))
-- X7_steadies: ('BarStepsModel', 'steadies', '(II)Z')
def X7_steadies_L281 (r196 : Nat → Int32 → Int32 → Int32 → Hs → Option (Int32 × Hs)) : Nat → Nat → Int32 → Int32 → Int32 → Int64 → Int64 → Int32 → Hs → Option (Int32 × Hs)
  | 0, _, _, _, _, _, _, _, _ => none
  | n + 1, l0, l1, l2, l3, l4, l6, l8, x => (if l8 < 0 then (gR x 6 l0 23).bind fun v18 =>
  (wL x v18 l3 l4).bind fun y19 =>
  r196 l0 l1 l2 (l3 + 1) y19 else
  (X7_leads l0 l8 x).bind fun v20 =>
  (gR x 6 l0 21).bind fun v21 =>
  (aL x v21 l8).bind fun v22 =>
  (gR x 6 l0 22).bind fun v23 =>
  (aL x v23 (l3 + 1)).bind fun v24 =>
  (X7_brings l0 l8 l1 l2 x).bind fun v25 =>
  X7_steadies_L281 r196 n l0 l1 l2 l3 (l4 + ((((l6 * (Int32.toInt64 v20)) * v22) * v24) * v25)) (l6 * (Int32.toInt64 v20)) (l8 + (-1)) x)
theorem okX7_steadies_L281 (G : JG) (r196 : Nat → Int32 → Int32 → Int32 → Hs → Option (Int32 × Hs)) (hr196 : ∀ (l0 : Nat) (l1 : Int32) (l2 : Int32) (l3 : Int32) (x : Hs), JM G RX7 cX7_steadies 9 (jZ G (some .boolean) "steadies" (jR 5 0 0) 0 0) (fun r : Int32 × Hs => ((some (.int r.1), r.2) : JR)) 196 [(0, .ref l0), (1, .int l1), (2, .int l2), (3, .int l3)] [] x 0 0 (r196 l0 l1 l2 l3 x)) : ∀ (n : Nat), ∀ (l0 : Nat) (l1 : Int32) (l2 : Int32) (l3 : Int32) (l4 : Int64) (l6 : Int64) (l8 : Int32) (x : Hs), JM G RX7 cX7_steadies 9 (jZ G (some .boolean) "steadies" (jR 5 0 0) 0 0) (fun r : Int32 × Hs => ((some (.int r.1), r.2) : JR)) 281 [(0, .ref l0), (1, .int l1), (2, .int l2), (3, .int l3), (4, .long l4), (6, .long l6), (8, .int l8)] [] x 0 0 (X7_steadies_L281 r196 n l0 l1 l2 l3 l4 l6 l8 x) := by
  intro n
  induction n with
  | zero => intro l0 l1 l2 l3 l4 l6 l8 x; exact j_none
  | succ n ih =>
    intro l0 l1 l2 l3 l4 l6 l8 x
    unfold X7_steadies_L281
    refine j_iload 283 6 dX7_steadies_281 rfl rfl ?_
    refine j_if_lt 337 286 dX7_steadies_283 (by decide) rfl ?_ ?_
    · refine j_aload_n 338 0 dX7_steadies_337 rfl rfl rfl ?_
      refine j_gR 341 kf_X7_68 dX7_steadies_338 rfl ?_
      intro v18
      refine j_iload_n 342 3 dX7_steadies_341 rfl rfl rfl ?_
      refine j_lload 344 4 dX7_steadies_342 rfl rfl ?_
      refine j_wL 345 dX7_steadies_344 rfl ?_
      intro y19
      refine j_iinc 348 3 [(3, .int (l3 + 1)), (0, .ref l0), (1, .int l1), (2, .int l2), (4, .long l4), (6, .long l6), (8, .int l8)] dX7_steadies_345 rfl rfl (ii_1 _) (by decide) rfl ?_
      refine j_goto 196 dX7_steadies_348 (by decide) ?_
      refine j_sub [1, 2, 3, 0] rfl ?_
      exact hr196 l0 l1 l2 (l3 + 1) y19
    · refine j_lload 288 5 dX7_steadies_286 rfl rfl ?_
      refine j_aload_n 289 0 dX7_steadies_288 rfl rfl rfl ?_
      refine j_iload 291 6 dX7_steadies_289 rfl rfl ?_
      refine j_callV_i (ci := 6) (As := [.int l8]) (st := [.long l6]) 294 (okX7_leads G x l0 l8) kc_X7_leads kl_X7_204 ki_X7_leads kv_X7_leads kh_X7 (by decide) (fun _ h => rvX7_leads h) ⟨rfl, rfl, Nat.le_of_ble_eq_true rfl, Nat.le_of_ble_eq_true rfl⟩ (Nat.le_of_ble_eq_true rfl) ⟨Nat.le_of_ble_eq_true rfl, Nat.le_of_ble_eq_true rfl⟩ rfl dX7_steadies_291 rfl rfl ?_
      intro v20
      refine j_i2l 295 dX7_steadies_294 rfl ?_
      refine j_lmul 296 dX7_steadies_295 rfl ?_
      refine j_lstore 298 [(6, .long (l6 * (Int32.toInt64 v20))), (0, .ref l0), (1, .int l1), (2, .int l2), (3, .int l3), (4, .long l4), (8, .int l8)] dX7_steadies_296 rfl (by decide) rfl ?_
      refine j_lload 300 5 dX7_steadies_298 rfl rfl ?_
      refine j_lload 302 0 dX7_steadies_300 rfl rfl ?_
      refine j_aload_n 303 1 dX7_steadies_302 rfl rfl rfl ?_
      refine j_gR 306 kf_X7_62 dX7_steadies_303 rfl ?_
      intro v21
      refine j_iload 308 6 dX7_steadies_306 rfl rfl ?_
      refine j_aL 309 dX7_steadies_308 rfl ?_
      intro v22
      refine j_lmul 310 dX7_steadies_309 rfl ?_
      refine j_aload_n 311 1 dX7_steadies_310 rfl rfl rfl ?_
      refine j_gR 314 kf_X7_65 dX7_steadies_311 rfl ?_
      intro v23
      refine j_iload_n 315 4 dX7_steadies_314 rfl rfl rfl ?_
      refine j_iconst (v := 1) 316 dX7_steadies_315 rfl ic_1 ?_
      refine j_iadd 317 dX7_steadies_316 rfl ?_
      refine j_aL 318 dX7_steadies_317 rfl ?_
      intro v24
      refine j_lmul 319 dX7_steadies_318 rfl ?_
      refine j_aload_n 320 1 dX7_steadies_319 rfl rfl rfl ?_
      refine j_iload 322 6 dX7_steadies_320 rfl rfl ?_
      refine j_iload_n 323 2 dX7_steadies_322 rfl rfl rfl ?_
      refine j_iload_n 324 3 dX7_steadies_323 rfl rfl rfl ?_
      refine j_callV_l (ci := 6) (As := [.int l8, .int l1, .int l2]) (st := [.long (((l6 * (Int32.toInt64 v20)) * v22) * v24), .long l4]) 327 (okX7_brings G x l0 l8 l1 l2) kc_X7_brings kl_X7_285 ki_X7_brings kv_X7_brings kh_X7 (by decide) (fun _ h => rvX7_brings h) ⟨rfl, rfl, Nat.le_of_ble_eq_true rfl, Nat.le_of_ble_eq_true rfl⟩ (Nat.le_of_ble_eq_true rfl) ⟨Nat.le_of_ble_eq_true rfl, Nat.le_of_ble_eq_true rfl⟩ rfl dX7_steadies_324 rfl rfl ?_
      intro v25
      refine j_lmul 328 dX7_steadies_327 rfl ?_
      refine j_ladd 329 dX7_steadies_328 rfl ?_
      refine j_lstore 331 [(4, .long (l4 + ((((l6 * (Int32.toInt64 v20)) * v22) * v24) * v25))), (6, .long (l6 * (Int32.toInt64 v20))), (0, .ref l0), (1, .int l1), (2, .int l2), (3, .int l3), (8, .int l8)] dX7_steadies_329 rfl (by decide) rfl ?_
      refine j_iinc 334 6 [(8, .int (l8 + (-1))), (4, .long (l4 + ((((l6 * (Int32.toInt64 v20)) * v22) * v24) * v25))), (6, .long (l6 * (Int32.toInt64 v20))), (0, .ref l0), (1, .int l1), (2, .int l2), (3, .int l3)] dX7_steadies_331 rfl rfl (ii_m1 _) (by decide) rfl ?_
      refine j_goto 281 dX7_steadies_334 (by decide) ?_
      refine j_sub [3, 4, 5, 6, 1, 2, 0] rfl ?_
      exact ih l0 l1 l2 l3 (l4 + ((((l6 * (Int32.toInt64 v20)) * v22) * v24) * v25)) (l6 * (Int32.toInt64 v20)) (l8 + (-1)) x
def X7_steadies_L213 (r196 : Nat → Int32 → Int32 → Int32 → Hs → Option (Int32 × Hs)) : Nat → Nat → Int32 → Int32 → Int32 → Int64 → Int64 → Int32 → Hs → Option (Int32 × Hs)
  | 0, _, _, _, _, _, _, _, _ => none
  | n + 1, l0, l1, l2, l3, l4, l6, l8, x => (gI x 6 l0 0).bind fun v17 =>
  (if v17 ≤ l8 then X7_steadies_L281 r196 fu l0 l1 l2 l3 l4 1 (l3 - 1) x else
  (gR x 6 l0 21).bind fun v26 =>
  (aL x v26 l3).bind fun v27 =>
  (gR x 6 l0 22).bind fun v28 =>
  (aL x v28 (l8 + 1)).bind fun v29 =>
  (X7_brings l0 l8 l1 l2 x).bind fun v30 =>
  (X7_leads l0 l8 x).bind fun v31 =>
  X7_steadies_L213 r196 n l0 l1 l2 l3 (l4 + (((l6 * v27) * v29) * v30)) (l6 * (Int32.toInt64 v31)) (l8 + 1) x)
theorem okX7_steadies_L213 (G : JG) (r196 : Nat → Int32 → Int32 → Int32 → Hs → Option (Int32 × Hs)) (hr196 : ∀ (l0 : Nat) (l1 : Int32) (l2 : Int32) (l3 : Int32) (x : Hs), JM G RX7 cX7_steadies 9 (jZ G (some .boolean) "steadies" (jR 5 0 0) 0 0) (fun r : Int32 × Hs => ((some (.int r.1), r.2) : JR)) 196 [(0, .ref l0), (1, .int l1), (2, .int l2), (3, .int l3)] [] x 0 0 (r196 l0 l1 l2 l3 x)) : ∀ (n : Nat), ∀ (l0 : Nat) (l1 : Int32) (l2 : Int32) (l3 : Int32) (l4 : Int64) (l6 : Int64) (l8 : Int32) (x : Hs), JM G RX7 cX7_steadies 9 (jZ G (some .boolean) "steadies" (jR 5 0 0) 0 0) (fun r : Int32 × Hs => ((some (.int r.1), r.2) : JR)) 213 [(0, .ref l0), (1, .int l1), (2, .int l2), (3, .int l3), (4, .long l4), (6, .long l6), (8, .int l8)] [] x 0 0 (X7_steadies_L213 r196 n l0 l1 l2 l3 l4 l6 l8 x) := by
  intro n
  induction n with
  | zero => intro l0 l1 l2 l3 l4 l6 l8 x; exact j_none
  | succ n ih =>
    intro l0 l1 l2 l3 l4 l6 l8 x
    unfold X7_steadies_L213
    refine j_iload 215 6 dX7_steadies_213 rfl rfl ?_
    refine j_aload_n 216 0 dX7_steadies_215 rfl rfl rfl ?_
    refine j_gI 219 kf_X7_129 dX7_steadies_216 rfl ?_
    intro v17
    refine j_icmp_ge 273 222 dX7_steadies_219 (by decide) rfl ?_ ?_
    · refine j_lconst (v := 1) 274 dX7_steadies_273 rfl lc_1 ?_
      refine j_lstore 276 [(6, .long 1), (0, .ref l0), (1, .int l1), (2, .int l2), (3, .int l3), (4, .long l4), (8, .int l8)] dX7_steadies_274 rfl (by decide) rfl ?_
      refine j_iload_n 277 4 dX7_steadies_276 rfl rfl rfl ?_
      refine j_iconst (v := 1) 278 dX7_steadies_277 rfl ic_1 ?_
      refine j_isub 279 dX7_steadies_278 rfl ?_
      refine j_istore 281 [(8, .int (l3 - 1)), (6, .long 1), (0, .ref l0), (1, .int l1), (2, .int l2), (3, .int l3), (4, .long l4)] dX7_steadies_279 rfl (by decide) rfl ?_
      refine j_sub [2, 3, 4, 5, 6, 1, 0] rfl ?_
      exact okX7_steadies_L281 G r196 hr196 fu l0 l1 l2 l3 l4 1 (l3 - 1) x
    · refine j_lload 224 4 dX7_steadies_222 rfl rfl ?_
      refine j_lload 226 5 dX7_steadies_224 rfl rfl ?_
      refine j_aload_n 227 0 dX7_steadies_226 rfl rfl rfl ?_
      refine j_gR 230 kf_X7_62 dX7_steadies_227 rfl ?_
      intro v26
      refine j_iload_n 231 3 dX7_steadies_230 rfl rfl rfl ?_
      refine j_aL 232 dX7_steadies_231 rfl ?_
      intro v27
      refine j_lmul 233 dX7_steadies_232 rfl ?_
      refine j_aload_n 234 0 dX7_steadies_233 rfl rfl rfl ?_
      refine j_gR 237 kf_X7_65 dX7_steadies_234 rfl ?_
      intro v28
      refine j_iload 239 6 dX7_steadies_237 rfl rfl ?_
      refine j_iconst (v := 1) 240 dX7_steadies_239 rfl ic_1 ?_
      refine j_iadd 241 dX7_steadies_240 rfl ?_
      refine j_aL 242 dX7_steadies_241 rfl ?_
      intro v29
      refine j_lmul 243 dX7_steadies_242 rfl ?_
      refine j_aload_n 244 0 dX7_steadies_243 rfl rfl rfl ?_
      refine j_iload 246 6 dX7_steadies_244 rfl rfl ?_
      refine j_iload_n 247 1 dX7_steadies_246 rfl rfl rfl ?_
      refine j_iload_n 248 2 dX7_steadies_247 rfl rfl rfl ?_
      refine j_callV_l (ci := 6) (As := [.int l8, .int l1, .int l2]) (st := [.long ((l6 * v27) * v29), .long l4]) 251 (okX7_brings G x l0 l8 l1 l2) kc_X7_brings kl_X7_285 ki_X7_brings kv_X7_brings kh_X7 (by decide) (fun _ h => rvX7_brings h) ⟨rfl, rfl, Nat.le_of_ble_eq_true rfl, Nat.le_of_ble_eq_true rfl⟩ (Nat.le_of_ble_eq_true rfl) ⟨Nat.le_of_ble_eq_true rfl, Nat.le_of_ble_eq_true rfl⟩ rfl dX7_steadies_248 rfl rfl ?_
      intro v30
      refine j_lmul 252 dX7_steadies_251 rfl ?_
      refine j_ladd 253 dX7_steadies_252 rfl ?_
      refine j_lstore 255 [(4, .long (l4 + (((l6 * v27) * v29) * v30))), (0, .ref l0), (1, .int l1), (2, .int l2), (3, .int l3), (6, .long l6), (8, .int l8)] dX7_steadies_253 rfl (by decide) rfl ?_
      refine j_lload 257 5 dX7_steadies_255 rfl rfl ?_
      refine j_aload_n 258 1 dX7_steadies_257 rfl rfl rfl ?_
      refine j_iload 260 6 dX7_steadies_258 rfl rfl ?_
      refine j_callV_i (ci := 6) (As := [.int l8]) (st := [.long l6]) 263 (okX7_leads G x l0 l8) kc_X7_leads kl_X7_204 ki_X7_leads kv_X7_leads kh_X7 (by decide) (fun _ h => rvX7_leads h) ⟨rfl, rfl, Nat.le_of_ble_eq_true rfl, Nat.le_of_ble_eq_true rfl⟩ (Nat.le_of_ble_eq_true rfl) ⟨Nat.le_of_ble_eq_true rfl, Nat.le_of_ble_eq_true rfl⟩ rfl dX7_steadies_260 rfl rfl ?_
      intro v31
      refine j_i2l 264 dX7_steadies_263 rfl ?_
      refine j_lmul 265 dX7_steadies_264 rfl ?_
      refine j_lstore 267 [(6, .long (l6 * (Int32.toInt64 v31))), (4, .long (l4 + (((l6 * v27) * v29) * v30))), (0, .ref l0), (1, .int l1), (2, .int l2), (3, .int l3), (8, .int l8)] dX7_steadies_265 rfl (by decide) rfl ?_
      refine j_iinc 270 6 [(8, .int (l8 + 1)), (6, .long (l6 * (Int32.toInt64 v31))), (4, .long (l4 + (((l6 * v27) * v29) * v30))), (0, .ref l0), (1, .int l1), (2, .int l2), (3, .int l3)] dX7_steadies_267 rfl rfl (ii_1 _) (by decide) rfl ?_
      refine j_goto 213 dX7_steadies_270 (by decide) ?_
      refine j_sub [3, 4, 5, 6, 2, 1, 0] rfl ?_
      exact ih l0 l1 l2 l3 (l4 + (((l6 * v27) * v29) * v30)) (l6 * (Int32.toInt64 v31)) (l8 + 1) x
def X7_steadies_L196 : Nat → Nat → Int32 → Int32 → Int32 → Hs → Option (Int32 × Hs)
  | 0, _, _, _, _, _ => none
  | n + 1, l0, l1, l2, l3, x => (gI x 6 l0 0).bind fun v13 =>
  (if v13 ≤ l3 then (gL x 6 l0 24).bind fun v14 =>
  (if v14 ≤ 0 then (zb 0).bind fun v15 => some (v15, x) else
  (zb 1).bind fun v16 => some (v16, x)) else
  X7_steadies_L213 (fun l0 l1 l2 l3 x => X7_steadies_L196 n l0 l1 l2 l3 x) fu l0 l1 l2 l3 0 1 l3 x)
theorem okX7_steadies_L196 (G : JG) : ∀ (n : Nat), ∀ (l0 : Nat) (l1 : Int32) (l2 : Int32) (l3 : Int32) (x : Hs), JM G RX7 cX7_steadies 9 (jZ G (some .boolean) "steadies" (jR 5 0 0) 0 0) (fun r : Int32 × Hs => ((some (.int r.1), r.2) : JR)) 196 [(0, .ref l0), (1, .int l1), (2, .int l2), (3, .int l3)] [] x 0 0 (X7_steadies_L196 n l0 l1 l2 l3 x) := by
  intro n
  induction n with
  | zero => intro l0 l1 l2 l3 x; exact j_none
  | succ n ih =>
    intro l0 l1 l2 l3 x
    unfold X7_steadies_L196
    refine j_iload_n 197 3 dX7_steadies_196 rfl rfl rfl ?_
    refine j_aload_n 198 0 dX7_steadies_197 rfl rfl rfl ?_
    refine j_gI 201 kf_X7_129 dX7_steadies_198 rfl ?_
    intro v13
    refine j_icmp_ge 351 204 dX7_steadies_201 (by decide) rfl ?_ ?_
    · refine j_aload_n 352 0 dX7_steadies_351 rfl rfl rfl ?_
      refine j_gL 355 kf_X7_282 dX7_steadies_352 rfl ?_
      intro v14
      refine j_lconst (v := 0) 356 dX7_steadies_355 rfl lc_0 ?_
      refine j_lcmp_le 357 364 360 dX7_steadies_356 rfl dX7_steadies_357 (by decide) rfl ?_ ?_
      · refine j_iconst (v := 0) 365 dX7_steadies_364 rfl ic_0 ?_
        exact j_zret dX7_steadies_365 (fun _ => rfl)
      · refine j_iconst (v := 1) 361 dX7_steadies_360 rfl ic_1 ?_
        refine j_goto 365 dX7_steadies_361 (by decide) ?_
        exact j_zret dX7_steadies_365 (fun _ => rfl)
    · refine j_lconst (v := 0) 205 dX7_steadies_204 rfl lc_0 ?_
      refine j_lstore 207 [(4, .long 0), (0, .ref l0), (1, .int l1), (2, .int l2), (3, .int l3)] dX7_steadies_205 rfl (by decide) rfl ?_
      refine j_lconst (v := 1) 208 dX7_steadies_207 rfl lc_1 ?_
      refine j_lstore 210 [(6, .long 1), (4, .long 0), (0, .ref l0), (1, .int l1), (2, .int l2), (3, .int l3)] dX7_steadies_208 rfl (by decide) rfl ?_
      refine j_iload_n 211 5 dX7_steadies_210 rfl rfl rfl ?_
      refine j_istore 213 [(8, .int l3), (6, .long 1), (4, .long 0), (0, .ref l0), (1, .int l1), (2, .int l2), (3, .int l3)] dX7_steadies_211 rfl (by decide) rfl ?_
      refine j_sub [3, 4, 5, 6, 2, 1, 0] rfl ?_
      exact okX7_steadies_L213 G (fun l0 l1 l2 l3 x => X7_steadies_L196 n l0 l1 l2 l3 x) ih fu l0 l1 l2 l3 0 1 l3 x
def X7_steadies_J191 (l0 : Nat) (l1 : Int32) (l2 : Int32) (s0 : Int64) (s1 : Nat) (x : Hs) : Option (Int32 × Hs) := (pV x 6 s1 24 (.long s0)).bind fun y12 =>
  X7_steadies_L196 fu l0 l1 l2 0 y12
theorem okX7_steadies_J191 (G : JG) : ∀ (l0 : Nat) (l1 : Int32) (l2 : Int32) (s0 : Int64) (s1 : Nat) (x : Hs), JM G RX7 cX7_steadies 9 (jZ G (some .boolean) "steadies" (jR 5 0 0) 0 0) (fun r : Int32 × Hs => ((some (.int r.1), r.2) : JR)) 191 [(0, .ref l0), (1, .int l1), (2, .int l2)] [.long s0, .ref s1] x 0 0 (X7_steadies_J191 l0 l1 l2 s0 s1 x) := by
  intro l0 l1 l2 s0 s1 x
  unfold X7_steadies_J191
  refine j_put 194 kf_X7_282 dX7_steadies_191 rfl rfl rfl ?_
  intro y12
  refine j_iconst (v := 0) 195 dX7_steadies_194 rfl ic_0 ?_
  refine j_istore_n 196 [(3, .int 0), (0, .ref l0), (1, .int l1), (2, .int l2)] dX7_steadies_195 rfl rfl (by decide) rfl ?_
  refine j_sub [1, 2, 3, 0] rfl ?_
  exact okX7_steadies_L196 G fu l0 l1 l2 0 y12
def X7_steadies_J138 (r99 : Nat → Int32 → Int32 → Int32 → Hs → Option (Int32 × Hs)) (l0 : Nat) (l1 : Int32) (l2 : Int32) (l3 : Int32) (s0 : Int64) (x : Hs) : Option (Int32 × Hs) := (gR x 6 l0 22).bind fun v33 =>
  (X7_together l0 l3 x).bind fun v34 =>
  (gR x 6 l0 22).bind fun v35 =>
  (aL x v35 (l3 + 1)).bind fun v36 =>
  (wL x v33 l3 (((Int32.toInt64 v34) * v36) - s0)).bind fun y37 =>
  r99 l0 l1 l2 (l3 + (-1)) y37
theorem okX7_steadies_J138 (G : JG) (r99 : Nat → Int32 → Int32 → Int32 → Hs → Option (Int32 × Hs)) (hr99 : ∀ (l0 : Nat) (l1 : Int32) (l2 : Int32) (l3 : Int32) (x : Hs), JM G RX7 cX7_steadies 9 (jZ G (some .boolean) "steadies" (jR 5 0 0) 0 0) (fun r : Int32 × Hs => ((some (.int r.1), r.2) : JR)) 99 [(0, .ref l0), (1, .int l1), (2, .int l2), (3, .int l3)] [] x 0 0 (r99 l0 l1 l2 l3 x)) : ∀ (l0 : Nat) (l1 : Int32) (l2 : Int32) (l3 : Int32) (s0 : Int64) (x : Hs), JM G RX7 cX7_steadies 9 (jZ G (some .boolean) "steadies" (jR 5 0 0) 0 0) (fun r : Int32 × Hs => ((some (.int r.1), r.2) : JR)) 138 [(0, .ref l0), (1, .int l1), (2, .int l2), (3, .int l3)] [.long s0] x 0 0 (X7_steadies_J138 r99 l0 l1 l2 l3 s0 x) := by
  intro l0 l1 l2 l3 s0 x
  unfold X7_steadies_J138
  refine j_lstore 140 [(4, .long s0), (0, .ref l0), (1, .int l1), (2, .int l2), (3, .int l3)] dX7_steadies_138 rfl (by decide) rfl ?_
  refine j_aload_n 141 1 dX7_steadies_140 rfl rfl rfl ?_
  refine j_gR 144 kf_X7_65 dX7_steadies_141 rfl ?_
  intro v33
  refine j_iload_n 145 4 dX7_steadies_144 rfl rfl rfl ?_
  refine j_aload_n 146 1 dX7_steadies_145 rfl rfl rfl ?_
  refine j_iload_n 147 4 dX7_steadies_146 rfl rfl rfl ?_
  refine j_callV_i (ci := 6) (As := [.int l3]) (st := [.int l3, .ref v33]) 150 (okX7_together G x l0 l3) kc_X7_together kl_X7_258 ki_X7_together kv_X7_together kh_X7 (by decide) (fun _ h => rvX7_together h) ⟨rfl, rfl, Nat.le_of_ble_eq_true rfl, Nat.le_of_ble_eq_true rfl⟩ (Nat.le_of_ble_eq_true rfl) ⟨Nat.le_of_ble_eq_true rfl, Nat.le_of_ble_eq_true rfl⟩ rfl dX7_steadies_147 rfl rfl ?_
  intro v34
  refine j_i2l 151 dX7_steadies_150 rfl ?_
  refine j_aload_n 152 1 dX7_steadies_151 rfl rfl rfl ?_
  refine j_gR 155 kf_X7_65 dX7_steadies_152 rfl ?_
  intro v35
  refine j_iload_n 156 4 dX7_steadies_155 rfl rfl rfl ?_
  refine j_iconst (v := 1) 157 dX7_steadies_156 rfl ic_1 ?_
  refine j_iadd 158 dX7_steadies_157 rfl ?_
  refine j_aL 159 dX7_steadies_158 rfl ?_
  intro v36
  refine j_lmul 160 dX7_steadies_159 rfl ?_
  refine j_lload 162 0 dX7_steadies_160 rfl rfl ?_
  refine j_lsub 163 dX7_steadies_162 rfl ?_
  refine j_wL 164 dX7_steadies_163 rfl ?_
  intro y37
  refine j_iinc 167 4 [(3, .int (l3 + (-1))), (4, .long s0), (0, .ref l0), (1, .int l1), (2, .int l2)] dX7_steadies_164 rfl rfl (ii_m1 _) (by decide) rfl ?_
  refine j_goto 99 dX7_steadies_167 (by decide) ?_
  refine j_sub [2, 3, 4, 0] rfl ?_
  exact hr99 l0 l1 l2 (l3 + (-1)) y37
def X7_steadies_L99 : Nat → Nat → Int32 → Int32 → Int32 → Hs → Option (Int32 × Hs)
  | 0, _, _, _, _, _ => none
  | n + 1, l0, l1, l2, l3, x => (if l3 < 0 then (gI x 6 l0 0).bind fun v8 =>
  (if v8 = 0 then X7_steadies_J191 l0 l1 l2 0 l0 x else
  (gR x 6 l0 21).bind fun v9 =>
  (gI x 6 l0 0).bind fun v10 =>
  (aL x v9 v10).bind fun v11 =>
  X7_steadies_J191 l0 l1 l2 v11 l0 x) else
  (gI x 6 l0 0).bind fun v32 =>
  (if (v32 - 1) ≤ l3 then X7_steadies_J138 (fun l0 l1 l2 l3 x => X7_steadies_L99 n l0 l1 l2 l3 x) l0 l1 l2 l3 0 x else
  (X7_leads l0 l3 x).bind fun v38 =>
  (X7_leads l0 l3 x).bind fun v39 =>
  (gR x 6 l0 22).bind fun v40 =>
  (aL x v40 (l3 + 2)).bind fun v41 =>
  X7_steadies_J138 (fun l0 l1 l2 l3 x => X7_steadies_L99 n l0 l1 l2 l3 x) l0 l1 l2 l3 ((Int32.toInt64 (v38 * v39)) * v41) x))
theorem okX7_steadies_L99 (G : JG) : ∀ (n : Nat), ∀ (l0 : Nat) (l1 : Int32) (l2 : Int32) (l3 : Int32) (x : Hs), JM G RX7 cX7_steadies 9 (jZ G (some .boolean) "steadies" (jR 5 0 0) 0 0) (fun r : Int32 × Hs => ((some (.int r.1), r.2) : JR)) 99 [(0, .ref l0), (1, .int l1), (2, .int l2), (3, .int l3)] [] x 0 0 (X7_steadies_L99 n l0 l1 l2 l3 x) := by
  intro n
  induction n with
  | zero => intro l0 l1 l2 l3 x; exact j_none
  | succ n ih =>
    intro l0 l1 l2 l3 x
    unfold X7_steadies_L99
    refine j_iload_n 100 3 dX7_steadies_99 rfl rfl rfl ?_
    refine j_if_lt 170 103 dX7_steadies_100 (by decide) rfl ?_ ?_
    · refine j_aload_n 171 0 dX7_steadies_170 rfl rfl rfl ?_
      refine j_aload_n 172 0 dX7_steadies_171 rfl rfl rfl ?_
      refine j_gI 175 kf_X7_129 dX7_steadies_172 rfl ?_
      intro v8
      refine j_if_ne 182 178 dX7_steadies_175 (by decide) rfl ?_ ?_
      · refine j_aload_n 183 0 dX7_steadies_182 rfl rfl rfl ?_
        refine j_gR 186 kf_X7_62 dX7_steadies_183 rfl ?_
        intro v9
        refine j_aload_n 187 0 dX7_steadies_186 rfl rfl rfl ?_
        refine j_gI 190 kf_X7_129 dX7_steadies_187 rfl ?_
        intro v10
        refine j_aL 191 dX7_steadies_190 rfl ?_
        intro v11
        refine j_sub [0, 1, 2] rfl ?_
        exact okX7_steadies_J191 G l0 l1 l2 v11 l0 x
      · refine j_lconst (v := 0) 179 dX7_steadies_178 rfl lc_0 ?_
        refine j_goto 191 dX7_steadies_179 (by decide) ?_
        refine j_sub [0, 1, 2] rfl ?_
        exact okX7_steadies_J191 G l0 l1 l2 0 l0 x
    · refine j_iload_n 104 3 dX7_steadies_103 rfl rfl rfl ?_
      refine j_aload_n 105 0 dX7_steadies_104 rfl rfl rfl ?_
      refine j_gI 108 kf_X7_129 dX7_steadies_105 rfl ?_
      intro v32
      refine j_iconst (v := 1) 109 dX7_steadies_108 rfl ic_1 ?_
      refine j_isub 110 dX7_steadies_109 rfl ?_
      refine j_icmp_ge 137 113 dX7_steadies_110 (by decide) rfl ?_ ?_
      · refine j_lconst (v := 0) 138 dX7_steadies_137 rfl lc_0 ?_
        exact okX7_steadies_J138 G (fun l0 l1 l2 l3 x => X7_steadies_L99 n l0 l1 l2 l3 x) ih l0 l1 l2 l3 0 x
      · refine j_aload_n 114 0 dX7_steadies_113 rfl rfl rfl ?_
        refine j_iload_n 115 3 dX7_steadies_114 rfl rfl rfl ?_
        refine j_callV_i (ci := 6) (As := [.int l3]) (st := []) 118 (okX7_leads G x l0 l3) kc_X7_leads kl_X7_204 ki_X7_leads kv_X7_leads kh_X7 (by decide) (fun _ h => rvX7_leads h) ⟨rfl, rfl, Nat.le_of_ble_eq_true rfl, Nat.le_of_ble_eq_true rfl⟩ (Nat.le_of_ble_eq_true rfl) ⟨Nat.le_of_ble_eq_true rfl, Nat.le_of_ble_eq_true rfl⟩ rfl dX7_steadies_115 rfl rfl ?_
        intro v38
        refine j_aload_n 119 0 dX7_steadies_118 rfl rfl rfl ?_
        refine j_iload_n 120 3 dX7_steadies_119 rfl rfl rfl ?_
        refine j_callV_i (ci := 6) (As := [.int l3]) (st := [.int v38]) 123 (okX7_leads G x l0 l3) kc_X7_leads kl_X7_204 ki_X7_leads kv_X7_leads kh_X7 (by decide) (fun _ h => rvX7_leads h) ⟨rfl, rfl, Nat.le_of_ble_eq_true rfl, Nat.le_of_ble_eq_true rfl⟩ (Nat.le_of_ble_eq_true rfl) ⟨Nat.le_of_ble_eq_true rfl, Nat.le_of_ble_eq_true rfl⟩ rfl dX7_steadies_120 rfl rfl ?_
        intro v39
        refine j_imul 124 dX7_steadies_123 rfl ?_
        refine j_i2l 125 dX7_steadies_124 rfl ?_
        refine j_aload_n 126 0 dX7_steadies_125 rfl rfl rfl ?_
        refine j_gR 129 kf_X7_65 dX7_steadies_126 rfl ?_
        intro v40
        refine j_iload_n 130 3 dX7_steadies_129 rfl rfl rfl ?_
        refine j_iconst (v := 2) 131 dX7_steadies_130 rfl ic_2 ?_
        refine j_iadd 132 dX7_steadies_131 rfl ?_
        refine j_aL 133 dX7_steadies_132 rfl ?_
        intro v41
        refine j_lmul 134 dX7_steadies_133 rfl ?_
        refine j_goto 138 dX7_steadies_134 (by decide) ?_
        exact okX7_steadies_J138 G (fun l0 l1 l2 l3 x => X7_steadies_L99 n l0 l1 l2 l3 x) ih l0 l1 l2 l3 ((Int32.toInt64 (v38 * v39)) * v41) x
def X7_steadies_J50 (r9 : Nat → Int32 → Int32 → Int32 → Hs → Option (Int32 × Hs)) (l0 : Nat) (l1 : Int32) (l2 : Int32) (l3 : Int32) (s0 : Int64) (x : Hs) : Option (Int32 × Hs) := (gR x 6 l0 21).bind fun v42 =>
  (X7_together l0 l3 x).bind fun v43 =>
  (gR x 6 l0 21).bind fun v44 =>
  (aL x v44 l3).bind fun v45 =>
  (wL x v42 (l3 + 1) (((Int32.toInt64 v43) * v45) - s0)).bind fun y46 =>
  r9 l0 l1 l2 (l3 + 1) y46
theorem okX7_steadies_J50 (G : JG) (r9 : Nat → Int32 → Int32 → Int32 → Hs → Option (Int32 × Hs)) (hr9 : ∀ (l0 : Nat) (l1 : Int32) (l2 : Int32) (l3 : Int32) (x : Hs), JM G RX7 cX7_steadies 9 (jZ G (some .boolean) "steadies" (jR 5 0 0) 0 0) (fun r : Int32 × Hs => ((some (.int r.1), r.2) : JR)) 9 [(0, .ref l0), (1, .int l1), (2, .int l2), (3, .int l3)] [] x 0 0 (r9 l0 l1 l2 l3 x)) : ∀ (l0 : Nat) (l1 : Int32) (l2 : Int32) (l3 : Int32) (s0 : Int64) (x : Hs), JM G RX7 cX7_steadies 9 (jZ G (some .boolean) "steadies" (jR 5 0 0) 0 0) (fun r : Int32 × Hs => ((some (.int r.1), r.2) : JR)) 50 [(0, .ref l0), (1, .int l1), (2, .int l2), (3, .int l3)] [.long s0] x 0 0 (X7_steadies_J50 r9 l0 l1 l2 l3 s0 x) := by
  intro l0 l1 l2 l3 s0 x
  unfold X7_steadies_J50
  refine j_lstore 52 [(4, .long s0), (0, .ref l0), (1, .int l1), (2, .int l2), (3, .int l3)] dX7_steadies_50 rfl (by decide) rfl ?_
  refine j_aload_n 53 1 dX7_steadies_52 rfl rfl rfl ?_
  refine j_gR 56 kf_X7_62 dX7_steadies_53 rfl ?_
  intro v42
  refine j_iload_n 57 4 dX7_steadies_56 rfl rfl rfl ?_
  refine j_iconst (v := 1) 58 dX7_steadies_57 rfl ic_1 ?_
  refine j_iadd 59 dX7_steadies_58 rfl ?_
  refine j_aload_n 60 1 dX7_steadies_59 rfl rfl rfl ?_
  refine j_iload_n 61 4 dX7_steadies_60 rfl rfl rfl ?_
  refine j_callV_i (ci := 6) (As := [.int l3]) (st := [.int (l3 + 1), .ref v42]) 64 (okX7_together G x l0 l3) kc_X7_together kl_X7_258 ki_X7_together kv_X7_together kh_X7 (by decide) (fun _ h => rvX7_together h) ⟨rfl, rfl, Nat.le_of_ble_eq_true rfl, Nat.le_of_ble_eq_true rfl⟩ (Nat.le_of_ble_eq_true rfl) ⟨Nat.le_of_ble_eq_true rfl, Nat.le_of_ble_eq_true rfl⟩ rfl dX7_steadies_61 rfl rfl ?_
  intro v43
  refine j_i2l 65 dX7_steadies_64 rfl ?_
  refine j_aload_n 66 1 dX7_steadies_65 rfl rfl rfl ?_
  refine j_gR 69 kf_X7_62 dX7_steadies_66 rfl ?_
  intro v44
  refine j_iload_n 70 4 dX7_steadies_69 rfl rfl rfl ?_
  refine j_aL 71 dX7_steadies_70 rfl ?_
  intro v45
  refine j_lmul 72 dX7_steadies_71 rfl ?_
  refine j_lload 74 0 dX7_steadies_72 rfl rfl ?_
  refine j_lsub 75 dX7_steadies_74 rfl ?_
  refine j_wL 76 dX7_steadies_75 rfl ?_
  intro y46
  refine j_iinc 79 4 [(3, .int (l3 + 1)), (4, .long s0), (0, .ref l0), (1, .int l1), (2, .int l2)] dX7_steadies_76 rfl rfl (ii_1 _) (by decide) rfl ?_
  refine j_goto 9 dX7_steadies_79 (by decide) ?_
  refine j_sub [2, 3, 4, 0] rfl ?_
  exact hr9 l0 l1 l2 (l3 + 1) y46
def X7_steadies_L9 : Nat → Nat → Int32 → Int32 → Int32 → Hs → Option (Int32 × Hs)
  | 0, _, _, _, _, _ => none
  | n + 1, l0, l1, l2, l3, x => (gI x 6 l0 0).bind fun v3 =>
  (if v3 ≤ l3 then (gR x 6 l0 22).bind fun v4 =>
  (gI x 6 l0 0).bind fun v5 =>
  (wL x v4 v5 1).bind fun y6 =>
  (gI y6 6 l0 0).bind fun v7 =>
  X7_steadies_L99 fu l0 l1 l2 (v7 - 1) y6 else
  (if l3 ≤ 0 then X7_steadies_J50 (fun l0 l1 l2 l3 x => X7_steadies_L9 n l0 l1 l2 l3 x) l0 l1 l2 l3 0 x else
  (X7_leads l0 (l3 - 1) x).bind fun v47 =>
  (X7_leads l0 (l3 - 1) x).bind fun v48 =>
  (gR x 6 l0 21).bind fun v49 =>
  (aL x v49 (l3 - 1)).bind fun v50 =>
  X7_steadies_J50 (fun l0 l1 l2 l3 x => X7_steadies_L9 n l0 l1 l2 l3 x) l0 l1 l2 l3 ((Int32.toInt64 (v47 * v48)) * v50) x))
theorem okX7_steadies_L9 (G : JG) : ∀ (n : Nat), ∀ (l0 : Nat) (l1 : Int32) (l2 : Int32) (l3 : Int32) (x : Hs), JM G RX7 cX7_steadies 9 (jZ G (some .boolean) "steadies" (jR 5 0 0) 0 0) (fun r : Int32 × Hs => ((some (.int r.1), r.2) : JR)) 9 [(0, .ref l0), (1, .int l1), (2, .int l2), (3, .int l3)] [] x 0 0 (X7_steadies_L9 n l0 l1 l2 l3 x) := by
  intro n
  induction n with
  | zero => intro l0 l1 l2 l3 x; exact j_none
  | succ n ih =>
    intro l0 l1 l2 l3 x
    unfold X7_steadies_L9
    refine j_iload_n 10 3 dX7_steadies_9 rfl rfl rfl ?_
    refine j_aload_n 11 0 dX7_steadies_10 rfl rfl rfl ?_
    refine j_gI 14 kf_X7_129 dX7_steadies_11 rfl ?_
    intro v3
    refine j_icmp_ge 82 17 dX7_steadies_14 (by decide) rfl ?_ ?_
    · refine j_aload_n 83 0 dX7_steadies_82 rfl rfl rfl ?_
      refine j_gR 86 kf_X7_65 dX7_steadies_83 rfl ?_
      intro v4
      refine j_aload_n 87 0 dX7_steadies_86 rfl rfl rfl ?_
      refine j_gI 90 kf_X7_129 dX7_steadies_87 rfl ?_
      intro v5
      refine j_lconst (v := 1) 91 dX7_steadies_90 rfl lc_1 ?_
      refine j_wL 92 dX7_steadies_91 rfl ?_
      intro y6
      refine j_aload_n 93 0 dX7_steadies_92 rfl rfl rfl ?_
      refine j_gI 96 kf_X7_129 dX7_steadies_93 rfl ?_
      intro v7
      refine j_iconst (v := 1) 97 dX7_steadies_96 rfl ic_1 ?_
      refine j_isub 98 dX7_steadies_97 rfl ?_
      refine j_istore_n 99 [(3, .int (v7 - 1)), (0, .ref l0), (1, .int l1), (2, .int l2)] dX7_steadies_98 rfl rfl (by decide) rfl ?_
      refine j_sub [1, 2, 3, 0] rfl ?_
      exact okX7_steadies_L99 G fu l0 l1 l2 (v7 - 1) y6
    · refine j_iload_n 18 3 dX7_steadies_17 rfl rfl rfl ?_
      refine j_if_le 49 21 dX7_steadies_18 (by decide) rfl ?_ ?_
      · refine j_lconst (v := 0) 50 dX7_steadies_49 rfl lc_0 ?_
        exact okX7_steadies_J50 G (fun l0 l1 l2 l3 x => X7_steadies_L9 n l0 l1 l2 l3 x) ih l0 l1 l2 l3 0 x
      · refine j_aload_n 22 0 dX7_steadies_21 rfl rfl rfl ?_
        refine j_iload_n 23 3 dX7_steadies_22 rfl rfl rfl ?_
        refine j_iconst (v := 1) 24 dX7_steadies_23 rfl ic_1 ?_
        refine j_isub 25 dX7_steadies_24 rfl ?_
        refine j_callV_i (ci := 6) (As := [.int (l3 - 1)]) (st := []) 28 (okX7_leads G x l0 (l3 - 1)) kc_X7_leads kl_X7_204 ki_X7_leads kv_X7_leads kh_X7 (by decide) (fun _ h => rvX7_leads h) ⟨rfl, rfl, Nat.le_of_ble_eq_true rfl, Nat.le_of_ble_eq_true rfl⟩ (Nat.le_of_ble_eq_true rfl) ⟨Nat.le_of_ble_eq_true rfl, Nat.le_of_ble_eq_true rfl⟩ rfl dX7_steadies_25 rfl rfl ?_
        intro v47
        refine j_aload_n 29 0 dX7_steadies_28 rfl rfl rfl ?_
        refine j_iload_n 30 3 dX7_steadies_29 rfl rfl rfl ?_
        refine j_iconst (v := 1) 31 dX7_steadies_30 rfl ic_1 ?_
        refine j_isub 32 dX7_steadies_31 rfl ?_
        refine j_callV_i (ci := 6) (As := [.int (l3 - 1)]) (st := [.int v47]) 35 (okX7_leads G x l0 (l3 - 1)) kc_X7_leads kl_X7_204 ki_X7_leads kv_X7_leads kh_X7 (by decide) (fun _ h => rvX7_leads h) ⟨rfl, rfl, Nat.le_of_ble_eq_true rfl, Nat.le_of_ble_eq_true rfl⟩ (Nat.le_of_ble_eq_true rfl) ⟨Nat.le_of_ble_eq_true rfl, Nat.le_of_ble_eq_true rfl⟩ rfl dX7_steadies_32 rfl rfl ?_
        intro v48
        refine j_imul 36 dX7_steadies_35 rfl ?_
        refine j_i2l 37 dX7_steadies_36 rfl ?_
        refine j_aload_n 38 0 dX7_steadies_37 rfl rfl rfl ?_
        refine j_gR 41 kf_X7_62 dX7_steadies_38 rfl ?_
        intro v49
        refine j_iload_n 42 3 dX7_steadies_41 rfl rfl rfl ?_
        refine j_iconst (v := 1) 43 dX7_steadies_42 rfl ic_1 ?_
        refine j_isub 44 dX7_steadies_43 rfl ?_
        refine j_aL 45 dX7_steadies_44 rfl ?_
        intro v50
        refine j_lmul 46 dX7_steadies_45 rfl ?_
        refine j_goto 50 dX7_steadies_46 (by decide) ?_
        exact okX7_steadies_J50 G (fun l0 l1 l2 l3 x => X7_steadies_L9 n l0 l1 l2 l3 x) ih l0 l1 l2 l3 ((Int32.toInt64 (v47 * v48)) * v50) x
def X7_steadies (a0 : Nat) (a1 : Int32) (a2 : Int32) (x : Hs) : Option (Int32 × Hs) := (vO x 6 a0).bind fun _ =>
  (gR x 6 a0 21).bind fun v1 =>
  (wL x v1 0 1).bind fun y2 =>
  X7_steadies_L9 fu a0 a1 a2 0 y2
theorem rvX7_steadies {a0 : Nat} {a1 : Int32} {a2 : Int32} {x : Hs} {r : Int32 × Hs} (h : X7_steadies a0 a1 a2 x = some r) : ∃ fs, x.1 a0 = .inr (6, fs) := vO_bind h
theorem okX7_steadies (G : JG) (x : Hs) (a0 : Nat) (a1 : Int32) (a2 : Int32) : ∀ r, X7_steadies a0 a1 a2 x = some r → JC G yX7_steadies cX7_steadies 9 (some .boolean) (jR 5 0 0) 0 0 [.ref a0, .int a1, .int a2] x ((some (.int r.1), r.2)) := by
  refine jc_of (own := RX7) (E := (fun r : Int32 × Hs => ((some (.int r.1), r.2) : JR))) (by decide) rfl rfl (Nat.le_of_ble_eq_true rfl) rfl ?_
  unfold X7_steadies
  refine j_chk ?_
  refine j_aload_n 1 0 dX7_steadies_0 rfl rfl rfl ?_
  refine j_gR 4 kf_X7_62 dX7_steadies_1 rfl ?_
  intro v1
  refine j_iconst (v := 0) 5 dX7_steadies_4 rfl ic_0 ?_
  refine j_lconst (v := 1) 6 dX7_steadies_5 rfl lc_1 ?_
  refine j_wL 7 dX7_steadies_6 rfl ?_
  intro y2
  refine j_iconst (v := 0) 8 dX7_steadies_7 rfl ic_0 ?_
  refine j_istore_n 9 [(3, .int 0), (0, .ref a0), (1, .int a1), (2, .int a2)] dX7_steadies_8 rfl rfl (by decide) rfl ?_
  refine j_sub [1, 2, 3, 0] rfl ?_
  exact okX7_steadies_L9 G fu a0 a1 a2 0 y2
-- X7_steady: ('BarStepsModel', 'steady', '(II)J')
def X7_steady (a0 : Nat) (a1 : Int32) (a2 : Int32) (x : Hs) : Option (Int64 × Hs) := (vO x 6 a0).bind fun _ =>
  (X7_isCell a0 a1 x).bind fun v1 =>
  (if v1 = 0 then some ((-9223372036854775808), x) else
  (X7_isIn (Int32.toInt64 a2) 0 1).bind fun v2 =>
  (if v2 = 0 then some ((-9223372036854775808), x) else
  (X7_steadies a0 (-1) 0 x).bind fun q3 =>
  (if q3.1 = 0 then some ((-9223372036854775808), q3.2) else
  (gR q3.2 6 a0 23).bind fun v4 =>
  (aL q3.2 v4 a1).bind fun v5 =>
  (gL q3.2 6 a0 24).bind fun v6 =>
  (X7_part v5 v6 a2).bind fun v7 =>
  some (v7, q3.2))))
theorem rvX7_steady {a0 : Nat} {a1 : Int32} {a2 : Int32} {x : Hs} {r : Int64 × Hs} (h : X7_steady a0 a1 a2 x = some r) : ∃ fs, x.1 a0 = .inr (6, fs) := vO_bind h
theorem okX7_steady (G : JG) (x : Hs) (a0 : Nat) (a1 : Int32) (a2 : Int32) : ∀ r, X7_steady a0 a1 a2 x = some r → JC G yX7_steady cX7_steady 3 (some .long) (jR 6 0 0) 0 0 [.ref a0, .int a1, .int a2] x ((some (.long r.1), r.2)) := by
  refine jc_of (own := RX7) (E := (fun r : Int64 × Hs => ((some (.long r.1), r.2) : JR))) (by decide) rfl rfl (Nat.le_of_ble_eq_true rfl) rfl ?_
  unfold X7_steady
  refine j_chk ?_
  refine j_aload_n 1 0 dX7_steady_0 rfl rfl rfl ?_
  refine j_iload_n 2 1 dX7_steady_1 rfl rfl rfl ?_
  refine j_callV_i (ci := 6) (As := [.int a1]) (st := []) 5 (okX7_isCell G x a0 a1) kc_X7_isCell kl_X7_177 ki_X7_isCell kv_X7_isCell kh_X7 (by decide) (fun _ h => rvX7_isCell h) ⟨rfl, rfl, Nat.le_of_ble_eq_true rfl, Nat.le_of_ble_eq_true rfl⟩ (Nat.le_of_ble_eq_true rfl) ⟨Nat.le_of_ble_eq_true rfl, Nat.le_of_ble_eq_true rfl⟩ rfl dX7_steady_2 rfl rfl ?_
  intro v1
  refine j_if_eq 44 8 dX7_steady_5 (by decide) rfl ?_ ?_
  · refine j_ldc2 47 kk_X7_256 dX7_steady_44 rfl ?_
    exact j_lret dX7_steady_47 rfl
  · refine j_iload_n 9 2 dX7_steady_8 rfl rfl rfl ?_
    refine j_i2l 10 dX7_steady_9 rfl ?_
    refine j_lconst (v := 0) 11 dX7_steady_10 rfl lc_0 ?_
    refine j_lconst (v := 1) 12 dX7_steady_11 rfl lc_1 ?_
    refine j_callS_i (As := [.long (Int32.toInt64 a2), .long 0, .long 1]) (st := []) 15 (okX7_isIn G x (Int32.toInt64 a2) 0 1) kc_X7_isIn kl_X7_133 ks_X7_isIn ⟨rfl, rfl, Nat.le_of_ble_eq_true rfl, Nat.le_of_ble_eq_true rfl⟩ (Nat.le_of_ble_eq_true rfl) ⟨Nat.le_of_ble_eq_true rfl, Nat.le_of_ble_eq_true rfl⟩ rfl dX7_steady_12 rfl rfl ?_
    intro v2
    refine j_if_eq 44 18 dX7_steady_15 (by decide) rfl ?_ ?_
    · refine j_ldc2 47 kk_X7_256 dX7_steady_44 rfl ?_
      exact j_lret dX7_steady_47 rfl
    · refine j_aload_n 19 0 dX7_steady_18 rfl rfl rfl ?_
      refine j_iconst (v := -1) 20 dX7_steady_19 rfl ic_m1 ?_
      refine j_iconst (v := 0) 21 dX7_steady_20 rfl ic_0 ?_
      refine j_callV_iw (ci := 6) (As := [.int (-1), .int 0]) (st := []) 24 (okX7_steadies G x a0 (-1) 0) kc_X7_steadies kl_X7_289 ki_X7_steadies kv_X7_steadies kh_X7 (by decide) (fun _ h => rvX7_steadies h) ⟨rfl, rfl, Nat.le_of_ble_eq_true rfl, Nat.le_of_ble_eq_true rfl⟩ (Nat.le_of_ble_eq_true rfl) ⟨Nat.le_of_ble_eq_true rfl, Nat.le_of_ble_eq_true rfl⟩ rfl dX7_steady_21 rfl rfl ?_
      intro q3
      refine j_if_eq 44 27 dX7_steady_24 (by decide) rfl ?_ ?_
      · refine j_ldc2 47 kk_X7_256 dX7_steady_44 rfl ?_
        exact j_lret dX7_steady_47 rfl
      · refine j_aload_n 28 0 dX7_steady_27 rfl rfl rfl ?_
        refine j_gR 31 kf_X7_68 dX7_steady_28 rfl ?_
        intro v4
        refine j_iload_n 32 1 dX7_steady_31 rfl rfl rfl ?_
        refine j_aL 33 dX7_steady_32 rfl ?_
        intro v5
        refine j_aload_n 34 0 dX7_steady_33 rfl rfl rfl ?_
        refine j_gL 37 kf_X7_282 dX7_steady_34 rfl ?_
        intro v6
        refine j_iload_n 38 2 dX7_steady_37 rfl rfl rfl ?_
        refine j_callS_l (As := [.long v5, .long v6, .int a2]) (st := []) 41 (okX7_part G q3.2 v5 v6 a2) kc_X7_part kl_X7_252 ks_X7_part ⟨rfl, rfl, Nat.le_of_ble_eq_true rfl, Nat.le_of_ble_eq_true rfl⟩ (Nat.le_of_ble_eq_true rfl) ⟨Nat.le_of_ble_eq_true rfl, Nat.le_of_ble_eq_true rfl⟩ rfl dX7_steady_38 rfl rfl ?_
        intro v7
        refine j_goto 47 dX7_steady_41 (by decide) ?_
        exact j_lret dX7_steady_47 rfl
