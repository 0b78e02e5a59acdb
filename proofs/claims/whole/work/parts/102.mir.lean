/-! Each method as a pure term, and the machine's rows. Written by wip/whole/decomp.py. -/
-- X4_sweepLeft: ('BarSteps$Steady', 'sweepLeft', '(LBarSteps$Bar;I)V')
def X4_sweepLeft_L27 : Nat → Nat → Nat → Int32 → Hs → Option (Hs)
  | 0, _, _, _, _ => none
  | n + 1, l0, l1, l3, x => (if l3 < 0 then some x else
  (X0_leads l1 l3 x).bind fun v7 =>
  (gR x 3 l0 3).bind fun v8 =>
  (X0_loss l1 l3 x).bind fun v9 =>
  (gR x 3 l0 3).bind fun v10 =>
  (aL x v10 (l3 + 1)).bind fun v11 =>
  (gR x 3 l0 3).bind fun v12 =>
  (aL x v12 (l3 + 2)).bind fun v13 =>
  (wL x v8 l3 (((Int32.toInt64 v9) * v11) - (((Int32.toInt64 v7) * (Int32.toInt64 v7)) * v13))).bind fun y14 =>
  (gR y14 3 l0 5).bind fun v15 =>
  (X0_supply l1 l3 y14).bind fun v16 =>
  (gR y14 3 l0 3).bind fun v17 =>
  (aL y14 v17 (l3 + 1)).bind fun v18 =>
  (gR y14 3 l0 5).bind fun v19 =>
  (aL y14 v19 (l3 + 1)).bind fun v20 =>
  (wL y14 v15 l3 (((Int32.toInt64 v16) * v18) + ((Int32.toInt64 v7) * v20))).bind fun y21 =>
  X4_sweepLeft_L27 n l0 l1 (l3 + (-1)) y21)
theorem okX4_sweepLeft_L27 (G : JG) : ∀ (n : Nat), ∀ (l0 : Nat) (l1 : Nat) (l3 : Int32) (x : Hs), JM G RX4 cX4_sweepLeft 6 (jZ G (none) "sweepLeft" (jR 4 0 0) 0 0) (fun r : Hs => ((none, r) : JR)) 27 [(0, .ref l0), (1, .ref l1), (3, .int l3)] [] x 0 0 (X4_sweepLeft_L27 n l0 l1 l3 x) := by
  intro n
  induction n with
  | zero => intro l0 l1 l3 x; exact j_none
  | succ n ih =>
    intro l0 l1 l3 x
    unfold X4_sweepLeft_L27
    refine j_iload_n 28 2 dX4_sweepLeft_27 rfl rfl rfl ?_
    refine j_if_lt 114 31 dX4_sweepLeft_28 (by decide) rfl ?_ ?_
    · exact j_vret dX4_sweepLeft_114 rfl
    · refine j_aload_n 32 1 dX4_sweepLeft_31 rfl rfl rfl ?_
      refine j_iload_n 33 2 dX4_sweepLeft_32 rfl rfl rfl ?_
      refine j_callV_i (ci := 0) (As := [.int l3]) (st := []) 36 (okX0_leads G x l1 l3) kc_X0_leads kl_X4_44 ki_X0_leads kv_X0_leads kh_X0 (by decide) (fun _ h => rvX0_leads h) ⟨rfl, rfl, Nat.le_of_ble_eq_true rfl, Nat.le_of_ble_eq_true rfl⟩ (Nat.le_of_ble_eq_true rfl) ⟨Nat.le_of_ble_eq_true rfl, Nat.le_of_ble_eq_true rfl⟩ rfl dX4_sweepLeft_33 rfl rfl ?_
      intro v7
      refine j_i2l 37 dX4_sweepLeft_36 rfl ?_
      refine j_lstore 39 [(4, .long (Int32.toInt64 v7)), (0, .ref l0), (1, .ref l1), (3, .int l3)] dX4_sweepLeft_37 rfl (by decide) rfl ?_
      refine j_aload_n 40 1 dX4_sweepLeft_39 rfl rfl rfl ?_
      refine j_gR 43 kf_X4_22 dX4_sweepLeft_40 rfl ?_
      intro v8
      refine j_iload_n 44 3 dX4_sweepLeft_43 rfl rfl rfl ?_
      refine j_aload_n 45 2 dX4_sweepLeft_44 rfl rfl rfl ?_
      refine j_iload_n 46 3 dX4_sweepLeft_45 rfl rfl rfl ?_
      refine j_callV_i (ci := 0) (As := [.int l3]) (st := [.int l3, .ref v8]) 49 (okX0_loss G x l1 l3) kc_X0_loss kl_X4_48 ki_X0_loss kv_X0_loss kh_X0 (by decide) (fun _ h => rvX0_loss h) ⟨rfl, rfl, Nat.le_of_ble_eq_true rfl, Nat.le_of_ble_eq_true rfl⟩ (Nat.le_of_ble_eq_true rfl) ⟨Nat.le_of_ble_eq_true rfl, Nat.le_of_ble_eq_true rfl⟩ rfl dX4_sweepLeft_46 rfl rfl ?_
      intro v9
      refine j_i2l 50 dX4_sweepLeft_49 rfl ?_
      refine j_aload_n 51 1 dX4_sweepLeft_50 rfl rfl rfl ?_
      refine j_gR 54 kf_X4_22 dX4_sweepLeft_51 rfl ?_
      intro v10
      refine j_iload_n 55 3 dX4_sweepLeft_54 rfl rfl rfl ?_
      refine j_iconst (v := 1) 56 dX4_sweepLeft_55 rfl ic_1 ?_
      refine j_iadd 57 dX4_sweepLeft_56 rfl ?_
      refine j_aL 58 dX4_sweepLeft_57 rfl ?_
      intro v11
      refine j_lmul 59 dX4_sweepLeft_58 rfl ?_
      refine j_lload 61 0 dX4_sweepLeft_59 rfl rfl ?_
      refine j_lload 63 0 dX4_sweepLeft_61 rfl rfl ?_
      refine j_lmul 64 dX4_sweepLeft_63 rfl ?_
      refine j_aload_n 65 1 dX4_sweepLeft_64 rfl rfl rfl ?_
      refine j_gR 68 kf_X4_22 dX4_sweepLeft_65 rfl ?_
      intro v12
      refine j_iload_n 69 3 dX4_sweepLeft_68 rfl rfl rfl ?_
      refine j_iconst (v := 2) 70 dX4_sweepLeft_69 rfl ic_2 ?_
      refine j_iadd 71 dX4_sweepLeft_70 rfl ?_
      refine j_aL 72 dX4_sweepLeft_71 rfl ?_
      intro v13
      refine j_lmul 73 dX4_sweepLeft_72 rfl ?_
      refine j_lsub 74 dX4_sweepLeft_73 rfl ?_
      refine j_wL 75 dX4_sweepLeft_74 rfl ?_
      intro y14
      refine j_aload_n 76 1 dX4_sweepLeft_75 rfl rfl rfl ?_
      refine j_gR 79 kf_X4_28 dX4_sweepLeft_76 rfl ?_
      intro v15
      refine j_iload_n 80 3 dX4_sweepLeft_79 rfl rfl rfl ?_
      refine j_aload_n 81 2 dX4_sweepLeft_80 rfl rfl rfl ?_
      refine j_iload_n 82 3 dX4_sweepLeft_81 rfl rfl rfl ?_
      refine j_callV_i (ci := 0) (As := [.int l3]) (st := [.int l3, .ref v15]) 85 (okX0_supply G y14 l1 l3) kc_X0_supply kl_X4_51 ki_X0_supply kv_X0_supply kh_X0 (by decide) (fun _ h => rvX0_supply h) ⟨rfl, rfl, Nat.le_of_ble_eq_true rfl, Nat.le_of_ble_eq_true rfl⟩ (Nat.le_of_ble_eq_true rfl) ⟨Nat.le_of_ble_eq_true rfl, Nat.le_of_ble_eq_true rfl⟩ rfl dX4_sweepLeft_82 rfl rfl ?_
      intro v16
      refine j_i2l 86 dX4_sweepLeft_85 rfl ?_
      refine j_aload_n 87 1 dX4_sweepLeft_86 rfl rfl rfl ?_
      refine j_gR 90 kf_X4_22 dX4_sweepLeft_87 rfl ?_
      intro v17
      refine j_iload_n 91 3 dX4_sweepLeft_90 rfl rfl rfl ?_
      refine j_iconst (v := 1) 92 dX4_sweepLeft_91 rfl ic_1 ?_
      refine j_iadd 93 dX4_sweepLeft_92 rfl ?_
      refine j_aL 94 dX4_sweepLeft_93 rfl ?_
      intro v18
      refine j_lmul 95 dX4_sweepLeft_94 rfl ?_
      refine j_lload 97 0 dX4_sweepLeft_95 rfl rfl ?_
      refine j_aload_n 98 1 dX4_sweepLeft_97 rfl rfl rfl ?_
      refine j_gR 101 kf_X4_28 dX4_sweepLeft_98 rfl ?_
      intro v19
      refine j_iload_n 102 3 dX4_sweepLeft_101 rfl rfl rfl ?_
      refine j_iconst (v := 1) 103 dX4_sweepLeft_102 rfl ic_1 ?_
      refine j_iadd 104 dX4_sweepLeft_103 rfl ?_
      refine j_aL 105 dX4_sweepLeft_104 rfl ?_
      intro v20
      refine j_lmul 106 dX4_sweepLeft_105 rfl ?_
      refine j_ladd 107 dX4_sweepLeft_106 rfl ?_
      refine j_wL 108 dX4_sweepLeft_107 rfl ?_
      intro y21
      refine j_iinc 111 3 [(3, .int (l3 + (-1))), (4, .long (Int32.toInt64 v7)), (0, .ref l0), (1, .ref l1)] dX4_sweepLeft_108 rfl rfl (ii_m1 _) (by decide) rfl ?_
      refine j_goto 27 dX4_sweepLeft_111 (by decide) ?_
      refine j_sub [2, 3, 0] rfl ?_
      exact ih l0 l1 (l3 + (-1)) y21
def X4_sweepLeft (a0 : Nat) (a1 : Nat) (a2 : Int32) (x : Hs) : Option (Hs) := (vO x 3 a0).bind fun _ =>
  (gR x 3 a0 3).bind fun v1 =>
  (wL x v1 a2 1).bind fun y2 =>
  (gR y2 3 a0 3).bind fun v3 =>
  (wL y2 v3 (a2 + 1) 0).bind fun y4 =>
  (gR y4 3 a0 5).bind fun v5 =>
  (wL y4 v5 a2 0).bind fun y6 =>
  X4_sweepLeft_L27 fu a0 a1 (a2 - 1) y6
theorem rvX4_sweepLeft {a0 : Nat} {a1 : Nat} {a2 : Int32} {x : Hs} {r : Hs} (h : X4_sweepLeft a0 a1 a2 x = some r) : ∃ fs, x.1 a0 = .inr (3, fs) := vO_bind h
theorem okX4_sweepLeft (G : JG) (x : Hs) (a0 : Nat) (a1 : Nat) (a2 : Int32) : ∀ r, X4_sweepLeft a0 a1 a2 x = some r → JC G yX4_sweepLeft cX4_sweepLeft 6 (none) (jR 4 0 0) 0 0 [.ref a0, .ref a1, .int a2] x ((none, r)) := by
  refine jc_of (own := RX4) (E := (fun r : Hs => ((none, r) : JR))) (by decide) rfl rfl (Nat.le_of_ble_eq_true rfl) rfl ?_
  unfold X4_sweepLeft
  refine j_chk ?_
  refine j_aload_n 1 0 dX4_sweepLeft_0 rfl rfl rfl ?_
  refine j_gR 4 kf_X4_22 dX4_sweepLeft_1 rfl ?_
  intro v1
  refine j_iload_n 5 2 dX4_sweepLeft_4 rfl rfl rfl ?_
  refine j_lconst (v := 1) 6 dX4_sweepLeft_5 rfl lc_1 ?_
  refine j_wL 7 dX4_sweepLeft_6 rfl ?_
  intro y2
  refine j_aload_n 8 0 dX4_sweepLeft_7 rfl rfl rfl ?_
  refine j_gR 11 kf_X4_22 dX4_sweepLeft_8 rfl ?_
  intro v3
  refine j_iload_n 12 2 dX4_sweepLeft_11 rfl rfl rfl ?_
  refine j_iconst (v := 1) 13 dX4_sweepLeft_12 rfl ic_1 ?_
  refine j_iadd 14 dX4_sweepLeft_13 rfl ?_
  refine j_lconst (v := 0) 15 dX4_sweepLeft_14 rfl lc_0 ?_
  refine j_wL 16 dX4_sweepLeft_15 rfl ?_
  intro y4
  refine j_aload_n 17 0 dX4_sweepLeft_16 rfl rfl rfl ?_
  refine j_gR 20 kf_X4_28 dX4_sweepLeft_17 rfl ?_
  intro v5
  refine j_iload_n 21 2 dX4_sweepLeft_20 rfl rfl rfl ?_
  refine j_lconst (v := 0) 22 dX4_sweepLeft_21 rfl lc_0 ?_
  refine j_wL 23 dX4_sweepLeft_22 rfl ?_
  intro y6
  refine j_iload_n 24 2 dX4_sweepLeft_23 rfl rfl rfl ?_
  refine j_iconst (v := 1) 25 dX4_sweepLeft_24 rfl ic_1 ?_
  refine j_isub 26 dX4_sweepLeft_25 rfl ?_
  refine j_istore_n 27 [(3, .int (a2 - 1)), (0, .ref a0), (1, .ref a1), (2, .int a2)] dX4_sweepLeft_26 rfl rfl (by decide) rfl ?_
  refine j_sub [1, 2, 0] rfl ?_
  exact okX4_sweepLeft_L27 G fu a0 a1 (a2 - 1) y6
-- X4_solve: ('BarSteps$Steady', 'solve', '(LBarSteps$Bar;)V')
def X4_solve_L19 : Nat → Nat → Nat → Int32 → Int32 → Hs → Option (Hs)
  | 0, _, _, _, _, _ => none
  | n + 1, l0, l1, l2, l3, x => (if l2 ≤ l3 then (gR x 3 l0 2).bind fun v4 =>
  (aL x v4 l2).bind fun v5 =>
  (pV x 3 l0 1 (.long v5)).bind fun y6 =>
  some y6 else
  (gR x 3 l0 0).bind fun v7 =>
  (gR x 3 l0 4).bind fun v8 =>
  (aL x v8 (l3 + 1)).bind fun v9 =>
  (gR x 3 l0 3).bind fun v10 =>
  (aL x v10 (l3 + 1)).bind fun v11 =>
  (gR x 3 l0 2).bind fun v12 =>
  (aL x v12 l3).bind fun v13 =>
  (X0_leads l1 l3 x).bind fun v14 =>
  (gR x 3 l0 5).bind fun v15 =>
  (aL x v15 (l3 + 1)).bind fun v16 =>
  (wL x v7 l3 ((v9 * v11) + ((v13 * (Int32.toInt64 v14)) * v16))).bind fun y17 =>
  X4_solve_L19 n l0 l1 l2 (l3 + 1) y17)
theorem okX4_solve_L19 (G : JG) : ∀ (n : Nat), ∀ (l0 : Nat) (l1 : Nat) (l2 : Int32) (l3 : Int32) (x : Hs), JM G RX4 cX4_solve 4 (jZ G (none) "solve" (jR 5 0 0) 0 0) (fun r : Hs => ((none, r) : JR)) 19 [(0, .ref l0), (1, .ref l1), (2, .int l2), (3, .int l3)] [] x 0 0 (X4_solve_L19 n l0 l1 l2 l3 x) := by
  intro n
  induction n with
  | zero => intro l0 l1 l2 l3 x; exact j_none
  | succ n ih =>
    intro l0 l1 l2 l3 x
    unfold X4_solve_L19
    refine j_iload_n 20 3 dX4_solve_19 rfl rfl rfl ?_
    refine j_iload_n 21 2 dX4_solve_20 rfl rfl rfl ?_
    refine j_icmp_ge 76 24 dX4_solve_21 (by decide) rfl ?_ ?_
    · refine j_aload_n 77 0 dX4_solve_76 rfl rfl rfl ?_
      refine j_aload_n 78 0 dX4_solve_77 rfl rfl rfl ?_
      refine j_gR 81 kf_X4_19 dX4_solve_78 rfl ?_
      intro v4
      refine j_iload_n 82 2 dX4_solve_81 rfl rfl rfl ?_
      refine j_aL 83 dX4_solve_82 rfl ?_
      intro v5
      refine j_put 86 kf_X4_15 dX4_solve_83 rfl rfl rfl ?_
      intro y6
      exact j_vret dX4_solve_86 rfl
    · refine j_aload_n 25 0 dX4_solve_24 rfl rfl rfl ?_
      refine j_gR 28 kf_X4_9 dX4_solve_25 rfl ?_
      intro v7
      refine j_iload_n 29 3 dX4_solve_28 rfl rfl rfl ?_
      refine j_aload_n 30 0 dX4_solve_29 rfl rfl rfl ?_
      refine j_gR 33 kf_X4_25 dX4_solve_30 rfl ?_
      intro v8
      refine j_iload_n 34 3 dX4_solve_33 rfl rfl rfl ?_
      refine j_iconst (v := 1) 35 dX4_solve_34 rfl ic_1 ?_
      refine j_iadd 36 dX4_solve_35 rfl ?_
      refine j_aL 37 dX4_solve_36 rfl ?_
      intro v9
      refine j_aload_n 38 0 dX4_solve_37 rfl rfl rfl ?_
      refine j_gR 41 kf_X4_22 dX4_solve_38 rfl ?_
      intro v10
      refine j_iload_n 42 3 dX4_solve_41 rfl rfl rfl ?_
      refine j_iconst (v := 1) 43 dX4_solve_42 rfl ic_1 ?_
      refine j_iadd 44 dX4_solve_43 rfl ?_
      refine j_aL 45 dX4_solve_44 rfl ?_
      intro v11
      refine j_lmul 46 dX4_solve_45 rfl ?_
      refine j_aload_n 47 0 dX4_solve_46 rfl rfl rfl ?_
      refine j_gR 50 kf_X4_19 dX4_solve_47 rfl ?_
      intro v12
      refine j_iload_n 51 3 dX4_solve_50 rfl rfl rfl ?_
      refine j_aL 52 dX4_solve_51 rfl ?_
      intro v13
      refine j_aload_n 53 1 dX4_solve_52 rfl rfl rfl ?_
      refine j_iload_n 54 3 dX4_solve_53 rfl rfl rfl ?_
      refine j_callV_i (ci := 0) (As := [.int l3]) (st := [.long v13, .long (v9 * v11), .int l3, .ref v7]) 57 (okX0_leads G x l1 l3) kc_X0_leads kl_X4_44 ki_X0_leads kv_X0_leads kh_X0 (by decide) (fun _ h => rvX0_leads h) ⟨rfl, rfl, Nat.le_of_ble_eq_true rfl, Nat.le_of_ble_eq_true rfl⟩ (Nat.le_of_ble_eq_true rfl) ⟨Nat.le_of_ble_eq_true rfl, Nat.le_of_ble_eq_true rfl⟩ rfl dX4_solve_54 rfl rfl ?_
      intro v14
      refine j_i2l 58 dX4_solve_57 rfl ?_
      refine j_lmul 59 dX4_solve_58 rfl ?_
      refine j_aload_n 60 0 dX4_solve_59 rfl rfl rfl ?_
      refine j_gR 63 kf_X4_28 dX4_solve_60 rfl ?_
      intro v15
      refine j_iload_n 64 3 dX4_solve_63 rfl rfl rfl ?_
      refine j_iconst (v := 1) 65 dX4_solve_64 rfl ic_1 ?_
      refine j_iadd 66 dX4_solve_65 rfl ?_
      refine j_aL 67 dX4_solve_66 rfl ?_
      intro v16
      refine j_lmul 68 dX4_solve_67 rfl ?_
      refine j_ladd 69 dX4_solve_68 rfl ?_
      refine j_wL 70 dX4_solve_69 rfl ?_
      intro y17
      refine j_iinc 73 3 [(3, .int (l3 + 1)), (0, .ref l0), (1, .ref l1), (2, .int l2)] dX4_solve_70 rfl rfl (ii_1 _) (by decide) rfl ?_
      refine j_goto 19 dX4_solve_73 (by decide) ?_
      refine j_sub [1, 2, 3, 0] rfl ?_
      exact ih l0 l1 l2 (l3 + 1) y17
def X4_solve (a0 : Nat) (a1 : Nat) (x : Hs) : Option (Hs) := (vO x 3 a0).bind fun _ =>
  (gI x 0 a1 0).bind fun v1 =>
  (X4_sweepRight a0 a1 v1 x).bind fun q2 =>
  (X4_sweepLeft a0 a1 v1 q2).bind fun q3 =>
  X4_solve_L19 fu a0 a1 v1 0 q3
theorem rvX4_solve {a0 : Nat} {a1 : Nat} {x : Hs} {r : Hs} (h : X4_solve a0 a1 x = some r) : ∃ fs, x.1 a0 = .inr (3, fs) := vO_bind h
theorem okX4_solve (G : JG) (x : Hs) (a0 : Nat) (a1 : Nat) : ∀ r, X4_solve a0 a1 x = some r → JC G yX4_solve cX4_solve 4 (none) (jR 5 0 0) 0 0 [.ref a0, .ref a1] x ((none, r)) := by
  refine jc_of (own := RX4) (E := (fun r : Hs => ((none, r) : JR))) (by decide) rfl rfl (Nat.le_of_ble_eq_true rfl) rfl ?_
  unfold X4_solve
  refine j_chk ?_
  refine j_aload_n 1 1 dX4_solve_0 rfl rfl rfl ?_
  refine j_gI 4 kf_X4_31 dX4_solve_1 rfl ?_
  intro v1
  refine j_istore_n 5 [(2, .int v1), (0, .ref a0), (1, .ref a1)] dX4_solve_4 rfl rfl (by decide) rfl ?_
  refine j_aload_n 6 1 dX4_solve_5 rfl rfl rfl ?_
  refine j_aload_n 7 2 dX4_solve_6 rfl rfl rfl ?_
  refine j_iload_n 8 0 dX4_solve_7 rfl rfl rfl ?_
  refine j_callV_v (ci := 3) (As := [.ref a1, .int v1]) (st := []) 11 (okX4_sweepRight G x a0 a1 v1) kc_X4_sweepRight kl_X4_37 ki_X4_sweepRight kv_X4_sweepRight kh_X4 (by decide) (fun _ h => rvX4_sweepRight h) ⟨rfl, rfl, Nat.le_of_ble_eq_true rfl, Nat.le_of_ble_eq_true rfl⟩ (Nat.le_of_ble_eq_true rfl) ⟨Nat.le_of_ble_eq_true rfl, Nat.le_of_ble_eq_true rfl⟩ rfl dX4_solve_8 rfl rfl ?_
  intro q2
  refine j_aload_n 12 1 dX4_solve_11 rfl rfl rfl ?_
  refine j_aload_n 13 2 dX4_solve_12 rfl rfl rfl ?_
  refine j_iload_n 14 0 dX4_solve_13 rfl rfl rfl ?_
  refine j_callV_v (ci := 3) (As := [.ref a1, .int v1]) (st := []) 17 (okX4_sweepLeft G q2 a0 a1 v1) kc_X4_sweepLeft kl_X4_41 ki_X4_sweepLeft kv_X4_sweepLeft kh_X4 (by decide) (fun _ h => rvX4_sweepLeft h) ⟨rfl, rfl, Nat.le_of_ble_eq_true rfl, Nat.le_of_ble_eq_true rfl⟩ (Nat.le_of_ble_eq_true rfl) ⟨Nat.le_of_ble_eq_true rfl, Nat.le_of_ble_eq_true rfl⟩ rfl dX4_solve_14 rfl rfl ?_
  intro q3
  refine j_iconst (v := 0) 18 dX4_solve_17 rfl ic_0 ?_
  refine j_istore_n 19 [(3, .int 0), (2, .int v1), (0, .ref a0), (1, .ref a1)] dX4_solve_18 rfl rfl (by decide) rfl ?_
  refine j_sub [2, 3, 1, 0] rfl ?_
  exact okX4_solve_L19 G fu a0 a1 v1 0 q3
-- X5_init: ('BarSteps$Tape', '<init>', '()V')
def X5_init (a0 : Nat) (x : Hs) : Option (Hs) := (nC x (.inl (x.2.2 0, 60, .inl (fun _ => 0)))).bind fun q1 =>
  (pV q1.2 4 a0 0 (.ref q1.1)).bind fun y2 =>
  (pV y2 4 a0 1 (.int 0)).bind fun y3 =>
  (nC y3 (.inl (y3.2.2 0, 60, .inl (fun _ => 0)))).bind fun q4 =>
  (pV q4.2 4 a0 2 (.ref q4.1)).bind fun y5 =>
  (pV y5 4 a0 3 (.int 0)).bind fun y6 =>
  (pV y6 4 a0 4 (.int 0)).bind fun y7 =>
  some y7
theorem okX5_init (G : JG) (x : Hs) (a0 : Nat) : ∀ r, X5_init a0 x = some r → JC G yX5_init cX5_init 1 (none) (jR 1 2 120) 2 120 [.ref a0] x ((none, r)) := by
  refine jc_of (own := RX5) (E := (fun r : Hs => ((none, r) : JR))) (by decide) rfl rfl (Nat.le_of_ble_eq_true rfl) rfl ?_
  unfold X5_init
  refine j_aload_n 1 0 dX5_init_0 rfl rfl rfl ?_
  refine j_objInit 4 kl_X5_3 koi_i koi_c (Nat.le_of_ble_eq_true rfl) (Nat.le_of_ble_eq_true rfl) dX5_init_1 rfl ?_
  refine j_aload_n 5 0 dX5_init_4 rfl rfl rfl ?_
  refine j_bipush (v := 60) 7 dX5_init_5 rfl bc_60 ?_
  refine j_newI (N := 60) 9 kar_int (by decide) (by decide) (Nat.le_of_ble_eq_true rfl) (Nat.le_of_ble_eq_true rfl) (Nat.le_of_ble_eq_true rfl) dX5_init_7 rfl ?_
  intro q1
  refine j_putF 12 kf_X5_9 rfl (fun _ _ _ h => by cases h; rfl) dX5_init_9 rfl rfl rfl ?_
  intro y2
  refine j_aload_n 13 0 dX5_init_12 rfl rfl rfl ?_
  refine j_iconst (v := 0) 14 dX5_init_13 rfl ic_0 ?_
  refine j_put 17 kf_X5_15 dX5_init_14 rfl rfl rfl ?_
  intro y3
  refine j_aload_n 18 0 dX5_init_17 rfl rfl rfl ?_
  refine j_bipush (v := 60) 20 dX5_init_18 rfl bc_60 ?_
  refine j_newI (N := 60) 22 kar_int (by decide) (by decide) (Nat.le_of_ble_eq_true rfl) (Nat.le_of_ble_eq_true rfl) (Nat.le_of_ble_eq_true rfl) dX5_init_20 rfl ?_
  intro q4
  refine j_putF 25 kf_X5_19 rfl (fun _ _ _ h => by cases h; rfl) dX5_init_22 rfl rfl rfl ?_
  intro y5
  refine j_aload_n 26 0 dX5_init_25 rfl rfl rfl ?_
  refine j_iconst (v := 0) 27 dX5_init_26 rfl ic_0 ?_
  refine j_put 30 kf_X5_22 dX5_init_27 rfl rfl rfl ?_
  intro y6
  refine j_aload_n 31 0 dX5_init_30 rfl rfl rfl ?_
  refine j_iconst (v := 0) 32 dX5_init_31 rfl ic_0 ?_
  refine j_put 35 kf_X5_25 dX5_init_32 rfl rfl rfl ?_
  intro y7
  exact j_vret dX5_init_35 rfl
-- X5_append: ('BarSteps$Tape', 'append', '(II)V')
def X5_append (a0 : Nat) (a1 : Int32) (a2 : Int32) (x : Hs) : Option (Hs) := (vO x 4 a0).bind fun _ =>
  (gI x 4 a0 1).bind fun v1 =>
  (if a2 ≤ v1 then some x else
  (gI x 4 a0 1).bind fun v2 =>
  (if 60 ≤ v2 then some x else
  (gR x 4 a0 0).bind fun v3 =>
  (gI x 4 a0 1).bind fun v4 =>
  (wI x v3 v4 a1).bind fun y5 =>
  (gI y5 4 a0 1).bind fun v6 =>
  (pV y5 4 a0 1 (.int (v6 + 1))).bind fun y7 =>
  some y7))
theorem rvX5_append {a0 : Nat} {a1 : Int32} {a2 : Int32} {x : Hs} {r : Hs} (h : X5_append a0 a1 a2 x = some r) : ∃ fs, x.1 a0 = .inr (4, fs) := vO_bind h
theorem okX5_append (G : JG) (x : Hs) (a0 : Nat) (a1 : Int32) (a2 : Int32) : ∀ r, X5_append a0 a1 a2 x = some r → JC G yX5_append cX5_append 3 (none) (jR 1 0 0) 0 0 [.ref a0, .int a1, .int a2] x ((none, r)) := by
  refine jc_of (own := RX5) (E := (fun r : Hs => ((none, r) : JR))) (by decide) rfl rfl (Nat.le_of_ble_eq_true rfl) rfl ?_
  unfold X5_append
  refine j_chk ?_
  refine j_aload_n 1 0 dX5_append_0 rfl rfl rfl ?_
  refine j_gI 4 kf_X5_15 dX5_append_1 rfl ?_
  intro v1
  refine j_iload_n 5 2 dX5_append_4 rfl rfl rfl ?_
  refine j_icmp_ge 37 8 dX5_append_5 (by decide) rfl ?_ ?_
  · exact j_vret dX5_append_37 rfl
  · refine j_aload_n 9 0 dX5_append_8 rfl rfl rfl ?_
    refine j_gI 12 kf_X5_15 dX5_append_9 rfl ?_
    intro v2
    refine j_bipush (v := 60) 14 dX5_append_12 rfl bc_60 ?_
    refine j_icmp_ge 37 17 dX5_append_14 (by decide) rfl ?_ ?_
    · exact j_vret dX5_append_37 rfl
    · refine j_aload_n 18 0 dX5_append_17 rfl rfl rfl ?_
      refine j_gR 21 kf_X5_9 dX5_append_18 rfl ?_
      intro v3
      refine j_aload_n 22 0 dX5_append_21 rfl rfl rfl ?_
      refine j_gI 25 kf_X5_15 dX5_append_22 rfl ?_
      intro v4
      refine j_iload_n 26 1 dX5_append_25 rfl rfl rfl ?_
      refine j_wI 27 dX5_append_26 rfl ?_
      intro y5
      refine j_aload_n 28 0 dX5_append_27 rfl rfl rfl ?_
      refine j_dup 29 dX5_append_28 rfl rfl ?_
      refine j_gI 32 kf_X5_15 dX5_append_29 rfl ?_
      intro v6
      refine j_iconst (v := 1) 33 dX5_append_32 rfl ic_1 ?_
      refine j_iadd 34 dX5_append_33 rfl ?_
      refine j_put 37 kf_X5_15 dX5_append_34 rfl rfl rfl ?_
      intro y7
      exact j_vret dX5_append_37 rfl
-- X5_planAt: ('BarSteps$Tape', 'planAt', '(I)I')
def X5_planAt (a0 : Nat) (a1 : Int32) (x : Hs) : Option (Int32) := (vO x 4 a0).bind fun _ =>
  (if a1 < 0 then some 0 else
  (gI x 4 a0 3).bind fun v1 =>
  (if v1 ≤ a1 then some 0 else
  (gR x 4 a0 2).bind fun v2 =>
  (aI x v2 a1).bind fun v3 =>
  some v3))
theorem rvX5_planAt {a0 : Nat} {a1 : Int32} {x : Hs} {r : Int32} (h : X5_planAt a0 a1 x = some r) : ∃ fs, x.1 a0 = .inr (4, fs) := vO_bind h
theorem okX5_planAt (G : JG) (x : Hs) (a0 : Nat) (a1 : Int32) : ∀ r, X5_planAt a0 a1 x = some r → JC G yX5_planAt cX5_planAt 2 (some .int) (jR 1 0 0) 0 0 [.ref a0, .int a1] x ((some (.int r), x)) := by
  refine jc_of (own := RX5) (E := (fun r : Int32 => ((some (.int r), x) : JR))) (by decide) rfl rfl (Nat.le_of_ble_eq_true rfl) rfl ?_
  unfold X5_planAt
  refine j_chk ?_
  refine j_iload_n 1 1 dX5_planAt_0 rfl rfl rfl ?_
  refine j_if_lt 21 4 dX5_planAt_1 (by decide) rfl ?_ ?_
  · refine j_iconst (v := 0) 22 dX5_planAt_21 rfl ic_0 ?_
    exact j_iret dX5_planAt_22 rfl
  · refine j_iload_n 5 1 dX5_planAt_4 rfl rfl rfl ?_
    refine j_aload_n 6 0 dX5_planAt_5 rfl rfl rfl ?_
    refine j_gI 9 kf_X5_22 dX5_planAt_6 rfl ?_
    intro v1
    refine j_icmp_ge 21 12 dX5_planAt_9 (by decide) rfl ?_ ?_
    · refine j_iconst (v := 0) 22 dX5_planAt_21 rfl ic_0 ?_
      exact j_iret dX5_planAt_22 rfl
    · refine j_aload_n 13 0 dX5_planAt_12 rfl rfl rfl ?_
      refine j_gR 16 kf_X5_19 dX5_planAt_13 rfl ?_
      intro v2
      refine j_iload_n 17 1 dX5_planAt_16 rfl rfl rfl ?_
      refine j_aI 18 dX5_planAt_17 rfl ?_
      intro v3
      refine j_goto 22 dX5_planAt_18 (by decide) ?_
      exact j_iret dX5_planAt_22 rfl
-- X5_numbersOf: ('BarSteps$Tape', 'numbersOf', '(I)I')
def X5_numbersOf (a0 : Int32) : Option (Int32) := (if a0 = 0 then some 4 else
  (if a0 = 1 then some 2 else
  (if a0 = 2 then some 2 else
  (if a0 = 3 then some 1 else
  (if a0 = 4 then some 1 else
  (if a0 = 5 then some 1 else
  (if a0 = 6 then some 3 else
  some 0)))))))
theorem okX5_numbersOf (G : JG) (x : Hs) (a0 : Int32) : ∀ r, X5_numbersOf a0 = some r → JC G yX5_numbersOf cX5_numbersOf 1 (some .int) (jR 1 0 0) 0 0 [.int a0] x ((some (.int r), x)) := by
  refine jc_of (own := RX5) (E := (fun r : Int32 => ((some (.int r), x) : JR))) (by decide) rfl rfl (Nat.le_of_ble_eq_true rfl) rfl ?_
  unfold X5_numbersOf
  refine j_iload_n 1 0 dX5_numbersOf_0 rfl rfl rfl ?_
  refine j_ite (fun h1 => ?_) (fun h1 => ?_)
  · refine j_tinE (w := 0) 44 dX5_numbersOf_1 h1 (by decide) (by decide) rfl (by decide) ?_
    refine j_iconst (v := 4) 45 dX5_numbersOf_44 rfl ic_4 ?_
    exact j_iret dX5_numbersOf_45 rfl
  refine j_ite (fun h2 => ?_) (fun h2 => ?_)
  · refine j_tinE (w := 1) 48 dX5_numbersOf_1 h2 (by decide) (by decide) rfl (by decide) ?_
    refine j_iconst (v := 2) 49 dX5_numbersOf_48 rfl ic_2 ?_
    exact j_iret dX5_numbersOf_49 rfl
  refine j_ite (fun h3 => ?_) (fun h3 => ?_)
  · refine j_tinE (w := 2) 48 dX5_numbersOf_1 h3 (by decide) (by decide) rfl (by decide) ?_
    refine j_iconst (v := 2) 49 dX5_numbersOf_48 rfl ic_2 ?_
    exact j_iret dX5_numbersOf_49 rfl
  refine j_ite (fun h4 => ?_) (fun h4 => ?_)
  · refine j_tinE (w := 3) 50 dX5_numbersOf_1 h4 (by decide) (by decide) rfl (by decide) ?_
    refine j_iconst (v := 1) 51 dX5_numbersOf_50 rfl ic_1 ?_
    exact j_iret dX5_numbersOf_51 rfl
  refine j_ite (fun h5 => ?_) (fun h5 => ?_)
  · refine j_tinE (w := 4) 50 dX5_numbersOf_1 h5 (by decide) (by decide) rfl (by decide) ?_
    refine j_iconst (v := 1) 51 dX5_numbersOf_50 rfl ic_1 ?_
    exact j_iret dX5_numbersOf_51 rfl
  refine j_ite (fun h6 => ?_) (fun h6 => ?_)
  · refine j_tinE (w := 5) 50 dX5_numbersOf_1 h6 (by decide) (by decide) rfl (by decide) ?_
    refine j_iconst (v := 1) 51 dX5_numbersOf_50 rfl ic_1 ?_
    exact j_iret dX5_numbersOf_51 rfl
  refine j_ite (fun h7 => ?_) (fun h7 => ?_)
  · refine j_tinE (w := 6) 46 dX5_numbersOf_1 h7 (by decide) (by decide) rfl (by decide) ?_
    refine j_iconst (v := 3) 47 dX5_numbersOf_46 rfl ic_3 ?_
    exact j_iret dX5_numbersOf_47 rfl
  have h1n := sw_ne h1
  have h2n := sw_ne h2
  have h3n := sw_ne h3
  have h4n := sw_ne h4
  have h5n := sw_ne h5
  have h6n := sw_ne h6
  have h7n := sw_ne h7
  have h1m : (Int32.toInt 0) = 0 := by decide
  have h2m : (Int32.toInt 1) = 1 := by decide
  have h3m : (Int32.toInt 2) = 2 := by decide
  have h4m : (Int32.toInt 3) = 3 := by decide
  have h5m : (Int32.toInt 4) = 4 := by decide
  have h6m : (Int32.toInt 5) = 5 := by decide
  have h7m : (Int32.toInt 6) = 6 := by decide
  refine j_tout 52 dX5_numbersOf_1 (by omega) (by decide) ?_
  refine j_iconst (v := 0) 53 dX5_numbersOf_52 rfl ic_0 ?_
  exact j_iret dX5_numbersOf_53 rfl
-- X5_nameOf: ('BarSteps$Tape', 'nameOf', '(I)Ljava/lang/String;')
def X5_nameOf (a0 : Int32) (x : Hs) : Option (Nat) := (if a0 = 0 then some (x.2.2 (100 + 0)) else
  (if a0 = 1 then some (x.2.2 (100 + 1)) else
  (if a0 = 2 then some (x.2.2 (100 + 2)) else
  (if a0 = 3 then some (x.2.2 (100 + 3)) else
  (if a0 = 4 then some (x.2.2 (100 + 4)) else
  (if a0 = 5 then some (x.2.2 (100 + 5)) else
  (if a0 = 6 then some (x.2.2 (100 + 6)) else
  some (x.2.2 (100 + 7)))))))))
theorem okX5_nameOf (G : JG) (x : Hs) (a0 : Int32) : ∀ r, X5_nameOf a0 x = some r → JC G yX5_nameOf cX5_nameOf 1 (some (.object "java/lang/String")) (jR 1 0 0) 0 0 [.int a0] x ((some (.ref r), x)) := by
  refine jc_of (own := RX5) (E := (fun r : Nat => ((some (.ref r), x) : JR))) (by decide) rfl rfl (Nat.le_of_ble_eq_true rfl) rfl ?_
  unfold X5_nameOf
  refine j_iload_n 1 0 dX5_nameOf_0 rfl rfl rfl ?_
  refine j_ite (fun h1 => ?_) (fun h1 => ?_)
  · refine j_tinE (w := 0) 44 dX5_nameOf_1 h1 (by decide) (by decide) rfl (by decide) ?_
    refine j_ldcS 46 0 (by decide) rfl rfl dX5_nameOf_44 rfl ?_
    exact j_aret dX5_nameOf_46 rfl
  refine j_ite (fun h2 => ?_) (fun h2 => ?_)
  · refine j_tinE (w := 1) 47 dX5_nameOf_1 h2 (by decide) (by decide) rfl (by decide) ?_
    refine j_ldcS 49 1 (by decide) rfl rfl dX5_nameOf_47 rfl ?_
    exact j_aret dX5_nameOf_49 rfl
  refine j_ite (fun h3 => ?_) (fun h3 => ?_)
  · refine j_tinE (w := 2) 50 dX5_nameOf_1 h3 (by decide) (by decide) rfl (by decide) ?_
    refine j_ldcS 52 2 (by decide) rfl rfl dX5_nameOf_50 rfl ?_
    exact j_aret dX5_nameOf_52 rfl
  refine j_ite (fun h4 => ?_) (fun h4 => ?_)
  · refine j_tinE (w := 3) 53 dX5_nameOf_1 h4 (by decide) (by decide) rfl (by decide) ?_
    refine j_ldcS 55 3 (by decide) rfl rfl dX5_nameOf_53 rfl ?_
    exact j_aret dX5_nameOf_55 rfl
  refine j_ite (fun h5 => ?_) (fun h5 => ?_)
  · refine j_tinE (w := 4) 56 dX5_nameOf_1 h5 (by decide) (by decide) rfl (by decide) ?_
    refine j_ldcS 58 4 (by decide) rfl rfl dX5_nameOf_56 rfl ?_
    exact j_aret dX5_nameOf_58 rfl
  refine j_ite (fun h6 => ?_) (fun h6 => ?_)
  · refine j_tinE (w := 5) 59 dX5_nameOf_1 h6 (by decide) (by decide) rfl (by decide) ?_
    refine j_ldcS 61 5 (by decide) rfl rfl dX5_nameOf_59 rfl ?_
    exact j_aret dX5_nameOf_61 rfl
  refine j_ite (fun h7 => ?_) (fun h7 => ?_)
  · refine j_tinE (w := 6) 62 dX5_nameOf_1 h7 (by decide) (by decide) rfl (by decide) ?_
    refine j_ldcS 64 6 (by decide) rfl rfl dX5_nameOf_62 rfl ?_
    exact j_aret dX5_nameOf_64 rfl
  have h1n := sw_ne h1
  have h2n := sw_ne h2
  have h3n := sw_ne h3
  have h4n := sw_ne h4
  have h5n := sw_ne h5
  have h6n := sw_ne h6
  have h7n := sw_ne h7
  have h1m : (Int32.toInt 0) = 0 := by decide
  have h2m : (Int32.toInt 1) = 1 := by decide
  have h3m : (Int32.toInt 2) = 2 := by decide
  have h4m : (Int32.toInt 3) = 3 := by decide
  have h5m : (Int32.toInt 4) = 4 := by decide
  have h6m : (Int32.toInt 5) = 5 := by decide
  have h7m : (Int32.toInt 6) = 6 := by decide
  refine j_tout 65 dX5_nameOf_1 (by omega) (by decide) ?_
  refine j_ldcS 67 7 (by decide) rfl rfl dX5_nameOf_65 rfl ?_
  exact j_aret dX5_nameOf_67 rfl
-- X5_skipBlanks: ('BarSteps$Tape', 'skipBlanks', '()V')
def X5_skipBlanks_J39 (r0 : Nat → Hs → Option (Hs)) (l0 : Nat) (x : Hs) : Option (Hs) := (gI x 4 l0 4).bind fun v6 =>
  (pV x 4 l0 4 (.int (v6 + 1))).bind fun y7 =>
  r0 l0 y7
theorem okX5_skipBlanks_J39 (G : JG) (r0 : Nat → Hs → Option (Hs)) (hr0 : ∀ (l0 : Nat) (x : Hs), JM G RX5 cX5_skipBlanks 1 (jZ G (none) "skipBlanks" (jR 1 0 0) 0 0) (fun r : Hs => ((none, r) : JR)) 0 [(0, .ref l0)] [] x 0 0 (r0 l0 x)) : ∀ (l0 : Nat) (x : Hs), JM G RX5 cX5_skipBlanks 1 (jZ G (none) "skipBlanks" (jR 1 0 0) 0 0) (fun r : Hs => ((none, r) : JR)) 39 [(0, .ref l0)] [] x 0 0 (X5_skipBlanks_J39 r0 l0 x) := by
  intro l0 x
  unfold X5_skipBlanks_J39
  refine j_aload_n 40 0 dX5_skipBlanks_39 rfl rfl rfl ?_
  refine j_dup 41 dX5_skipBlanks_40 rfl rfl ?_
  refine j_gI 44 kf_X5_25 dX5_skipBlanks_41 rfl ?_
  intro v6
  refine j_iconst (v := 1) 45 dX5_skipBlanks_44 rfl ic_1 ?_
  refine j_iadd 46 dX5_skipBlanks_45 rfl ?_
  refine j_put 49 kf_X5_25 dX5_skipBlanks_46 rfl rfl rfl ?_
  intro y7
  refine j_goto 0 dX5_skipBlanks_49 (by decide) ?_
  exact hr0 l0 y7
def X5_skipBlanks_L0 : Nat → Nat → Hs → Option (Hs)
  | 0, _, _ => none
  | n + 1, l0, x => (gI x 4 l0 4).bind fun v1 =>
  (gI x 4 l0 1).bind fun v2 =>
  (if v2 ≤ v1 then some x else
  (gR x 4 l0 0).bind fun v3 =>
  (gI x 4 l0 4).bind fun v4 =>
  (aI x v3 v4).bind fun v5 =>
  (if v5 = 32 then X5_skipBlanks_J39 (fun l0 x => X5_skipBlanks_L0 n l0 x) l0 x else
  (gR x 4 l0 0).bind fun v8 =>
  (gI x 4 l0 4).bind fun v9 =>
  (aI x v8 v9).bind fun v10 =>
  (if v10 = 10 then X5_skipBlanks_J39 (fun l0 x => X5_skipBlanks_L0 n l0 x) l0 x else
  some x)))
theorem okX5_skipBlanks_L0 (G : JG) : ∀ (n : Nat), ∀ (l0 : Nat) (x : Hs), JM G RX5 cX5_skipBlanks 1 (jZ G (none) "skipBlanks" (jR 1 0 0) 0 0) (fun r : Hs => ((none, r) : JR)) 0 [(0, .ref l0)] [] x 0 0 (X5_skipBlanks_L0 n l0 x) := by
  intro n
  induction n with
  | zero => intro l0 x; exact j_none
  | succ n ih =>
    intro l0 x
    unfold X5_skipBlanks_L0
    refine j_aload_n 1 0 dX5_skipBlanks_0 rfl rfl rfl ?_
    refine j_gI 4 kf_X5_25 dX5_skipBlanks_1 rfl ?_
    intro v1
    refine j_aload_n 5 0 dX5_skipBlanks_4 rfl rfl rfl ?_
    refine j_gI 8 kf_X5_15 dX5_skipBlanks_5 rfl ?_
    intro v2
    refine j_icmp_ge 52 11 dX5_skipBlanks_8 (by decide) rfl ?_ ?_
    · exact j_vret dX5_skipBlanks_52 rfl
    · refine j_aload_n 12 0 dX5_skipBlanks_11 rfl rfl rfl ?_
      refine j_gR 15 kf_X5_9 dX5_skipBlanks_12 rfl ?_
      intro v3
      refine j_aload_n 16 0 dX5_skipBlanks_15 rfl rfl rfl ?_
      refine j_gI 19 kf_X5_25 dX5_skipBlanks_16 rfl ?_
      intro v4
      refine j_aI 20 dX5_skipBlanks_19 rfl ?_
      intro v5
      refine j_bipush (v := 32) 22 dX5_skipBlanks_20 rfl bc_32 ?_
      refine j_icmp_eq 39 25 dX5_skipBlanks_22 (by decide) rfl ?_ ?_
      · exact okX5_skipBlanks_J39 G (fun l0 x => X5_skipBlanks_L0 n l0 x) ih l0 x
      · refine j_aload_n 26 0 dX5_skipBlanks_25 rfl rfl rfl ?_
        refine j_gR 29 kf_X5_9 dX5_skipBlanks_26 rfl ?_
        intro v8
        refine j_aload_n 30 0 dX5_skipBlanks_29 rfl rfl rfl ?_
        refine j_gI 33 kf_X5_25 dX5_skipBlanks_30 rfl ?_
        intro v9
        refine j_aI 34 dX5_skipBlanks_33 rfl ?_
        intro v10
        refine j_bipush (v := 10) 36 dX5_skipBlanks_34 rfl bc_10 ?_
        refine j_icmp_ne 52 39 dX5_skipBlanks_36 (by decide) rfl ?_ ?_
        · exact j_vret dX5_skipBlanks_52 rfl
        · exact okX5_skipBlanks_J39 G (fun l0 x => X5_skipBlanks_L0 n l0 x) ih l0 x
def X5_skipBlanks (a0 : Nat) (x : Hs) : Option (Hs) := (vO x 4 a0).bind fun _ =>
  X5_skipBlanks_L0 fu a0 x
theorem rvX5_skipBlanks {a0 : Nat} {x : Hs} {r : Hs} (h : X5_skipBlanks a0 x = some r) : ∃ fs, x.1 a0 = .inr (4, fs) := vO_bind h
theorem okX5_skipBlanks (G : JG) (x : Hs) (a0 : Nat) : ∀ r, X5_skipBlanks a0 x = some r → JC G yX5_skipBlanks cX5_skipBlanks 1 (none) (jR 1 0 0) 0 0 [.ref a0] x ((none, r)) := by
  refine jc_of (own := RX5) (E := (fun r : Hs => ((none, r) : JR))) (by decide) rfl rfl (Nat.le_of_ble_eq_true rfl) rfl ?_
  unfold X5_skipBlanks
  refine j_chk ?_
  exact okX5_skipBlanks_L0 G fu a0 x
-- X5_lettersHere: ('BarSteps$Tape', 'lettersHere', '()I')
def X5_lettersHere_J41 (x : Hs) (l0 : Nat) (l1 : Int32) : Option (Int32) := (gI x 4 l0 4).bind fun v3 =>
  some (l1 - v3)
theorem okX5_lettersHere_J41 (G : JG) (x : Hs) : ∀ (l0 : Nat) (l1 : Int32), JM G RX5 cX5_lettersHere 2 (jZ G (some .int) "lettersHere" (jR 1 0 0) 0 0) (fun r : Int32 => ((some (.int r), x) : JR)) 41 [(0, .ref l0), (1, .int l1)] [] x 0 0 (X5_lettersHere_J41 x l0 l1) := by
  intro l0 l1
  unfold X5_lettersHere_J41
  refine j_iload_n 42 1 dX5_lettersHere_41 rfl rfl rfl ?_
  refine j_aload_n 43 0 dX5_lettersHere_42 rfl rfl rfl ?_
  refine j_gI 46 kf_X5_25 dX5_lettersHere_43 rfl ?_
  intro v3
  refine j_isub 47 dX5_lettersHere_46 rfl ?_
  exact j_iret dX5_lettersHere_47 rfl
def X5_lettersHere_L5 (x : Hs) : Nat → Nat → Int32 → Option (Int32)
  | 0, _, _ => none
  | n + 1, l0, l1 => (gI x 4 l0 1).bind fun v2 =>
  (if v2 ≤ l1 then X5_lettersHere_J41 x l0 l1 else
  (gR x 4 l0 0).bind fun v4 =>
  (aI x v4 l1).bind fun v5 =>
  (if v5 < 97 then X5_lettersHere_J41 x l0 l1 else
  (gR x 4 l0 0).bind fun v6 =>
  (aI x v6 l1).bind fun v7 =>
  (if 122 < v7 then X5_lettersHere_J41 x l0 l1 else
  X5_lettersHere_L5 x n l0 (l1 + 1))))
theorem okX5_lettersHere_L5 (G : JG) (x : Hs) : ∀ (n : Nat), ∀ (l0 : Nat) (l1 : Int32), JM G RX5 cX5_lettersHere 2 (jZ G (some .int) "lettersHere" (jR 1 0 0) 0 0) (fun r : Int32 => ((some (.int r), x) : JR)) 5 [(0, .ref l0), (1, .int l1)] [] x 0 0 (X5_lettersHere_L5 x n l0 l1) := by
  intro n
  induction n with
  | zero => intro l0 l1; exact j_none
  | succ n ih =>
    intro l0 l1
    unfold X5_lettersHere_L5
    refine j_iload_n 6 1 dX5_lettersHere_5 rfl rfl rfl ?_
    refine j_aload_n 7 0 dX5_lettersHere_6 rfl rfl rfl ?_
    refine j_gI 10 kf_X5_15 dX5_lettersHere_7 rfl ?_
    intro v2
    refine j_icmp_ge 41 13 dX5_lettersHere_10 (by decide) rfl ?_ ?_
    · exact okX5_lettersHere_J41 G x l0 l1
    · refine j_aload_n 14 0 dX5_lettersHere_13 rfl rfl rfl ?_
      refine j_gR 17 kf_X5_9 dX5_lettersHere_14 rfl ?_
      intro v4
      refine j_iload_n 18 1 dX5_lettersHere_17 rfl rfl rfl ?_
      refine j_aI 19 dX5_lettersHere_18 rfl ?_
      intro v5
      refine j_bipush (v := 97) 21 dX5_lettersHere_19 rfl bc_97 ?_
      refine j_icmp_lt 41 24 dX5_lettersHere_21 (by decide) rfl ?_ ?_
      · exact okX5_lettersHere_J41 G x l0 l1
      · refine j_aload_n 25 0 dX5_lettersHere_24 rfl rfl rfl ?_
        refine j_gR 28 kf_X5_9 dX5_lettersHere_25 rfl ?_
        intro v6
        refine j_iload_n 29 1 dX5_lettersHere_28 rfl rfl rfl ?_
        refine j_aI 30 dX5_lettersHere_29 rfl ?_
        intro v7
        refine j_bipush (v := 122) 32 dX5_lettersHere_30 rfl bc_122 ?_
        refine j_icmp_gt 41 35 dX5_lettersHere_32 (by decide) rfl ?_ ?_
        · exact okX5_lettersHere_J41 G x l0 l1
        · refine j_iinc 38 1 [(1, .int (l1 + 1)), (0, .ref l0)] dX5_lettersHere_35 rfl rfl (ii_1 _) (by decide) rfl ?_
          refine j_goto 5 dX5_lettersHere_38 (by decide) ?_
          refine j_sub [1, 0] rfl ?_
          exact ih l0 (l1 + 1)
def X5_lettersHere (a0 : Nat) (x : Hs) : Option (Int32) := (vO x 4 a0).bind fun _ =>
  (gI x 4 a0 4).bind fun v1 =>
  X5_lettersHere_L5 x fu a0 v1
theorem rvX5_lettersHere {a0 : Nat} {x : Hs} {r : Int32} (h : X5_lettersHere a0 x = some r) : ∃ fs, x.1 a0 = .inr (4, fs) := vO_bind h
theorem okX5_lettersHere (G : JG) (x : Hs) (a0 : Nat) : ∀ r, X5_lettersHere a0 x = some r → JC G yX5_lettersHere cX5_lettersHere 2 (some .int) (jR 1 0 0) 0 0 [.ref a0] x ((some (.int r), x)) := by
  refine jc_of (own := RX5) (E := (fun r : Int32 => ((some (.int r), x) : JR))) (by decide) rfl rfl (Nat.le_of_ble_eq_true rfl) rfl ?_
  unfold X5_lettersHere
  refine j_chk ?_
  refine j_aload_n 1 0 dX5_lettersHere_0 rfl rfl rfl ?_
  refine j_gI 4 kf_X5_25 dX5_lettersHere_1 rfl ?_
  intro v1
  refine j_istore_n 5 [(1, .int v1), (0, .ref a0)] dX5_lettersHere_4 rfl rfl (by decide) rfl ?_
  refine j_sub [1, 0] rfl ?_
  exact okX5_lettersHere_L5 G x fu a0 v1
-- X5_isHere: ('BarSteps$Tape', 'isHere', '(Ljava/lang/String;I)Z')
def X5_isHere_L25 (x : Hs) : Nat → Nat → Nat → Int32 → Int32 → Option (Int32)
  | 0, _, _, _, _ => none
  | n + 1, l0, l1, l2, l3 => (if l2 ≤ l3 then (zb 1).bind fun v5 => some v5 else
  (gR x 4 l0 0).bind fun v6 =>
  (gI x 4 l0 4).bind fun v7 =>
  (aI x v6 (v7 + l3)).bind fun v8 =>
  (sChr x l1 l3).bind fun v9 =>
  (if v8 = v9 then X5_isHere_L25 x n l0 l1 l2 (l3 + 1) else
  (zb 0).bind fun v10 => some v10))
theorem okX5_isHere_L25 (G : JG) (x : Hs) : ∀ (n : Nat), ∀ (l0 : Nat) (l1 : Nat) (l2 : Int32) (l3 : Int32), JM G RX5 cX5_isHere 4 (jZ G (some .boolean) "isHere" (jR 5 0 0) 0 0) (fun r : Int32 => ((some (.int r), x) : JR)) 25 [(0, .ref l0), (1, .ref l1), (2, .int l2), (3, .int l3)] [] x 0 0 (X5_isHere_L25 x n l0 l1 l2 l3) := by
  intro n
  induction n with
  | zero => intro l0 l1 l2 l3; exact j_none
  | succ n ih =>
    intro l0 l1 l2 l3
    unfold X5_isHere_L25
    refine j_iload_n 26 3 dX5_isHere_25 rfl rfl rfl ?_
    refine j_iload_n 27 2 dX5_isHere_26 rfl rfl rfl ?_
    refine j_icmp_ge 57 30 dX5_isHere_27 (by decide) rfl ?_ ?_
    · refine j_iconst (v := 1) 58 dX5_isHere_57 rfl ic_1 ?_
      exact j_zret dX5_isHere_58 (fun _ => rfl)
    · refine j_aload_n 31 0 dX5_isHere_30 rfl rfl rfl ?_
      refine j_gR 34 kf_X5_9 dX5_isHere_31 rfl ?_
      intro v6
      refine j_aload_n 35 0 dX5_isHere_34 rfl rfl rfl ?_
      refine j_gI 38 kf_X5_25 dX5_isHere_35 rfl ?_
      intro v7
      refine j_iload_n 39 3 dX5_isHere_38 rfl rfl rfl ?_
      refine j_iadd 40 dX5_isHere_39 rfl ?_
      refine j_aI 41 dX5_isHere_40 rfl ?_
      intro v8
      refine j_aload_n 42 1 dX5_isHere_41 rfl rfl rfl ?_
      refine j_iload_n 43 3 dX5_isHere_42 rfl rfl rfl ?_
      refine j_callVS_i (As := [.int l3]) (st := [.int v8]) 46 (okS_chr G x l1 l3) kc_J0_charAt_5068e kl_X5_82 ki_J0_charAt_5068e kv_J0_charAt_5068e rfl (fun _ h => by unfold sChr at h; obtain ⟨z, h1, -⟩ := Option.bind_eq_some_iff.mp h; exact ⟨z, sK_some h1⟩) ⟨rfl, rfl, Nat.le_of_ble_eq_true rfl, Nat.le_of_ble_eq_true rfl⟩ (Nat.le_of_ble_eq_true rfl) ⟨Nat.le_of_ble_eq_true rfl, Nat.le_of_ble_eq_true rfl⟩ rfl dX5_isHere_43 rfl rfl ?_
      intro v9
      refine j_icmp_eq 51 49 dX5_isHere_46 (by decide) rfl ?_ ?_
      · refine j_iinc 54 3 [(3, .int (l3 + 1)), (0, .ref l0), (1, .ref l1), (2, .int l2)] dX5_isHere_51 rfl rfl (ii_1 _) (by decide) rfl ?_
        refine j_goto 25 dX5_isHere_54 (by decide) ?_
        refine j_sub [1, 2, 3, 0] rfl ?_
        exact ih l0 l1 l2 (l3 + 1)
      · refine j_iconst (v := 0) 50 dX5_isHere_49 rfl ic_0 ?_
        exact j_zret dX5_isHere_50 (fun _ => rfl)
def X5_isHere (a0 : Nat) (a1 : Nat) (a2 : Int32) (x : Hs) : Option (Int32) := (vO x 4 a0).bind fun _ =>
  (sLen x a1).bind fun v1 =>
  (if v1 = a2 then (gI x 4 a0 4).bind fun v3 =>
  (gI x 4 a0 1).bind fun v4 =>
  (if (v3 + a2) ≤ v4 then X5_isHere_L25 x fu a0 a1 a2 0 else
  (zb 0).bind fun v11 => some v11) else
  (zb 0).bind fun v2 => some v2)
theorem rvX5_isHere {a0 : Nat} {a1 : Nat} {a2 : Int32} {x : Hs} {r : Int32} (h : X5_isHere a0 a1 a2 x = some r) : ∃ fs, x.1 a0 = .inr (4, fs) := vO_bind h
theorem okX5_isHere (G : JG) (x : Hs) (a0 : Nat) (a1 : Nat) (a2 : Int32) : ∀ r, X5_isHere a0 a1 a2 x = some r → JC G yX5_isHere cX5_isHere 4 (some .boolean) (jR 5 0 0) 0 0 [.ref a0, .ref a1, .int a2] x ((some (.int r), x)) := by
  refine jc_of (own := RX5) (E := (fun r : Int32 => ((some (.int r), x) : JR))) (by decide) rfl rfl (Nat.le_of_ble_eq_true rfl) rfl ?_
  unfold X5_isHere
  refine j_chk ?_
  refine j_aload_n 1 1 dX5_isHere_0 rfl rfl rfl ?_
  refine j_callVS_i (As := []) (st := []) 4 (okS_len G x a1) kc_J0_length_8abf5 kl_X5_77 ki_J0_length_8abf5 kv_J0_length_8abf5 rfl (fun _ h => by unfold sLen at h; obtain ⟨z, h1, -⟩ := Option.bind_eq_some_iff.mp h; exact ⟨z, sK_some h1⟩) ⟨rfl, rfl, Nat.le_of_ble_eq_true rfl, Nat.le_of_ble_eq_true rfl⟩ (Nat.le_of_ble_eq_true rfl) ⟨Nat.le_of_ble_eq_true rfl, Nat.le_of_ble_eq_true rfl⟩ rfl dX5_isHere_1 rfl rfl ?_
  intro v1
  refine j_iload_n 5 2 dX5_isHere_4 rfl rfl rfl ?_
  refine j_icmp_ne 21 8 dX5_isHere_5 (by decide) rfl ?_ ?_
  · refine j_iconst (v := 0) 22 dX5_isHere_21 rfl ic_0 ?_
    exact j_zret dX5_isHere_22 (fun _ => rfl)
  · refine j_aload_n 9 0 dX5_isHere_8 rfl rfl rfl ?_
    refine j_gI 12 kf_X5_25 dX5_isHere_9 rfl ?_
    intro v3
    refine j_iload_n 13 2 dX5_isHere_12 rfl rfl rfl ?_
    refine j_iadd 14 dX5_isHere_13 rfl ?_
    refine j_aload_n 15 0 dX5_isHere_14 rfl rfl rfl ?_
    refine j_gI 18 kf_X5_15 dX5_isHere_15 rfl ?_
    intro v4
    refine j_icmp_le 23 21 dX5_isHere_18 (by decide) rfl ?_ ?_
    · refine j_iconst (v := 0) 24 dX5_isHere_23 rfl ic_0 ?_
      refine j_istore_n 25 [(3, .int 0), (0, .ref a0), (1, .ref a1), (2, .int a2)] dX5_isHere_24 rfl rfl (by decide) rfl ?_
      refine j_sub [1, 2, 3, 0] rfl ?_
      exact okX5_isHere_L25 G x fu a0 a1 a2 0
    · refine j_iconst (v := 0) 22 dX5_isHere_21 rfl ic_0 ?_
      exact j_zret dX5_isHere_22 (fun _ => rfl)
-- X5_wordHere: ('BarSteps$Tape', 'wordHere', '(I)I')
def X5_wordHere_L2 (x : Hs) : Nat → Nat → Int32 → Int32 → Option (Int32)
  | 0, _, _, _ => none
  | n + 1, l0, l1, l2 => (if 8 ≤ l2 then some (-1) else
  (X5_nameOf l2 x).bind fun v1 =>
  (X5_isHere l0 v1 l1 x).bind fun v2 =>
  (if v2 = 0 then X5_wordHere_L2 x n l0 l1 (l2 + 1) else
  some l2))
theorem okX5_wordHere_L2 (G : JG) (x : Hs) : ∀ (n : Nat), ∀ (l0 : Nat) (l1 : Int32) (l2 : Int32), JM G RX5 cX5_wordHere 3 (jZ G (some .int) "wordHere" (jR 6 0 0) 0 0) (fun r : Int32 => ((some (.int r), x) : JR)) 2 [(0, .ref l0), (1, .int l1), (2, .int l2)] [] x 0 0 (X5_wordHere_L2 x n l0 l1 l2) := by
  intro n
  induction n with
  | zero => intro l0 l1 l2; exact j_none
  | succ n ih =>
    intro l0 l1 l2
    unfold X5_wordHere_L2
    refine j_iload_n 3 2 dX5_wordHere_2 rfl rfl rfl ?_
    refine j_bipush (v := 8) 5 dX5_wordHere_3 rfl bc_8 ?_
    refine j_icmp_ge 28 8 dX5_wordHere_5 (by decide) rfl ?_ ?_
    · refine j_iconst (v := -1) 29 dX5_wordHere_28 rfl ic_m1 ?_
      exact j_iret dX5_wordHere_29 rfl
    · refine j_aload_n 9 0 dX5_wordHere_8 rfl rfl rfl ?_
      refine j_iload_n 10 2 dX5_wordHere_9 rfl rfl rfl ?_
      refine j_callS_r (As := [.int l2]) (st := [.ref l0]) 13 (okX5_nameOf G x l2) kc_X5_nameOf kl_X5_69 ks_X5_nameOf ⟨rfl, rfl, Nat.le_of_ble_eq_true rfl, Nat.le_of_ble_eq_true rfl⟩ (Nat.le_of_ble_eq_true rfl) ⟨Nat.le_of_ble_eq_true rfl, Nat.le_of_ble_eq_true rfl⟩ rfl dX5_wordHere_10 rfl rfl ?_
      intro v1
      refine j_iload_n 14 1 dX5_wordHere_13 rfl rfl rfl ?_
      refine j_callV_i (ci := 4) (As := [.ref v1, .int l1]) (st := []) 17 (okX5_isHere G x l0 v1 l1) kc_X5_isHere kl_X5_73 ki_X5_isHere kv_X5_isHere kh_X5 (by decide) (fun _ h => rvX5_isHere h) ⟨rfl, rfl, Nat.le_of_ble_eq_true rfl, Nat.le_of_ble_eq_true rfl⟩ (Nat.le_of_ble_eq_true rfl) ⟨Nat.le_of_ble_eq_true rfl, Nat.le_of_ble_eq_true rfl⟩ rfl dX5_wordHere_14 rfl rfl ?_
      intro v2
      refine j_if_eq 22 20 dX5_wordHere_17 (by decide) rfl ?_ ?_
      · refine j_iinc 25 2 [(2, .int (l2 + 1)), (0, .ref l0), (1, .int l1)] dX5_wordHere_22 rfl rfl (ii_1 _) (by decide) rfl ?_
        refine j_goto 2 dX5_wordHere_25 (by decide) ?_
        refine j_sub [1, 2, 0] rfl ?_
        exact ih l0 l1 (l2 + 1)
      · refine j_iload_n 21 2 dX5_wordHere_20 rfl rfl rfl ?_
        exact j_iret dX5_wordHere_21 rfl
def X5_wordHere (a0 : Nat) (a1 : Int32) (x : Hs) : Option (Int32) := (vO x 4 a0).bind fun _ =>
  X5_wordHere_L2 x fu a0 a1 0
theorem rvX5_wordHere {a0 : Nat} {a1 : Int32} {x : Hs} {r : Int32} (h : X5_wordHere a0 a1 x = some r) : ∃ fs, x.1 a0 = .inr (4, fs) := vO_bind h
theorem okX5_wordHere (G : JG) (x : Hs) (a0 : Nat) (a1 : Int32) : ∀ r, X5_wordHere a0 a1 x = some r → JC G yX5_wordHere cX5_wordHere 3 (some .int) (jR 6 0 0) 0 0 [.ref a0, .int a1] x ((some (.int r), x)) := by
  refine jc_of (own := RX5) (E := (fun r : Int32 => ((some (.int r), x) : JR))) (by decide) rfl rfl (Nat.le_of_ble_eq_true rfl) rfl ?_
  unfold X5_wordHere
  refine j_chk ?_
  refine j_iconst (v := 0) 1 dX5_wordHere_0 rfl ic_0 ?_
  refine j_istore_n 2 [(2, .int 0), (0, .ref a0), (1, .int a1)] dX5_wordHere_1 rfl rfl (by decide) rfl ?_
  refine j_sub [1, 2, 0] rfl ?_
  exact okX5_wordHere_L2 G x fu a0 a1 0
-- X5_planNext: ('BarSteps$Tape', 'planNext', '(I)V')
def X5_planNext (a0 : Nat) (a1 : Int32) (x : Hs) : Option (Hs) := (vO x 4 a0).bind fun _ =>
  (gI x 4 a0 3).bind fun v1 =>
  (if 60 ≤ v1 then some x else
  (gR x 4 a0 2).bind fun v2 =>
  (gI x 4 a0 3).bind fun v3 =>
  (wI x v2 v3 a1).bind fun y4 =>
  (gI y4 4 a0 3).bind fun v5 =>
  (pV y4 4 a0 3 (.int (v5 + 1))).bind fun y6 =>
  some y6)
theorem rvX5_planNext {a0 : Nat} {a1 : Int32} {x : Hs} {r : Hs} (h : X5_planNext a0 a1 x = some r) : ∃ fs, x.1 a0 = .inr (4, fs) := vO_bind h
theorem okX5_planNext (G : JG) (x : Hs) (a0 : Nat) (a1 : Int32) : ∀ r, X5_planNext a0 a1 x = some r → JC G yX5_planNext cX5_planNext 2 (none) (jR 1 0 0) 0 0 [.ref a0, .int a1] x ((none, r)) := by
  refine jc_of (own := RX5) (E := (fun r : Hs => ((none, r) : JR))) (by decide) rfl rfl (Nat.le_of_ble_eq_true rfl) rfl ?_
  unfold X5_planNext
  refine j_chk ?_
  refine j_aload_n 1 0 dX5_planNext_0 rfl rfl rfl ?_
  refine j_gI 4 kf_X5_22 dX5_planNext_1 rfl ?_
  intro v1
  refine j_bipush (v := 60) 6 dX5_planNext_4 rfl bc_60 ?_
  refine j_icmp_ge 29 9 dX5_planNext_6 (by decide) rfl ?_ ?_
  · exact j_vret dX5_planNext_29 rfl
  · refine j_aload_n 10 0 dX5_planNext_9 rfl rfl rfl ?_
    refine j_gR 13 kf_X5_19 dX5_planNext_10 rfl ?_
    intro v2
    refine j_aload_n 14 0 dX5_planNext_13 rfl rfl rfl ?_
    refine j_gI 17 kf_X5_22 dX5_planNext_14 rfl ?_
    intro v3
    refine j_iload_n 18 1 dX5_planNext_17 rfl rfl rfl ?_
    refine j_wI 19 dX5_planNext_18 rfl ?_
    intro y4
    refine j_aload_n 20 0 dX5_planNext_19 rfl rfl rfl ?_
    refine j_dup 21 dX5_planNext_20 rfl rfl ?_
    refine j_gI 24 kf_X5_22 dX5_planNext_21 rfl ?_
    intro v5
    refine j_iconst (v := 1) 25 dX5_planNext_24 rfl ic_1 ?_
    refine j_iadd 26 dX5_planNext_25 rfl ?_
    refine j_put 29 kf_X5_22 dX5_planNext_26 rfl rfl rfl ?_
    intro y6
    exact j_vret dX5_planNext_29 rfl
-- X5_readNumber: ('BarSteps$Tape', 'readNumber', '()Z')
def X5_readNumber_J134 (l0 : Nat) (l3 : Int32) (s0 : Int32) (s1 : Nat) (x : Hs) : Option (Int32 × Hs) := (X5_planNext s1 s0 x).bind fun q6 =>
  (pV q6 4 l0 4 (.int l3)).bind fun y7 =>
  (zb 1).bind fun v8 => some (v8, y7)
theorem okX5_readNumber_J134 (G : JG) : ∀ (l0 : Nat) (l3 : Int32) (s0 : Int32) (s1 : Nat) (x : Hs), JM G RX5 cX5_readNumber 5 (jZ G (some .boolean) "readNumber" (jR 2 0 0) 0 0) (fun r : Int32 × Hs => ((some (.int r.1), r.2) : JR)) 134 [(0, .ref l0), (3, .int l3)] [.int s0, .ref s1] x 0 0 (X5_readNumber_J134 l0 l3 s0 s1 x) := by
  intro l0 l3 s0 s1 x
  unfold X5_readNumber_J134
  refine j_callV_v (ci := 4) (As := [.int s0]) (st := []) 137 (okX5_planNext G x s1 s0) kc_X5_planNext kl_X5_59 ki_X5_planNext kv_X5_planNext kh_X5 (by decide) (fun _ h => rvX5_planNext h) ⟨rfl, rfl, Nat.le_of_ble_eq_true rfl, Nat.le_of_ble_eq_true rfl⟩ (Nat.le_of_ble_eq_true rfl) ⟨Nat.le_of_ble_eq_true rfl, Nat.le_of_ble_eq_true rfl⟩ rfl dX5_readNumber_134 rfl rfl ?_
  intro q6
  refine j_aload_n 138 0 dX5_readNumber_137 rfl rfl rfl ?_
  refine j_iload_n 139 1 dX5_readNumber_138 rfl rfl rfl ?_
  refine j_put 142 kf_X5_25 dX5_readNumber_139 rfl rfl rfl ?_
  intro y7
  refine j_iconst (v := 1) 143 dX5_readNumber_142 rfl ic_1 ?_
  exact j_zret dX5_readNumber_143 (fun _ => rfl)
def X5_readNumber_J107 (l0 : Nat) (l1 : Int32) (l2 : Int32) (l3 : Int32) (l4 : Int32) (x : Hs) : Option (Int32 × Hs) := (if l3 = l2 then (zb 0).bind fun v5 => some (v5, x) else
  (if (l3 - l2) ≤ 3 then (if l1 = 0 then X5_readNumber_J134 l0 l3 l4 l0 x else
  X5_readNumber_J134 l0 l3 (-l4) l0 x) else
  (zb 0).bind fun v9 => some (v9, x)))
theorem okX5_readNumber_J107 (G : JG) : ∀ (l0 : Nat) (l1 : Int32) (l2 : Int32) (l3 : Int32) (l4 : Int32) (x : Hs), JM G RX5 cX5_readNumber 5 (jZ G (some .boolean) "readNumber" (jR 2 0 0) 0 0) (fun r : Int32 × Hs => ((some (.int r.1), r.2) : JR)) 107 [(0, .ref l0), (1, .int l1), (2, .int l2), (3, .int l3), (4, .int l4)] [] x 0 0 (X5_readNumber_J107 l0 l1 l2 l3 l4 x) := by
  intro l0 l1 l2 l3 l4 x
  unfold X5_readNumber_J107
  refine j_iload_n 108 3 dX5_readNumber_107 rfl rfl rfl ?_
  refine j_iload_n 109 2 dX5_readNumber_108 rfl rfl rfl ?_
  refine j_icmp_eq 119 112 dX5_readNumber_109 (by decide) rfl ?_ ?_
  · refine j_iconst (v := 0) 120 dX5_readNumber_119 rfl ic_0 ?_
    exact j_zret dX5_readNumber_120 (fun _ => rfl)
  · refine j_iload_n 113 3 dX5_readNumber_112 rfl rfl rfl ?_
    refine j_iload_n 114 2 dX5_readNumber_113 rfl rfl rfl ?_
    refine j_isub 115 dX5_readNumber_114 rfl ?_
    refine j_iconst (v := 3) 116 dX5_readNumber_115 rfl ic_3 ?_
    refine j_icmp_le 121 119 dX5_readNumber_116 (by decide) rfl ?_ ?_
    · refine j_aload_n 122 0 dX5_readNumber_121 rfl rfl rfl ?_
      refine j_iload_n 123 1 dX5_readNumber_122 rfl rfl rfl ?_
      refine j_if_eq 132 126 dX5_readNumber_123 (by decide) rfl ?_ ?_
      · refine j_iload 134 4 dX5_readNumber_132 rfl rfl ?_
        refine j_sub [0, 3] rfl ?_
        exact okX5_readNumber_J134 G l0 l3 l4 l0 x
      · refine j_iload 128 4 dX5_readNumber_126 rfl rfl ?_
        refine j_ineg 129 dX5_readNumber_128 rfl ?_
        refine j_goto 134 dX5_readNumber_129 (by decide) ?_
        refine j_sub [0, 3] rfl ?_
        exact okX5_readNumber_J134 G l0 l3 (-l4) l0 x
    · refine j_iconst (v := 0) 120 dX5_readNumber_119 rfl ic_0 ?_
      exact j_zret dX5_readNumber_120 (fun _ => rfl)
def X5_readNumber_L54 : Nat → Nat → Int32 → Int32 → Int32 → Int32 → Hs → Option (Int32 × Hs)
  | 0, _, _, _, _, _, _ => none
  | n + 1, l0, l1, l2, l3, l4, x => (gI x 4 l0 1).bind fun v4 =>
  (if v4 ≤ l3 then X5_readNumber_J107 l0 l1 l2 l3 l4 x else
  (gR x 4 l0 0).bind fun v10 =>
  (aI x v10 l3).bind fun v11 =>
  (if v11 < 48 then X5_readNumber_J107 l0 l1 l2 l3 l4 x else
  (gR x 4 l0 0).bind fun v12 =>
  (aI x v12 l3).bind fun v13 =>
  (if 57 < v13 then X5_readNumber_J107 l0 l1 l2 l3 l4 x else
  (gR x 4 l0 0).bind fun v14 =>
  (aI x v14 l3).bind fun v15 =>
  X5_readNumber_L54 n l0 l1 l2 (l3 + 1) (((l4 * 10) + v15) - 48) x)))
theorem okX5_readNumber_L54 (G : JG) : ∀ (n : Nat), ∀ (l0 : Nat) (l1 : Int32) (l2 : Int32) (l3 : Int32) (l4 : Int32) (x : Hs), JM G RX5 cX5_readNumber 5 (jZ G (some .boolean) "readNumber" (jR 2 0 0) 0 0) (fun r : Int32 × Hs => ((some (.int r.1), r.2) : JR)) 54 [(0, .ref l0), (1, .int l1), (2, .int l2), (3, .int l3), (4, .int l4)] [] x 0 0 (X5_readNumber_L54 n l0 l1 l2 l3 l4 x) := by
  intro n
  induction n with
  | zero => intro l0 l1 l2 l3 l4 x; exact j_none
  | succ n ih =>
    intro l0 l1 l2 l3 l4 x
    unfold X5_readNumber_L54
    refine j_iload_n 55 3 dX5_readNumber_54 rfl rfl rfl ?_
    refine j_aload_n 56 0 dX5_readNumber_55 rfl rfl rfl ?_
    refine j_gI 59 kf_X5_15 dX5_readNumber_56 rfl ?_
    intro v4
    refine j_icmp_ge 107 62 dX5_readNumber_59 (by decide) rfl ?_ ?_
    · exact okX5_readNumber_J107 G l0 l1 l2 l3 l4 x
    · refine j_aload_n 63 0 dX5_readNumber_62 rfl rfl rfl ?_
      refine j_gR 66 kf_X5_9 dX5_readNumber_63 rfl ?_
      intro v10
      refine j_iload_n 67 3 dX5_readNumber_66 rfl rfl rfl ?_
      refine j_aI 68 dX5_readNumber_67 rfl ?_
      intro v11
      refine j_bipush (v := 48) 70 dX5_readNumber_68 rfl bc_48 ?_
      refine j_icmp_lt 107 73 dX5_readNumber_70 (by decide) rfl ?_ ?_
      · exact okX5_readNumber_J107 G l0 l1 l2 l3 l4 x
      · refine j_aload_n 74 0 dX5_readNumber_73 rfl rfl rfl ?_
        refine j_gR 77 kf_X5_9 dX5_readNumber_74 rfl ?_
        intro v12
        refine j_iload_n 78 3 dX5_readNumber_77 rfl rfl rfl ?_
        refine j_aI 79 dX5_readNumber_78 rfl ?_
        intro v13
        refine j_bipush (v := 57) 81 dX5_readNumber_79 rfl bc_57 ?_
        refine j_icmp_gt 107 84 dX5_readNumber_81 (by decide) rfl ?_ ?_
        · exact okX5_readNumber_J107 G l0 l1 l2 l3 l4 x
        · refine j_iload 86 4 dX5_readNumber_84 rfl rfl ?_
          refine j_bipush (v := 10) 88 dX5_readNumber_86 rfl bc_10 ?_
          refine j_imul 89 dX5_readNumber_88 rfl ?_
          refine j_aload_n 90 0 dX5_readNumber_89 rfl rfl rfl ?_
          refine j_gR 93 kf_X5_9 dX5_readNumber_90 rfl ?_
          intro v14
          refine j_iload_n 94 3 dX5_readNumber_93 rfl rfl rfl ?_
          refine j_aI 95 dX5_readNumber_94 rfl ?_
          intro v15
          refine j_iadd 96 dX5_readNumber_95 rfl ?_
          refine j_bipush (v := 48) 98 dX5_readNumber_96 rfl bc_48 ?_
          refine j_isub 99 dX5_readNumber_98 rfl ?_
          refine j_istore 101 [(4, .int (((l4 * 10) + v15) - 48)), (0, .ref l0), (1, .int l1), (2, .int l2), (3, .int l3)] dX5_readNumber_99 rfl (by decide) rfl ?_
          refine j_iinc 104 4 [(3, .int (l3 + 1)), (4, .int (((l4 * 10) + v15) - 48)), (0, .ref l0), (1, .int l1), (2, .int l2)] dX5_readNumber_101 rfl rfl (ii_1 _) (by decide) rfl ?_
          refine j_goto 54 dX5_readNumber_104 (by decide) ?_
          refine j_sub [2, 3, 4, 0, 1] rfl ?_
          exact ih l0 l1 l2 (l3 + 1) (((l4 * 10) + v15) - 48) x
def X5_readNumber_J48 (l0 : Nat) (l1 : Int32) (s0 : Int32) (x : Hs) : Option (Int32 × Hs) := X5_readNumber_L54 fu l0 l1 s0 s0 0 x
theorem okX5_readNumber_J48 (G : JG) : ∀ (l0 : Nat) (l1 : Int32) (s0 : Int32) (x : Hs), JM G RX5 cX5_readNumber 5 (jZ G (some .boolean) "readNumber" (jR 2 0 0) 0 0) (fun r : Int32 × Hs => ((some (.int r.1), r.2) : JR)) 48 [(0, .ref l0), (1, .int l1)] [.int s0] x 0 0 (X5_readNumber_J48 l0 l1 s0 x) := by
  intro l0 l1 s0 x
  unfold X5_readNumber_J48
  refine j_istore_n 49 [(2, .int s0), (0, .ref l0), (1, .int l1)] dX5_readNumber_48 rfl rfl (by decide) rfl ?_
  refine j_iload_n 50 0 dX5_readNumber_49 rfl rfl rfl ?_
  refine j_istore_n 51 [(3, .int s0), (2, .int s0), (0, .ref l0), (1, .int l1)] dX5_readNumber_50 rfl rfl (by decide) rfl ?_
  refine j_iconst (v := 0) 52 dX5_readNumber_51 rfl ic_0 ?_
  refine j_istore 54 [(4, .int 0), (3, .int s0), (2, .int s0), (0, .ref l0), (1, .int l1)] dX5_readNumber_52 rfl (by decide) rfl ?_
  refine j_sub [3, 4, 2, 1, 0] rfl ?_
  exact okX5_readNumber_L54 G fu l0 l1 s0 s0 0 x
def X5_readNumber_J30 (l0 : Nat) (s0 : Int32) (x : Hs) : Option (Int32 × Hs) := (if s0 = 0 then (gI x 4 l0 4).bind fun v3 =>
  X5_readNumber_J48 l0 s0 v3 x else
  (gI x 4 l0 4).bind fun v16 =>
  X5_readNumber_J48 l0 s0 (v16 + 1) x)
theorem okX5_readNumber_J30 (G : JG) : ∀ (l0 : Nat) (s0 : Int32) (x : Hs), JM G RX5 cX5_readNumber 5 (jZ G (some .boolean) "readNumber" (jR 2 0 0) 0 0) (fun r : Int32 × Hs => ((some (.int r.1), r.2) : JR)) 30 [(0, .ref l0)] [.int s0] x 0 0 (X5_readNumber_J30 l0 s0 x) := by
  intro l0 s0 x
  unfold X5_readNumber_J30
  refine j_istore_n 31 [(1, .int s0), (0, .ref l0)] dX5_readNumber_30 rfl rfl (by decide) rfl ?_
  refine j_iload_n 32 0 dX5_readNumber_31 rfl rfl rfl ?_
  refine j_if_eq 44 35 dX5_readNumber_32 (by decide) rfl ?_ ?_
  · refine j_aload_n 45 1 dX5_readNumber_44 rfl rfl rfl ?_
    refine j_gI 48 kf_X5_25 dX5_readNumber_45 rfl ?_
    intro v3
    refine j_sub [1, 0] rfl ?_
    exact okX5_readNumber_J48 G l0 s0 v3 x
  · refine j_aload_n 36 1 dX5_readNumber_35 rfl rfl rfl ?_
    refine j_gI 39 kf_X5_25 dX5_readNumber_36 rfl ?_
    intro v16
    refine j_iconst (v := 1) 40 dX5_readNumber_39 rfl ic_1 ?_
    refine j_iadd 41 dX5_readNumber_40 rfl ?_
    refine j_goto 48 dX5_readNumber_41 (by decide) ?_
    refine j_sub [1, 0] rfl ?_
    exact okX5_readNumber_J48 G l0 s0 (v16 + 1) x
def X5_readNumber (a0 : Nat) (x : Hs) : Option (Int32 × Hs) := (vO x 4 a0).bind fun _ =>
  (gI x 4 a0 4).bind fun v1 =>
  (gI x 4 a0 1).bind fun v2 =>
  (if v2 ≤ v1 then X5_readNumber_J30 a0 0 x else
  (gR x 4 a0 0).bind fun v17 =>
  (gI x 4 a0 4).bind fun v18 =>
  (aI x v17 v18).bind fun v19 =>
  (if v19 = 45 then X5_readNumber_J30 a0 1 x else
  X5_readNumber_J30 a0 0 x))
theorem rvX5_readNumber {a0 : Nat} {x : Hs} {r : Int32 × Hs} (h : X5_readNumber a0 x = some r) : ∃ fs, x.1 a0 = .inr (4, fs) := vO_bind h
theorem okX5_readNumber (G : JG) (x : Hs) (a0 : Nat) : ∀ r, X5_readNumber a0 x = some r → JC G yX5_readNumber cX5_readNumber 5 (some .boolean) (jR 2 0 0) 0 0 [.ref a0] x ((some (.int r.1), r.2)) := by
  refine jc_of (own := RX5) (E := (fun r : Int32 × Hs => ((some (.int r.1), r.2) : JR))) (by decide) rfl rfl (Nat.le_of_ble_eq_true rfl) rfl ?_
  unfold X5_readNumber
  refine j_chk ?_
  refine j_aload_n 1 0 dX5_readNumber_0 rfl rfl rfl ?_
  refine j_gI 4 kf_X5_25 dX5_readNumber_1 rfl ?_
  intro v1
  refine j_aload_n 5 0 dX5_readNumber_4 rfl rfl rfl ?_
  refine j_gI 8 kf_X5_15 dX5_readNumber_5 rfl ?_
  intro v2
  refine j_icmp_ge 29 11 dX5_readNumber_8 (by decide) rfl ?_ ?_
  · refine j_iconst (v := 0) 30 dX5_readNumber_29 rfl ic_0 ?_
    exact okX5_readNumber_J30 G a0 0 x
  · refine j_aload_n 12 0 dX5_readNumber_11 rfl rfl rfl ?_
    refine j_gR 15 kf_X5_9 dX5_readNumber_12 rfl ?_
    intro v17
    refine j_aload_n 16 0 dX5_readNumber_15 rfl rfl rfl ?_
    refine j_gI 19 kf_X5_25 dX5_readNumber_16 rfl ?_
    intro v18
    refine j_aI 20 dX5_readNumber_19 rfl ?_
    intro v19
    refine j_bipush (v := 45) 22 dX5_readNumber_20 rfl bc_45 ?_
    refine j_icmp_ne 29 25 dX5_readNumber_22 (by decide) rfl ?_ ?_
    · refine j_iconst (v := 0) 30 dX5_readNumber_29 rfl ic_0 ?_
      exact okX5_readNumber_J30 G a0 0 x
    · refine j_iconst (v := 1) 26 dX5_readNumber_25 rfl ic_1 ?_
      refine j_goto 30 dX5_readNumber_26 (by decide) ?_
      exact okX5_readNumber_J30 G a0 1 x
-- X5_readClause: ('BarSteps$Tape', 'readClause', '()Z')
def X5_readClause_L39 : Nat → Nat → Int32 → Int32 → Hs → Option (Int32 × Hs)
  | 0, _, _, _, _ => none
  | n + 1, l0, l2, l3, x => (X5_numbersOf l2).bind fun v7 =>
  (if v7 ≤ l3 then (zb 1).bind fun v8 => some (v8, x) else
  (X5_skipBlanks l0 x).bind fun q9 =>
  (X5_readNumber l0 q9).bind fun q10 =>
  (if q10.1 = 0 then (zb 0).bind fun v11 => some (v11, q10.2) else
  X5_readClause_L39 n l0 l2 (l3 + 1) q10.2))
theorem okX5_readClause_L39 (G : JG) : ∀ (n : Nat), ∀ (l0 : Nat) (l2 : Int32) (l3 : Int32) (x : Hs), JM G RX5 cX5_readClause 4 (jZ G (some .boolean) "readClause" (jR 7 0 0) 0 0) (fun r : Int32 × Hs => ((some (.int r.1), r.2) : JR)) 39 [(0, .ref l0), (2, .int l2), (3, .int l3)] [] x 0 0 (X5_readClause_L39 n l0 l2 l3 x) := by
  intro n
  induction n with
  | zero => intro l0 l2 l3 x; exact j_none
  | succ n ih =>
    intro l0 l2 l3 x
    unfold X5_readClause_L39
    refine j_iload_n 40 2 dX5_readClause_39 rfl rfl rfl ?_
    refine j_iload_n 41 1 dX5_readClause_40 rfl rfl rfl ?_
    refine j_callS_i (As := [.int l2]) (st := [.int l3]) 44 (okX5_numbersOf G x l2) kc_X5_numbersOf kl_X5_63 ks_X5_numbersOf ⟨rfl, rfl, Nat.le_of_ble_eq_true rfl, Nat.le_of_ble_eq_true rfl⟩ (Nat.le_of_ble_eq_true rfl) ⟨Nat.le_of_ble_eq_true rfl, Nat.le_of_ble_eq_true rfl⟩ rfl dX5_readClause_41 rfl rfl ?_
    intro v7
    refine j_icmp_ge 66 47 dX5_readClause_44 (by decide) rfl ?_ ?_
    · refine j_iconst (v := 1) 67 dX5_readClause_66 rfl ic_1 ?_
      exact j_zret dX5_readClause_67 (fun _ => rfl)
    · refine j_aload_n 48 0 dX5_readClause_47 rfl rfl rfl ?_
      refine j_callV_v (ci := 4) (As := []) (st := []) 51 (okX5_skipBlanks G x l0) kc_X5_skipBlanks kl_X5_48 ki_X5_skipBlanks kv_X5_skipBlanks kh_X5 (by decide) (fun _ h => rvX5_skipBlanks h) ⟨rfl, rfl, Nat.le_of_ble_eq_true rfl, Nat.le_of_ble_eq_true rfl⟩ (Nat.le_of_ble_eq_true rfl) ⟨Nat.le_of_ble_eq_true rfl, Nat.le_of_ble_eq_true rfl⟩ rfl dX5_readClause_48 rfl rfl ?_
      intro q9
      refine j_aload_n 52 0 dX5_readClause_51 rfl rfl rfl ?_
      refine j_callV_iw (ci := 4) (As := []) (st := []) 55 (okX5_readNumber G q9 l0) kc_X5_readNumber kl_X5_66 ki_X5_readNumber kv_X5_readNumber kh_X5 (by decide) (fun _ h => rvX5_readNumber h) ⟨rfl, rfl, Nat.le_of_ble_eq_true rfl, Nat.le_of_ble_eq_true rfl⟩ (Nat.le_of_ble_eq_true rfl) ⟨Nat.le_of_ble_eq_true rfl, Nat.le_of_ble_eq_true rfl⟩ rfl dX5_readClause_52 rfl rfl ?_
      intro q10
      refine j_if_ne 60 58 dX5_readClause_55 (by decide) rfl ?_ ?_
      · refine j_iinc 63 2 [(3, .int (l3 + 1)), (0, .ref l0), (2, .int l2)] dX5_readClause_60 rfl rfl (ii_1 _) (by decide) rfl ?_
        refine j_goto 39 dX5_readClause_63 (by decide) ?_
        refine j_sub [1, 2, 0] rfl ?_
        exact ih l0 l2 (l3 + 1) q10.2
      · refine j_iconst (v := 0) 59 dX5_readClause_58 rfl ic_0 ?_
        exact j_zret dX5_readClause_59 (fun _ => rfl)
def X5_readClause (a0 : Nat) (x : Hs) : Option (Int32 × Hs) := (vO x 4 a0).bind fun _ =>
  (X5_skipBlanks a0 x).bind fun q1 =>
  (X5_lettersHere a0 q1).bind fun v2 =>
  (X5_wordHere a0 v2 q1).bind fun v3 =>
  (if v3 = (-1) then (zb 0).bind fun v12 => some (v12, q1) else
  (gI q1 4 a0 4).bind fun v4 =>
  (pV q1 4 a0 4 (.int (v4 + v2))).bind fun y5 =>
  (X5_planNext a0 v3 y5).bind fun q6 =>
  X5_readClause_L39 fu a0 v3 0 q6)
theorem rvX5_readClause {a0 : Nat} {x : Hs} {r : Int32 × Hs} (h : X5_readClause a0 x = some r) : ∃ fs, x.1 a0 = .inr (4, fs) := vO_bind h
theorem okX5_readClause (G : JG) (x : Hs) (a0 : Nat) : ∀ r, X5_readClause a0 x = some r → JC G yX5_readClause cX5_readClause 4 (some .boolean) (jR 7 0 0) 0 0 [.ref a0] x ((some (.int r.1), r.2)) := by
  refine jc_of (own := RX5) (E := (fun r : Int32 × Hs => ((some (.int r.1), r.2) : JR))) (by decide) rfl rfl (Nat.le_of_ble_eq_true rfl) rfl ?_
  unfold X5_readClause
  refine j_chk ?_
  refine j_aload_n 1 0 dX5_readClause_0 rfl rfl rfl ?_
  refine j_callV_v (ci := 4) (As := []) (st := []) 4 (okX5_skipBlanks G x a0) kc_X5_skipBlanks kl_X5_48 ki_X5_skipBlanks kv_X5_skipBlanks kh_X5 (by decide) (fun _ h => rvX5_skipBlanks h) ⟨rfl, rfl, Nat.le_of_ble_eq_true rfl, Nat.le_of_ble_eq_true rfl⟩ (Nat.le_of_ble_eq_true rfl) ⟨Nat.le_of_ble_eq_true rfl, Nat.le_of_ble_eq_true rfl⟩ rfl dX5_readClause_1 rfl rfl ?_
  intro q1
  refine j_aload_n 5 0 dX5_readClause_4 rfl rfl rfl ?_
  refine j_callV_i (ci := 4) (As := []) (st := []) 8 (okX5_lettersHere G q1 a0) kc_X5_lettersHere kl_X5_51 ki_X5_lettersHere kv_X5_lettersHere kh_X5 (by decide) (fun _ h => rvX5_lettersHere h) ⟨rfl, rfl, Nat.le_of_ble_eq_true rfl, Nat.le_of_ble_eq_true rfl⟩ (Nat.le_of_ble_eq_true rfl) ⟨Nat.le_of_ble_eq_true rfl, Nat.le_of_ble_eq_true rfl⟩ rfl dX5_readClause_5 rfl rfl ?_
  intro v2
  refine j_istore_n 9 [(1, .int v2), (0, .ref a0)] dX5_readClause_8 rfl rfl (by decide) rfl ?_
  refine j_aload_n 10 1 dX5_readClause_9 rfl rfl rfl ?_
  refine j_iload_n 11 0 dX5_readClause_10 rfl rfl rfl ?_
  refine j_callV_i (ci := 4) (As := [.int v2]) (st := []) 14 (okX5_wordHere G q1 a0 v2) kc_X5_wordHere kl_X5_55 ki_X5_wordHere kv_X5_wordHere kh_X5 (by decide) (fun _ h => rvX5_wordHere h) ⟨rfl, rfl, Nat.le_of_ble_eq_true rfl, Nat.le_of_ble_eq_true rfl⟩ (Nat.le_of_ble_eq_true rfl) ⟨Nat.le_of_ble_eq_true rfl, Nat.le_of_ble_eq_true rfl⟩ rfl dX5_readClause_11 rfl rfl ?_
  intro v3
  refine j_istore_n 15 [(2, .int v3), (1, .int v2), (0, .ref a0)] dX5_readClause_14 rfl rfl (by decide) rfl ?_
  refine j_iload_n 16 0 dX5_readClause_15 rfl rfl rfl ?_
  refine j_iconst (v := -1) 17 dX5_readClause_16 rfl ic_m1 ?_
  refine j_icmp_ne 22 20 dX5_readClause_17 (by decide) rfl ?_ ?_
  · refine j_aload_n 23 2 dX5_readClause_22 rfl rfl rfl ?_
    refine j_dup 24 dX5_readClause_23 rfl rfl ?_
    refine j_gI 27 kf_X5_25 dX5_readClause_24 rfl ?_
    intro v4
    refine j_iload_n 28 1 dX5_readClause_27 rfl rfl rfl ?_
    refine j_iadd 29 dX5_readClause_28 rfl ?_
    refine j_put 32 kf_X5_25 dX5_readClause_29 rfl rfl rfl ?_
    intro y5
    refine j_aload_n 33 2 dX5_readClause_32 rfl rfl rfl ?_
    refine j_iload_n 34 0 dX5_readClause_33 rfl rfl rfl ?_
    refine j_callV_v (ci := 4) (As := [.int v3]) (st := []) 37 (okX5_planNext G y5 a0 v3) kc_X5_planNext kl_X5_59 ki_X5_planNext kv_X5_planNext kh_X5 (by decide) (fun _ h => rvX5_planNext h) ⟨rfl, rfl, Nat.le_of_ble_eq_true rfl, Nat.le_of_ble_eq_true rfl⟩ (Nat.le_of_ble_eq_true rfl) ⟨Nat.le_of_ble_eq_true rfl, Nat.le_of_ble_eq_true rfl⟩ rfl dX5_readClause_34 rfl rfl ?_
    intro q6
    refine j_iconst (v := 0) 38 dX5_readClause_37 rfl ic_0 ?_
    refine j_istore_n 39 [(3, .int 0), (2, .int v3), (1, .int v2), (0, .ref a0)] dX5_readClause_38 rfl rfl (by decide) rfl ?_
    refine j_sub [3, 1, 0] rfl ?_
    exact okX5_readClause_L39 G fu a0 v3 0 q6
  · refine j_iconst (v := 0) 21 dX5_readClause_20 rfl ic_0 ?_
    exact j_zret dX5_readClause_21 (fun _ => rfl)
-- X5_read: ('BarSteps$Tape', 'read', '()I')
def X5_read_L12 : Nat → Nat → Int32 → Hs → Option (Int32 × Hs)
  | 0, _, _, _ => none
  | n + 1, l0, l1, x => (if 60 ≤ l1 then (gI x 4 l0 4).bind fun v3 =>
  some (v3, x) else
  (X5_readClause l0 x).bind fun q4 =>
  (if q4.1 = 0 then (gI q4.2 4 l0 4).bind fun v14 =>
  some (v14, q4.2) else
  (X5_skipBlanks l0 q4.2).bind fun q5 =>
  (gI q5 4 l0 4).bind fun v6 =>
  (gI q5 4 l0 1).bind fun v7 =>
  (if v6 < v7 then (gR q5 4 l0 0).bind fun v8 =>
  (gI q5 4 l0 4).bind fun v9 =>
  (aI q5 v8 v9).bind fun v10 =>
  (if v10 = 59 then (gI q5 4 l0 4).bind fun v11 =>
  (pV q5 4 l0 4 (.int (v11 + 1))).bind fun y12 =>
  X5_read_L12 n l0 (l1 + 1) y12 else
  (gI q5 4 l0 4).bind fun v13 =>
  some (v13, q5)) else
  some ((-1), q5))))
theorem okX5_read_L12 (G : JG) : ∀ (n : Nat), ∀ (l0 : Nat) (l1 : Int32) (x : Hs), JM G RX5 cX5_read 2 (jZ G (some .int) "read" (jR 8 0 0) 0 0) (fun r : Int32 × Hs => ((some (.int r.1), r.2) : JR)) 12 [(0, .ref l0), (1, .int l1)] [] x 0 0 (X5_read_L12 n l0 l1 x) := by
  intro n
  induction n with
  | zero => intro l0 l1 x; exact j_none
  | succ n ih =>
    intro l0 l1 x
    unfold X5_read_L12
    refine j_iload_n 13 1 dX5_read_12 rfl rfl rfl ?_
    refine j_bipush (v := 60) 15 dX5_read_13 rfl bc_60 ?_
    refine j_icmp_ge 82 18 dX5_read_15 (by decide) rfl ?_ ?_
    · refine j_aload_n 83 0 dX5_read_82 rfl rfl rfl ?_
      refine j_gI 86 kf_X5_25 dX5_read_83 rfl ?_
      intro v3
      exact j_iret dX5_read_86 rfl
    · refine j_aload_n 19 0 dX5_read_18 rfl rfl rfl ?_
      refine j_callV_iw (ci := 4) (As := []) (st := []) 22 (okX5_readClause G x l0) kc_X5_readClause kl_X5_44 ki_X5_readClause kv_X5_readClause kh_X5 (by decide) (fun _ h => rvX5_readClause h) ⟨rfl, rfl, Nat.le_of_ble_eq_true rfl, Nat.le_of_ble_eq_true rfl⟩ (Nat.le_of_ble_eq_true rfl) ⟨Nat.le_of_ble_eq_true rfl, Nat.le_of_ble_eq_true rfl⟩ rfl dX5_read_19 rfl rfl ?_
      intro q4
      refine j_if_ne 30 25 dX5_read_22 (by decide) rfl ?_ ?_
      · refine j_aload_n 31 0 dX5_read_30 rfl rfl rfl ?_
        refine j_callV_v (ci := 4) (As := []) (st := []) 34 (okX5_skipBlanks G q4.2 l0) kc_X5_skipBlanks kl_X5_48 ki_X5_skipBlanks kv_X5_skipBlanks kh_X5 (by decide) (fun _ h => rvX5_skipBlanks h) ⟨rfl, rfl, Nat.le_of_ble_eq_true rfl, Nat.le_of_ble_eq_true rfl⟩ (Nat.le_of_ble_eq_true rfl) ⟨Nat.le_of_ble_eq_true rfl, Nat.le_of_ble_eq_true rfl⟩ rfl dX5_read_31 rfl rfl ?_
        intro q5
        refine j_aload_n 35 0 dX5_read_34 rfl rfl rfl ?_
        refine j_gI 38 kf_X5_25 dX5_read_35 rfl ?_
        intro v6
        refine j_aload_n 39 0 dX5_read_38 rfl rfl rfl ?_
        refine j_gI 42 kf_X5_15 dX5_read_39 rfl ?_
        intro v7
        refine j_icmp_lt 47 45 dX5_read_42 (by decide) rfl ?_ ?_
        · refine j_aload_n 48 0 dX5_read_47 rfl rfl rfl ?_
          refine j_gR 51 kf_X5_9 dX5_read_48 rfl ?_
          intro v8
          refine j_aload_n 52 0 dX5_read_51 rfl rfl rfl ?_
          refine j_gI 55 kf_X5_25 dX5_read_52 rfl ?_
          intro v9
          refine j_aI 56 dX5_read_55 rfl ?_
          intro v10
          refine j_bipush (v := 59) 58 dX5_read_56 rfl bc_59 ?_
          refine j_icmp_eq 66 61 dX5_read_58 (by decide) rfl ?_ ?_
          · refine j_aload_n 67 0 dX5_read_66 rfl rfl rfl ?_
            refine j_dup 68 dX5_read_67 rfl rfl ?_
            refine j_gI 71 kf_X5_25 dX5_read_68 rfl ?_
            intro v11
            refine j_iconst (v := 1) 72 dX5_read_71 rfl ic_1 ?_
            refine j_iadd 73 dX5_read_72 rfl ?_
            refine j_put 76 kf_X5_25 dX5_read_73 rfl rfl rfl ?_
            intro y12
            refine j_iinc 79 1 [(1, .int (l1 + 1)), (0, .ref l0)] dX5_read_76 rfl rfl (ii_1 _) (by decide) rfl ?_
            refine j_goto 12 dX5_read_79 (by decide) ?_
            refine j_sub [1, 0] rfl ?_
            exact ih l0 (l1 + 1) y12
          · refine j_aload_n 62 0 dX5_read_61 rfl rfl rfl ?_
            refine j_gI 65 kf_X5_25 dX5_read_62 rfl ?_
            intro v13
            exact j_iret dX5_read_65 rfl
        · refine j_iconst (v := -1) 46 dX5_read_45 rfl ic_m1 ?_
          exact j_iret dX5_read_46 rfl
      · refine j_aload_n 26 0 dX5_read_25 rfl rfl rfl ?_
        refine j_gI 29 kf_X5_25 dX5_read_26 rfl ?_
        intro v14
        exact j_iret dX5_read_29 rfl
def X5_read (a0 : Nat) (x : Hs) : Option (Int32 × Hs) := (vO x 4 a0).bind fun _ =>
  (pV x 4 a0 4 (.int 0)).bind fun y1 =>
  (pV y1 4 a0 3 (.int 0)).bind fun y2 =>
  X5_read_L12 fu a0 0 y2
theorem rvX5_read {a0 : Nat} {x : Hs} {r : Int32 × Hs} (h : X5_read a0 x = some r) : ∃ fs, x.1 a0 = .inr (4, fs) := vO_bind h
theorem okX5_read (G : JG) (x : Hs) (a0 : Nat) : ∀ r, X5_read a0 x = some r → JC G yX5_read cX5_read 2 (some .int) (jR 8 0 0) 0 0 [.ref a0] x ((some (.int r.1), r.2)) := by
  refine jc_of (own := RX5) (E := (fun r : Int32 × Hs => ((some (.int r.1), r.2) : JR))) (by decide) rfl rfl (Nat.le_of_ble_eq_true rfl) rfl ?_
  unfold X5_read
  refine j_chk ?_
  refine j_aload_n 1 0 dX5_read_0 rfl rfl rfl ?_
  refine j_iconst (v := 0) 2 dX5_read_1 rfl ic_0 ?_
  refine j_put 5 kf_X5_25 dX5_read_2 rfl rfl rfl ?_
  intro y1
  refine j_aload_n 6 0 dX5_read_5 rfl rfl rfl ?_
  refine j_iconst (v := 0) 7 dX5_read_6 rfl ic_0 ?_
  refine j_put 10 kf_X5_22 dX5_read_7 rfl rfl rfl ?_
  intro y2
  refine j_iconst (v := 0) 11 dX5_read_10 rfl ic_0 ?_
  refine j_istore_n 12 [(1, .int 0), (0, .ref a0)] dX5_read_11 rfl rfl (by decide) rfl ?_
  refine j_sub [1, 0] rfl ?_
  exact okX5_read_L12 G fu a0 0 y2
-- X6_init: ('BarSteps', '<init>', '()V')
def X6_init (a0 : Nat) (x : Hs) : Option (Hs) := (nC x (.inr (0, df_X0))).bind fun q1 =>
  (X0_init q1.1 q1.2).bind fun y2 =>
  (pV y2 5 a0 0 (.ref q1.1)).bind fun y3 =>
  (nC y3 (.inr (0, df_X0))).bind fun q4 =>
  (X0_init q4.1 q4.2).bind fun y5 =>
  (pV y5 5 a0 1 (.ref q4.1)).bind fun y6 =>
  (nC y6 (.inr (0, df_X0))).bind fun q7 =>
  (X0_init q7.1 q7.2).bind fun y8 =>
  (pV y8 5 a0 2 (.ref q7.1)).bind fun y9 =>
  (nC y9 (.inr (3, df_X4))).bind fun q10 =>
  (X4_init q10.1 q10.2).bind fun y11 =>
  (pV y11 5 a0 3 (.ref q10.1)).bind fun y12 =>
  (nC y12 (.inr (2, df_X3))).bind fun q13 =>
  (X3_init q13.1 q13.2).bind fun y14 =>
  (pV y14 5 a0 4 (.ref q13.1)).bind fun y15 =>
  (nC y15 (.inr (4, df_X5))).bind fun q16 =>
  (X5_init q16.1 q16.2).bind fun y17 =>
  (pV y17 5 a0 5 (.ref q16.1)).bind fun y18 =>
  (nC y18 (.inl (y18.2.2 0, 10, .inl (fun _ => 0)))).bind fun q19 =>
  (pV q19.2 5 a0 6 (.ref q19.1)).bind fun y20 =>
  (pV y20 5 a0 7 (.int 0)).bind fun y21 =>
  some y21
theorem okX6_init (G : JG) (x : Hs) (a0 : Nat) : ∀ r, X6_init a0 x = some r → JC G yX6_init cX6_init 1 (none) (jR 3 63 748) 63 748 [.ref a0] x ((none, r)) := by
  refine jc_of (own := RX6) (E := (fun r : Hs => ((none, r) : JR))) (by decide) rfl rfl (Nat.le_of_ble_eq_true rfl) rfl ?_
  unfold X6_init
  refine j_aload_n 1 0 dX6_init_0 rfl rfl rfl ?_
  refine j_objInit 4 kl_X6_3 koi_i koi_c (Nat.le_of_ble_eq_true rfl) (Nat.le_of_ble_eq_true rfl) dX6_init_1 rfl ?_
  refine j_aload_n 5 0 dX6_init_4 rfl rfl rfl ?_
  refine j_new 8 kc_X0 kcl_X6_9 kin_X0 kini_X0 kd_X0 (Nat.le_of_ble_eq_true rfl) (Nat.le_of_ble_eq_true rfl) dX6_init_5 rfl ?_
  intro q1
  refine j_dup 9 dX6_init_8 rfl rfl ?_
  refine j_callIN_v (As := []) (st := [.ref q1.1, .ref a0]) 12 (okX0_init G q1.2 q1.1) rfl kc_X0_init kl_X6_11 ki_X0_init ⟨rfl, rfl, Nat.le_of_ble_eq_true rfl, Nat.le_of_ble_eq_true rfl⟩ (Nat.le_of_ble_eq_true rfl) ⟨Nat.le_of_ble_eq_true rfl, Nat.le_of_ble_eq_true rfl⟩ rfl dX6_init_9 rfl rfl ?_
  intro y2
  refine j_putF 15 kf_X6_12 rfl (fun _ _ _ h => by cases h; rfl) dX6_init_12 rfl rfl rfl ?_
  intro y3
  refine j_aload_n 16 0 dX6_init_15 rfl rfl rfl ?_
  refine j_new 19 kc_X0 kcl_X6_9 kin_X0 kini_X0 kd_X0 (Nat.le_of_ble_eq_true rfl) (Nat.le_of_ble_eq_true rfl) dX6_init_16 rfl ?_
  intro q4
  refine j_dup 20 dX6_init_19 rfl rfl ?_
  refine j_callIN_v (As := []) (st := [.ref q4.1, .ref a0]) 23 (okX0_init G q4.2 q4.1) rfl kc_X0_init kl_X6_11 ki_X0_init ⟨rfl, rfl, Nat.le_of_ble_eq_true rfl, Nat.le_of_ble_eq_true rfl⟩ (Nat.le_of_ble_eq_true rfl) ⟨Nat.le_of_ble_eq_true rfl, Nat.le_of_ble_eq_true rfl⟩ rfl dX6_init_20 rfl rfl ?_
  intro y5
  refine j_putF 26 kf_X6_18 rfl (fun _ _ _ h => by cases h; rfl) dX6_init_23 rfl rfl rfl ?_
  intro y6
  refine j_aload_n 27 0 dX6_init_26 rfl rfl rfl ?_
  refine j_new 30 kc_X0 kcl_X6_9 kin_X0 kini_X0 kd_X0 (Nat.le_of_ble_eq_true rfl) (Nat.le_of_ble_eq_true rfl) dX6_init_27 rfl ?_
  intro q7
  refine j_dup 31 dX6_init_30 rfl rfl ?_
  refine j_callIN_v (As := []) (st := [.ref q7.1, .ref a0]) 34 (okX0_init G q7.2 q7.1) rfl kc_X0_init kl_X6_11 ki_X0_init ⟨rfl, rfl, Nat.le_of_ble_eq_true rfl, Nat.le_of_ble_eq_true rfl⟩ (Nat.le_of_ble_eq_true rfl) ⟨Nat.le_of_ble_eq_true rfl, Nat.le_of_ble_eq_true rfl⟩ rfl dX6_init_31 rfl rfl ?_
  intro y8
  refine j_putF 37 kf_X6_21 rfl (fun _ _ _ h => by cases h; rfl) dX6_init_34 rfl rfl rfl ?_
  intro y9
  refine j_aload_n 38 0 dX6_init_37 rfl rfl rfl ?_
  refine j_new 41 kc_X4 kcl_X6_24 kin_X4 kini_X4 kd_X4 (Nat.le_of_ble_eq_true rfl) (Nat.le_of_ble_eq_true rfl) dX6_init_38 rfl ?_
  intro q10
  refine j_dup 42 dX6_init_41 rfl rfl ?_
  refine j_callIN_v (As := []) (st := [.ref q10.1, .ref a0]) 45 (okX4_init G q10.2 q10.1) rfl kc_X4_init kl_X6_26 ki_X4_init ⟨rfl, rfl, Nat.le_of_ble_eq_true rfl, Nat.le_of_ble_eq_true rfl⟩ (Nat.le_of_ble_eq_true rfl) ⟨Nat.le_of_ble_eq_true rfl, Nat.le_of_ble_eq_true rfl⟩ rfl dX6_init_42 rfl rfl ?_
  intro y11
  refine j_putF 48 kf_X6_27 rfl (fun _ _ _ h => by cases h; rfl) dX6_init_45 rfl rfl rfl ?_
  intro y12
  refine j_aload_n 49 0 dX6_init_48 rfl rfl rfl ?_
  refine j_new 52 kc_X3 kcl_X6_31 kin_X3 kini_X3 kd_X3 (Nat.le_of_ble_eq_true rfl) (Nat.le_of_ble_eq_true rfl) dX6_init_49 rfl ?_
  intro q13
  refine j_dup 53 dX6_init_52 rfl rfl ?_
  refine j_callIN_v (As := []) (st := [.ref q13.1, .ref a0]) 56 (okX3_init G q13.2 q13.1) rfl kc_X3_init kl_X6_33 ki_X3_init ⟨rfl, rfl, Nat.le_of_ble_eq_true rfl, Nat.le_of_ble_eq_true rfl⟩ (Nat.le_of_ble_eq_true rfl) ⟨Nat.le_of_ble_eq_true rfl, Nat.le_of_ble_eq_true rfl⟩ rfl dX6_init_53 rfl rfl ?_
  intro y14
  refine j_putF 59 kf_X6_34 rfl (fun _ _ _ h => by cases h; rfl) dX6_init_56 rfl rfl rfl ?_
  intro y15
  refine j_aload_n 60 0 dX6_init_59 rfl rfl rfl ?_
  refine j_new 63 kc_X5 kcl_X6_38 kin_X5 kini_X5 kd_X5 (Nat.le_of_ble_eq_true rfl) (Nat.le_of_ble_eq_true rfl) dX6_init_60 rfl ?_
  intro q16
  refine j_dup 64 dX6_init_63 rfl rfl ?_
  refine j_callIN_v (As := []) (st := [.ref q16.1, .ref a0]) 67 (okX5_init G q16.2 q16.1) rfl kc_X5_init kl_X6_40 ki_X5_init ⟨rfl, rfl, Nat.le_of_ble_eq_true rfl, Nat.le_of_ble_eq_true rfl⟩ (Nat.le_of_ble_eq_true rfl) ⟨Nat.le_of_ble_eq_true rfl, Nat.le_of_ble_eq_true rfl⟩ rfl dX6_init_64 rfl rfl ?_
  intro y17
  refine j_putF 70 kf_X6_41 rfl (fun _ _ _ h => by cases h; rfl) dX6_init_67 rfl rfl rfl ?_
  intro y18
  refine j_aload_n 71 0 dX6_init_70 rfl rfl rfl ?_
  refine j_bipush (v := 10) 73 dX6_init_71 rfl bc_10 ?_
  refine j_newI (N := 10) 75 kar_int (by decide) (by decide) (Nat.le_of_ble_eq_true rfl) (Nat.le_of_ble_eq_true rfl) (Nat.le_of_ble_eq_true rfl) dX6_init_73 rfl ?_
  intro q19
  refine j_putF 78 kf_X6_45 rfl (fun _ _ _ h => by cases h; rfl) dX6_init_75 rfl rfl rfl ?_
  intro y20
  refine j_aload_n 79 0 dX6_init_78 rfl rfl rfl ?_
  refine j_iconst (v := 0) 80 dX6_init_79 rfl ic_0 ?_
  refine j_put 83 kf_X6_49 dX6_init_80 rfl (by decide) (by decide) ?_
  intro y21
  exact j_vret dX6_init_83 rfl
-- X6_between: ('BarSteps', 'between', '(III)Z')
def X6_between (a0 : Int32) (a1 : Int32) (a2 : Int32) : Option (Int32) := (if a0 < a1 then (zb 0).bind fun v1 => some v1 else
  (if a2 < a0 then (zb 0).bind fun v2 => some v2 else
  (zb 1).bind fun v3 => some v3))
theorem okX6_between (G : JG) (x : Hs) (a0 : Int32) (a1 : Int32) (a2 : Int32) : ∀ r, X6_between a0 a1 a2 = some r → JC G yX6_between cX6_between 3 (some .boolean) (jR 1 0 0) 0 0 [.int a0, .int a1, .int a2] x ((some (.int r), x)) := by
  refine jc_of (own := RX6) (E := (fun r : Int32 => ((some (.int r), x) : JR))) (by decide) rfl rfl (Nat.le_of_ble_eq_true rfl) rfl ?_
  unfold X6_between
  refine j_iload_n 1 0 dX6_between_0 rfl rfl rfl ?_
  refine j_iload_n 2 1 dX6_between_1 rfl rfl rfl ?_
  refine j_icmp_lt 14 5 dX6_between_2 (by decide) rfl ?_ ?_
  · refine j_iconst (v := 0) 15 dX6_between_14 rfl ic_0 ?_
    exact j_zret dX6_between_15 (fun _ => rfl)
  · refine j_iload_n 6 0 dX6_between_5 rfl rfl rfl ?_
    refine j_iload_n 7 2 dX6_between_6 rfl rfl rfl ?_
    refine j_icmp_gt 14 10 dX6_between_7 (by decide) rfl ?_ ?_
    · refine j_iconst (v := 0) 15 dX6_between_14 rfl ic_0 ?_
      exact j_zret dX6_between_15 (fun _ => rfl)
    · refine j_iconst (v := 1) 11 dX6_between_10 rfl ic_1 ?_
      refine j_goto 15 dX6_between_11 (by decide) ?_
      exact j_zret dX6_between_15 (fun _ => rfl)
-- X6_isKind: ('BarSteps', 'isKind', '(I)Z')
def X6_isKind (a0 : Int32) : Option (Int32) := (X6_between a0 0 5).bind fun v1 =>
  (zb v1).bind fun v2 => some v2
theorem okX6_isKind (G : JG) (x : Hs) (a0 : Int32) : ∀ r, X6_isKind a0 = some r → JC G yX6_isKind cX6_isKind 1 (some .boolean) (jR 2 0 0) 0 0 [.int a0] x ((some (.int r), x)) := by
  refine jc_of (own := RX6) (E := (fun r : Int32 => ((some (.int r), x) : JR))) (by decide) rfl rfl (Nat.le_of_ble_eq_true rfl) rfl ?_
  unfold X6_isKind
  refine j_iload_n 1 0 dX6_isKind_0 rfl rfl rfl ?_
  refine j_iconst (v := 0) 2 dX6_isKind_1 rfl ic_0 ?_
  refine j_iconst (v := 5) 3 dX6_isKind_2 rfl ic_5 ?_
  refine j_callS_i (As := [.int a0, .int 0, .int 5]) (st := []) 6 (okX6_between G x a0 0 5) kc_X6_between kl_X6_137 ks_X6_between ⟨rfl, rfl, Nat.le_of_ble_eq_true rfl, Nat.le_of_ble_eq_true rfl⟩ (Nat.le_of_ble_eq_true rfl) ⟨Nat.le_of_ble_eq_true rfl, Nat.le_of_ble_eq_true rfl⟩ rfl dX6_isKind_3 rfl rfl ?_
  intro v1
  exact j_zret dX6_isKind_6 (fun _ => rfl)
-- X6_isK: ('BarSteps', 'isK', '(I)Z')
def X6_isK (a0 : Int32) : Option (Int32) := (X6_between a0 1 9).bind fun v1 =>
  (zb v1).bind fun v2 => some v2
theorem okX6_isK (G : JG) (x : Hs) (a0 : Int32) : ∀ r, X6_isK a0 = some r → JC G yX6_isK cX6_isK 1 (some .boolean) (jR 2 0 0) 0 0 [.int a0] x ((some (.int r), x)) := by
  refine jc_of (own := RX6) (E := (fun r : Int32 => ((some (.int r), x) : JR))) (by decide) rfl rfl (Nat.le_of_ble_eq_true rfl) rfl ?_
  unfold X6_isK
  refine j_iload_n 1 0 dX6_isK_0 rfl rfl rfl ?_
  refine j_iconst (v := 1) 2 dX6_isK_1 rfl ic_1 ?_
  refine j_bipush (v := 9) 4 dX6_isK_2 rfl bc_9 ?_
  refine j_callS_i (As := [.int a0, .int 1, .int 9]) (st := []) 7 (okX6_between G x a0 1 9) kc_X6_between kl_X6_137 ks_X6_between ⟨rfl, rfl, Nat.le_of_ble_eq_true rfl, Nat.le_of_ble_eq_true rfl⟩ (Nat.le_of_ble_eq_true rfl) ⟨Nat.le_of_ble_eq_true rfl, Nat.le_of_ble_eq_true rfl⟩ rfl dX6_isK_4 rfl rfl ?_
  intro v1
  exact j_zret dX6_isK_7 (fun _ => rfl)
-- X6_isC: ('BarSteps', 'isC', '(I)Z')
def X6_isC (a0 : Int32) : Option (Int32) := (X6_between a0 1 4).bind fun v1 =>
  (zb v1).bind fun v2 => some v2
theorem okX6_isC (G : JG) (x : Hs) (a0 : Int32) : ∀ r, X6_isC a0 = some r → JC G yX6_isC cX6_isC 1 (some .boolean) (jR 2 0 0) 0 0 [.int a0] x ((some (.int r), x)) := by
  refine jc_of (own := RX6) (E := (fun r : Int32 => ((some (.int r), x) : JR))) (by decide) rfl rfl (Nat.le_of_ble_eq_true rfl) rfl ?_
  unfold X6_isC
  refine j_iload_n 1 0 dX6_isC_0 rfl rfl rfl ?_
  refine j_iconst (v := 1) 2 dX6_isC_1 rfl ic_1 ?_
  refine j_iconst (v := 4) 3 dX6_isC_2 rfl ic_4 ?_
  refine j_callS_i (As := [.int a0, .int 1, .int 4]) (st := []) 6 (okX6_between G x a0 1 4) kc_X6_between kl_X6_137 ks_X6_between ⟨rfl, rfl, Nat.le_of_ble_eq_true rfl, Nat.le_of_ble_eq_true rfl⟩ (Nat.le_of_ble_eq_true rfl) ⟨Nat.le_of_ble_eq_true rfl, Nat.le_of_ble_eq_true rfl⟩ rfl dX6_isC_3 rfl rfl ?_
  intro v1
  exact j_zret dX6_isC_6 (fun _ => rfl)
-- X6_isHeat: ('BarSteps', 'isHeat', '(I)Z')
def X6_isHeat (a0 : Int32) : Option (Int32) := (X6_between a0 0 999).bind fun v1 =>
  (zb v1).bind fun v2 => some v2
theorem okX6_isHeat (G : JG) (x : Hs) (a0 : Int32) : ∀ r, X6_isHeat a0 = some r → JC G yX6_isHeat cX6_isHeat 1 (some .boolean) (jR 2 0 0) 0 0 [.int a0] x ((some (.int r), x)) := by
  refine jc_of (own := RX6) (E := (fun r : Int32 => ((some (.int r), x) : JR))) (by decide) rfl rfl (Nat.le_of_ble_eq_true rfl) rfl ?_
  unfold X6_isHeat
  refine j_iload_n 1 0 dX6_isHeat_0 rfl rfl rfl ?_
  refine j_iconst (v := 0) 2 dX6_isHeat_1 rfl ic_0 ?_
  refine j_sipush (v := 999) 5 dX6_isHeat_2 rfl sc_999 ?_
  refine j_callS_i (As := [.int a0, .int 0, .int 999]) (st := []) 8 (okX6_between G x a0 0 999) kc_X6_between kl_X6_137 ks_X6_between ⟨rfl, rfl, Nat.le_of_ble_eq_true rfl, Nat.le_of_ble_eq_true rfl⟩ (Nat.le_of_ble_eq_true rfl) ⟨Nat.le_of_ble_eq_true rfl, Nat.le_of_ble_eq_true rfl⟩ rfl dX6_isHeat_5 rfl rfl ?_
  intro v1
  exact j_zret dX6_isHeat_8 (fun _ => rfl)
-- X6_cell: ('BarSteps', 'cell', '(IIII)I')
def X6_cell_J34 (l0 : Nat) (l1 : Int32) (l2 : Int32) (l3 : Int32) (l4 : Int32) (s0 : Int32) (x : Hs) : Option (Int32 × Hs) := (if s0 = 0 then some ((-2), x) else
  (gR x 5 l0 0).bind fun v2 =>
  (X0_append v2 l1 l2 l3 l4 x).bind fun q3 =>
  some (q3.1, q3.2))
theorem okX6_cell_J34 (G : JG) : ∀ (l0 : Nat) (l1 : Int32) (l2 : Int32) (l3 : Int32) (l4 : Int32) (s0 : Int32) (x : Hs), JM G RX6 cX6_cell 6 (jZ G (some .int) "cell" (jR 5 0 0) 0 0) (fun r : Int32 × Hs => ((some (.int r.1), r.2) : JR)) 34 [(0, .ref l0), (1, .int l1), (2, .int l2), (3, .int l3), (4, .int l4)] [.int s0] x 0 0 (X6_cell_J34 l0 l1 l2 l3 l4 s0 x) := by
  intro l0 l1 l2 l3 l4 s0 x
  unfold X6_cell_J34
  refine j_istore 36 [(5, .int s0), (0, .ref l0), (1, .int l1), (2, .int l2), (3, .int l3), (4, .int l4)] dX6_cell_34 rfl (by decide) rfl ?_
  refine j_iload 38 0 dX6_cell_36 rfl rfl ?_
  refine j_if_eq 56 41 dX6_cell_38 (by decide) rfl ?_ ?_
  · refine j_bipush (v := -2) 58 dX6_cell_56 rfl bc_m2 ?_
    exact j_iret dX6_cell_58 rfl
  · refine j_aload_n 42 1 dX6_cell_41 rfl rfl rfl ?_
    refine j_gR 45 kf_X6_12 dX6_cell_42 rfl ?_
    intro v2
    refine j_iload_n 46 2 dX6_cell_45 rfl rfl rfl ?_
    refine j_iload_n 47 3 dX6_cell_46 rfl rfl rfl ?_
    refine j_iload_n 48 4 dX6_cell_47 rfl rfl rfl ?_
    refine j_iload 50 5 dX6_cell_48 rfl rfl ?_
    refine j_callV_iw (ci := 0) (As := [.int l1, .int l2, .int l3, .int l4]) (st := []) 53 (okX0_append G x v2 l1 l2 l3 l4) kc_X0_append kl_X6_66 ki_X0_append kv_X0_append kh_X0 (by decide) (fun _ h => rvX0_append h) ⟨rfl, rfl, Nat.le_of_ble_eq_true rfl, Nat.le_of_ble_eq_true rfl⟩ (Nat.le_of_ble_eq_true rfl) ⟨Nat.le_of_ble_eq_true rfl, Nat.le_of_ble_eq_true rfl⟩ rfl dX6_cell_50 rfl rfl ?_
    intro q3
    refine j_goto 58 dX6_cell_53 (by decide) ?_
    exact j_iret dX6_cell_58 rfl
def X6_cell (a0 : Nat) (a1 : Int32) (a2 : Int32) (a3 : Int32) (a4 : Int32) (x : Hs) : Option (Int32 × Hs) := (vO x 5 a0).bind fun _ =>
  (X6_isKind a1).bind fun v1 =>
  (if v1 = 0 then X6_cell_J34 a0 a1 a2 a3 a4 0 x else
  (X6_isK a2).bind fun v4 =>
  (if v4 = 0 then X6_cell_J34 a0 a1 a2 a3 a4 0 x else
  (X6_isC a3).bind fun v5 =>
  (if v5 = 0 then X6_cell_J34 a0 a1 a2 a3 a4 0 x else
  (X6_isHeat a4).bind fun v6 =>
  (if v6 = 0 then X6_cell_J34 a0 a1 a2 a3 a4 0 x else
  X6_cell_J34 a0 a1 a2 a3 a4 1 x))))
theorem rvX6_cell {a0 : Nat} {a1 : Int32} {a2 : Int32} {a3 : Int32} {a4 : Int32} {x : Hs} {r : Int32 × Hs} (h : X6_cell a0 a1 a2 a3 a4 x = some r) : ∃ fs, x.1 a0 = .inr (5, fs) := vO_bind h
theorem okX6_cell (G : JG) (x : Hs) (a0 : Nat) (a1 : Int32) (a2 : Int32) (a3 : Int32) (a4 : Int32) : ∀ r, X6_cell a0 a1 a2 a3 a4 x = some r → JC G yX6_cell cX6_cell 6 (some .int) (jR 5 0 0) 0 0 [.ref a0, .int a1, .int a2, .int a3, .int a4] x ((some (.int r.1), r.2)) := by
  refine jc_of (own := RX6) (E := (fun r : Int32 × Hs => ((some (.int r.1), r.2) : JR))) (by decide) rfl rfl (Nat.le_of_ble_eq_true rfl) rfl ?_
  unfold X6_cell
  refine j_chk ?_
  refine j_iload_n 1 1 dX6_cell_0 rfl rfl rfl ?_
  refine j_callS_i (As := [.int a1]) (st := []) 4 (okX6_isKind G x a1) kc_X6_isKind kl_X6_53 ks_X6_isKind ⟨rfl, rfl, Nat.le_of_ble_eq_true rfl, Nat.le_of_ble_eq_true rfl⟩ (Nat.le_of_ble_eq_true rfl) ⟨Nat.le_of_ble_eq_true rfl, Nat.le_of_ble_eq_true rfl⟩ rfl dX6_cell_1 rfl rfl ?_
  intro v1
  refine j_if_eq 33 7 dX6_cell_4 (by decide) rfl ?_ ?_
  · refine j_iconst (v := 0) 34 dX6_cell_33 rfl ic_0 ?_
    exact okX6_cell_J34 G a0 a1 a2 a3 a4 0 x
  · refine j_iload_n 8 2 dX6_cell_7 rfl rfl rfl ?_
    refine j_callS_i (As := [.int a2]) (st := []) 11 (okX6_isK G x a2) kc_X6_isK kl_X6_57 ks_X6_isK ⟨rfl, rfl, Nat.le_of_ble_eq_true rfl, Nat.le_of_ble_eq_true rfl⟩ (Nat.le_of_ble_eq_true rfl) ⟨Nat.le_of_ble_eq_true rfl, Nat.le_of_ble_eq_true rfl⟩ rfl dX6_cell_8 rfl rfl ?_
    intro v4
    refine j_if_eq 33 14 dX6_cell_11 (by decide) rfl ?_ ?_
    · refine j_iconst (v := 0) 34 dX6_cell_33 rfl ic_0 ?_
      exact okX6_cell_J34 G a0 a1 a2 a3 a4 0 x
    · refine j_iload_n 15 3 dX6_cell_14 rfl rfl rfl ?_
      refine j_callS_i (As := [.int a3]) (st := []) 18 (okX6_isC G x a3) kc_X6_isC kl_X6_60 ks_X6_isC ⟨rfl, rfl, Nat.le_of_ble_eq_true rfl, Nat.le_of_ble_eq_true rfl⟩ (Nat.le_of_ble_eq_true rfl) ⟨Nat.le_of_ble_eq_true rfl, Nat.le_of_ble_eq_true rfl⟩ rfl dX6_cell_15 rfl rfl ?_
      intro v5
      refine j_if_eq 33 21 dX6_cell_18 (by decide) rfl ?_ ?_
      · refine j_iconst (v := 0) 34 dX6_cell_33 rfl ic_0 ?_
        exact okX6_cell_J34 G a0 a1 a2 a3 a4 0 x
      · refine j_iload 23 4 dX6_cell_21 rfl rfl ?_
        refine j_callS_i (As := [.int a4]) (st := []) 26 (okX6_isHeat G x a4) kc_X6_isHeat kl_X6_63 ks_X6_isHeat ⟨rfl, rfl, Nat.le_of_ble_eq_true rfl, Nat.le_of_ble_eq_true rfl⟩ (Nat.le_of_ble_eq_true rfl) ⟨Nat.le_of_ble_eq_true rfl, Nat.le_of_ble_eq_true rfl⟩ rfl dX6_cell_23 rfl rfl ?_
        intro v6
        refine j_if_eq 33 29 dX6_cell_26 (by decide) rfl ?_ ?_
        · refine j_iconst (v := 0) 34 dX6_cell_33 rfl ic_0 ?_
          exact okX6_cell_J34 G a0 a1 a2 a3 a4 0 x
        · refine j_iconst (v := 1) 30 dX6_cell_29 rfl ic_1 ?_
          refine j_goto 34 dX6_cell_30 (by decide) ?_
          exact okX6_cell_J34 G a0 a1 a2 a3 a4 1 x
-- X6_drop: ('BarSteps', 'drop', '()I')
def X6_drop (a0 : Nat) (x : Hs) : Option (Int32 × Hs) := (vO x 5 a0).bind fun _ =>
  (gR x 5 a0 0).bind fun v1 =>
  (gI x 0 v1 0).bind fun v2 =>
  (if v2 = 0 then some ((-3), x) else
  (gR x 5 a0 0).bind fun v3 =>
  (X0_removeLatest v3 x).bind fun q4 =>
  (gR q4 5 a0 0).bind fun v5 =>
  (gI q4 0 v5 0).bind fun v6 =>
  some (v6, q4))
theorem rvX6_drop {a0 : Nat} {x : Hs} {r : Int32 × Hs} (h : X6_drop a0 x = some r) : ∃ fs, x.1 a0 = .inr (5, fs) := vO_bind h
theorem okX6_drop (G : JG) (x : Hs) (a0 : Nat) : ∀ r, X6_drop a0 x = some r → JC G yX6_drop cX6_drop 1 (some .int) (jR 5 0 0) 0 0 [.ref a0] x ((some (.int r.1), r.2)) := by
  refine jc_of (own := RX6) (E := (fun r : Int32 × Hs => ((some (.int r.1), r.2) : JR))) (by decide) rfl rfl (Nat.le_of_ble_eq_true rfl) rfl ?_
  unfold X6_drop
  refine j_chk ?_
  refine j_aload_n 1 0 dX6_drop_0 rfl rfl rfl ?_
  refine j_gR 4 kf_X6_12 dX6_drop_1 rfl ?_
  intro v1
  refine j_gI 7 kf_X6_70 dX6_drop_4 rfl ?_
  intro v2
  refine j_if_ne 13 10 dX6_drop_7 (by decide) rfl ?_ ?_
  · refine j_aload_n 14 0 dX6_drop_13 rfl rfl rfl ?_
    refine j_gR 17 kf_X6_12 dX6_drop_14 rfl ?_
    intro v3
    refine j_callV_v (ci := 0) (As := []) (st := []) 20 (okX0_removeLatest G x v3) kc_X0_removeLatest kl_X6_74 ki_X0_removeLatest kv_X0_removeLatest kh_X0 (by decide) (fun _ h => rvX0_removeLatest h) ⟨rfl, rfl, Nat.le_of_ble_eq_true rfl, Nat.le_of_ble_eq_true rfl⟩ (Nat.le_of_ble_eq_true rfl) ⟨Nat.le_of_ble_eq_true rfl, Nat.le_of_ble_eq_true rfl⟩ rfl dX6_drop_17 rfl rfl ?_
    intro q4
    refine j_aload_n 21 0 dX6_drop_20 rfl rfl rfl ?_
    refine j_gR 24 kf_X6_12 dX6_drop_21 rfl ?_
    intro v5
    refine j_gI 27 kf_X6_70 dX6_drop_24 rfl ?_
    intro v6
    exact j_iret dX6_drop_27 rfl
  · refine j_bipush (v := -3) 12 dX6_drop_10 rfl bc_m3 ?_
    exact j_iret dX6_drop_12 rfl
-- X6_isSource: ('BarSteps', 'isSource', '(I)Z')
def X6_isSource (a0 : Int32) : Option (Int32) := (X6_between a0 (-9) 9).bind fun v1 =>
  (zb v1).bind fun v2 => some v2
theorem okX6_isSource (G : JG) (x : Hs) (a0 : Int32) : ∀ r, X6_isSource a0 = some r → JC G yX6_isSource cX6_isSource 1 (some .boolean) (jR 2 0 0) 0 0 [.int a0] x ((some (.int r), x)) := by
  refine jc_of (own := RX6) (E := (fun r : Int32 => ((some (.int r), x) : JR))) (by decide) rfl rfl (Nat.le_of_ble_eq_true rfl) rfl ?_
  unfold X6_isSource
  refine j_iload_n 1 0 dX6_isSource_0 rfl rfl rfl ?_
  refine j_bipush (v := -9) 3 dX6_isSource_1 rfl bc_m9 ?_
  refine j_bipush (v := 9) 5 dX6_isSource_3 rfl bc_9 ?_
  refine j_callS_i (As := [.int a0, .int (-9), .int 9]) (st := []) 8 (okX6_between G x a0 (-9) 9) kc_X6_between kl_X6_137 ks_X6_between ⟨rfl, rfl, Nat.le_of_ble_eq_true rfl, Nat.le_of_ble_eq_true rfl⟩ (Nat.le_of_ble_eq_true rfl) ⟨Nat.le_of_ble_eq_true rfl, Nat.le_of_ble_eq_true rfl⟩ rfl dX6_isSource_5 rfl rfl ?_
  intro v1
  exact j_zret dX6_isSource_8 (fun _ => rfl)
-- X6_set: ('BarSteps', 'set', '(III)I')
def X6_set (a0 : Nat) (a1 : Int32) (a2 : Int32) (a3 : Int32) (x : Hs) : Option (Int32 × Hs) := (vO x 5 a0).bind fun _ =>
  (gR x 5 a0 0).bind fun v1 =>
  (X0_has v1 a1 x).bind fun v2 =>
  (if v2 = 0 then some ((-1000), x) else
  (if a2 = 0 then (X6_isK a3).bind fun v3 =>
  (if v3 = 0 then some ((-1000), x) else
  (gR x 5 a0 0).bind fun v4 =>
  (X0_changeK v4 a1 a3 x).bind fun q5 =>
  some (q5.1, q5.2)) else
  (if a2 = 1 then (X6_isC a3).bind fun v7 =>
  (if v7 = 0 then some ((-1000), x) else
  (gR x 5 a0 0).bind fun v8 =>
  (X0_changeC v8 a1 a3 x).bind fun q9 =>
  some (q9.1, q9.2)) else
  (if a2 = 2 then (X6_isKind a3).bind fun v11 =>
  (if v11 = 0 then some ((-1000), x) else
  (gR x 5 a0 0).bind fun v12 =>
  (X0_changeKind v12 a1 a3 x).bind fun q13 =>
  some (q13.1, q13.2)) else
  (if a2 = 3 then (X6_isSource a3).bind fun v15 =>
  (if v15 = 0 then some ((-1000), x) else
  (gR x 5 a0 0).bind fun v16 =>
  (X0_changeSource v16 a1 a3 x).bind fun q17 =>
  some (q17.1, q17.2)) else
  some ((-1000), x))))))
theorem rvX6_set {a0 : Nat} {a1 : Int32} {a2 : Int32} {a3 : Int32} {x : Hs} {r : Int32 × Hs} (h : X6_set a0 a1 a2 a3 x = some r) : ∃ fs, x.1 a0 = .inr (5, fs) := vO_bind h
theorem okX6_set (G : JG) (x : Hs) (a0 : Nat) (a1 : Int32) (a2 : Int32) (a3 : Int32) : ∀ r, X6_set a0 a1 a2 a3 x = some r → JC G yX6_set cX6_set 4 (some .int) (jR 5 0 0) 0 0 [.ref a0, .int a1, .int a2, .int a3] x ((some (.int r.1), r.2)) := by
  refine jc_of (own := RX6) (E := (fun r : Int32 × Hs => ((some (.int r.1), r.2) : JR))) (by decide) rfl rfl (Nat.le_of_ble_eq_true rfl) rfl ?_
  unfold X6_set
  refine j_chk ?_
  refine j_aload_n 1 0 dX6_set_0 rfl rfl rfl ?_
  refine j_gR 4 kf_X6_12 dX6_set_1 rfl ?_
  intro v1
  refine j_iload_n 5 1 dX6_set_4 rfl rfl rfl ?_
  refine j_callV_i (ci := 0) (As := [.int a1]) (st := []) 8 (okX0_has G x v1 a1) kc_X0_has kl_X6_77 ki_X0_has kv_X0_has kh_X0 (by decide) (fun _ h => rvX0_has h) ⟨rfl, rfl, Nat.le_of_ble_eq_true rfl, Nat.le_of_ble_eq_true rfl⟩ (Nat.le_of_ble_eq_true rfl) ⟨Nat.le_of_ble_eq_true rfl, Nat.le_of_ble_eq_true rfl⟩ rfl dX6_set_5 rfl rfl ?_
  intro v2
  refine j_if_ne 15 11 dX6_set_8 (by decide) rfl ?_ ?_
  · refine j_iload_n 16 2 dX6_set_15 rfl rfl rfl ?_
    refine j_ite (fun h6 => ?_) (fun h6 => ?_)
    · refine j_tinE (w := 0) 48 dX6_set_16 h6 (by decide) (by decide) rfl (by decide) ?_
      refine j_iload_n 49 3 dX6_set_48 rfl rfl rfl ?_
      refine j_callS_i (As := [.int a3]) (st := []) 52 (okX6_isK G x a3) kc_X6_isK kl_X6_57 ks_X6_isK ⟨rfl, rfl, Nat.le_of_ble_eq_true rfl, Nat.le_of_ble_eq_true rfl⟩ (Nat.le_of_ble_eq_true rfl) ⟨Nat.le_of_ble_eq_true rfl, Nat.le_of_ble_eq_true rfl⟩ rfl dX6_set_49 rfl rfl ?_
      intro v3
      refine j_if_eq 67 55 dX6_set_52 (by decide) rfl ?_ ?_
      · refine j_sipush (v := -1000) 70 dX6_set_67 rfl sc_m1000 ?_
        exact j_iret dX6_set_70 rfl
      · refine j_aload_n 56 0 dX6_set_55 rfl rfl rfl ?_
        refine j_gR 59 kf_X6_12 dX6_set_56 rfl ?_
        intro v4
        refine j_iload_n 60 1 dX6_set_59 rfl rfl rfl ?_
        refine j_iload_n 61 3 dX6_set_60 rfl rfl rfl ?_
        refine j_callV_iw (ci := 0) (As := [.int a1, .int a3]) (st := []) 64 (okX0_changeK G x v4 a1 a3) kc_X0_changeK kl_X6_80 ki_X0_changeK kv_X0_changeK kh_X0 (by decide) (fun _ h => rvX0_changeK h) ⟨rfl, rfl, Nat.le_of_ble_eq_true rfl, Nat.le_of_ble_eq_true rfl⟩ (Nat.le_of_ble_eq_true rfl) ⟨Nat.le_of_ble_eq_true rfl, Nat.le_of_ble_eq_true rfl⟩ rfl dX6_set_61 rfl rfl ?_
        intro q5
        refine j_goto 70 dX6_set_64 (by decide) ?_
        exact j_iret dX6_set_70 rfl
    refine j_ite (fun h10 => ?_) (fun h10 => ?_)
    · refine j_tinE (w := 1) 71 dX6_set_16 h10 (by decide) (by decide) rfl (by decide) ?_
      refine j_iload_n 72 3 dX6_set_71 rfl rfl rfl ?_
      refine j_callS_i (As := [.int a3]) (st := []) 75 (okX6_isC G x a3) kc_X6_isC kl_X6_60 ks_X6_isC ⟨rfl, rfl, Nat.le_of_ble_eq_true rfl, Nat.le_of_ble_eq_true rfl⟩ (Nat.le_of_ble_eq_true rfl) ⟨Nat.le_of_ble_eq_true rfl, Nat.le_of_ble_eq_true rfl⟩ rfl dX6_set_72 rfl rfl ?_
      intro v7
      refine j_if_eq 90 78 dX6_set_75 (by decide) rfl ?_ ?_
      · refine j_sipush (v := -1000) 93 dX6_set_90 rfl sc_m1000 ?_
        exact j_iret dX6_set_93 rfl
      · refine j_aload_n 79 0 dX6_set_78 rfl rfl rfl ?_
        refine j_gR 82 kf_X6_12 dX6_set_79 rfl ?_
        intro v8
        refine j_iload_n 83 1 dX6_set_82 rfl rfl rfl ?_
        refine j_iload_n 84 3 dX6_set_83 rfl rfl rfl ?_
        refine j_callV_iw (ci := 0) (As := [.int a1, .int a3]) (st := []) 87 (okX0_changeC G x v8 a1 a3) kc_X0_changeC kl_X6_84 ki_X0_changeC kv_X0_changeC kh_X0 (by decide) (fun _ h => rvX0_changeC h) ⟨rfl, rfl, Nat.le_of_ble_eq_true rfl, Nat.le_of_ble_eq_true rfl⟩ (Nat.le_of_ble_eq_true rfl) ⟨Nat.le_of_ble_eq_true rfl, Nat.le_of_ble_eq_true rfl⟩ rfl dX6_set_84 rfl rfl ?_
        intro q9
        refine j_goto 93 dX6_set_87 (by decide) ?_
        exact j_iret dX6_set_93 rfl
    refine j_ite (fun h14 => ?_) (fun h14 => ?_)
    · refine j_tinE (w := 2) 94 dX6_set_16 h14 (by decide) (by decide) rfl (by decide) ?_
      refine j_iload_n 95 3 dX6_set_94 rfl rfl rfl ?_
      refine j_callS_i (As := [.int a3]) (st := []) 98 (okX6_isKind G x a3) kc_X6_isKind kl_X6_53 ks_X6_isKind ⟨rfl, rfl, Nat.le_of_ble_eq_true rfl, Nat.le_of_ble_eq_true rfl⟩ (Nat.le_of_ble_eq_true rfl) ⟨Nat.le_of_ble_eq_true rfl, Nat.le_of_ble_eq_true rfl⟩ rfl dX6_set_95 rfl rfl ?_
      intro v11
      refine j_if_eq 113 101 dX6_set_98 (by decide) rfl ?_ ?_
      · refine j_sipush (v := -1000) 116 dX6_set_113 rfl sc_m1000 ?_
        exact j_iret dX6_set_116 rfl
      · refine j_aload_n 102 0 dX6_set_101 rfl rfl rfl ?_
        refine j_gR 105 kf_X6_12 dX6_set_102 rfl ?_
        intro v12
        refine j_iload_n 106 1 dX6_set_105 rfl rfl rfl ?_
        refine j_iload_n 107 3 dX6_set_106 rfl rfl rfl ?_
        refine j_callV_iw (ci := 0) (As := [.int a1, .int a3]) (st := []) 110 (okX0_changeKind G x v12 a1 a3) kc_X0_changeKind kl_X6_87 ki_X0_changeKind kv_X0_changeKind kh_X0 (by decide) (fun _ h => rvX0_changeKind h) ⟨rfl, rfl, Nat.le_of_ble_eq_true rfl, Nat.le_of_ble_eq_true rfl⟩ (Nat.le_of_ble_eq_true rfl) ⟨Nat.le_of_ble_eq_true rfl, Nat.le_of_ble_eq_true rfl⟩ rfl dX6_set_107 rfl rfl ?_
        intro q13
        refine j_goto 116 dX6_set_110 (by decide) ?_
        exact j_iret dX6_set_116 rfl
    refine j_ite (fun h18 => ?_) (fun h18 => ?_)
    · refine j_tinE (w := 3) 117 dX6_set_16 h18 (by decide) (by decide) rfl (by decide) ?_
      refine j_iload_n 118 3 dX6_set_117 rfl rfl rfl ?_
      refine j_callS_i (As := [.int a3]) (st := []) 121 (okX6_isSource G x a3) kc_X6_isSource kl_X6_90 ks_X6_isSource ⟨rfl, rfl, Nat.le_of_ble_eq_true rfl, Nat.le_of_ble_eq_true rfl⟩ (Nat.le_of_ble_eq_true rfl) ⟨Nat.le_of_ble_eq_true rfl, Nat.le_of_ble_eq_true rfl⟩ rfl dX6_set_118 rfl rfl ?_
      intro v15
      refine j_if_eq 136 124 dX6_set_121 (by decide) rfl ?_ ?_
      · refine j_sipush (v := -1000) 139 dX6_set_136 rfl sc_m1000 ?_
        exact j_iret dX6_set_139 rfl
      · refine j_aload_n 125 0 dX6_set_124 rfl rfl rfl ?_
        refine j_gR 128 kf_X6_12 dX6_set_125 rfl ?_
        intro v16
        refine j_iload_n 129 1 dX6_set_128 rfl rfl rfl ?_
        refine j_iload_n 130 3 dX6_set_129 rfl rfl rfl ?_
        refine j_callV_iw (ci := 0) (As := [.int a1, .int a3]) (st := []) 133 (okX0_changeSource G x v16 a1 a3) kc_X0_changeSource kl_X6_93 ki_X0_changeSource kv_X0_changeSource kh_X0 (by decide) (fun _ h => rvX0_changeSource h) ⟨rfl, rfl, Nat.le_of_ble_eq_true rfl, Nat.le_of_ble_eq_true rfl⟩ (Nat.le_of_ble_eq_true rfl) ⟨Nat.le_of_ble_eq_true rfl, Nat.le_of_ble_eq_true rfl⟩ rfl dX6_set_130 rfl rfl ?_
        intro q17
        refine j_goto 139 dX6_set_133 (by decide) ?_
        exact j_iret dX6_set_139 rfl
    have h6n := sw_ne h6
    have h10n := sw_ne h10
    have h14n := sw_ne h14
    have h18n := sw_ne h18
    have h6m : (Int32.toInt 0) = 0 := by decide
    have h10m : (Int32.toInt 1) = 1 := by decide
    have h14m : (Int32.toInt 2) = 2 := by decide
    have h18m : (Int32.toInt 3) = 3 := by decide
    refine j_tout 140 dX6_set_16 (by omega) (by decide) ?_
    refine j_sipush (v := -1000) 143 dX6_set_140 rfl sc_m1000 ?_
    exact j_iret dX6_set_143 rfl
  · refine j_sipush (v := -1000) 14 dX6_set_11 rfl sc_m1000 ?_
    exact j_iret dX6_set_14 rfl
-- X6_heat: ('BarSteps', 'heat', '(II)I')
def X6_heat (a0 : Nat) (a1 : Int32) (a2 : Int32) (x : Hs) : Option (Int32 × Hs) := (vO x 5 a0).bind fun _ =>
  (gR x 5 a0 0).bind fun v1 =>
  (X0_has v1 a1 x).bind fun v2 =>
  (if v2 = 0 then some ((-2), x) else
  (X6_isHeat a2).bind fun v3 =>
  (if v3 = 0 then some ((-2), x) else
  (gR x 5 a0 0).bind fun v4 =>
  (X0_changeHeat v4 a1 a2 x).bind fun q5 =>
  some (1, q5)))
theorem rvX6_heat {a0 : Nat} {a1 : Int32} {a2 : Int32} {x : Hs} {r : Int32 × Hs} (h : X6_heat a0 a1 a2 x = some r) : ∃ fs, x.1 a0 = .inr (5, fs) := vO_bind h
theorem okX6_heat (G : JG) (x : Hs) (a0 : Nat) (a1 : Int32) (a2 : Int32) : ∀ r, X6_heat a0 a1 a2 x = some r → JC G yX6_heat cX6_heat 3 (some .int) (jR 5 0 0) 0 0 [.ref a0, .int a1, .int a2] x ((some (.int r.1), r.2)) := by
  refine jc_of (own := RX6) (E := (fun r : Int32 × Hs => ((some (.int r.1), r.2) : JR))) (by decide) rfl rfl (Nat.le_of_ble_eq_true rfl) rfl ?_
  unfold X6_heat
  refine j_chk ?_
  refine j_aload_n 1 0 dX6_heat_0 rfl rfl rfl ?_
  refine j_gR 4 kf_X6_12 dX6_heat_1 rfl ?_
  intro v1
  refine j_iload_n 5 1 dX6_heat_4 rfl rfl rfl ?_
  refine j_callV_i (ci := 0) (As := [.int a1]) (st := []) 8 (okX0_has G x v1 a1) kc_X0_has kl_X6_77 ki_X0_has kv_X0_has kh_X0 (by decide) (fun _ h => rvX0_has h) ⟨rfl, rfl, Nat.le_of_ble_eq_true rfl, Nat.le_of_ble_eq_true rfl⟩ (Nat.le_of_ble_eq_true rfl) ⟨Nat.le_of_ble_eq_true rfl, Nat.le_of_ble_eq_true rfl⟩ rfl dX6_heat_5 rfl rfl ?_
  intro v2
  refine j_if_eq 18 11 dX6_heat_8 (by decide) rfl ?_ ?_
  · refine j_bipush (v := -2) 20 dX6_heat_18 rfl bc_m2 ?_
    exact j_iret dX6_heat_20 rfl
  · refine j_iload_n 12 2 dX6_heat_11 rfl rfl rfl ?_
    refine j_callS_i (As := [.int a2]) (st := []) 15 (okX6_isHeat G x a2) kc_X6_isHeat kl_X6_63 ks_X6_isHeat ⟨rfl, rfl, Nat.le_of_ble_eq_true rfl, Nat.le_of_ble_eq_true rfl⟩ (Nat.le_of_ble_eq_true rfl) ⟨Nat.le_of_ble_eq_true rfl, Nat.le_of_ble_eq_true rfl⟩ rfl dX6_heat_12 rfl rfl ?_
    intro v3
    refine j_if_ne 21 18 dX6_heat_15 (by decide) rfl ?_ ?_
    · refine j_aload_n 22 0 dX6_heat_21 rfl rfl rfl ?_
      refine j_gR 25 kf_X6_12 dX6_heat_22 rfl ?_
      intro v4
      refine j_iload_n 26 1 dX6_heat_25 rfl rfl rfl ?_
      refine j_iload_n 27 2 dX6_heat_26 rfl rfl rfl ?_
      refine j_callV_v (ci := 0) (As := [.int a1, .int a2]) (st := []) 30 (okX0_changeHeat G x v4 a1 a2) kc_X0_changeHeat kl_X6_96 ki_X0_changeHeat kv_X0_changeHeat kh_X0 (by decide) (fun _ h => rvX0_changeHeat h) ⟨rfl, rfl, Nat.le_of_ble_eq_true rfl, Nat.le_of_ble_eq_true rfl⟩ (Nat.le_of_ble_eq_true rfl) ⟨Nat.le_of_ble_eq_true rfl, Nat.le_of_ble_eq_true rfl⟩ rfl dX6_heat_27 rfl rfl ?_
      intro q5
      refine j_iconst (v := 1) 31 dX6_heat_30 rfl ic_1 ?_
      exact j_iret dX6_heat_31 rfl
    · refine j_bipush (v := -2) 20 dX6_heat_18 rfl bc_m2 ?_
      exact j_iret dX6_heat_20 rfl
