/-! Each method as a pure term, and the machine's rows. Written by wip/whole/decomp.py. -/
-- X7_steadyFlow: ('BarStepsModel', 'steadyFlow', '(II)J')
def X7_steadyFlow_J91 (l0 : Nat) (l1 : Int32) (l2 : Int32) (l3 : Int64) (s0 : Int64) (x : Hs) : Option (Int64 × Hs) := (X7_leads l0 l1 x).bind fun v9 =>
  (gL x 6 l0 24).bind fun v10 =>
  (X7_part ((Int32.toInt64 v9) * (l3 - s0)) v10 l2).bind fun v11 =>
  some (v11, x)
theorem okX7_steadyFlow_J91 (G : JG) : ∀ (l0 : Nat) (l1 : Int32) (l2 : Int32) (l3 : Int64) (s0 : Int64) (x : Hs), JM G RX7 cX7_steadyFlow 7 (jZ G (some .long) "steadyFlow" (jR 6 0 0) 0 0) (fun r : Int64 × Hs => ((some (.long r.1), r.2) : JR)) 91 [(0, .ref l0), (1, .int l1), (2, .int l2), (3, .long l3)] [.long s0] x 0 0 (X7_steadyFlow_J91 l0 l1 l2 l3 s0 x) := by
  intro l0 l1 l2 l3 s0 x
  unfold X7_steadyFlow_J91
  refine j_lstore 93 [(5, .long s0), (0, .ref l0), (1, .int l1), (2, .int l2), (3, .long l3)] dX7_steadyFlow_91 rfl (by decide) rfl ?_
  refine j_aload_n 94 1 dX7_steadyFlow_93 rfl rfl rfl ?_
  refine j_iload_n 95 2 dX7_steadyFlow_94 rfl rfl rfl ?_
  refine j_callV_i (ci := 6) (As := [.int l1]) (st := []) 98 (okX7_leads G x l0 l1) kc_X7_leads kl_X7_204 ki_X7_leads kv_X7_leads kh_X7 (by decide) (fun _ h => rvX7_leads h) ⟨rfl, rfl, Nat.le_of_ble_eq_true rfl, Nat.le_of_ble_eq_true rfl⟩ (Nat.le_of_ble_eq_true rfl) ⟨Nat.le_of_ble_eq_true rfl, Nat.le_of_ble_eq_true rfl⟩ rfl dX7_steadyFlow_95 rfl rfl ?_
  intro v9
  refine j_i2l 99 dX7_steadyFlow_98 rfl ?_
  refine j_lload_n 100 4 dX7_steadyFlow_99 rfl rfl rfl ?_
  refine j_lload 102 0 dX7_steadyFlow_100 rfl rfl ?_
  refine j_lsub 103 dX7_steadyFlow_102 rfl ?_
  refine j_lmul 104 dX7_steadyFlow_103 rfl ?_
  refine j_aload_n 105 1 dX7_steadyFlow_104 rfl rfl rfl ?_
  refine j_gL 108 kf_X7_282 dX7_steadyFlow_105 rfl ?_
  intro v10
  refine j_iload_n 109 3 dX7_steadyFlow_108 rfl rfl rfl ?_
  refine j_callS_l (As := [.long ((Int32.toInt64 v9) * (l3 - s0)), .long v10, .int l2]) (st := []) 112 (okX7_part G x ((Int32.toInt64 v9) * (l3 - s0)) v10 l2) kc_X7_part kl_X7_252 ks_X7_part ⟨rfl, rfl, Nat.le_of_ble_eq_true rfl, Nat.le_of_ble_eq_true rfl⟩ (Nat.le_of_ble_eq_true rfl) ⟨Nat.le_of_ble_eq_true rfl, Nat.le_of_ble_eq_true rfl⟩ rfl dX7_steadyFlow_109 rfl rfl ?_
  intro v11
  exact j_lret dX7_steadyFlow_112 rfl
def X7_steadyFlow_J57 (l0 : Nat) (l1 : Int32) (l2 : Int32) (s0 : Int64) (x : Hs) : Option (Int64 × Hs) := (gI x 6 l0 0).bind fun v6 =>
  (if l1 = (v6 - 1) then (gR x 6 l0 7).bind fun v12 =>
  (aI x v12 1).bind fun v13 =>
  (gL x 6 l0 24).bind fun v14 =>
  X7_steadyFlow_J91 l0 l1 l2 s0 ((Int32.toInt64 v13) * v14) x else
  (gR x 6 l0 23).bind fun v7 =>
  (aL x v7 (l1 + 1)).bind fun v8 =>
  X7_steadyFlow_J91 l0 l1 l2 s0 v8 x)
theorem okX7_steadyFlow_J57 (G : JG) : ∀ (l0 : Nat) (l1 : Int32) (l2 : Int32) (s0 : Int64) (x : Hs), JM G RX7 cX7_steadyFlow 7 (jZ G (some .long) "steadyFlow" (jR 6 0 0) 0 0) (fun r : Int64 × Hs => ((some (.long r.1), r.2) : JR)) 57 [(0, .ref l0), (1, .int l1), (2, .int l2)] [.long s0] x 0 0 (X7_steadyFlow_J57 l0 l1 l2 s0 x) := by
  intro l0 l1 l2 s0 x
  unfold X7_steadyFlow_J57
  refine j_lstore_n 58 [(3, .long s0), (0, .ref l0), (1, .int l1), (2, .int l2)] dX7_steadyFlow_57 rfl rfl (by decide) rfl ?_
  refine j_iload_n 59 2 dX7_steadyFlow_58 rfl rfl rfl ?_
  refine j_aload_n 60 1 dX7_steadyFlow_59 rfl rfl rfl ?_
  refine j_gI 63 kf_X7_129 dX7_steadyFlow_60 rfl ?_
  intro v6
  refine j_iconst (v := 1) 64 dX7_steadyFlow_63 rfl ic_1 ?_
  refine j_isub 65 dX7_steadyFlow_64 rfl ?_
  refine j_icmp_ne 83 68 dX7_steadyFlow_65 (by decide) rfl ?_ ?_
  · refine j_aload_n 84 1 dX7_steadyFlow_83 rfl rfl rfl ?_
    refine j_gR 87 kf_X7_68 dX7_steadyFlow_84 rfl ?_
    intro v7
    refine j_iload_n 88 2 dX7_steadyFlow_87 rfl rfl rfl ?_
    refine j_iconst (v := 1) 89 dX7_steadyFlow_88 rfl ic_1 ?_
    refine j_iadd 90 dX7_steadyFlow_89 rfl ?_
    refine j_aL 91 dX7_steadyFlow_90 rfl ?_
    intro v8
    refine j_sub [1, 2, 3, 0] rfl ?_
    exact okX7_steadyFlow_J91 G l0 l1 l2 s0 v8 x
  · refine j_aload_n 69 1 dX7_steadyFlow_68 rfl rfl rfl ?_
    refine j_gR 72 kf_X7_32 dX7_steadyFlow_69 rfl ?_
    intro v12
    refine j_iconst (v := 1) 73 dX7_steadyFlow_72 rfl ic_1 ?_
    refine j_aI 74 dX7_steadyFlow_73 rfl ?_
    intro v13
    refine j_i2l 75 dX7_steadyFlow_74 rfl ?_
    refine j_aload_n 76 1 dX7_steadyFlow_75 rfl rfl rfl ?_
    refine j_gL 79 kf_X7_282 dX7_steadyFlow_76 rfl ?_
    intro v14
    refine j_lmul 80 dX7_steadyFlow_79 rfl ?_
    refine j_goto 91 dX7_steadyFlow_80 (by decide) ?_
    refine j_sub [1, 2, 3, 0] rfl ?_
    exact okX7_steadyFlow_J91 G l0 l1 l2 s0 ((Int32.toInt64 v13) * v14) x
def X7_steadyFlow (a0 : Nat) (a1 : Int32) (a2 : Int32) (x : Hs) : Option (Int64 × Hs) := (vO x 6 a0).bind fun _ =>
  (X7_isJoint a0 a1 x).bind fun v1 =>
  (if v1 = 0 then some ((-9223372036854775808), x) else
  (X7_isIn (Int32.toInt64 a2) 0 1).bind fun v2 =>
  (if v2 = 0 then some ((-9223372036854775808), x) else
  (X7_steadies a0 (-1) 0 x).bind fun q3 =>
  (if q3.1 = 0 then some ((-9223372036854775808), q3.2) else
  (if a1 = (-1) then (gR q3.2 6 a0 7).bind fun v15 =>
  (aI q3.2 v15 0).bind fun v16 =>
  (gL q3.2 6 a0 24).bind fun v17 =>
  X7_steadyFlow_J57 a0 a1 a2 ((Int32.toInt64 v16) * v17) q3.2 else
  (gR q3.2 6 a0 23).bind fun v4 =>
  (aL q3.2 v4 a1).bind fun v5 =>
  X7_steadyFlow_J57 a0 a1 a2 v5 q3.2))))
theorem rvX7_steadyFlow {a0 : Nat} {a1 : Int32} {a2 : Int32} {x : Hs} {r : Int64 × Hs} (h : X7_steadyFlow a0 a1 a2 x = some r) : ∃ fs, x.1 a0 = .inr (6, fs) := vO_bind h
theorem okX7_steadyFlow (G : JG) (x : Hs) (a0 : Nat) (a1 : Int32) (a2 : Int32) : ∀ r, X7_steadyFlow a0 a1 a2 x = some r → JC G yX7_steadyFlow cX7_steadyFlow 7 (some .long) (jR 6 0 0) 0 0 [.ref a0, .int a1, .int a2] x ((some (.long r.1), r.2)) := by
  refine jc_of (own := RX7) (E := (fun r : Int64 × Hs => ((some (.long r.1), r.2) : JR))) (by decide) rfl rfl (Nat.le_of_ble_eq_true rfl) rfl ?_
  unfold X7_steadyFlow
  refine j_chk ?_
  refine j_aload_n 1 0 dX7_steadyFlow_0 rfl rfl rfl ?_
  refine j_iload_n 2 1 dX7_steadyFlow_1 rfl rfl rfl ?_
  refine j_callV_i (ci := 6) (As := [.int a1]) (st := []) 5 (okX7_isJoint G x a0 a1) kc_X7_isJoint kl_X7_201 ki_X7_isJoint kv_X7_isJoint kh_X7 (by decide) (fun _ h => rvX7_isJoint h) ⟨rfl, rfl, Nat.le_of_ble_eq_true rfl, Nat.le_of_ble_eq_true rfl⟩ (Nat.le_of_ble_eq_true rfl) ⟨Nat.le_of_ble_eq_true rfl, Nat.le_of_ble_eq_true rfl⟩ rfl dX7_steadyFlow_2 rfl rfl ?_
  intro v1
  refine j_if_eq 27 8 dX7_steadyFlow_5 (by decide) rfl ?_ ?_
  · refine j_ldc2 30 kk_X7_256 dX7_steadyFlow_27 rfl ?_
    exact j_lret dX7_steadyFlow_30 rfl
  · refine j_iload_n 9 2 dX7_steadyFlow_8 rfl rfl rfl ?_
    refine j_i2l 10 dX7_steadyFlow_9 rfl ?_
    refine j_lconst (v := 0) 11 dX7_steadyFlow_10 rfl lc_0 ?_
    refine j_lconst (v := 1) 12 dX7_steadyFlow_11 rfl lc_1 ?_
    refine j_callS_i (As := [.long (Int32.toInt64 a2), .long 0, .long 1]) (st := []) 15 (okX7_isIn G x (Int32.toInt64 a2) 0 1) kc_X7_isIn kl_X7_133 ks_X7_isIn ⟨rfl, rfl, Nat.le_of_ble_eq_true rfl, Nat.le_of_ble_eq_true rfl⟩ (Nat.le_of_ble_eq_true rfl) ⟨Nat.le_of_ble_eq_true rfl, Nat.le_of_ble_eq_true rfl⟩ rfl dX7_steadyFlow_12 rfl rfl ?_
    intro v2
    refine j_if_eq 27 18 dX7_steadyFlow_15 (by decide) rfl ?_ ?_
    · refine j_ldc2 30 kk_X7_256 dX7_steadyFlow_27 rfl ?_
      exact j_lret dX7_steadyFlow_30 rfl
    · refine j_aload_n 19 0 dX7_steadyFlow_18 rfl rfl rfl ?_
      refine j_iconst (v := -1) 20 dX7_steadyFlow_19 rfl ic_m1 ?_
      refine j_iconst (v := 0) 21 dX7_steadyFlow_20 rfl ic_0 ?_
      refine j_callV_iw (ci := 6) (As := [.int (-1), .int 0]) (st := []) 24 (okX7_steadies G x a0 (-1) 0) kc_X7_steadies kl_X7_289 ki_X7_steadies kv_X7_steadies kh_X7 (by decide) (fun _ h => rvX7_steadies h) ⟨rfl, rfl, Nat.le_of_ble_eq_true rfl, Nat.le_of_ble_eq_true rfl⟩ (Nat.le_of_ble_eq_true rfl) ⟨Nat.le_of_ble_eq_true rfl, Nat.le_of_ble_eq_true rfl⟩ rfl dX7_steadyFlow_21 rfl rfl ?_
      intro q3
      refine j_if_ne 31 27 dX7_steadyFlow_24 (by decide) rfl ?_ ?_
      · refine j_iload_n 32 1 dX7_steadyFlow_31 rfl rfl rfl ?_
        refine j_iconst (v := -1) 33 dX7_steadyFlow_32 rfl ic_m1 ?_
        refine j_icmp_ne 51 36 dX7_steadyFlow_33 (by decide) rfl ?_ ?_
        · refine j_aload_n 52 0 dX7_steadyFlow_51 rfl rfl rfl ?_
          refine j_gR 55 kf_X7_68 dX7_steadyFlow_52 rfl ?_
          intro v4
          refine j_iload_n 56 1 dX7_steadyFlow_55 rfl rfl rfl ?_
          refine j_aL 57 dX7_steadyFlow_56 rfl ?_
          intro v5
          exact okX7_steadyFlow_J57 G a0 a1 a2 v5 q3.2
        · refine j_aload_n 37 0 dX7_steadyFlow_36 rfl rfl rfl ?_
          refine j_gR 40 kf_X7_32 dX7_steadyFlow_37 rfl ?_
          intro v15
          refine j_iconst (v := 0) 41 dX7_steadyFlow_40 rfl ic_0 ?_
          refine j_aI 42 dX7_steadyFlow_41 rfl ?_
          intro v16
          refine j_i2l 43 dX7_steadyFlow_42 rfl ?_
          refine j_aload_n 44 0 dX7_steadyFlow_43 rfl rfl rfl ?_
          refine j_gL 47 kf_X7_282 dX7_steadyFlow_44 rfl ?_
          intro v17
          refine j_lmul 48 dX7_steadyFlow_47 rfl ?_
          refine j_goto 57 dX7_steadyFlow_48 (by decide) ?_
          exact okX7_steadyFlow_J57 G a0 a1 a2 ((Int32.toInt64 v16) * v17) q3.2
      · refine j_ldc2 30 kk_X7_256 dX7_steadyFlow_27 rfl ?_
        exact j_lret dX7_steadyFlow_30 rfl
-- X7_hottest: ('BarStepsModel', 'hottest', '()I')
def X7_hottest_L15 : Nat → Nat → Int32 → Int32 → Hs → Option (Int32 × Hs)
  | 0, _, _, _, _ => none
  | n + 1, l0, l1, l2, x => (gI x 6 l0 0).bind fun v2 =>
  (if v2 ≤ l2 then some (l1, x) else
  (gR x 6 l0 23).bind fun v3 =>
  (aL x v3 l2).bind fun v4 =>
  (gR x 6 l0 23).bind fun v5 =>
  (aL x v5 l1).bind fun v6 =>
  (if v4 ≤ v6 then X7_hottest_L15 n l0 l1 (l2 + 1) x else
  X7_hottest_L15 n l0 l2 (l2 + 1) x))
theorem okX7_hottest_L15 (G : JG) : ∀ (n : Nat), ∀ (l0 : Nat) (l1 : Int32) (l2 : Int32) (x : Hs), JM G RX7 cX7_hottest 3 (jZ G (some .int) "hottest" (jR 6 0 0) 0 0) (fun r : Int32 × Hs => ((some (.int r.1), r.2) : JR)) 15 [(0, .ref l0), (1, .int l1), (2, .int l2)] [] x 0 0 (X7_hottest_L15 n l0 l1 l2 x) := by
  intro n
  induction n with
  | zero => intro l0 l1 l2 x; exact j_none
  | succ n ih =>
    intro l0 l1 l2 x
    unfold X7_hottest_L15
    refine j_iload_n 16 2 dX7_hottest_15 rfl rfl rfl ?_
    refine j_aload_n 17 0 dX7_hottest_16 rfl rfl rfl ?_
    refine j_gI 20 kf_X7_129 dX7_hottest_17 rfl ?_
    intro v2
    refine j_icmp_ge 51 23 dX7_hottest_20 (by decide) rfl ?_ ?_
    · refine j_iload_n 52 1 dX7_hottest_51 rfl rfl rfl ?_
      exact j_iret dX7_hottest_52 rfl
    · refine j_aload_n 24 0 dX7_hottest_23 rfl rfl rfl ?_
      refine j_gR 27 kf_X7_68 dX7_hottest_24 rfl ?_
      intro v3
      refine j_iload_n 28 2 dX7_hottest_27 rfl rfl rfl ?_
      refine j_aL 29 dX7_hottest_28 rfl ?_
      intro v4
      refine j_aload_n 30 0 dX7_hottest_29 rfl rfl rfl ?_
      refine j_gR 33 kf_X7_68 dX7_hottest_30 rfl ?_
      intro v5
      refine j_iload_n 34 1 dX7_hottest_33 rfl rfl rfl ?_
      refine j_aL 35 dX7_hottest_34 rfl ?_
      intro v6
      refine j_lcmp_le 36 43 39 dX7_hottest_35 rfl dX7_hottest_36 (by decide) rfl ?_ ?_
      · refine j_iload_n 44 1 dX7_hottest_43 rfl rfl rfl ?_
        refine j_istore_n 45 [(1, .int l1), (0, .ref l0), (2, .int l2)] dX7_hottest_44 rfl rfl (by decide) rfl ?_
        refine j_iinc 48 2 [(2, .int (l2 + 1)), (1, .int l1), (0, .ref l0)] dX7_hottest_45 rfl rfl (ii_1 _) (by decide) rfl ?_
        refine j_goto 15 dX7_hottest_48 (by decide) ?_
        refine j_sub [2, 1, 0] rfl ?_
        exact ih l0 l1 (l2 + 1) x
      · refine j_iload_n 40 2 dX7_hottest_39 rfl rfl rfl ?_
        refine j_goto 44 dX7_hottest_40 (by decide) ?_
        refine j_istore_n 45 [(1, .int l2), (0, .ref l0), (2, .int l2)] dX7_hottest_44 rfl rfl (by decide) rfl ?_
        refine j_iinc 48 2 [(2, .int (l2 + 1)), (1, .int l2), (0, .ref l0)] dX7_hottest_45 rfl rfl (ii_1 _) (by decide) rfl ?_
        refine j_goto 15 dX7_hottest_48 (by decide) ?_
        refine j_sub [2, 1, 0] rfl ?_
        exact ih l0 l2 (l2 + 1) x
def X7_hottest (a0 : Nat) (x : Hs) : Option (Int32 × Hs) := (vO x 6 a0).bind fun _ =>
  (X7_steadies a0 (-1) 0 x).bind fun q1 =>
  (if q1.1 = 0 then some ((-1), q1.2) else
  X7_hottest_L15 fu a0 0 1 q1.2)
theorem rvX7_hottest {a0 : Nat} {x : Hs} {r : Int32 × Hs} (h : X7_hottest a0 x = some r) : ∃ fs, x.1 a0 = .inr (6, fs) := vO_bind h
theorem okX7_hottest (G : JG) (x : Hs) (a0 : Nat) : ∀ r, X7_hottest a0 x = some r → JC G yX7_hottest cX7_hottest 3 (some .int) (jR 6 0 0) 0 0 [.ref a0] x ((some (.int r.1), r.2)) := by
  refine jc_of (own := RX7) (E := (fun r : Int32 × Hs => ((some (.int r.1), r.2) : JR))) (by decide) rfl rfl (Nat.le_of_ble_eq_true rfl) rfl ?_
  unfold X7_hottest
  refine j_chk ?_
  refine j_aload_n 1 0 dX7_hottest_0 rfl rfl rfl ?_
  refine j_iconst (v := -1) 2 dX7_hottest_1 rfl ic_m1 ?_
  refine j_iconst (v := 0) 3 dX7_hottest_2 rfl ic_0 ?_
  refine j_callV_iw (ci := 6) (As := [.int (-1), .int 0]) (st := []) 6 (okX7_steadies G x a0 (-1) 0) kc_X7_steadies kl_X7_289 ki_X7_steadies kv_X7_steadies kh_X7 (by decide) (fun _ h => rvX7_steadies h) ⟨rfl, rfl, Nat.le_of_ble_eq_true rfl, Nat.le_of_ble_eq_true rfl⟩ (Nat.le_of_ble_eq_true rfl) ⟨Nat.le_of_ble_eq_true rfl, Nat.le_of_ble_eq_true rfl⟩ rfl dX7_hottest_3 rfl rfl ?_
  intro q1
  refine j_if_ne 11 9 dX7_hottest_6 (by decide) rfl ?_ ?_
  · refine j_iconst (v := 0) 12 dX7_hottest_11 rfl ic_0 ?_
    refine j_istore_n 13 [(1, .int 0), (0, .ref a0)] dX7_hottest_12 rfl rfl (by decide) rfl ?_
    refine j_iconst (v := 1) 14 dX7_hottest_13 rfl ic_1 ?_
    refine j_istore_n 15 [(2, .int 1), (1, .int 0), (0, .ref a0)] dX7_hottest_14 rfl rfl (by decide) rfl ?_
    refine j_sub [2, 1, 0] rfl ?_
    exact okX7_hottest_L15 G fu a0 0 1 q1.2
  · refine j_iconst (v := -1) 10 dX7_hottest_9 rfl ic_m1 ?_
    exact j_iret dX7_hottest_10 rfl
-- X7_lay: ('BarStepsModel', 'lay', '()I')
def X7_lay_L130 : Nat → Nat → Int64 → Int32 → Hs → Option (Int32 × Hs)
  | 0, _, _, _, _ => none
  | n + 1, l0, l1, l4, x => (gI x 6 l0 0).bind fun v10 =>
  (if v10 ≤ l4 then some (1, x) else
  (gR x 6 l0 5).bind fun v11 =>
  (gR x 6 l0 23).bind fun v12 =>
  (aL x v12 l4).bind fun v13 =>
  (o_ldiv v13 l1).bind fun v14 =>
  (wL x v11 l4 v14).bind fun y15 =>
  X7_lay_L130 n l0 l1 (l4 + 1) y15)
theorem okX7_lay_L130 (G : JG) : ∀ (n : Nat), ∀ (l0 : Nat) (l1 : Int64) (l4 : Int32) (x : Hs), JM G RX7 cX7_lay 5 (jZ G (some .int) "lay" (jR 6 0 0) 0 0) (fun r : Int32 × Hs => ((some (.int r.1), r.2) : JR)) 130 [(0, .ref l0), (1, .long l1), (4, .int l4)] [] x 0 0 (X7_lay_L130 n l0 l1 l4 x) := by
  intro n
  induction n with
  | zero => intro l0 l1 l4 x; exact j_none
  | succ n ih =>
    intro l0 l1 l4 x
    unfold X7_lay_L130
    refine j_iload 132 2 dX7_lay_130 rfl rfl ?_
    refine j_aload_n 133 0 dX7_lay_132 rfl rfl rfl ?_
    refine j_gI 136 kf_X7_129 dX7_lay_133 rfl ?_
    intro v10
    refine j_icmp_ge 161 139 dX7_lay_136 (by decide) rfl ?_ ?_
    · refine j_iconst (v := 1) 162 dX7_lay_161 rfl ic_1 ?_
      exact j_iret dX7_lay_162 rfl
    · refine j_aload_n 140 0 dX7_lay_139 rfl rfl rfl ?_
      refine j_gR 143 kf_X7_24 dX7_lay_140 rfl ?_
      intro v11
      refine j_iload 145 2 dX7_lay_143 rfl rfl ?_
      refine j_aload_n 146 0 dX7_lay_145 rfl rfl rfl ?_
      refine j_gR 149 kf_X7_68 dX7_lay_146 rfl ?_
      intro v12
      refine j_iload 151 2 dX7_lay_149 rfl rfl ?_
      refine j_aL 152 dX7_lay_151 rfl ?_
      intro v13
      refine j_lload_n 153 1 dX7_lay_152 rfl rfl rfl ?_
      refine j_ldiv 154 dX7_lay_153 rfl ?_
      intro v14
      refine j_wL 155 dX7_lay_154 rfl ?_
      intro y15
      refine j_iinc 158 2 [(4, .int (l4 + 1)), (0, .ref l0), (1, .long l1)] dX7_lay_155 rfl rfl (ii_1 _) (by decide) rfl ?_
      refine j_goto 130 dX7_lay_158 (by decide) ?_
      refine j_sub [1, 2, 0] rfl ?_
      exact ih l0 l1 (l4 + 1) y15
def X7_lay_L66 : Nat → Nat → Int64 → Int32 → Int32 → Hs → Option (Int32 × Hs)
  | 0, _, _, _, _, _ => none
  | n + 1, l0, l1, l3, l4, x => (gI x 6 l0 0).bind fun v6 =>
  (if v6 ≤ l4 then (if l3 = 0 then some ((-4), x) else
  (gL x 6 l0 24).bind fun v7 =>
  (o_ldiv v7 l1).bind fun v8 =>
  (pV x 6 l0 6 (.long v8)).bind fun y9 =>
  X7_lay_L130 fu l0 l1 0 y9) else
  (if l3 = 0 then X7_lay_L66 n l0 l1 0 (l4 + 1) x else
  (gR x 6 l0 23).bind fun v16 =>
  (aL x v16 l4).bind fun v17 =>
  (o_ldiv v17 l1).bind fun v18 =>
  (J9_abs_067f4 v18).bind fun v19 =>
  (if 1000000000000 < v19 then X7_lay_L66 n l0 l1 0 (l4 + 1) x else
  X7_lay_L66 n l0 l1 1 (l4 + 1) x)))
theorem okX7_lay_L66 (G : JG) : ∀ (n : Nat), ∀ (l0 : Nat) (l1 : Int64) (l3 : Int32) (l4 : Int32) (x : Hs), JM G RX7 cX7_lay 5 (jZ G (some .int) "lay" (jR 6 0 0) 0 0) (fun r : Int32 × Hs => ((some (.int r.1), r.2) : JR)) 66 [(0, .ref l0), (1, .long l1), (3, .int l3), (4, .int l4)] [] x 0 0 (X7_lay_L66 n l0 l1 l3 l4 x) := by
  intro n
  induction n with
  | zero => intro l0 l1 l3 l4 x; exact j_none
  | succ n ih =>
    intro l0 l1 l3 l4 x
    unfold X7_lay_L66
    refine j_iload 68 3 dX7_lay_66 rfl rfl ?_
    refine j_aload_n 69 0 dX7_lay_68 rfl rfl rfl ?_
    refine j_gI 72 kf_X7_129 dX7_lay_69 rfl ?_
    intro v6
    refine j_icmp_ge 110 75 dX7_lay_72 (by decide) rfl ?_ ?_
    · refine j_iload_n 111 2 dX7_lay_110 rfl rfl rfl ?_
      refine j_if_ne 117 114 dX7_lay_111 (by decide) rfl ?_ ?_
      · refine j_aload_n 118 0 dX7_lay_117 rfl rfl rfl ?_
        refine j_aload_n 119 0 dX7_lay_118 rfl rfl rfl ?_
        refine j_gL 122 kf_X7_282 dX7_lay_119 rfl ?_
        intro v7
        refine j_lload_n 123 1 dX7_lay_122 rfl rfl rfl ?_
        refine j_ldiv 124 dX7_lay_123 rfl ?_
        intro v8
        refine j_put 127 kf_X7_28 dX7_lay_124 rfl rfl rfl ?_
        intro y9
        refine j_iconst (v := 0) 128 dX7_lay_127 rfl ic_0 ?_
        refine j_istore 130 [(4, .int 0), (0, .ref l0), (1, .long l1), (3, .int l3)] dX7_lay_128 rfl (by decide) rfl ?_
        refine j_sub [1, 2, 0] rfl ?_
        exact okX7_lay_L130 G fu l0 l1 0 y9
      · refine j_bipush (v := -4) 116 dX7_lay_114 rfl bc_m4 ?_
        exact j_iret dX7_lay_116 rfl
    · refine j_iload_n 76 2 dX7_lay_75 rfl rfl rfl ?_
      refine j_if_eq 102 79 dX7_lay_76 (by decide) rfl ?_ ?_
      · refine j_iconst (v := 0) 103 dX7_lay_102 rfl ic_0 ?_
        refine j_istore_n 104 [(3, .int 0), (0, .ref l0), (1, .long l1), (4, .int l4)] dX7_lay_103 rfl rfl (by decide) rfl ?_
        refine j_iinc 107 3 [(4, .int (l4 + 1)), (3, .int 0), (0, .ref l0), (1, .long l1)] dX7_lay_104 rfl rfl (ii_1 _) (by decide) rfl ?_
        refine j_goto 66 dX7_lay_107 (by decide) ?_
        refine j_sub [2, 3, 1, 0] rfl ?_
        exact ih l0 l1 0 (l4 + 1) x
      · refine j_aload_n 80 0 dX7_lay_79 rfl rfl rfl ?_
        refine j_gR 83 kf_X7_68 dX7_lay_80 rfl ?_
        intro v16
        refine j_iload 85 3 dX7_lay_83 rfl rfl ?_
        refine j_aL 86 dX7_lay_85 rfl ?_
        intro v17
        refine j_lload_n 87 1 dX7_lay_86 rfl rfl rfl ?_
        refine j_ldiv 88 dX7_lay_87 rfl ?_
        intro v18
        refine j_callS_l (As := [.long v18]) (st := []) 91 (okJ9_abs_067f4 G x v18) kc_J9_abs_067f4 kl_X7_137 ks_J9_abs_067f4 ⟨rfl, rfl, Nat.le_of_ble_eq_true rfl, Nat.le_of_ble_eq_true rfl⟩ (Nat.le_of_ble_eq_true rfl) ⟨Nat.le_of_ble_eq_true rfl, Nat.le_of_ble_eq_true rfl⟩ rfl dX7_lay_88 rfl rfl ?_
        intro v19
        refine j_ldc2 94 kk_X7_230 dX7_lay_91 rfl ?_
        refine j_lcmp_gt 95 102 98 dX7_lay_94 rfl dX7_lay_95 (by decide) rfl ?_ ?_
        · refine j_iconst (v := 0) 103 dX7_lay_102 rfl ic_0 ?_
          refine j_istore_n 104 [(3, .int 0), (0, .ref l0), (1, .long l1), (4, .int l4)] dX7_lay_103 rfl rfl (by decide) rfl ?_
          refine j_iinc 107 3 [(4, .int (l4 + 1)), (3, .int 0), (0, .ref l0), (1, .long l1)] dX7_lay_104 rfl rfl (ii_1 _) (by decide) rfl ?_
          refine j_goto 66 dX7_lay_107 (by decide) ?_
          refine j_sub [2, 3, 1, 0] rfl ?_
          exact ih l0 l1 0 (l4 + 1) x
        · refine j_iconst (v := 1) 99 dX7_lay_98 rfl ic_1 ?_
          refine j_goto 103 dX7_lay_99 (by decide) ?_
          refine j_istore_n 104 [(3, .int 1), (0, .ref l0), (1, .long l1), (4, .int l4)] dX7_lay_103 rfl rfl (by decide) rfl ?_
          refine j_iinc 107 3 [(4, .int (l4 + 1)), (3, .int 1), (0, .ref l0), (1, .long l1)] dX7_lay_104 rfl rfl (ii_1 _) (by decide) rfl ?_
          refine j_goto 66 dX7_lay_107 (by decide) ?_
          refine j_sub [2, 3, 1, 0] rfl ?_
          exact ih l0 l1 1 (l4 + 1) x
def X7_lay_J62 (l0 : Nat) (l1 : Int64) (s0 : Int32) (x : Hs) : Option (Int32 × Hs) := X7_lay_L66 fu l0 l1 s0 0 x
theorem okX7_lay_J62 (G : JG) : ∀ (l0 : Nat) (l1 : Int64) (s0 : Int32) (x : Hs), JM G RX7 cX7_lay 5 (jZ G (some .int) "lay" (jR 6 0 0) 0 0) (fun r : Int32 × Hs => ((some (.int r.1), r.2) : JR)) 62 [(0, .ref l0), (1, .long l1)] [.int s0] x 0 0 (X7_lay_J62 l0 l1 s0 x) := by
  intro l0 l1 s0 x
  unfold X7_lay_J62
  refine j_istore_n 63 [(3, .int s0), (0, .ref l0), (1, .long l1)] dX7_lay_62 rfl rfl (by decide) rfl ?_
  refine j_iconst (v := 0) 64 dX7_lay_63 rfl ic_0 ?_
  refine j_istore 66 [(4, .int 0), (3, .int s0), (0, .ref l0), (1, .long l1)] dX7_lay_64 rfl (by decide) rfl ?_
  refine j_sub [2, 3, 1, 0] rfl ?_
  exact okX7_lay_L66 G fu l0 l1 s0 0 x
def X7_lay_L19 : Nat → Nat → Int64 → Int32 → Hs → Option (Int32 × Hs)
  | 0, _, _, _, _ => none
  | n + 1, l0, l1, l3, x => (gI x 6 l0 0).bind fun v3 =>
  (if v3 ≤ l3 then (gL x 6 l0 24).bind fun v4 =>
  (o_ldiv v4 l1).bind fun v5 =>
  (if 1000000000000 < v5 then X7_lay_J62 l0 l1 0 x else
  X7_lay_J62 l0 l1 1 x) else
  (gR x 6 l0 23).bind fun v20 =>
  (aL x v20 l3).bind fun v21 =>
  (X7_divisor v21 l1).bind fun v22 =>
  X7_lay_L19 n l0 v22 (l3 + 1) x)
theorem okX7_lay_L19 (G : JG) : ∀ (n : Nat), ∀ (l0 : Nat) (l1 : Int64) (l3 : Int32) (x : Hs), JM G RX7 cX7_lay 5 (jZ G (some .int) "lay" (jR 6 0 0) 0 0) (fun r : Int32 × Hs => ((some (.int r.1), r.2) : JR)) 19 [(0, .ref l0), (1, .long l1), (3, .int l3)] [] x 0 0 (X7_lay_L19 n l0 l1 l3 x) := by
  intro n
  induction n with
  | zero => intro l0 l1 l3 x; exact j_none
  | succ n ih =>
    intro l0 l1 l3 x
    unfold X7_lay_L19
    refine j_iload_n 20 2 dX7_lay_19 rfl rfl rfl ?_
    refine j_aload_n 21 0 dX7_lay_20 rfl rfl rfl ?_
    refine j_gI 24 kf_X7_129 dX7_lay_21 rfl ?_
    intro v3
    refine j_icmp_ge 44 27 dX7_lay_24 (by decide) rfl ?_ ?_
    · refine j_aload_n 45 0 dX7_lay_44 rfl rfl rfl ?_
      refine j_gL 48 kf_X7_282 dX7_lay_45 rfl ?_
      intro v4
      refine j_lload_n 49 1 dX7_lay_48 rfl rfl rfl ?_
      refine j_ldiv 50 dX7_lay_49 rfl ?_
      intro v5
      refine j_ldc2 53 kk_X7_230 dX7_lay_50 rfl ?_
      refine j_lcmp_gt 54 61 57 dX7_lay_53 rfl dX7_lay_54 (by decide) rfl ?_ ?_
      · refine j_iconst (v := 0) 62 dX7_lay_61 rfl ic_0 ?_
        refine j_sub [0, 1] rfl ?_
        exact okX7_lay_J62 G l0 l1 0 x
      · refine j_iconst (v := 1) 58 dX7_lay_57 rfl ic_1 ?_
        refine j_goto 62 dX7_lay_58 (by decide) ?_
        refine j_sub [0, 1] rfl ?_
        exact okX7_lay_J62 G l0 l1 1 x
    · refine j_aload_n 28 0 dX7_lay_27 rfl rfl rfl ?_
      refine j_gR 31 kf_X7_68 dX7_lay_28 rfl ?_
      intro v20
      refine j_iload_n 32 2 dX7_lay_31 rfl rfl rfl ?_
      refine j_aL 33 dX7_lay_32 rfl ?_
      intro v21
      refine j_lload_n 34 1 dX7_lay_33 rfl rfl rfl ?_
      refine j_callS_l (As := [.long v21, .long l1]) (st := []) 37 (okX7_divisor G x v21 l1) kc_X7_divisor kl_X7_143 ks_X7_divisor ⟨rfl, rfl, Nat.le_of_ble_eq_true rfl, Nat.le_of_ble_eq_true rfl⟩ (Nat.le_of_ble_eq_true rfl) ⟨Nat.le_of_ble_eq_true rfl, Nat.le_of_ble_eq_true rfl⟩ rfl dX7_lay_34 rfl rfl ?_
      intro v22
      refine j_lstore_n 38 [(1, .long v22), (0, .ref l0), (3, .int l3)] dX7_lay_37 rfl rfl (by decide) rfl ?_
      refine j_iinc 41 2 [(3, .int (l3 + 1)), (1, .long v22), (0, .ref l0)] dX7_lay_38 rfl rfl (ii_1 _) (by decide) rfl ?_
      refine j_goto 19 dX7_lay_41 (by decide) ?_
      refine j_sub [2, 1, 0] rfl ?_
      exact ih l0 v22 (l3 + 1) x
def X7_lay (a0 : Nat) (x : Hs) : Option (Int32 × Hs) := (vO x 6 a0).bind fun _ =>
  (X7_steadies a0 (-1) 0 x).bind fun q1 =>
  (if q1.1 = 0 then some ((-3), q1.2) else
  (gL q1.2 6 a0 24).bind fun v2 =>
  X7_lay_L19 fu a0 v2 0 q1.2)
theorem rvX7_lay {a0 : Nat} {x : Hs} {r : Int32 × Hs} (h : X7_lay a0 x = some r) : ∃ fs, x.1 a0 = .inr (6, fs) := vO_bind h
theorem okX7_lay (G : JG) (x : Hs) (a0 : Nat) : ∀ r, X7_lay a0 x = some r → JC G yX7_lay cX7_lay 5 (some .int) (jR 6 0 0) 0 0 [.ref a0] x ((some (.int r.1), r.2)) := by
  refine jc_of (own := RX7) (E := (fun r : Int32 × Hs => ((some (.int r.1), r.2) : JR))) (by decide) rfl rfl (Nat.le_of_ble_eq_true rfl) rfl ?_
  unfold X7_lay
  refine j_chk ?_
  refine j_aload_n 1 0 dX7_lay_0 rfl rfl rfl ?_
  refine j_iconst (v := -1) 2 dX7_lay_1 rfl ic_m1 ?_
  refine j_iconst (v := 0) 3 dX7_lay_2 rfl ic_0 ?_
  refine j_callV_iw (ci := 6) (As := [.int (-1), .int 0]) (st := []) 6 (okX7_steadies G x a0 (-1) 0) kc_X7_steadies kl_X7_289 ki_X7_steadies kv_X7_steadies kh_X7 (by decide) (fun _ h => rvX7_steadies h) ⟨rfl, rfl, Nat.le_of_ble_eq_true rfl, Nat.le_of_ble_eq_true rfl⟩ (Nat.le_of_ble_eq_true rfl) ⟨Nat.le_of_ble_eq_true rfl, Nat.le_of_ble_eq_true rfl⟩ rfl dX7_lay_3 rfl rfl ?_
  intro q1
  refine j_if_ne 12 9 dX7_lay_6 (by decide) rfl ?_ ?_
  · refine j_aload_n 13 0 dX7_lay_12 rfl rfl rfl ?_
    refine j_gL 16 kf_X7_282 dX7_lay_13 rfl ?_
    intro v2
    refine j_lstore_n 17 [(1, .long v2), (0, .ref a0)] dX7_lay_16 rfl rfl (by decide) rfl ?_
    refine j_iconst (v := 0) 18 dX7_lay_17 rfl ic_0 ?_
    refine j_istore_n 19 [(3, .int 0), (1, .long v2), (0, .ref a0)] dX7_lay_18 rfl rfl (by decide) rfl ?_
    refine j_sub [2, 1, 0] rfl ?_
    exact okX7_lay_L19 G fu a0 v2 0 q1.2
  · refine j_bipush (v := -3) 11 dX7_lay_9 rfl bc_m3 ?_
    exact j_iret dX7_lay_11 rfl
-- X7_isSteady: ('BarStepsModel', 'isSteady', '()I')
def X7_isSteady_L8 : Nat → Nat → Int32 → Int32 → Hs → Option (Int32 × Hs)
  | 0, _, _, _, _ => none
  | n + 1, l0, l1, l2, x => (gI x 6 l0 0).bind fun v2 =>
  (if v2 ≤ l2 then (if l1 = 0 then some (0, x) else
  some (1, x)) else
  (if l1 = 0 then X7_isSteady_L8 n l0 0 (l2 + 1) x else
  (X7_change l0 l2 x).bind fun v3 =>
  (if v3 = 0 then X7_isSteady_L8 n l0 1 (l2 + 1) x else
  X7_isSteady_L8 n l0 0 (l2 + 1) x)))
theorem okX7_isSteady_L8 (G : JG) : ∀ (n : Nat), ∀ (l0 : Nat) (l1 : Int32) (l2 : Int32) (x : Hs), JM G RX7 cX7_isSteady 3 (jZ G (some .int) "isSteady" (jR 6 0 0) 0 0) (fun r : Int32 × Hs => ((some (.int r.1), r.2) : JR)) 8 [(0, .ref l0), (1, .int l1), (2, .int l2)] [] x 0 0 (X7_isSteady_L8 n l0 l1 l2 x) := by
  intro n
  induction n with
  | zero => intro l0 l1 l2 x; exact j_none
  | succ n ih =>
    intro l0 l1 l2 x
    unfold X7_isSteady_L8
    refine j_iload_n 9 2 dX7_isSteady_8 rfl rfl rfl ?_
    refine j_aload_n 10 0 dX7_isSteady_9 rfl rfl rfl ?_
    refine j_gI 13 kf_X7_129 dX7_isSteady_10 rfl ?_
    intro v2
    refine j_icmp_ge 42 16 dX7_isSteady_13 (by decide) rfl ?_ ?_
    · refine j_iload_n 43 1 dX7_isSteady_42 rfl rfl rfl ?_
      refine j_if_eq 50 46 dX7_isSteady_43 (by decide) rfl ?_ ?_
      · refine j_iconst (v := 0) 51 dX7_isSteady_50 rfl ic_0 ?_
        exact j_iret dX7_isSteady_51 rfl
      · refine j_iconst (v := 1) 47 dX7_isSteady_46 rfl ic_1 ?_
        refine j_goto 51 dX7_isSteady_47 (by decide) ?_
        exact j_iret dX7_isSteady_51 rfl
    · refine j_iload_n 17 1 dX7_isSteady_16 rfl rfl rfl ?_
      refine j_if_eq 34 20 dX7_isSteady_17 (by decide) rfl ?_ ?_
      · refine j_iconst (v := 0) 35 dX7_isSteady_34 rfl ic_0 ?_
        refine j_istore_n 36 [(1, .int 0), (0, .ref l0), (2, .int l2)] dX7_isSteady_35 rfl rfl (by decide) rfl ?_
        refine j_iinc 39 2 [(2, .int (l2 + 1)), (1, .int 0), (0, .ref l0)] dX7_isSteady_36 rfl rfl (ii_1 _) (by decide) rfl ?_
        refine j_goto 8 dX7_isSteady_39 (by decide) ?_
        refine j_sub [2, 1, 0] rfl ?_
        exact ih l0 0 (l2 + 1) x
      · refine j_aload_n 21 0 dX7_isSteady_20 rfl rfl rfl ?_
        refine j_iload_n 22 2 dX7_isSteady_21 rfl rfl rfl ?_
        refine j_callV_l (ci := 6) (As := [.int l2]) (st := []) 25 (okX7_change G x l0 l2) kc_X7_change kl_X7_220 ki_X7_change kv_X7_change kh_X7 (by decide) (fun _ h => rvX7_change h) ⟨rfl, rfl, Nat.le_of_ble_eq_true rfl, Nat.le_of_ble_eq_true rfl⟩ (Nat.le_of_ble_eq_true rfl) ⟨Nat.le_of_ble_eq_true rfl, Nat.le_of_ble_eq_true rfl⟩ rfl dX7_isSteady_22 rfl rfl ?_
        intro v3
        refine j_lconst (v := 0) 26 dX7_isSteady_25 rfl lc_0 ?_
        refine j_lcmp_ne 27 34 30 dX7_isSteady_26 rfl dX7_isSteady_27 (by decide) rfl ?_ ?_
        · refine j_iconst (v := 0) 35 dX7_isSteady_34 rfl ic_0 ?_
          refine j_istore_n 36 [(1, .int 0), (0, .ref l0), (2, .int l2)] dX7_isSteady_35 rfl rfl (by decide) rfl ?_
          refine j_iinc 39 2 [(2, .int (l2 + 1)), (1, .int 0), (0, .ref l0)] dX7_isSteady_36 rfl rfl (ii_1 _) (by decide) rfl ?_
          refine j_goto 8 dX7_isSteady_39 (by decide) ?_
          refine j_sub [2, 1, 0] rfl ?_
          exact ih l0 0 (l2 + 1) x
        · refine j_iconst (v := 1) 31 dX7_isSteady_30 rfl ic_1 ?_
          refine j_goto 35 dX7_isSteady_31 (by decide) ?_
          refine j_istore_n 36 [(1, .int 1), (0, .ref l0), (2, .int l2)] dX7_isSteady_35 rfl rfl (by decide) rfl ?_
          refine j_iinc 39 2 [(2, .int (l2 + 1)), (1, .int 1), (0, .ref l0)] dX7_isSteady_36 rfl rfl (ii_1 _) (by decide) rfl ?_
          refine j_goto 8 dX7_isSteady_39 (by decide) ?_
          refine j_sub [2, 1, 0] rfl ?_
          exact ih l0 1 (l2 + 1) x
def X7_isSteady (a0 : Nat) (x : Hs) : Option (Int32 × Hs) := (vO x 6 a0).bind fun _ =>
  (X7_think a0 x).bind fun q1 =>
  X7_isSteady_L8 fu a0 1 0 q1
theorem rvX7_isSteady {a0 : Nat} {x : Hs} {r : Int32 × Hs} (h : X7_isSteady a0 x = some r) : ∃ fs, x.1 a0 = .inr (6, fs) := vO_bind h
theorem okX7_isSteady (G : JG) (x : Hs) (a0 : Nat) : ∀ r, X7_isSteady a0 x = some r → JC G yX7_isSteady cX7_isSteady 3 (some .int) (jR 6 0 0) 0 0 [.ref a0] x ((some (.int r.1), r.2)) := by
  refine jc_of (own := RX7) (E := (fun r : Int32 × Hs => ((some (.int r.1), r.2) : JR))) (by decide) rfl rfl (Nat.le_of_ble_eq_true rfl) rfl ?_
  unfold X7_isSteady
  refine j_chk ?_
  refine j_aload_n 1 0 dX7_isSteady_0 rfl rfl rfl ?_
  refine j_callV_v (ci := 6) (As := []) (st := []) 4 (okX7_think G x a0) kc_X7_think kl_X7_232 ki_X7_think kv_X7_think kh_X7 (by decide) (fun _ h => rvX7_think h) ⟨rfl, rfl, Nat.le_of_ble_eq_true rfl, Nat.le_of_ble_eq_true rfl⟩ (Nat.le_of_ble_eq_true rfl) ⟨Nat.le_of_ble_eq_true rfl, Nat.le_of_ble_eq_true rfl⟩ rfl dX7_isSteady_1 rfl rfl ?_
  intro q1
  refine j_iconst (v := 1) 5 dX7_isSteady_4 rfl ic_1 ?_
  refine j_istore_n 6 [(1, .int 1), (0, .ref a0)] dX7_isSteady_5 rfl rfl (by decide) rfl ?_
  refine j_iconst (v := 0) 7 dX7_isSteady_6 rfl ic_0 ?_
  refine j_istore_n 8 [(2, .int 0), (1, .int 1), (0, .ref a0)] dX7_isSteady_7 rfl rfl (by decide) rfl ?_
  refine j_sub [2, 1, 0] rfl ?_
  exact okX7_isSteady_L8 G fu a0 1 0 q1
-- X7_isSo: ('BarStepsModel', 'isSo', '(I)Z')
def X7_isSo_L4 (x : Hs) : Nat → Nat → Int32 → Int32 → Int32 → Option (Int32)
  | 0, _, _, _, _ => none
  | n + 1, l0, l1, l2, l3 => (gR x 6 l0 52).bind fun v1 =>
  (aI x v1 l1).bind fun v2 =>
  (if v2 ≤ l3 then (zb l2).bind fun v3 => some v3 else
  (if l2 = 0 then X7_isSo_L4 x n l0 l1 0 (l3 + 1) else
  (gR x 6 l0 23).bind fun v4 =>
  (aL x v4 l3).bind fun v5 =>
  (gL x 6 l0 24).bind fun v6 =>
  (J9_floorDiv_f86c9 v5 v6).bind fun v7 =>
  (gR x 6 l0 53).bind fun v8 =>
  (aI x v8 ((40 * l1) + l3)).bind fun v9 =>
  (if v7 = (Int32.toInt64 v9) then X7_isSo_L4 x n l0 l1 1 (l3 + 1) else
  X7_isSo_L4 x n l0 l1 0 (l3 + 1))))
theorem okX7_isSo_L4 (G : JG) (x : Hs) : ∀ (n : Nat), ∀ (l0 : Nat) (l1 : Int32) (l2 : Int32) (l3 : Int32), JM G RX7 cX7_isSo 4 (jZ G (some .boolean) "isSo" (jR 2 0 0) 0 0) (fun r : Int32 => ((some (.int r), x) : JR)) 4 [(0, .ref l0), (1, .int l1), (2, .int l2), (3, .int l3)] [] x 0 0 (X7_isSo_L4 x n l0 l1 l2 l3) := by
  intro n
  induction n with
  | zero => intro l0 l1 l2 l3; exact j_none
  | succ n ih =>
    intro l0 l1 l2 l3
    unfold X7_isSo_L4
    refine j_iload_n 5 3 dX7_isSo_4 rfl rfl rfl ?_
    refine j_aload_n 6 0 dX7_isSo_5 rfl rfl rfl ?_
    refine j_gR 9 kf_X7_120 dX7_isSo_6 rfl ?_
    intro v1
    refine j_iload_n 10 1 dX7_isSo_9 rfl rfl rfl ?_
    refine j_aI 11 dX7_isSo_10 rfl ?_
    intro v2
    refine j_icmp_ge 59 14 dX7_isSo_11 (by decide) rfl ?_ ?_
    · refine j_iload_n 60 2 dX7_isSo_59 rfl rfl rfl ?_
      exact j_zret dX7_isSo_60 (fun _ => rfl)
    · refine j_iload_n 15 2 dX7_isSo_14 rfl rfl rfl ?_
      refine j_if_eq 51 18 dX7_isSo_15 (by decide) rfl ?_ ?_
      · refine j_iconst (v := 0) 52 dX7_isSo_51 rfl ic_0 ?_
        refine j_istore_n 53 [(2, .int 0), (0, .ref l0), (1, .int l1), (3, .int l3)] dX7_isSo_52 rfl rfl (by decide) rfl ?_
        refine j_iinc 56 3 [(3, .int (l3 + 1)), (2, .int 0), (0, .ref l0), (1, .int l1)] dX7_isSo_53 rfl rfl (ii_1 _) (by decide) rfl ?_
        refine j_goto 4 dX7_isSo_56 (by decide) ?_
        refine j_sub [2, 3, 1, 0] rfl ?_
        exact ih l0 l1 0 (l3 + 1)
      · refine j_aload_n 19 0 dX7_isSo_18 rfl rfl rfl ?_
        refine j_gR 22 kf_X7_68 dX7_isSo_19 rfl ?_
        intro v4
        refine j_iload_n 23 3 dX7_isSo_22 rfl rfl rfl ?_
        refine j_aL 24 dX7_isSo_23 rfl ?_
        intro v5
        refine j_aload_n 25 0 dX7_isSo_24 rfl rfl rfl ?_
        refine j_gL 28 kf_X7_282 dX7_isSo_25 rfl ?_
        intro v6
        refine j_callS_l (As := [.long v5, .long v6]) (st := []) 31 (okJ9_floorDiv_f86c9 G x v5 v6) kc_J9_floorDiv_f86c9 kl_X7_245 ks_J9_floorDiv_f86c9 ⟨rfl, rfl, Nat.le_of_ble_eq_true rfl, Nat.le_of_ble_eq_true rfl⟩ (Nat.le_of_ble_eq_true rfl) ⟨Nat.le_of_ble_eq_true rfl, Nat.le_of_ble_eq_true rfl⟩ rfl dX7_isSo_28 rfl rfl ?_
        intro v7
        refine j_aload_n 32 0 dX7_isSo_31 rfl rfl rfl ?_
        refine j_gR 35 kf_X7_123 dX7_isSo_32 rfl ?_
        intro v8
        refine j_bipush (v := 40) 37 dX7_isSo_35 rfl bc_40 ?_
        refine j_iload_n 38 1 dX7_isSo_37 rfl rfl rfl ?_
        refine j_imul 39 dX7_isSo_38 rfl ?_
        refine j_iload_n 40 3 dX7_isSo_39 rfl rfl rfl ?_
        refine j_iadd 41 dX7_isSo_40 rfl ?_
        refine j_aI 42 dX7_isSo_41 rfl ?_
        intro v9
        refine j_i2l 43 dX7_isSo_42 rfl ?_
        refine j_lcmp_ne 44 51 47 dX7_isSo_43 rfl dX7_isSo_44 (by decide) rfl ?_ ?_
        · refine j_iconst (v := 0) 52 dX7_isSo_51 rfl ic_0 ?_
          refine j_istore_n 53 [(2, .int 0), (0, .ref l0), (1, .int l1), (3, .int l3)] dX7_isSo_52 rfl rfl (by decide) rfl ?_
          refine j_iinc 56 3 [(3, .int (l3 + 1)), (2, .int 0), (0, .ref l0), (1, .int l1)] dX7_isSo_53 rfl rfl (ii_1 _) (by decide) rfl ?_
          refine j_goto 4 dX7_isSo_56 (by decide) ?_
          refine j_sub [2, 3, 1, 0] rfl ?_
          exact ih l0 l1 0 (l3 + 1)
        · refine j_iconst (v := 1) 48 dX7_isSo_47 rfl ic_1 ?_
          refine j_goto 52 dX7_isSo_48 (by decide) ?_
          refine j_istore_n 53 [(2, .int 1), (0, .ref l0), (1, .int l1), (3, .int l3)] dX7_isSo_52 rfl rfl (by decide) rfl ?_
          refine j_iinc 56 3 [(3, .int (l3 + 1)), (2, .int 1), (0, .ref l0), (1, .int l1)] dX7_isSo_53 rfl rfl (ii_1 _) (by decide) rfl ?_
          refine j_goto 4 dX7_isSo_56 (by decide) ?_
          refine j_sub [2, 3, 1, 0] rfl ?_
          exact ih l0 l1 1 (l3 + 1)
def X7_isSo (a0 : Nat) (a1 : Int32) (x : Hs) : Option (Int32) := (vO x 6 a0).bind fun _ =>
  X7_isSo_L4 x fu a0 a1 1 0
theorem rvX7_isSo {a0 : Nat} {a1 : Int32} {x : Hs} {r : Int32} (h : X7_isSo a0 a1 x = some r) : ∃ fs, x.1 a0 = .inr (6, fs) := vO_bind h
theorem okX7_isSo (G : JG) (x : Hs) (a0 : Nat) (a1 : Int32) : ∀ r, X7_isSo a0 a1 x = some r → JC G yX7_isSo cX7_isSo 4 (some .boolean) (jR 2 0 0) 0 0 [.ref a0, .int a1] x ((some (.int r), x)) := by
  refine jc_of (own := RX7) (E := (fun r : Int32 => ((some (.int r), x) : JR))) (by decide) rfl rfl (Nat.le_of_ble_eq_true rfl) rfl ?_
  unfold X7_isSo
  refine j_chk ?_
  refine j_iconst (v := 1) 1 dX7_isSo_0 rfl ic_1 ?_
  refine j_istore_n 2 [(2, .int 1), (0, .ref a0), (1, .int a1)] dX7_isSo_1 rfl rfl (by decide) rfl ?_
  refine j_iconst (v := 0) 3 dX7_isSo_2 rfl ic_0 ?_
  refine j_istore_n 4 [(3, .int 0), (2, .int 1), (0, .ref a0), (1, .int a1)] dX7_isSo_3 rfl rfl (by decide) rfl ?_
  refine j_sub [2, 3, 1, 0] rfl ?_
  exact okX7_isSo_L4 G x fu a0 a1 1 0
-- X7_isSheet: ('BarStepsModel', 'isSheet', '(I)Z')
def X7_isSheet (a0 : Int32) : Option (Int32) := (X7_isIn (Int32.toInt64 a0) 0 3).bind fun v1 =>
  (zb v1).bind fun v2 => some v2
theorem okX7_isSheet (G : JG) (x : Hs) (a0 : Int32) : ∀ r, X7_isSheet a0 = some r → JC G yX7_isSheet cX7_isSheet 1 (some .boolean) (jR 2 0 0) 0 0 [.int a0] x ((some (.int r), x)) := by
  refine jc_of (own := RX7) (E := (fun r : Int32 => ((some (.int r), x) : JR))) (by decide) rfl rfl (Nat.le_of_ble_eq_true rfl) rfl ?_
  unfold X7_isSheet
  refine j_iload_n 1 0 dX7_isSheet_0 rfl rfl rfl ?_
  refine j_i2l 2 dX7_isSheet_1 rfl ?_
  refine j_lconst (v := 0) 3 dX7_isSheet_2 rfl lc_0 ?_
  refine j_ldc2 6 kk_X7_181 dX7_isSheet_3 rfl ?_
  refine j_callS_i (As := [.long (Int32.toInt64 a0), .long 0, .long 3]) (st := []) 9 (okX7_isIn G x (Int32.toInt64 a0) 0 3) kc_X7_isIn kl_X7_133 ks_X7_isIn ⟨rfl, rfl, Nat.le_of_ble_eq_true rfl, Nat.le_of_ble_eq_true rfl⟩ (Nat.le_of_ble_eq_true rfl) ⟨Nat.le_of_ble_eq_true rfl, Nat.le_of_ble_eq_true rfl⟩ rfl dX7_isSheet_6 rfl rfl ?_
  intro v1
  exact j_zret dX7_isSheet_9 (fun _ => rfl)
-- X7_buried: ('BarStepsModel', 'buried', '(II)I')
def X7_buried_L89 (r76 : Nat → Int32 → Int32 → Int32 → Int32 → Int32 → Hs → Option (Int32 × Hs)) : Nat → Nat → Int32 → Int32 → Int32 → Int32 → Int32 → Int32 → Hs → Option (Int32 × Hs)
  | 0, _, _, _, _, _, _, _, _ => none
  | n + 1, l0, l1, l2, l3, l4, l5, l6, x => (if 9 < l6 then r76 l0 l1 l2 l3 l4 (l5 + 1) x else
  (X7_steadies l0 l5 l6 x).bind fun q10 =>
  (X7_isSo l0 l1 q10.2).bind fun v11 =>
  (if v11 = 0 then X7_buried_L89 r76 n l0 l1 l2 l3 l4 l5 (l6 + 1) q10.2 else
  (if l3 = 0 then X7_buried_L89 r76 n l0 l1 l2 (l3 + 1) (((100 * l5) + l6) + 9) l5 (l6 + 1) q10.2 else
  X7_buried_L89 r76 n l0 l1 l2 (l3 + 1) l4 l5 (l6 + 1) q10.2)))
theorem okX7_buried_L89 (G : JG) (r76 : Nat → Int32 → Int32 → Int32 → Int32 → Int32 → Hs → Option (Int32 × Hs)) (hr76 : ∀ (l0 : Nat) (l1 : Int32) (l2 : Int32) (l3 : Int32) (l4 : Int32) (l5 : Int32) (x : Hs), JM G RX7 cX7_buried 7 (jZ G (some .int) "buried" (jR 6 0 0) 0 0) (fun r : Int32 × Hs => ((some (.int r.1), r.2) : JR)) 76 [(0, .ref l0), (1, .int l1), (2, .int l2), (3, .int l3), (4, .int l4), (5, .int l5)] [] x 0 0 (r76 l0 l1 l2 l3 l4 l5 x)) : ∀ (n : Nat), ∀ (l0 : Nat) (l1 : Int32) (l2 : Int32) (l3 : Int32) (l4 : Int32) (l5 : Int32) (l6 : Int32) (x : Hs), JM G RX7 cX7_buried 7 (jZ G (some .int) "buried" (jR 6 0 0) 0 0) (fun r : Int32 × Hs => ((some (.int r.1), r.2) : JR)) 89 [(0, .ref l0), (1, .int l1), (2, .int l2), (3, .int l3), (4, .int l4), (5, .int l5), (6, .int l6)] [] x 0 0 (X7_buried_L89 r76 n l0 l1 l2 l3 l4 l5 l6 x) := by
  intro n
  induction n with
  | zero => intro l0 l1 l2 l3 l4 l5 l6 x; exact j_none
  | succ n ih =>
    intro l0 l1 l2 l3 l4 l5 l6 x
    unfold X7_buried_L89
    refine j_iload 91 6 dX7_buried_89 rfl rfl ?_
    refine j_bipush (v := 9) 93 dX7_buried_91 rfl bc_9 ?_
    refine j_icmp_gt 144 96 dX7_buried_93 (by decide) rfl ?_ ?_
    · refine j_iinc 147 5 [(5, .int (l5 + 1)), (0, .ref l0), (1, .int l1), (2, .int l2), (3, .int l3), (4, .int l4), (6, .int l6)] dX7_buried_144 rfl rfl (ii_1 _) (by decide) rfl ?_
      refine j_goto 76 dX7_buried_147 (by decide) ?_
      refine j_sub [1, 2, 3, 4, 5, 0] rfl ?_
      exact hr76 l0 l1 l2 l3 l4 (l5 + 1) x
    · refine j_aload_n 97 0 dX7_buried_96 rfl rfl rfl ?_
      refine j_iload 99 5 dX7_buried_97 rfl rfl ?_
      refine j_iload 101 6 dX7_buried_99 rfl rfl ?_
      refine j_callV_iw (ci := 6) (As := [.int l5, .int l6]) (st := []) 104 (okX7_steadies G x l0 l5 l6) kc_X7_steadies kl_X7_289 ki_X7_steadies kv_X7_steadies kh_X7 (by decide) (fun _ h => rvX7_steadies h) ⟨rfl, rfl, Nat.le_of_ble_eq_true rfl, Nat.le_of_ble_eq_true rfl⟩ (Nat.le_of_ble_eq_true rfl) ⟨Nat.le_of_ble_eq_true rfl, Nat.le_of_ble_eq_true rfl⟩ rfl dX7_buried_101 rfl rfl ?_
      intro q10
      refine j_pop 105 dX7_buried_104 rfl rfl ?_
      refine j_aload_n 106 0 dX7_buried_105 rfl rfl rfl ?_
      refine j_iload_n 107 1 dX7_buried_106 rfl rfl rfl ?_
      refine j_callV_i (ci := 6) (As := [.int l1]) (st := []) 110 (okX7_isSo G q10.2 l0 l1) kc_X7_isSo kl_X7_295 ki_X7_isSo kv_X7_isSo kh_X7 (by decide) (fun _ h => rvX7_isSo h) ⟨rfl, rfl, Nat.le_of_ble_eq_true rfl, Nat.le_of_ble_eq_true rfl⟩ (Nat.le_of_ble_eq_true rfl) ⟨Nat.le_of_ble_eq_true rfl, Nat.le_of_ble_eq_true rfl⟩ rfl dX7_buried_107 rfl rfl ?_
      intro v11
      refine j_if_eq 138 113 dX7_buried_110 (by decide) rfl ?_ ?_
      · refine j_iinc 141 6 [(6, .int (l6 + 1)), (0, .ref l0), (1, .int l1), (2, .int l2), (3, .int l3), (4, .int l4), (5, .int l5)] dX7_buried_138 rfl rfl (ii_1 _) (by decide) rfl ?_
        refine j_goto 89 dX7_buried_141 (by decide) ?_
        refine j_sub [1, 2, 3, 4, 5, 6, 0] rfl ?_
        exact ih l0 l1 l2 l3 l4 l5 (l6 + 1) q10.2
      · refine j_iload_n 114 3 dX7_buried_113 rfl rfl rfl ?_
        refine j_if_ne 131 117 dX7_buried_114 (by decide) rfl ?_ ?_
        · refine j_iload 133 4 dX7_buried_131 rfl rfl ?_
          refine j_istore 135 [(4, .int l4), (0, .ref l0), (1, .int l1), (2, .int l2), (3, .int l3), (5, .int l5), (6, .int l6)] dX7_buried_133 rfl (by decide) rfl ?_
          refine j_iinc 138 4 [(3, .int (l3 + 1)), (4, .int l4), (0, .ref l0), (1, .int l1), (2, .int l2), (5, .int l5), (6, .int l6)] dX7_buried_135 rfl rfl (ii_1 _) (by decide) rfl ?_
          refine j_iinc 141 6 [(6, .int (l6 + 1)), (3, .int (l3 + 1)), (4, .int l4), (0, .ref l0), (1, .int l1), (2, .int l2), (5, .int l5)] dX7_buried_138 rfl rfl (ii_1 _) (by decide) rfl ?_
          refine j_goto 89 dX7_buried_141 (by decide) ?_
          refine j_sub [3, 4, 5, 1, 2, 6, 0] rfl ?_
          exact ih l0 l1 l2 (l3 + 1) l4 l5 (l6 + 1) q10.2
        · refine j_bipush (v := 100) 119 dX7_buried_117 rfl bc_100 ?_
          refine j_iload 121 5 dX7_buried_119 rfl rfl ?_
          refine j_imul 122 dX7_buried_121 rfl ?_
          refine j_iload 124 6 dX7_buried_122 rfl rfl ?_
          refine j_iadd 125 dX7_buried_124 rfl ?_
          refine j_bipush (v := 9) 127 dX7_buried_125 rfl bc_9 ?_
          refine j_iadd 128 dX7_buried_127 rfl ?_
          refine j_goto 133 dX7_buried_128 (by decide) ?_
          refine j_istore 135 [(4, .int (((100 * l5) + l6) + 9)), (0, .ref l0), (1, .int l1), (2, .int l2), (3, .int l3), (5, .int l5), (6, .int l6)] dX7_buried_133 rfl (by decide) rfl ?_
          refine j_iinc 138 4 [(3, .int (l3 + 1)), (4, .int (((100 * l5) + l6) + 9)), (0, .ref l0), (1, .int l1), (2, .int l2), (5, .int l5), (6, .int l6)] dX7_buried_135 rfl rfl (ii_1 _) (by decide) rfl ?_
          refine j_iinc 141 6 [(6, .int (l6 + 1)), (3, .int (l3 + 1)), (4, .int (((100 * l5) + l6) + 9)), (0, .ref l0), (1, .int l1), (2, .int l2), (5, .int l5)] dX7_buried_138 rfl rfl (ii_1 _) (by decide) rfl ?_
          refine j_goto 89 dX7_buried_141 (by decide) ?_
          refine j_sub [3, 4, 5, 1, 2, 6, 0] rfl ?_
          exact ih l0 l1 l2 (l3 + 1) (((100 * l5) + l6) + 9) l5 (l6 + 1) q10.2
def X7_buried_L76 : Nat → Nat → Int32 → Int32 → Int32 → Int32 → Int32 → Hs → Option (Int32 × Hs)
  | 0, _, _, _, _, _, _, _ => none
  | n + 1, l0, l1, l2, l3, l4, l5, x => (gI x 6 l0 0).bind fun v9 =>
  (if v9 ≤ l5 then (if l2 = 0 then some (l4, x) else
  some (l3, x)) else
  X7_buried_L89 (fun l0 l1 l2 l3 l4 l5 x => X7_buried_L76 n l0 l1 l2 l3 l4 l5 x) fu l0 l1 l2 l3 l4 l5 (-9) x)
theorem okX7_buried_L76 (G : JG) : ∀ (n : Nat), ∀ (l0 : Nat) (l1 : Int32) (l2 : Int32) (l3 : Int32) (l4 : Int32) (l5 : Int32) (x : Hs), JM G RX7 cX7_buried 7 (jZ G (some .int) "buried" (jR 6 0 0) 0 0) (fun r : Int32 × Hs => ((some (.int r.1), r.2) : JR)) 76 [(0, .ref l0), (1, .int l1), (2, .int l2), (3, .int l3), (4, .int l4), (5, .int l5)] [] x 0 0 (X7_buried_L76 n l0 l1 l2 l3 l4 l5 x) := by
  intro n
  induction n with
  | zero => intro l0 l1 l2 l3 l4 l5 x; exact j_none
  | succ n ih =>
    intro l0 l1 l2 l3 l4 l5 x
    unfold X7_buried_L76
    refine j_iload 78 5 dX7_buried_76 rfl rfl ?_
    refine j_aload_n 79 0 dX7_buried_78 rfl rfl rfl ?_
    refine j_gI 82 kf_X7_129 dX7_buried_79 rfl ?_
    intro v9
    refine j_icmp_ge 150 85 dX7_buried_82 (by decide) rfl ?_ ?_
    · refine j_iload_n 151 2 dX7_buried_150 rfl rfl rfl ?_
      refine j_if_ne 159 154 dX7_buried_151 (by decide) rfl ?_ ?_
      · refine j_iload_n 160 3 dX7_buried_159 rfl rfl rfl ?_
        exact j_iret dX7_buried_160 rfl
      · refine j_iload 156 4 dX7_buried_154 rfl rfl ?_
        refine j_goto 160 dX7_buried_156 (by decide) ?_
        exact j_iret dX7_buried_160 rfl
    · refine j_bipush (v := -9) 87 dX7_buried_85 rfl bc_m9 ?_
      refine j_istore 89 [(6, .int (-9)), (0, .ref l0), (1, .int l1), (2, .int l2), (3, .int l3), (4, .int l4), (5, .int l5)] dX7_buried_87 rfl (by decide) rfl ?_
      refine j_sub [1, 2, 3, 4, 5, 6, 0] rfl ?_
      exact okX7_buried_L89 G (fun l0 l1 l2 l3 l4 l5 x => X7_buried_L76 n l0 l1 l2 l3 l4 l5 x) ih fu l0 l1 l2 l3 l4 l5 (-9) x
def X7_buried_J68 (l0 : Nat) (l1 : Int32) (l2 : Int32) (x : Hs) : Option (Int32 × Hs) := X7_buried_L76 fu l0 l1 l2 0 (-1) 0 x
theorem okX7_buried_J68 (G : JG) : ∀ (l0 : Nat) (l1 : Int32) (l2 : Int32) (x : Hs), JM G RX7 cX7_buried 7 (jZ G (some .int) "buried" (jR 6 0 0) 0 0) (fun r : Int32 × Hs => ((some (.int r.1), r.2) : JR)) 68 [(0, .ref l0), (1, .int l1), (2, .int l2)] [] x 0 0 (X7_buried_J68 l0 l1 l2 x) := by
  intro l0 l1 l2 x
  unfold X7_buried_J68
  refine j_iconst (v := 0) 69 dX7_buried_68 rfl ic_0 ?_
  refine j_istore_n 70 [(3, .int 0), (0, .ref l0), (1, .int l1), (2, .int l2)] dX7_buried_69 rfl rfl (by decide) rfl ?_
  refine j_iconst (v := -1) 71 dX7_buried_70 rfl ic_m1 ?_
  refine j_istore 73 [(4, .int (-1)), (3, .int 0), (0, .ref l0), (1, .int l1), (2, .int l2)] dX7_buried_71 rfl (by decide) rfl ?_
  refine j_iconst (v := 0) 74 dX7_buried_73 rfl ic_0 ?_
  refine j_istore 76 [(5, .int 0), (4, .int (-1)), (3, .int 0), (0, .ref l0), (1, .int l1), (2, .int l2)] dX7_buried_74 rfl (by decide) rfl ?_
  refine j_sub [3, 4, 5, 2, 1, 0] rfl ?_
  exact okX7_buried_L76 G fu l0 l1 l2 0 (-1) 0 x
def X7_buried (a0 : Nat) (a1 : Int32) (a2 : Int32) (x : Hs) : Option (Int32 × Hs) := (vO x 6 a0).bind fun _ =>
  (X7_isSheet a1).bind fun v1 =>
  (if v1 = 0 then some ((-2), x) else
  (X7_isIn (Int32.toInt64 a2) 0 1).bind fun v2 =>
  (if v2 = 0 then some ((-2), x) else
  (gR x 6 a0 51).bind fun v3 =>
  (aI x v3 a1).bind fun v4 =>
  (if v4 = (-1) then some ((-11), x) else
  (gR x 6 a0 52).bind fun v5 =>
  (aI x v5 a1).bind fun v6 =>
  (gI x 6 a0 0).bind fun v7 =>
  (if v6 ≤ v7 then (gI x 6 a0 0).bind fun v8 =>
  (if v8 ≤ 0 then X7_buried_J68 a0 a1 a2 x else
  (X7_steadies a0 (-1) 0 x).bind fun q12 =>
  (if q12.1 = 0 then some ((-3), q12.2) else
  X7_buried_J68 a0 a1 a2 q12.2)) else
  some ((-2), x)))))
theorem rvX7_buried {a0 : Nat} {a1 : Int32} {a2 : Int32} {x : Hs} {r : Int32 × Hs} (h : X7_buried a0 a1 a2 x = some r) : ∃ fs, x.1 a0 = .inr (6, fs) := vO_bind h
theorem okX7_buried (G : JG) (x : Hs) (a0 : Nat) (a1 : Int32) (a2 : Int32) : ∀ r, X7_buried a0 a1 a2 x = some r → JC G yX7_buried cX7_buried 7 (some .int) (jR 6 0 0) 0 0 [.ref a0, .int a1, .int a2] x ((some (.int r.1), r.2)) := by
  refine jc_of (own := RX7) (E := (fun r : Int32 × Hs => ((some (.int r.1), r.2) : JR))) (by decide) rfl rfl (Nat.le_of_ble_eq_true rfl) rfl ?_
  unfold X7_buried
  refine j_chk ?_
  refine j_iload_n 1 1 dX7_buried_0 rfl rfl rfl ?_
  refine j_callS_i (As := [.int a1]) (st := []) 4 (okX7_isSheet G x a1) kc_X7_isSheet kl_X7_292 ks_X7_isSheet ⟨rfl, rfl, Nat.le_of_ble_eq_true rfl, Nat.le_of_ble_eq_true rfl⟩ (Nat.le_of_ble_eq_true rfl) ⟨Nat.le_of_ble_eq_true rfl, Nat.le_of_ble_eq_true rfl⟩ rfl dX7_buried_1 rfl rfl ?_
  intro v1
  refine j_if_eq 17 7 dX7_buried_4 (by decide) rfl ?_ ?_
  · refine j_bipush (v := -2) 19 dX7_buried_17 rfl bc_m2 ?_
    exact j_iret dX7_buried_19 rfl
  · refine j_iload_n 8 2 dX7_buried_7 rfl rfl rfl ?_
    refine j_i2l 9 dX7_buried_8 rfl ?_
    refine j_lconst (v := 0) 10 dX7_buried_9 rfl lc_0 ?_
    refine j_lconst (v := 1) 11 dX7_buried_10 rfl lc_1 ?_
    refine j_callS_i (As := [.long (Int32.toInt64 a2), .long 0, .long 1]) (st := []) 14 (okX7_isIn G x (Int32.toInt64 a2) 0 1) kc_X7_isIn kl_X7_133 ks_X7_isIn ⟨rfl, rfl, Nat.le_of_ble_eq_true rfl, Nat.le_of_ble_eq_true rfl⟩ (Nat.le_of_ble_eq_true rfl) ⟨Nat.le_of_ble_eq_true rfl, Nat.le_of_ble_eq_true rfl⟩ rfl dX7_buried_11 rfl rfl ?_
    intro v2
    refine j_if_ne 20 17 dX7_buried_14 (by decide) rfl ?_ ?_
    · refine j_aload_n 21 0 dX7_buried_20 rfl rfl rfl ?_
      refine j_gR 24 kf_X7_117 dX7_buried_21 rfl ?_
      intro v3
      refine j_iload_n 25 1 dX7_buried_24 rfl rfl rfl ?_
      refine j_aI 26 dX7_buried_25 rfl ?_
      intro v4
      refine j_iconst (v := -1) 27 dX7_buried_26 rfl ic_m1 ?_
      refine j_icmp_ne 33 30 dX7_buried_27 (by decide) rfl ?_ ?_
      · refine j_aload_n 34 0 dX7_buried_33 rfl rfl rfl ?_
        refine j_gR 37 kf_X7_120 dX7_buried_34 rfl ?_
        intro v5
        refine j_iload_n 38 1 dX7_buried_37 rfl rfl rfl ?_
        refine j_aI 39 dX7_buried_38 rfl ?_
        intro v6
        refine j_aload_n 40 0 dX7_buried_39 rfl rfl rfl ?_
        refine j_gI 43 kf_X7_129 dX7_buried_40 rfl ?_
        intro v7
        refine j_icmp_le 49 46 dX7_buried_43 (by decide) rfl ?_ ?_
        · refine j_aload_n 50 0 dX7_buried_49 rfl rfl rfl ?_
          refine j_gI 53 kf_X7_129 dX7_buried_50 rfl ?_
          intro v8
          refine j_if_le 68 56 dX7_buried_53 (by decide) rfl ?_ ?_
          · exact okX7_buried_J68 G a0 a1 a2 x
          · refine j_aload_n 57 0 dX7_buried_56 rfl rfl rfl ?_
            refine j_iconst (v := -1) 58 dX7_buried_57 rfl ic_m1 ?_
            refine j_iconst (v := 0) 59 dX7_buried_58 rfl ic_0 ?_
            refine j_callV_iw (ci := 6) (As := [.int (-1), .int 0]) (st := []) 62 (okX7_steadies G x a0 (-1) 0) kc_X7_steadies kl_X7_289 ki_X7_steadies kv_X7_steadies kh_X7 (by decide) (fun _ h => rvX7_steadies h) ⟨rfl, rfl, Nat.le_of_ble_eq_true rfl, Nat.le_of_ble_eq_true rfl⟩ (Nat.le_of_ble_eq_true rfl) ⟨Nat.le_of_ble_eq_true rfl, Nat.le_of_ble_eq_true rfl⟩ rfl dX7_buried_59 rfl rfl ?_
            intro q12
            refine j_if_ne 68 65 dX7_buried_62 (by decide) rfl ?_ ?_
            · exact okX7_buried_J68 G a0 a1 a2 q12.2
            · refine j_bipush (v := -3) 67 dX7_buried_65 rfl bc_m3 ?_
              exact j_iret dX7_buried_67 rfl
        · refine j_bipush (v := -2) 48 dX7_buried_46 rfl bc_m2 ?_
          exact j_iret dX7_buried_48 rfl
      · refine j_bipush (v := -11) 32 dX7_buried_30 rfl bc_m11 ?_
        exact j_iret dX7_buried_32 rfl
    · refine j_bipush (v := -2) 19 dX7_buried_17 rfl bc_m2 ?_
      exact j_iret dX7_buried_19 rfl
-- X7_otherwise: ('BarStepsModel', 'otherwise', '(II)I')
def X7_otherwise_J27 (r6 : Nat → Int32 → Int32 → Int32 → Hs → Option (Int32 × Hs)) (l0 : Nat) (l1 : Int32) (l2 : Int32) (l3 : Int32) (x : Hs) : Option (Int32 × Hs) := (gR x 6 l0 13).bind fun v4 =>
  (aL x v4 l2).bind fun v5 =>
  (gL x 6 l0 14).bind fun v6 =>
  (J9_floorDiv_f86c9 v5 v6).bind fun v7 =>
  (gR x 6 l0 53).bind fun v8 =>
  (aI x v8 ((40 * l1) + l3)).bind fun v9 =>
  (if v7 = (Int32.toInt64 v9) then r6 l0 l1 l2 (l3 + 1) x else
  some (l3, x))
theorem okX7_otherwise_J27 (G : JG) (r6 : Nat → Int32 → Int32 → Int32 → Hs → Option (Int32 × Hs)) (hr6 : ∀ (l0 : Nat) (l1 : Int32) (l2 : Int32) (l3 : Int32) (x : Hs), JM G RX7 cX7_otherwise 4 (jZ G (some .int) "otherwise" (jR 8 0 0) 0 0) (fun r : Int32 × Hs => ((some (.int r.1), r.2) : JR)) 6 [(0, .ref l0), (1, .int l1), (2, .int l2), (3, .int l3)] [] x 0 0 (r6 l0 l1 l2 l3 x)) : ∀ (l0 : Nat) (l1 : Int32) (l2 : Int32) (l3 : Int32) (x : Hs), JM G RX7 cX7_otherwise 4 (jZ G (some .int) "otherwise" (jR 8 0 0) 0 0) (fun r : Int32 × Hs => ((some (.int r.1), r.2) : JR)) 27 [(0, .ref l0), (1, .int l1), (2, .int l2), (3, .int l3)] [] x 0 0 (X7_otherwise_J27 r6 l0 l1 l2 l3 x) := by
  intro l0 l1 l2 l3 x
  unfold X7_otherwise_J27
  refine j_aload_n 28 0 dX7_otherwise_27 rfl rfl rfl ?_
  refine j_gR 31 kf_X7_47 dX7_otherwise_28 rfl ?_
  intro v4
  refine j_iload_n 32 2 dX7_otherwise_31 rfl rfl rfl ?_
  refine j_aL 33 dX7_otherwise_32 rfl ?_
  intro v5
  refine j_aload_n 34 0 dX7_otherwise_33 rfl rfl rfl ?_
  refine j_gL 37 kf_X7_207 dX7_otherwise_34 rfl ?_
  intro v6
  refine j_callS_l (As := [.long v5, .long v6]) (st := []) 40 (okJ9_floorDiv_f86c9 G x v5 v6) kc_J9_floorDiv_f86c9 kl_X7_245 ks_J9_floorDiv_f86c9 ⟨rfl, rfl, Nat.le_of_ble_eq_true rfl, Nat.le_of_ble_eq_true rfl⟩ (Nat.le_of_ble_eq_true rfl) ⟨Nat.le_of_ble_eq_true rfl, Nat.le_of_ble_eq_true rfl⟩ rfl dX7_otherwise_37 rfl rfl ?_
  intro v7
  refine j_aload_n 41 0 dX7_otherwise_40 rfl rfl rfl ?_
  refine j_gR 44 kf_X7_123 dX7_otherwise_41 rfl ?_
  intro v8
  refine j_bipush (v := 40) 46 dX7_otherwise_44 rfl bc_40 ?_
  refine j_iload_n 47 1 dX7_otherwise_46 rfl rfl rfl ?_
  refine j_imul 48 dX7_otherwise_47 rfl ?_
  refine j_iload_n 49 3 dX7_otherwise_48 rfl rfl rfl ?_
  refine j_iadd 50 dX7_otherwise_49 rfl ?_
  refine j_aI 51 dX7_otherwise_50 rfl ?_
  intro v9
  refine j_i2l 52 dX7_otherwise_51 rfl ?_
  refine j_lcmp_eq 53 58 56 dX7_otherwise_52 rfl dX7_otherwise_53 (by decide) rfl ?_ ?_
  · refine j_iinc 61 3 [(3, .int (l3 + 1)), (0, .ref l0), (1, .int l1), (2, .int l2)] dX7_otherwise_58 rfl rfl (ii_1 _) (by decide) rfl ?_
    refine j_goto 6 dX7_otherwise_61 (by decide) ?_
    refine j_sub [1, 2, 3, 0] rfl ?_
    exact hr6 l0 l1 l2 (l3 + 1) x
  · refine j_iload_n 57 3 dX7_otherwise_56 rfl rfl rfl ?_
    exact j_iret dX7_otherwise_57 rfl
def X7_otherwise_L6 : Nat → Nat → Int32 → Int32 → Int32 → Hs → Option (Int32 × Hs)
  | 0, _, _, _, _, _ => none
  | n + 1, l0, l1, l2, l3, x => (gR x 6 l0 52).bind fun v2 =>
  (aI x v2 l1).bind fun v3 =>
  (if v3 ≤ l3 then some ((-1), x) else
  (if l3 ≤ 0 then X7_otherwise_J27 (fun l0 l1 l2 l3 x => X7_otherwise_L6 n l0 l1 l2 l3 x) l0 l1 l2 l3 x else
  (X7_goes l0 x).bind fun q10 =>
  (if q10.1 = 0 then some (l3, q10.2) else
  X7_otherwise_J27 (fun l0 l1 l2 l3 x => X7_otherwise_L6 n l0 l1 l2 l3 x) l0 l1 l2 l3 q10.2)))
theorem okX7_otherwise_L6 (G : JG) : ∀ (n : Nat), ∀ (l0 : Nat) (l1 : Int32) (l2 : Int32) (l3 : Int32) (x : Hs), JM G RX7 cX7_otherwise 4 (jZ G (some .int) "otherwise" (jR 8 0 0) 0 0) (fun r : Int32 × Hs => ((some (.int r.1), r.2) : JR)) 6 [(0, .ref l0), (1, .int l1), (2, .int l2), (3, .int l3)] [] x 0 0 (X7_otherwise_L6 n l0 l1 l2 l3 x) := by
  intro n
  induction n with
  | zero => intro l0 l1 l2 l3 x; exact j_none
  | succ n ih =>
    intro l0 l1 l2 l3 x
    unfold X7_otherwise_L6
    refine j_iload_n 7 3 dX7_otherwise_6 rfl rfl rfl ?_
    refine j_aload_n 8 0 dX7_otherwise_7 rfl rfl rfl ?_
    refine j_gR 11 kf_X7_120 dX7_otherwise_8 rfl ?_
    intro v2
    refine j_iload_n 12 1 dX7_otherwise_11 rfl rfl rfl ?_
    refine j_aI 13 dX7_otherwise_12 rfl ?_
    intro v3
    refine j_icmp_ge 64 16 dX7_otherwise_13 (by decide) rfl ?_ ?_
    · refine j_iconst (v := -1) 65 dX7_otherwise_64 rfl ic_m1 ?_
      exact j_iret dX7_otherwise_65 rfl
    · refine j_iload_n 17 3 dX7_otherwise_16 rfl rfl rfl ?_
      refine j_if_le 27 20 dX7_otherwise_17 (by decide) rfl ?_ ?_
      · exact okX7_otherwise_J27 G (fun l0 l1 l2 l3 x => X7_otherwise_L6 n l0 l1 l2 l3 x) ih l0 l1 l2 l3 x
      · refine j_aload_n 21 0 dX7_otherwise_20 rfl rfl rfl ?_
        refine j_callV_iw (ci := 6) (As := []) (st := []) 24 (okX7_goes G x l0) kc_X7_goes kl_X7_235 ki_X7_goes kv_X7_goes kh_X7 (by decide) (fun _ h => rvX7_goes h) ⟨rfl, rfl, Nat.le_of_ble_eq_true rfl, Nat.le_of_ble_eq_true rfl⟩ (Nat.le_of_ble_eq_true rfl) ⟨Nat.le_of_ble_eq_true rfl, Nat.le_of_ble_eq_true rfl⟩ rfl dX7_otherwise_21 rfl rfl ?_
        intro q10
        refine j_if_eq 56 27 dX7_otherwise_24 (by decide) rfl ?_ ?_
        · refine j_iload_n 57 3 dX7_otherwise_56 rfl rfl rfl ?_
          exact j_iret dX7_otherwise_57 rfl
        · exact okX7_otherwise_J27 G (fun l0 l1 l2 l3 x => X7_otherwise_L6 n l0 l1 l2 l3 x) ih l0 l1 l2 l3 q10.2
def X7_otherwise (a0 : Nat) (a1 : Int32) (a2 : Int32) (x : Hs) : Option (Int32 × Hs) := (vO x 6 a0).bind fun _ =>
  (X7_think a0 x).bind fun q1 =>
  X7_otherwise_L6 fu a0 a1 a2 0 q1
theorem rvX7_otherwise {a0 : Nat} {a1 : Int32} {a2 : Int32} {x : Hs} {r : Int32 × Hs} (h : X7_otherwise a0 a1 a2 x = some r) : ∃ fs, x.1 a0 = .inr (6, fs) := vO_bind h
theorem okX7_otherwise (G : JG) (x : Hs) (a0 : Nat) (a1 : Int32) (a2 : Int32) : ∀ r, X7_otherwise a0 a1 a2 x = some r → JC G yX7_otherwise cX7_otherwise 4 (some .int) (jR 8 0 0) 0 0 [.ref a0, .int a1, .int a2] x ((some (.int r.1), r.2)) := by
  refine jc_of (own := RX7) (E := (fun r : Int32 × Hs => ((some (.int r.1), r.2) : JR))) (by decide) rfl rfl (Nat.le_of_ble_eq_true rfl) rfl ?_
  unfold X7_otherwise
  refine j_chk ?_
  refine j_aload_n 1 0 dX7_otherwise_0 rfl rfl rfl ?_
  refine j_callV_v (ci := 6) (As := []) (st := []) 4 (okX7_think G x a0) kc_X7_think kl_X7_232 ki_X7_think kv_X7_think kh_X7 (by decide) (fun _ h => rvX7_think h) ⟨rfl, rfl, Nat.le_of_ble_eq_true rfl, Nat.le_of_ble_eq_true rfl⟩ (Nat.le_of_ble_eq_true rfl) ⟨Nat.le_of_ble_eq_true rfl, Nat.le_of_ble_eq_true rfl⟩ rfl dX7_otherwise_1 rfl rfl ?_
  intro q1
  refine j_iconst (v := 0) 5 dX7_otherwise_4 rfl ic_0 ?_
  refine j_istore_n 6 [(3, .int 0), (0, .ref a0), (1, .int a1), (2, .int a2)] dX7_otherwise_5 rfl rfl (by decide) rfl ?_
  refine j_sub [1, 2, 3, 0] rfl ?_
  exact okX7_otherwise_L6 G fu a0 a1 a2 0 q1
-- X7_tells: ('BarStepsModel', 'tells', '(III)I')
def X7_tells_J115 (r80 : Nat → Int32 → Int32 → Int32 → Int32 → Int32 → Hs → Option (Int32 × Hs)) (l0 : Nat) (l1 : Int32) (l2 : Int32) (l4 : Int32) (l6 : Int32) (s0 : Int32) (s1 : Int32) (x : Hs) : Option (Int32 × Hs) := r80 l0 l1 l2 l4 (s1 ||| s0) (l6 + 1) x
theorem okX7_tells_J115 (G : JG) (r80 : Nat → Int32 → Int32 → Int32 → Int32 → Int32 → Hs → Option (Int32 × Hs)) (hr80 : ∀ (l0 : Nat) (l1 : Int32) (l2 : Int32) (l4 : Int32) (l5 : Int32) (l6 : Int32) (x : Hs), JM G RX7 cX7_tells 7 (jZ G (some .int) "tells" (jR 9 0 0) 0 0) (fun r : Int32 × Hs => ((some (.int r.1), r.2) : JR)) 80 [(0, .ref l0), (1, .int l1), (2, .int l2), (4, .int l4), (5, .int l5), (6, .int l6)] [] x 0 0 (r80 l0 l1 l2 l4 l5 l6 x)) : ∀ (l0 : Nat) (l1 : Int32) (l2 : Int32) (l4 : Int32) (l6 : Int32) (s0 : Int32) (s1 : Int32) (x : Hs), JM G RX7 cX7_tells 7 (jZ G (some .int) "tells" (jR 9 0 0) 0 0) (fun r : Int32 × Hs => ((some (.int r.1), r.2) : JR)) 115 [(0, .ref l0), (1, .int l1), (2, .int l2), (4, .int l4), (6, .int l6)] [.int s0, .int s1] x 0 0 (X7_tells_J115 r80 l0 l1 l2 l4 l6 s0 s1 x) := by
  intro l0 l1 l2 l4 l6 s0 s1 x
  unfold X7_tells_J115
  refine j_ior 116 dX7_tells_115 rfl ?_
  refine j_istore 118 [(5, .int (s1 ||| s0)), (0, .ref l0), (1, .int l1), (2, .int l2), (4, .int l4), (6, .int l6)] dX7_tells_116 rfl (by decide) rfl ?_
  refine j_iinc 121 5 [(6, .int (l6 + 1)), (5, .int (s1 ||| s0)), (0, .ref l0), (1, .int l1), (2, .int l2), (4, .int l4)] dX7_tells_118 rfl rfl (ii_1 _) (by decide) rfl ?_
  refine j_goto 80 dX7_tells_121 (by decide) ?_
  refine j_sub [2, 3, 4, 5, 1, 0] rfl ?_
  exact hr80 l0 l1 l2 l4 (s1 ||| s0) (l6 + 1) x
def X7_tells_L80 : Nat → Nat → Int32 → Int32 → Int32 → Int32 → Int32 → Hs → Option (Int32 × Hs)
  | 0, _, _, _, _, _, _, _ => none
  | n + 1, l0, l1, l2, l4, l5, l6, x => (if 6 ≤ l6 then (gR x 6 l0 1).bind fun v10 =>
  (wI x v10 l2 l4).bind fun y11 =>
  some (l5, y11) else
  (gR x 6 l0 1).bind fun v12 =>
  (wI x v12 l2 l6).bind fun y13 =>
  (X7_otherwise l0 l1 l2 y13).bind fun q14 =>
  (if q14.1 = (-1) then X7_tells_J115 (fun l0 l1 l2 l4 l5 l6 x => X7_tells_L80 n l0 l1 l2 l4 l5 l6 x) l0 l1 l2 l4 l6 (1 <<< (l6 &&& 31)) l5 q14.2 else
  X7_tells_J115 (fun l0 l1 l2 l4 l5 l6 x => X7_tells_L80 n l0 l1 l2 l4 l5 l6 x) l0 l1 l2 l4 l6 0 l5 q14.2))
theorem okX7_tells_L80 (G : JG) : ∀ (n : Nat), ∀ (l0 : Nat) (l1 : Int32) (l2 : Int32) (l4 : Int32) (l5 : Int32) (l6 : Int32) (x : Hs), JM G RX7 cX7_tells 7 (jZ G (some .int) "tells" (jR 9 0 0) 0 0) (fun r : Int32 × Hs => ((some (.int r.1), r.2) : JR)) 80 [(0, .ref l0), (1, .int l1), (2, .int l2), (4, .int l4), (5, .int l5), (6, .int l6)] [] x 0 0 (X7_tells_L80 n l0 l1 l2 l4 l5 l6 x) := by
  intro n
  induction n with
  | zero => intro l0 l1 l2 l4 l5 l6 x; exact j_none
  | succ n ih =>
    intro l0 l1 l2 l4 l5 l6 x
    unfold X7_tells_L80
    refine j_iload 82 5 dX7_tells_80 rfl rfl ?_
    refine j_bipush (v := 6) 84 dX7_tells_82 rfl bc_6 ?_
    refine j_icmp_ge 124 87 dX7_tells_84 (by decide) rfl ?_ ?_
    · refine j_aload_n 125 0 dX7_tells_124 rfl rfl rfl ?_
      refine j_gR 128 kf_X7_11 dX7_tells_125 rfl ?_
      intro v10
      refine j_iload_n 129 2 dX7_tells_128 rfl rfl rfl ?_
      refine j_iload 131 3 dX7_tells_129 rfl rfl ?_
      refine j_wI 132 dX7_tells_131 rfl ?_
      intro y11
      refine j_iload 134 4 dX7_tells_132 rfl rfl ?_
      exact j_iret dX7_tells_134 rfl
    · refine j_aload_n 88 0 dX7_tells_87 rfl rfl rfl ?_
      refine j_gR 91 kf_X7_11 dX7_tells_88 rfl ?_
      intro v12
      refine j_iload_n 92 2 dX7_tells_91 rfl rfl rfl ?_
      refine j_iload 94 5 dX7_tells_92 rfl rfl ?_
      refine j_wI 95 dX7_tells_94 rfl ?_
      intro y13
      refine j_iload 97 4 dX7_tells_95 rfl rfl ?_
      refine j_aload_n 98 0 dX7_tells_97 rfl rfl rfl ?_
      refine j_iload_n 99 1 dX7_tells_98 rfl rfl rfl ?_
      refine j_iload_n 100 2 dX7_tells_99 rfl rfl rfl ?_
      refine j_callV_iw (ci := 6) (As := [.int l1, .int l2]) (st := [.int l5]) 103 (okX7_otherwise G y13 l0 l1 l2) kc_X7_otherwise kl_X7_298 ki_X7_otherwise kv_X7_otherwise kh_X7 (by decide) (fun _ h => rvX7_otherwise h) ⟨rfl, rfl, Nat.le_of_ble_eq_true rfl, Nat.le_of_ble_eq_true rfl⟩ (Nat.le_of_ble_eq_true rfl) ⟨Nat.le_of_ble_eq_true rfl, Nat.le_of_ble_eq_true rfl⟩ rfl dX7_tells_100 rfl rfl ?_
      intro q14
      refine j_iconst (v := -1) 104 dX7_tells_103 rfl ic_m1 ?_
      refine j_icmp_ne 114 107 dX7_tells_104 (by decide) rfl ?_ ?_
      · refine j_iconst (v := 0) 115 dX7_tells_114 rfl ic_0 ?_
        refine j_sub [0, 1, 2, 3, 5] rfl ?_
        exact okX7_tells_J115 G (fun l0 l1 l2 l4 l5 l6 x => X7_tells_L80 n l0 l1 l2 l4 l5 l6 x) ih l0 l1 l2 l4 l6 0 l5 q14.2
      · refine j_iconst (v := 1) 108 dX7_tells_107 rfl ic_1 ?_
        refine j_iload 110 5 dX7_tells_108 rfl rfl ?_
        refine j_ishl 111 dX7_tells_110 rfl ?_
        refine j_goto 115 dX7_tells_111 (by decide) ?_
        refine j_sub [0, 1, 2, 3, 5] rfl ?_
        exact okX7_tells_J115 G (fun l0 l1 l2 l4 l5 l6 x => X7_tells_L80 n l0 l1 l2 l4 l5 l6 x) ih l0 l1 l2 l4 l6 (1 <<< (l6 &&& 31)) l5 q14.2
def X7_tells (a0 : Nat) (a1 : Int32) (a2 : Int32) (a3 : Int32) (x : Hs) : Option (Int32 × Hs) := (vO x 6 a0).bind fun _ =>
  (X7_isSheet a1).bind fun v1 =>
  (if v1 = 0 then some ((-2), x) else
  (X7_isCell a0 a2 x).bind fun v2 =>
  (if v2 = 0 then some ((-2), x) else
  (X7_isIn (Int32.toInt64 a3) 0 1).bind fun v3 =>
  (if v3 = 0 then some ((-2), x) else
  (gR x 6 a0 51).bind fun v4 =>
  (aI x v4 a1).bind fun v5 =>
  (if v5 = (-1) then some ((-11), x) else
  (gR x 6 a0 52).bind fun v6 =>
  (aI x v6 a1).bind fun v7 =>
  (if v7 ≤ 10 then (if a3 = 0 then (X7_otherwise a0 a1 a2 x).bind fun q15 =>
  some (q15.1, q15.2) else
  (gR x 6 a0 1).bind fun v8 =>
  (aI x v8 a2).bind fun v9 =>
  X7_tells_L80 fu a0 a1 a2 v9 0 0 x) else
  some ((-2), x))))))
theorem rvX7_tells {a0 : Nat} {a1 : Int32} {a2 : Int32} {a3 : Int32} {x : Hs} {r : Int32 × Hs} (h : X7_tells a0 a1 a2 a3 x = some r) : ∃ fs, x.1 a0 = .inr (6, fs) := vO_bind h
theorem okX7_tells (G : JG) (x : Hs) (a0 : Nat) (a1 : Int32) (a2 : Int32) (a3 : Int32) : ∀ r, X7_tells a0 a1 a2 a3 x = some r → JC G yX7_tells cX7_tells 7 (some .int) (jR 9 0 0) 0 0 [.ref a0, .int a1, .int a2, .int a3] x ((some (.int r.1), r.2)) := by
  refine jc_of (own := RX7) (E := (fun r : Int32 × Hs => ((some (.int r.1), r.2) : JR))) (by decide) rfl rfl (Nat.le_of_ble_eq_true rfl) rfl ?_
  unfold X7_tells
  refine j_chk ?_
  refine j_iload_n 1 1 dX7_tells_0 rfl rfl rfl ?_
  refine j_callS_i (As := [.int a1]) (st := []) 4 (okX7_isSheet G x a1) kc_X7_isSheet kl_X7_292 ks_X7_isSheet ⟨rfl, rfl, Nat.le_of_ble_eq_true rfl, Nat.le_of_ble_eq_true rfl⟩ (Nat.le_of_ble_eq_true rfl) ⟨Nat.le_of_ble_eq_true rfl, Nat.le_of_ble_eq_true rfl⟩ rfl dX7_tells_1 rfl rfl ?_
  intro v1
  refine j_if_eq 25 7 dX7_tells_4 (by decide) rfl ?_ ?_
  · refine j_bipush (v := -2) 27 dX7_tells_25 rfl bc_m2 ?_
    exact j_iret dX7_tells_27 rfl
  · refine j_aload_n 8 0 dX7_tells_7 rfl rfl rfl ?_
    refine j_iload_n 9 2 dX7_tells_8 rfl rfl rfl ?_
    refine j_callV_i (ci := 6) (As := [.int a2]) (st := []) 12 (okX7_isCell G x a0 a2) kc_X7_isCell kl_X7_177 ki_X7_isCell kv_X7_isCell kh_X7 (by decide) (fun _ h => rvX7_isCell h) ⟨rfl, rfl, Nat.le_of_ble_eq_true rfl, Nat.le_of_ble_eq_true rfl⟩ (Nat.le_of_ble_eq_true rfl) ⟨Nat.le_of_ble_eq_true rfl, Nat.le_of_ble_eq_true rfl⟩ rfl dX7_tells_9 rfl rfl ?_
    intro v2
    refine j_if_eq 25 15 dX7_tells_12 (by decide) rfl ?_ ?_
    · refine j_bipush (v := -2) 27 dX7_tells_25 rfl bc_m2 ?_
      exact j_iret dX7_tells_27 rfl
    · refine j_iload_n 16 3 dX7_tells_15 rfl rfl rfl ?_
      refine j_i2l 17 dX7_tells_16 rfl ?_
      refine j_lconst (v := 0) 18 dX7_tells_17 rfl lc_0 ?_
      refine j_lconst (v := 1) 19 dX7_tells_18 rfl lc_1 ?_
      refine j_callS_i (As := [.long (Int32.toInt64 a3), .long 0, .long 1]) (st := []) 22 (okX7_isIn G x (Int32.toInt64 a3) 0 1) kc_X7_isIn kl_X7_133 ks_X7_isIn ⟨rfl, rfl, Nat.le_of_ble_eq_true rfl, Nat.le_of_ble_eq_true rfl⟩ (Nat.le_of_ble_eq_true rfl) ⟨Nat.le_of_ble_eq_true rfl, Nat.le_of_ble_eq_true rfl⟩ rfl dX7_tells_19 rfl rfl ?_
      intro v3
      refine j_if_ne 28 25 dX7_tells_22 (by decide) rfl ?_ ?_
      · refine j_aload_n 29 0 dX7_tells_28 rfl rfl rfl ?_
        refine j_gR 32 kf_X7_117 dX7_tells_29 rfl ?_
        intro v4
        refine j_iload_n 33 1 dX7_tells_32 rfl rfl rfl ?_
        refine j_aI 34 dX7_tells_33 rfl ?_
        intro v5
        refine j_iconst (v := -1) 35 dX7_tells_34 rfl ic_m1 ?_
        refine j_icmp_ne 41 38 dX7_tells_35 (by decide) rfl ?_ ?_
        · refine j_aload_n 42 0 dX7_tells_41 rfl rfl rfl ?_
          refine j_gR 45 kf_X7_120 dX7_tells_42 rfl ?_
          intro v6
          refine j_iload_n 46 1 dX7_tells_45 rfl rfl rfl ?_
          refine j_aI 47 dX7_tells_46 rfl ?_
          intro v7
          refine j_bipush (v := 10) 49 dX7_tells_47 rfl bc_10 ?_
          refine j_icmp_le 55 52 dX7_tells_49 (by decide) rfl ?_ ?_
          · refine j_iload_n 56 3 dX7_tells_55 rfl rfl rfl ?_
            refine j_if_ne 66 59 dX7_tells_56 (by decide) rfl ?_ ?_
            · refine j_aload_n 67 0 dX7_tells_66 rfl rfl rfl ?_
              refine j_gR 70 kf_X7_11 dX7_tells_67 rfl ?_
              intro v8
              refine j_iload_n 71 2 dX7_tells_70 rfl rfl rfl ?_
              refine j_aI 72 dX7_tells_71 rfl ?_
              intro v9
              refine j_istore 74 [(4, .int v9), (0, .ref a0), (1, .int a1), (2, .int a2), (3, .int a3)] dX7_tells_72 rfl (by decide) rfl ?_
              refine j_iconst (v := 0) 75 dX7_tells_74 rfl ic_0 ?_
              refine j_istore 77 [(5, .int 0), (4, .int v9), (0, .ref a0), (1, .int a1), (2, .int a2), (3, .int a3)] dX7_tells_75 rfl (by decide) rfl ?_
              refine j_iconst (v := 0) 78 dX7_tells_77 rfl ic_0 ?_
              refine j_istore 80 [(6, .int 0), (5, .int 0), (4, .int v9), (0, .ref a0), (1, .int a1), (2, .int a2), (3, .int a3)] dX7_tells_78 rfl (by decide) rfl ?_
              refine j_sub [3, 4, 5, 2, 1, 0] rfl ?_
              exact okX7_tells_L80 G fu a0 a1 a2 v9 0 0 x
            · refine j_aload_n 60 0 dX7_tells_59 rfl rfl rfl ?_
              refine j_iload_n 61 1 dX7_tells_60 rfl rfl rfl ?_
              refine j_iload_n 62 2 dX7_tells_61 rfl rfl rfl ?_
              refine j_callV_iw (ci := 6) (As := [.int a1, .int a2]) (st := []) 65 (okX7_otherwise G x a0 a1 a2) kc_X7_otherwise kl_X7_298 ki_X7_otherwise kv_X7_otherwise kh_X7 (by decide) (fun _ h => rvX7_otherwise h) ⟨rfl, rfl, Nat.le_of_ble_eq_true rfl, Nat.le_of_ble_eq_true rfl⟩ (Nat.le_of_ble_eq_true rfl) ⟨Nat.le_of_ble_eq_true rfl, Nat.le_of_ble_eq_true rfl⟩ rfl dX7_tells_62 rfl rfl ?_
              intro q15
              exact j_iret dX7_tells_65 rfl
          · refine j_bipush (v := -2) 54 dX7_tells_52 rfl bc_m2 ?_
            exact j_iret dX7_tells_54 rfl
        · refine j_bipush (v := -11) 40 dX7_tells_38 rfl bc_m11 ?_
          exact j_iret dX7_tells_40 rfl
      · refine j_bipush (v := -2) 27 dX7_tells_25 rfl bc_m2 ?_
        exact j_iret dX7_tells_27 rfl
-- X7_film: ('BarStepsModel', 'film', '(III)I')
def X7_film_L136 : Nat → Nat → Int32 → Int32 → Int32 → Hs → Option (Int32 × Hs)
  | 0, _, _, _, _, _ => none
  | n + 1, l0, l1, l3, l4, x => (if l3 ≤ l4 then some (l3, x) else
  (gR x 6 l0 53).bind fun v9 =>
  (gR x 6 l0 25).bind fun v10 =>
  (aI x v10 l4).bind fun v11 =>
  (wI x v9 ((40 * l1) + l4) v11).bind fun y12 =>
  X7_film_L136 n l0 l1 l3 (l4 + 1) y12)
theorem okX7_film_L136 (G : JG) : ∀ (n : Nat), ∀ (l0 : Nat) (l1 : Int32) (l3 : Int32) (l4 : Int32) (x : Hs), JM G RX7 cX7_film 7 (jZ G (some .int) "film" (jR 8 0 0) 0 0) (fun r : Int32 × Hs => ((some (.int r.1), r.2) : JR)) 136 [(0, .ref l0), (1, .int l1), (3, .int l3), (4, .int l4)] [] x 0 0 (X7_film_L136 n l0 l1 l3 l4 x) := by
  intro n
  induction n with
  | zero => intro l0 l1 l3 l4 x; exact j_none
  | succ n ih =>
    intro l0 l1 l3 l4 x
    unfold X7_film_L136
    refine j_iload 138 3 dX7_film_136 rfl rfl ?_
    refine j_iload_n 139 2 dX7_film_138 rfl rfl rfl ?_
    refine j_icmp_ge 167 142 dX7_film_139 (by decide) rfl ?_ ?_
    · refine j_iload_n 168 2 dX7_film_167 rfl rfl rfl ?_
      exact j_iret dX7_film_168 rfl
    · refine j_aload_n 143 0 dX7_film_142 rfl rfl rfl ?_
      refine j_gR 146 kf_X7_123 dX7_film_143 rfl ?_
      intro v9
      refine j_bipush (v := 40) 148 dX7_film_146 rfl bc_40 ?_
      refine j_iload_n 149 1 dX7_film_148 rfl rfl rfl ?_
      refine j_imul 150 dX7_film_149 rfl ?_
      refine j_iload 152 3 dX7_film_150 rfl rfl ?_
      refine j_iadd 153 dX7_film_152 rfl ?_
      refine j_aload_n 154 0 dX7_film_153 rfl rfl rfl ?_
      refine j_gR 157 kf_X7_71 dX7_film_154 rfl ?_
      intro v10
      refine j_iload 159 3 dX7_film_157 rfl rfl ?_
      refine j_aI 160 dX7_film_159 rfl ?_
      intro v11
      refine j_wI 161 dX7_film_160 rfl ?_
      intro y12
      refine j_iinc 164 3 [(4, .int (l4 + 1)), (0, .ref l0), (1, .int l1), (3, .int l3)] dX7_film_161 rfl rfl (ii_1 _) (by decide) rfl ?_
      refine j_goto 136 dX7_film_164 (by decide) ?_
      refine j_sub [1, 2, 3, 0] rfl ?_
      exact ih l0 l1 l3 (l4 + 1) y12
def X7_film_J58 (r37 : Nat → Int32 → Int32 → Int32 → Int32 → Hs → Option (Int32 × Hs)) (l0 : Nat) (l1 : Int32) (l2 : Int32) (l3 : Int32) (l4 : Int32) (x : Hs) : Option (Int32 × Hs) := (gR x 6 l0 13).bind fun v13 =>
  (aL x v13 l2).bind fun v14 =>
  (gL x 6 l0 14).bind fun v15 =>
  (J9_floorDiv_f86c9 v14 v15).bind fun v16 =>
  (gR x 6 l0 25).bind fun v17 =>
  (if (-999) ≤ v16 then (if v16 ≤ 999 then (wI x v17 l4 (Int64.toInt32 v16)).bind fun y18 =>
  r37 l0 l1 l2 l3 (l4 + 1) y18 else
  (wI x v17 l4 999).bind fun y19 =>
  r37 l0 l1 l2 l3 (l4 + 1) y19) else
  (wI x v17 l4 (-999)).bind fun y20 =>
  r37 l0 l1 l2 l3 (l4 + 1) y20)
theorem okX7_film_J58 (G : JG) (r37 : Nat → Int32 → Int32 → Int32 → Int32 → Hs → Option (Int32 × Hs)) (hr37 : ∀ (l0 : Nat) (l1 : Int32) (l2 : Int32) (l3 : Int32) (l4 : Int32) (x : Hs), JM G RX7 cX7_film 7 (jZ G (some .int) "film" (jR 8 0 0) 0 0) (fun r : Int32 × Hs => ((some (.int r.1), r.2) : JR)) 37 [(0, .ref l0), (1, .int l1), (2, .int l2), (3, .int l3), (4, .int l4)] [] x 0 0 (r37 l0 l1 l2 l3 l4 x)) : ∀ (l0 : Nat) (l1 : Int32) (l2 : Int32) (l3 : Int32) (l4 : Int32) (x : Hs), JM G RX7 cX7_film 7 (jZ G (some .int) "film" (jR 8 0 0) 0 0) (fun r : Int32 × Hs => ((some (.int r.1), r.2) : JR)) 58 [(0, .ref l0), (1, .int l1), (2, .int l2), (3, .int l3), (4, .int l4)] [] x 0 0 (X7_film_J58 r37 l0 l1 l2 l3 l4 x) := by
  intro l0 l1 l2 l3 l4 x
  unfold X7_film_J58
  refine j_aload_n 59 0 dX7_film_58 rfl rfl rfl ?_
  refine j_gR 62 kf_X7_47 dX7_film_59 rfl ?_
  intro v13
  refine j_iload_n 63 2 dX7_film_62 rfl rfl rfl ?_
  refine j_aL 64 dX7_film_63 rfl ?_
  intro v14
  refine j_aload_n 65 0 dX7_film_64 rfl rfl rfl ?_
  refine j_gL 68 kf_X7_207 dX7_film_65 rfl ?_
  intro v15
  refine j_callS_l (As := [.long v14, .long v15]) (st := []) 71 (okJ9_floorDiv_f86c9 G x v14 v15) kc_J9_floorDiv_f86c9 kl_X7_245 ks_J9_floorDiv_f86c9 ⟨rfl, rfl, Nat.le_of_ble_eq_true rfl, Nat.le_of_ble_eq_true rfl⟩ (Nat.le_of_ble_eq_true rfl) ⟨Nat.le_of_ble_eq_true rfl, Nat.le_of_ble_eq_true rfl⟩ rfl dX7_film_68 rfl rfl ?_
  intro v16
  refine j_lstore 73 [(5, .long v16), (0, .ref l0), (1, .int l1), (2, .int l2), (3, .int l3), (4, .int l4)] dX7_film_71 rfl (by decide) rfl ?_
  refine j_aload_n 74 1 dX7_film_73 rfl rfl rfl ?_
  refine j_gR 77 kf_X7_71 dX7_film_74 rfl ?_
  intro v17
  refine j_iload 79 5 dX7_film_77 rfl rfl ?_
  refine j_lload 81 0 dX7_film_79 rfl rfl ?_
  refine j_ldc2 84 kk_X7_303 dX7_film_81 rfl ?_
  refine j_lcmp_ge 85 94 88 dX7_film_84 rfl dX7_film_85 (by decide) rfl ?_ ?_
  · refine j_lload 96 0 dX7_film_94 rfl rfl ?_
    refine j_ldc2 99 kk_X7_169 dX7_film_96 rfl ?_
    refine j_lcmp_le 100 109 103 dX7_film_99 rfl dX7_film_100 (by decide) rfl ?_ ?_
    · refine j_lload 111 0 dX7_film_109 rfl rfl ?_
      refine j_l2i 112 dX7_film_111 rfl ?_
      refine j_wI 113 dX7_film_112 rfl ?_
      intro y18
      refine j_iinc 116 5 [(4, .int (l4 + 1)), (5, .long v16), (0, .ref l0), (1, .int l1), (2, .int l2), (3, .int l3)] dX7_film_113 rfl rfl (ii_1 _) (by decide) rfl ?_
      refine j_goto 37 dX7_film_116 (by decide) ?_
      refine j_sub [2, 3, 4, 5, 0] rfl ?_
      exact hr37 l0 l1 l2 l3 (l4 + 1) y18
    · refine j_sipush (v := 999) 106 dX7_film_103 rfl sc_999 ?_
      refine j_goto 112 dX7_film_106 (by decide) ?_
      refine j_wI 113 dX7_film_112 rfl ?_
      intro y19
      refine j_iinc 116 5 [(4, .int (l4 + 1)), (5, .long v16), (0, .ref l0), (1, .int l1), (2, .int l2), (3, .int l3)] dX7_film_113 rfl rfl (ii_1 _) (by decide) rfl ?_
      refine j_goto 37 dX7_film_116 (by decide) ?_
      refine j_sub [2, 3, 4, 5, 0] rfl ?_
      exact hr37 l0 l1 l2 l3 (l4 + 1) y19
  · refine j_sipush (v := -999) 91 dX7_film_88 rfl sc_m999 ?_
    refine j_goto 112 dX7_film_91 (by decide) ?_
    refine j_wI 113 dX7_film_112 rfl ?_
    intro y20
    refine j_iinc 116 5 [(4, .int (l4 + 1)), (5, .long v16), (0, .ref l0), (1, .int l1), (2, .int l2), (3, .int l3)] dX7_film_113 rfl rfl (ii_1 _) (by decide) rfl ?_
    refine j_goto 37 dX7_film_116 (by decide) ?_
    refine j_sub [2, 3, 4, 5, 0] rfl ?_
    exact hr37 l0 l1 l2 l3 (l4 + 1) y20
def X7_film_L37 : Nat → Nat → Int32 → Int32 → Int32 → Int32 → Hs → Option (Int32 × Hs)
  | 0, _, _, _, _, _, _ => none
  | n + 1, l0, l1, l2, l3, l4, x => (if l3 ≤ l4 then (gR x 6 l0 51).bind fun v5 =>
  (wI x v5 l1 1).bind fun y6 =>
  (gR y6 6 l0 52).bind fun v7 =>
  (wI y6 v7 l1 l3).bind fun y8 =>
  X7_film_L136 fu l0 l1 l3 0 y8 else
  (if l4 ≤ 0 then X7_film_J58 (fun l0 l1 l2 l3 l4 x => X7_film_L37 n l0 l1 l2 l3 l4 x) l0 l1 l2 l3 l4 x else
  (X7_goes l0 x).bind fun q21 =>
  (if q21.1 = 0 then some ((-3), q21.2) else
  X7_film_J58 (fun l0 l1 l2 l3 l4 x => X7_film_L37 n l0 l1 l2 l3 l4 x) l0 l1 l2 l3 l4 q21.2)))
theorem okX7_film_L37 (G : JG) : ∀ (n : Nat), ∀ (l0 : Nat) (l1 : Int32) (l2 : Int32) (l3 : Int32) (l4 : Int32) (x : Hs), JM G RX7 cX7_film 7 (jZ G (some .int) "film" (jR 8 0 0) 0 0) (fun r : Int32 × Hs => ((some (.int r.1), r.2) : JR)) 37 [(0, .ref l0), (1, .int l1), (2, .int l2), (3, .int l3), (4, .int l4)] [] x 0 0 (X7_film_L37 n l0 l1 l2 l3 l4 x) := by
  intro n
  induction n with
  | zero => intro l0 l1 l2 l3 l4 x; exact j_none
  | succ n ih =>
    intro l0 l1 l2 l3 l4 x
    unfold X7_film_L37
    refine j_iload 39 4 dX7_film_37 rfl rfl ?_
    refine j_iload_n 40 3 dX7_film_39 rfl rfl rfl ?_
    refine j_icmp_ge 119 43 dX7_film_40 (by decide) rfl ?_ ?_
    · refine j_aload_n 120 0 dX7_film_119 rfl rfl rfl ?_
      refine j_gR 123 kf_X7_117 dX7_film_120 rfl ?_
      intro v5
      refine j_iload_n 124 1 dX7_film_123 rfl rfl rfl ?_
      refine j_iconst (v := 1) 125 dX7_film_124 rfl ic_1 ?_
      refine j_wI 126 dX7_film_125 rfl ?_
      intro y6
      refine j_aload_n 127 0 dX7_film_126 rfl rfl rfl ?_
      refine j_gR 130 kf_X7_120 dX7_film_127 rfl ?_
      intro v7
      refine j_iload_n 131 1 dX7_film_130 rfl rfl rfl ?_
      refine j_iload_n 132 3 dX7_film_131 rfl rfl rfl ?_
      refine j_wI 133 dX7_film_132 rfl ?_
      intro y8
      refine j_iconst (v := 0) 134 dX7_film_133 rfl ic_0 ?_
      refine j_istore 136 [(4, .int 0), (0, .ref l0), (1, .int l1), (2, .int l2), (3, .int l3)] dX7_film_134 rfl (by decide) rfl ?_
      refine j_sub [1, 2, 4, 0] rfl ?_
      exact okX7_film_L136 G fu l0 l1 l3 0 y8
    · refine j_iload 45 4 dX7_film_43 rfl rfl ?_
      refine j_if_le 58 48 dX7_film_45 (by decide) rfl ?_ ?_
      · exact okX7_film_J58 G (fun l0 l1 l2 l3 l4 x => X7_film_L37 n l0 l1 l2 l3 l4 x) ih l0 l1 l2 l3 l4 x
      · refine j_aload_n 49 0 dX7_film_48 rfl rfl rfl ?_
        refine j_callV_iw (ci := 6) (As := []) (st := []) 52 (okX7_goes G x l0) kc_X7_goes kl_X7_235 ki_X7_goes kv_X7_goes kh_X7 (by decide) (fun _ h => rvX7_goes h) ⟨rfl, rfl, Nat.le_of_ble_eq_true rfl, Nat.le_of_ble_eq_true rfl⟩ (Nat.le_of_ble_eq_true rfl) ⟨Nat.le_of_ble_eq_true rfl, Nat.le_of_ble_eq_true rfl⟩ rfl dX7_film_49 rfl rfl ?_
        intro q21
        refine j_if_ne 58 55 dX7_film_52 (by decide) rfl ?_ ?_
        · exact okX7_film_J58 G (fun l0 l1 l2 l3 l4 x => X7_film_L37 n l0 l1 l2 l3 l4 x) ih l0 l1 l2 l3 l4 q21.2
        · refine j_bipush (v := -3) 57 dX7_film_55 rfl bc_m3 ?_
          exact j_iret dX7_film_57 rfl
def X7_film (a0 : Nat) (a1 : Int32) (a2 : Int32) (a3 : Int32) (x : Hs) : Option (Int32 × Hs) := (vO x 6 a0).bind fun _ =>
  (X7_isSheet a1).bind fun v1 =>
  (if v1 = 0 then some ((-2), x) else
  (X7_isCell a0 a2 x).bind fun v2 =>
  (if v2 = 0 then some ((-2), x) else
  (X7_isIn (Int32.toInt64 a3) 0 10).bind fun v3 =>
  (if v3 = 0 then some ((-2), x) else
  (X7_think a0 x).bind fun q4 =>
  X7_film_L37 fu a0 a1 a2 a3 0 q4)))
theorem rvX7_film {a0 : Nat} {a1 : Int32} {a2 : Int32} {a3 : Int32} {x : Hs} {r : Int32 × Hs} (h : X7_film a0 a1 a2 a3 x = some r) : ∃ fs, x.1 a0 = .inr (6, fs) := vO_bind h
theorem okX7_film (G : JG) (x : Hs) (a0 : Nat) (a1 : Int32) (a2 : Int32) (a3 : Int32) : ∀ r, X7_film a0 a1 a2 a3 x = some r → JC G yX7_film cX7_film 7 (some .int) (jR 8 0 0) 0 0 [.ref a0, .int a1, .int a2, .int a3] x ((some (.int r.1), r.2)) := by
  refine jc_of (own := RX7) (E := (fun r : Int32 × Hs => ((some (.int r.1), r.2) : JR))) (by decide) rfl rfl (Nat.le_of_ble_eq_true rfl) rfl ?_
  unfold X7_film
  refine j_chk ?_
  refine j_iload_n 1 1 dX7_film_0 rfl rfl rfl ?_
  refine j_callS_i (As := [.int a1]) (st := []) 4 (okX7_isSheet G x a1) kc_X7_isSheet kl_X7_292 ks_X7_isSheet ⟨rfl, rfl, Nat.le_of_ble_eq_true rfl, Nat.le_of_ble_eq_true rfl⟩ (Nat.le_of_ble_eq_true rfl) ⟨Nat.le_of_ble_eq_true rfl, Nat.le_of_ble_eq_true rfl⟩ rfl dX7_film_1 rfl rfl ?_
  intro v1
  refine j_if_eq 27 7 dX7_film_4 (by decide) rfl ?_ ?_
  · refine j_bipush (v := -2) 29 dX7_film_27 rfl bc_m2 ?_
    exact j_iret dX7_film_29 rfl
  · refine j_aload_n 8 0 dX7_film_7 rfl rfl rfl ?_
    refine j_iload_n 9 2 dX7_film_8 rfl rfl rfl ?_
    refine j_callV_i (ci := 6) (As := [.int a2]) (st := []) 12 (okX7_isCell G x a0 a2) kc_X7_isCell kl_X7_177 ki_X7_isCell kv_X7_isCell kh_X7 (by decide) (fun _ h => rvX7_isCell h) ⟨rfl, rfl, Nat.le_of_ble_eq_true rfl, Nat.le_of_ble_eq_true rfl⟩ (Nat.le_of_ble_eq_true rfl) ⟨Nat.le_of_ble_eq_true rfl, Nat.le_of_ble_eq_true rfl⟩ rfl dX7_film_9 rfl rfl ?_
    intro v2
    refine j_if_eq 27 15 dX7_film_12 (by decide) rfl ?_ ?_
    · refine j_bipush (v := -2) 29 dX7_film_27 rfl bc_m2 ?_
      exact j_iret dX7_film_29 rfl
    · refine j_iload_n 16 3 dX7_film_15 rfl rfl rfl ?_
      refine j_i2l 17 dX7_film_16 rfl ?_
      refine j_lconst (v := 0) 18 dX7_film_17 rfl lc_0 ?_
      refine j_ldc2 21 kk_X7_301 dX7_film_18 rfl ?_
      refine j_callS_i (As := [.long (Int32.toInt64 a3), .long 0, .long 10]) (st := []) 24 (okX7_isIn G x (Int32.toInt64 a3) 0 10) kc_X7_isIn kl_X7_133 ks_X7_isIn ⟨rfl, rfl, Nat.le_of_ble_eq_true rfl, Nat.le_of_ble_eq_true rfl⟩ (Nat.le_of_ble_eq_true rfl) ⟨Nat.le_of_ble_eq_true rfl, Nat.le_of_ble_eq_true rfl⟩ rfl dX7_film_21 rfl rfl ?_
      intro v3
      refine j_if_ne 30 27 dX7_film_24 (by decide) rfl ?_ ?_
      · refine j_aload_n 31 0 dX7_film_30 rfl rfl rfl ?_
        refine j_callV_v (ci := 6) (As := []) (st := []) 34 (okX7_think G x a0) kc_X7_think kl_X7_232 ki_X7_think kv_X7_think kh_X7 (by decide) (fun _ h => rvX7_think h) ⟨rfl, rfl, Nat.le_of_ble_eq_true rfl, Nat.le_of_ble_eq_true rfl⟩ (Nat.le_of_ble_eq_true rfl) ⟨Nat.le_of_ble_eq_true rfl, Nat.le_of_ble_eq_true rfl⟩ rfl dX7_film_31 rfl rfl ?_
        intro q4
        refine j_iconst (v := 0) 35 dX7_film_34 rfl ic_0 ?_
        refine j_istore 37 [(4, .int 0), (0, .ref a0), (1, .int a1), (2, .int a2), (3, .int a3)] dX7_film_35 rfl (by decide) rfl ?_
        refine j_sub [1, 2, 3, 4, 0] rfl ?_
        exact okX7_film_L37 G fu a0 a1 a2 a3 0 q4
      · refine j_bipush (v := -2) 29 dX7_film_27 rfl bc_m2 ?_
        exact j_iret dX7_film_29 rfl
-- X7_drawn: ('BarStepsModel', 'drawn', '(II)J')
def X7_drawn_L32 : Nat → Nat → Int32 → Int32 → Int32 → Hs → Option (Int64 × Hs)
  | 0, _, _, _, _, _ => none
  | n + 1, l0, l2, l3, l4, x => (if l2 ≤ l4 then (X7_greatest l0 x).bind fun v4 =>
  (gL x 6 l0 14).bind fun v5 =>
  (J9_floorDiv_f86c9 v4 v5).bind fun v6 =>
  some (v6, x) else
  (gR x 6 l0 13).bind fun v7 =>
  (gI x 6 l0 0).bind fun v8 =>
  (o_irem ((Int32.toUInt32 ((l3 * 1103515245) + 12345) >>> (Int32.toUInt32 9 &&& Int32.toUInt32 31)).toInt32) v8).bind fun v9 =>
  (aL x v7 v9).bind fun v10 =>
  (o_irem ((Int32.toUInt32 ((l3 * 1103515245) + 12345) >>> (Int32.toUInt32 20 &&& Int32.toUInt32 31)).toInt32) 10).bind fun v11 =>
  (gL x 6 l0 14).bind fun v12 =>
  (wL x v7 v9 (v10 + ((Int32.toInt64 v11) * v12))).bind fun y13 =>
  (X7_goes l0 y13).bind fun q14 =>
  (if q14.1 = 0 then some ((-9223372036854775808), q14.2) else
  X7_drawn_L32 n l0 l2 ((l3 * 1103515245) + 12345) (l4 + 1) q14.2))
theorem okX7_drawn_L32 (G : JG) : ∀ (n : Nat), ∀ (l0 : Nat) (l2 : Int32) (l3 : Int32) (l4 : Int32) (x : Hs), JM G RX7 cX7_drawn 5 (jZ G (some .long) "drawn" (jR 8 0 0) 0 0) (fun r : Int64 × Hs => ((some (.long r.1), r.2) : JR)) 32 [(0, .ref l0), (2, .int l2), (3, .int l3), (4, .int l4)] [] x 0 0 (X7_drawn_L32 n l0 l2 l3 l4 x) := by
  intro n
  induction n with
  | zero => intro l0 l2 l3 l4 x; exact j_none
  | succ n ih =>
    intro l0 l2 l3 l4 x
    unfold X7_drawn_L32
    refine j_iload 34 3 dX7_drawn_32 rfl rfl ?_
    refine j_iload_n 35 1 dX7_drawn_34 rfl rfl rfl ?_
    refine j_icmp_ge 95 38 dX7_drawn_35 (by decide) rfl ?_ ?_
    · refine j_aload_n 96 0 dX7_drawn_95 rfl rfl rfl ?_
      refine j_callV_l (ci := 6) (As := []) (st := []) 99 (okX7_greatest G x l0) kc_X7_greatest kl_X7_270 ki_X7_greatest kv_X7_greatest kh_X7 (by decide) (fun _ h => rvX7_greatest h) ⟨rfl, rfl, Nat.le_of_ble_eq_true rfl, Nat.le_of_ble_eq_true rfl⟩ (Nat.le_of_ble_eq_true rfl) ⟨Nat.le_of_ble_eq_true rfl, Nat.le_of_ble_eq_true rfl⟩ rfl dX7_drawn_96 rfl rfl ?_
      intro v4
      refine j_aload_n 100 0 dX7_drawn_99 rfl rfl rfl ?_
      refine j_gL 103 kf_X7_207 dX7_drawn_100 rfl ?_
      intro v5
      refine j_callS_l (As := [.long v4, .long v5]) (st := []) 106 (okJ9_floorDiv_f86c9 G x v4 v5) kc_J9_floorDiv_f86c9 kl_X7_245 ks_J9_floorDiv_f86c9 ⟨rfl, rfl, Nat.le_of_ble_eq_true rfl, Nat.le_of_ble_eq_true rfl⟩ (Nat.le_of_ble_eq_true rfl) ⟨Nat.le_of_ble_eq_true rfl, Nat.le_of_ble_eq_true rfl⟩ rfl dX7_drawn_103 rfl rfl ?_
      intro v6
      exact j_lret dX7_drawn_106 rfl
    · refine j_iload_n 39 2 dX7_drawn_38 rfl rfl rfl ?_
      refine j_ldcw 42 kk_X7_305 dX7_drawn_39 rfl ?_
      refine j_imul 43 dX7_drawn_42 rfl ?_
      refine j_sipush (v := 12345) 46 dX7_drawn_43 rfl sc_12345 ?_
      refine j_iadd 47 dX7_drawn_46 rfl ?_
      refine j_istore_n 48 [(3, .int ((l3 * 1103515245) + 12345)), (0, .ref l0), (2, .int l2), (4, .int l4)] dX7_drawn_47 rfl rfl (by decide) rfl ?_
      refine j_aload_n 49 1 dX7_drawn_48 rfl rfl rfl ?_
      refine j_gR 52 kf_X7_47 dX7_drawn_49 rfl ?_
      intro v7
      refine j_iload_n 53 0 dX7_drawn_52 rfl rfl rfl ?_
      refine j_bipush (v := 9) 55 dX7_drawn_53 rfl bc_9 ?_
      refine j_iushr 56 dX7_drawn_55 rfl ?_
      refine j_aload_n 57 1 dX7_drawn_56 rfl rfl rfl ?_
      refine j_gI 60 kf_X7_129 dX7_drawn_57 rfl ?_
      intro v8
      refine j_irem 61 dX7_drawn_60 rfl ?_
      intro v9
      refine j_dup2_11 62 dX7_drawn_61 rfl rfl rfl ?_
      refine j_aL 63 dX7_drawn_62 rfl ?_
      intro v10
      refine j_iload_n 64 0 dX7_drawn_63 rfl rfl rfl ?_
      refine j_bipush (v := 20) 66 dX7_drawn_64 rfl bc_20 ?_
      refine j_iushr 67 dX7_drawn_66 rfl ?_
      refine j_bipush (v := 10) 69 dX7_drawn_67 rfl bc_10 ?_
      refine j_irem 70 dX7_drawn_69 rfl ?_
      intro v11
      refine j_i2l 71 dX7_drawn_70 rfl ?_
      refine j_aload_n 72 1 dX7_drawn_71 rfl rfl rfl ?_
      refine j_gL 75 kf_X7_207 dX7_drawn_72 rfl ?_
      intro v12
      refine j_lmul 76 dX7_drawn_75 rfl ?_
      refine j_ladd 77 dX7_drawn_76 rfl ?_
      refine j_wL 78 dX7_drawn_77 rfl ?_
      intro y13
      refine j_aload_n 79 1 dX7_drawn_78 rfl rfl rfl ?_
      refine j_callV_iw (ci := 6) (As := []) (st := []) 82 (okX7_goes G y13 l0) kc_X7_goes kl_X7_235 ki_X7_goes kv_X7_goes kh_X7 (by decide) (fun _ h => rvX7_goes h) ⟨rfl, rfl, Nat.le_of_ble_eq_true rfl, Nat.le_of_ble_eq_true rfl⟩ (Nat.le_of_ble_eq_true rfl) ⟨Nat.le_of_ble_eq_true rfl, Nat.le_of_ble_eq_true rfl⟩ rfl dX7_drawn_79 rfl rfl ?_
      intro q14
      refine j_if_ne 89 85 dX7_drawn_82 (by decide) rfl ?_ ?_
      · refine j_iinc 92 3 [(4, .int (l4 + 1)), (3, .int ((l3 * 1103515245) + 12345)), (0, .ref l0), (2, .int l2)] dX7_drawn_89 rfl rfl (ii_1 _) (by decide) rfl ?_
        refine j_goto 32 dX7_drawn_92 (by decide) ?_
        refine j_sub [2, 3, 1, 0] rfl ?_
        exact ih l0 l2 ((l3 * 1103515245) + 12345) (l4 + 1) q14.2
      · refine j_ldc2 88 kk_X7_256 dX7_drawn_85 rfl ?_
        exact j_lret dX7_drawn_88 rfl
def X7_drawn (a0 : Nat) (a1 : Int32) (a2 : Int32) (x : Hs) : Option (Int64 × Hs) := (vO x 6 a0).bind fun _ =>
  (X7_isIn (Int32.toInt64 a2) 0 20).bind fun v1 =>
  (if v1 = 0 then some ((-9223372036854775808), x) else
  (gI x 6 a0 0).bind fun v2 =>
  (if v2 = 0 then some ((-9223372036854775808), x) else
  (X7_think a0 x).bind fun q3 =>
  X7_drawn_L32 fu a0 a2 a1 0 q3))
theorem rvX7_drawn {a0 : Nat} {a1 : Int32} {a2 : Int32} {x : Hs} {r : Int64 × Hs} (h : X7_drawn a0 a1 a2 x = some r) : ∃ fs, x.1 a0 = .inr (6, fs) := vO_bind h
theorem okX7_drawn (G : JG) (x : Hs) (a0 : Nat) (a1 : Int32) (a2 : Int32) : ∀ r, X7_drawn a0 a1 a2 x = some r → JC G yX7_drawn cX7_drawn 5 (some .long) (jR 8 0 0) 0 0 [.ref a0, .int a1, .int a2] x ((some (.long r.1), r.2)) := by
  refine jc_of (own := RX7) (E := (fun r : Int64 × Hs => ((some (.long r.1), r.2) : JR))) (by decide) rfl rfl (Nat.le_of_ble_eq_true rfl) rfl ?_
  unfold X7_drawn
  refine j_chk ?_
  refine j_iload_n 1 2 dX7_drawn_0 rfl rfl rfl ?_
  refine j_i2l 2 dX7_drawn_1 rfl ?_
  refine j_lconst (v := 0) 3 dX7_drawn_2 rfl lc_0 ?_
  refine j_ldc2 6 kk_X7_199 dX7_drawn_3 rfl ?_
  refine j_callS_i (As := [.long (Int32.toInt64 a2), .long 0, .long 20]) (st := []) 9 (okX7_isIn G x (Int32.toInt64 a2) 0 20) kc_X7_isIn kl_X7_133 ks_X7_isIn ⟨rfl, rfl, Nat.le_of_ble_eq_true rfl, Nat.le_of_ble_eq_true rfl⟩ (Nat.le_of_ble_eq_true rfl) ⟨Nat.le_of_ble_eq_true rfl, Nat.le_of_ble_eq_true rfl⟩ rfl dX7_drawn_6 rfl rfl ?_
  intro v1
  refine j_if_eq 19 12 dX7_drawn_9 (by decide) rfl ?_ ?_
  · refine j_ldc2 22 kk_X7_256 dX7_drawn_19 rfl ?_
    exact j_lret dX7_drawn_22 rfl
  · refine j_aload_n 13 0 dX7_drawn_12 rfl rfl rfl ?_
    refine j_gI 16 kf_X7_129 dX7_drawn_13 rfl ?_
    intro v2
    refine j_if_ne 23 19 dX7_drawn_16 (by decide) rfl ?_ ?_
    · refine j_aload_n 24 0 dX7_drawn_23 rfl rfl rfl ?_
      refine j_callV_v (ci := 6) (As := []) (st := []) 27 (okX7_think G x a0) kc_X7_think kl_X7_232 ki_X7_think kv_X7_think kh_X7 (by decide) (fun _ h => rvX7_think h) ⟨rfl, rfl, Nat.le_of_ble_eq_true rfl, Nat.le_of_ble_eq_true rfl⟩ (Nat.le_of_ble_eq_true rfl) ⟨Nat.le_of_ble_eq_true rfl, Nat.le_of_ble_eq_true rfl⟩ rfl dX7_drawn_24 rfl rfl ?_
      intro q3
      refine j_iload_n 28 1 dX7_drawn_27 rfl rfl rfl ?_
      refine j_istore_n 29 [(3, .int a1), (0, .ref a0), (1, .int a1), (2, .int a2)] dX7_drawn_28 rfl rfl (by decide) rfl ?_
      refine j_iconst (v := 0) 30 dX7_drawn_29 rfl ic_0 ?_
      refine j_istore 32 [(4, .int 0), (3, .int a1), (0, .ref a0), (1, .int a1), (2, .int a2)] dX7_drawn_30 rfl (by decide) rfl ?_
      refine j_sub [2, 4, 1, 0] rfl ?_
      exact okX7_drawn_L32 G fu a0 a2 a1 0 q3
    · refine j_ldc2 22 kk_X7_256 dX7_drawn_19 rfl ?_
      exact j_lret dX7_drawn_22 rfl
-- X7_feed: ('BarStepsModel', 'feed', '(IIIIII)I')
def X7_feed_J164 (r107 : Nat → Int32 → Int32 → Int32 → Int32 → Int32 → Int32 → Int32 → Hs → Option (Int32 × Hs)) (l0 : Nat) (l1 : Int32) (l2 : Int32) (l3 : Int32) (l4 : Int32) (l5 : Int32) (l6 : Int32) (l8 : Int32) (s0 : Int32) (s1 : Int32) (s2 : Nat) (x : Hs) : Option (Int32 × Hs) := (wI x s2 s1 s0).bind fun y7 =>
  (gI y7 6 l0 29).bind fun v8 =>
  (pV y7 6 l0 29 (.int (v8 + 1))).bind fun y9 =>
  r107 l0 l1 l2 l3 l4 l5 l6 (l8 + 1) y9
theorem okX7_feed_J164 (G : JG) (r107 : Nat → Int32 → Int32 → Int32 → Int32 → Int32 → Int32 → Int32 → Hs → Option (Int32 × Hs)) (hr107 : ∀ (l0 : Nat) (l1 : Int32) (l2 : Int32) (l3 : Int32) (l4 : Int32) (l5 : Int32) (l6 : Int32) (l8 : Int32) (x : Hs), JM G RX7 cX7_feed 9 (jZ G (some .int) "feed" (jR 2 0 0) 0 0) (fun r : Int32 × Hs => ((some (.int r.1), r.2) : JR)) 107 [(0, .ref l0), (1, .int l1), (2, .int l2), (3, .int l3), (4, .int l4), (5, .int l5), (6, .int l6), (8, .int l8)] [] x 0 0 (r107 l0 l1 l2 l3 l4 l5 l6 l8 x)) : ∀ (l0 : Nat) (l1 : Int32) (l2 : Int32) (l3 : Int32) (l4 : Int32) (l5 : Int32) (l6 : Int32) (l8 : Int32) (s0 : Int32) (s1 : Int32) (s2 : Nat) (x : Hs), JM G RX7 cX7_feed 9 (jZ G (some .int) "feed" (jR 2 0 0) 0 0) (fun r : Int32 × Hs => ((some (.int r.1), r.2) : JR)) 164 [(0, .ref l0), (1, .int l1), (2, .int l2), (3, .int l3), (4, .int l4), (5, .int l5), (6, .int l6), (8, .int l8)] [.int s0, .int s1, .ref s2] x 0 0 (X7_feed_J164 r107 l0 l1 l2 l3 l4 l5 l6 l8 s0 s1 s2 x) := by
  intro l0 l1 l2 l3 l4 l5 l6 l8 s0 s1 s2 x
  unfold X7_feed_J164
  refine j_wI 165 dX7_feed_164 rfl ?_
  intro y7
  refine j_aload_n 166 0 dX7_feed_165 rfl rfl rfl ?_
  refine j_dup 167 dX7_feed_166 rfl rfl ?_
  refine j_gI 170 kf_X7_308 dX7_feed_167 rfl ?_
  intro v8
  refine j_iconst (v := 1) 171 dX7_feed_170 rfl ic_1 ?_
  refine j_iadd 172 dX7_feed_171 rfl ?_
  refine j_put 175 kf_X7_308 dX7_feed_172 rfl rfl rfl ?_
  intro y9
  refine j_iinc 178 7 [(8, .int (l8 + 1)), (0, .ref l0), (1, .int l1), (2, .int l2), (3, .int l3), (4, .int l4), (5, .int l5), (6, .int l6)] dX7_feed_175 rfl rfl (ii_1 _) (by decide) rfl ?_
  refine j_goto 107 dX7_feed_178 (by decide) ?_
  refine j_sub [1, 2, 3, 4, 5, 6, 7, 0] rfl ?_
  exact hr107 l0 l1 l2 l3 l4 l5 l6 (l8 + 1) y9
def X7_feed_L107 : Nat → Nat → Int32 → Int32 → Int32 → Int32 → Int32 → Int32 → Int32 → Hs → Option (Int32 × Hs)
  | 0, _, _, _, _, _, _, _, _, _ => none
  | n + 1, l0, l1, l2, l3, l4, l5, l6, l8, x => (if l1 ≤ l8 then (gI x 6 l0 29).bind fun v4 =>
  some (v4, x) else
  (gR x 6 l0 28).bind fun v5 =>
  (gI x 6 l0 29).bind fun v6 =>
  (if l8 = 0 then X7_feed_J164 (fun l0 l1 l2 l3 l4 l5 l6 l8 x => X7_feed_L107 n l0 l1 l2 l3 l4 l5 l6 l8 x) l0 l1 l2 l3 l4 l5 l6 l8 l2 v6 v5 x else
  (if l8 = 1 then X7_feed_J164 (fun l0 l1 l2 l3 l4 l5 l6 l8 x => X7_feed_L107 n l0 l1 l2 l3 l4 l5 l6 l8 x) l0 l1 l2 l3 l4 l5 l6 l8 l3 v6 v5 x else
  (if l8 = 2 then X7_feed_J164 (fun l0 l1 l2 l3 l4 l5 l6 l8 x => X7_feed_L107 n l0 l1 l2 l3 l4 l5 l6 l8 x) l0 l1 l2 l3 l4 l5 l6 l8 l4 v6 v5 x else
  (if l8 = 3 then X7_feed_J164 (fun l0 l1 l2 l3 l4 l5 l6 l8 x => X7_feed_L107 n l0 l1 l2 l3 l4 l5 l6 l8 x) l0 l1 l2 l3 l4 l5 l6 l8 l5 v6 v5 x else
  X7_feed_J164 (fun l0 l1 l2 l3 l4 l5 l6 l8 x => X7_feed_L107 n l0 l1 l2 l3 l4 l5 l6 l8 x) l0 l1 l2 l3 l4 l5 l6 l8 l6 v6 v5 x)))))
theorem okX7_feed_L107 (G : JG) : ∀ (n : Nat), ∀ (l0 : Nat) (l1 : Int32) (l2 : Int32) (l3 : Int32) (l4 : Int32) (l5 : Int32) (l6 : Int32) (l8 : Int32) (x : Hs), JM G RX7 cX7_feed 9 (jZ G (some .int) "feed" (jR 2 0 0) 0 0) (fun r : Int32 × Hs => ((some (.int r.1), r.2) : JR)) 107 [(0, .ref l0), (1, .int l1), (2, .int l2), (3, .int l3), (4, .int l4), (5, .int l5), (6, .int l6), (8, .int l8)] [] x 0 0 (X7_feed_L107 n l0 l1 l2 l3 l4 l5 l6 l8 x) := by
  intro n
  induction n with
  | zero => intro l0 l1 l2 l3 l4 l5 l6 l8 x; exact j_none
  | succ n ih =>
    intro l0 l1 l2 l3 l4 l5 l6 l8 x
    unfold X7_feed_L107
    refine j_iload 109 7 dX7_feed_107 rfl rfl ?_
    refine j_iload_n 110 1 dX7_feed_109 rfl rfl rfl ?_
    refine j_icmp_ge 181 113 dX7_feed_110 (by decide) rfl ?_ ?_
    · refine j_aload_n 182 0 dX7_feed_181 rfl rfl rfl ?_
      refine j_gI 185 kf_X7_308 dX7_feed_182 rfl ?_
      intro v4
      exact j_iret dX7_feed_185 rfl
    · refine j_aload_n 114 0 dX7_feed_113 rfl rfl rfl ?_
      refine j_gR 117 kf_X7_81 dX7_feed_114 rfl ?_
      intro v5
      refine j_aload_n 118 0 dX7_feed_117 rfl rfl rfl ?_
      refine j_gI 121 kf_X7_308 dX7_feed_118 rfl ?_
      intro v6
      refine j_iload 123 7 dX7_feed_121 rfl rfl ?_
      refine j_if_ne 130 126 dX7_feed_123 (by decide) rfl ?_ ?_
      · refine j_iload 132 7 dX7_feed_130 rfl rfl ?_
        refine j_iconst (v := 1) 133 dX7_feed_132 rfl ic_1 ?_
        refine j_icmp_ne 140 136 dX7_feed_133 (by decide) rfl ?_ ?_
        · refine j_iload 142 7 dX7_feed_140 rfl rfl ?_
          refine j_iconst (v := 2) 143 dX7_feed_142 rfl ic_2 ?_
          refine j_icmp_ne 151 146 dX7_feed_143 (by decide) rfl ?_ ?_
          · refine j_iload 153 7 dX7_feed_151 rfl rfl ?_
            refine j_iconst (v := 3) 154 dX7_feed_153 rfl ic_3 ?_
            refine j_icmp_ne 162 157 dX7_feed_154 (by decide) rfl ?_ ?_
            · refine j_iload 164 6 dX7_feed_162 rfl rfl ?_
              exact okX7_feed_J164 G (fun l0 l1 l2 l3 l4 l5 l6 l8 x => X7_feed_L107 n l0 l1 l2 l3 l4 l5 l6 l8 x) ih l0 l1 l2 l3 l4 l5 l6 l8 l6 v6 v5 x
            · refine j_iload 159 5 dX7_feed_157 rfl rfl ?_
              refine j_goto 164 dX7_feed_159 (by decide) ?_
              exact okX7_feed_J164 G (fun l0 l1 l2 l3 l4 l5 l6 l8 x => X7_feed_L107 n l0 l1 l2 l3 l4 l5 l6 l8 x) ih l0 l1 l2 l3 l4 l5 l6 l8 l5 v6 v5 x
          · refine j_iload 148 4 dX7_feed_146 rfl rfl ?_
            refine j_goto 164 dX7_feed_148 (by decide) ?_
            exact okX7_feed_J164 G (fun l0 l1 l2 l3 l4 l5 l6 l8 x => X7_feed_L107 n l0 l1 l2 l3 l4 l5 l6 l8 x) ih l0 l1 l2 l3 l4 l5 l6 l8 l4 v6 v5 x
        · refine j_iload_n 137 3 dX7_feed_136 rfl rfl rfl ?_
          refine j_goto 164 dX7_feed_137 (by decide) ?_
          exact okX7_feed_J164 G (fun l0 l1 l2 l3 l4 l5 l6 l8 x => X7_feed_L107 n l0 l1 l2 l3 l4 l5 l6 l8 x) ih l0 l1 l2 l3 l4 l5 l6 l8 l3 v6 v5 x
      · refine j_iload_n 127 2 dX7_feed_126 rfl rfl rfl ?_
        refine j_goto 164 dX7_feed_127 (by decide) ?_
        exact okX7_feed_J164 G (fun l0 l1 l2 l3 l4 l5 l6 l8 x => X7_feed_L107 n l0 l1 l2 l3 l4 l5 l6 l8 x) ih l0 l1 l2 l3 l4 l5 l6 l8 l2 v6 v5 x
def X7_feed_J68 (l0 : Nat) (l1 : Int32) (l2 : Int32) (l3 : Int32) (l4 : Int32) (l5 : Int32) (l6 : Int32) (s0 : Int32) (x : Hs) : Option (Int32 × Hs) := (X7_isIn (Int32.toInt64 l1) 1 5).bind fun v2 =>
  (if v2 = 0 then some ((-2), x) else
  (if s0 = 0 then some ((-2), x) else
  (gI x 6 l0 29).bind fun v3 =>
  (if (v3 + l1) ≤ 60 then X7_feed_L107 fu l0 l1 l2 l3 l4 l5 l6 0 x else
  some ((-4), x))))
theorem okX7_feed_J68 (G : JG) : ∀ (l0 : Nat) (l1 : Int32) (l2 : Int32) (l3 : Int32) (l4 : Int32) (l5 : Int32) (l6 : Int32) (s0 : Int32) (x : Hs), JM G RX7 cX7_feed 9 (jZ G (some .int) "feed" (jR 2 0 0) 0 0) (fun r : Int32 × Hs => ((some (.int r.1), r.2) : JR)) 68 [(0, .ref l0), (1, .int l1), (2, .int l2), (3, .int l3), (4, .int l4), (5, .int l5), (6, .int l6)] [.int s0] x 0 0 (X7_feed_J68 l0 l1 l2 l3 l4 l5 l6 s0 x) := by
  intro l0 l1 l2 l3 l4 l5 l6 s0 x
  unfold X7_feed_J68
  refine j_istore 70 [(7, .int s0), (0, .ref l0), (1, .int l1), (2, .int l2), (3, .int l3), (4, .int l4), (5, .int l5), (6, .int l6)] dX7_feed_68 rfl (by decide) rfl ?_
  refine j_iload_n 71 2 dX7_feed_70 rfl rfl rfl ?_
  refine j_i2l 72 dX7_feed_71 rfl ?_
  refine j_lconst (v := 1) 73 dX7_feed_72 rfl lc_1 ?_
  refine j_ldc2 76 kk_X7_159 dX7_feed_73 rfl ?_
  refine j_callS_i (As := [.long (Int32.toInt64 l1), .long 1, .long 5]) (st := []) 79 (okX7_isIn G x (Int32.toInt64 l1) 1 5) kc_X7_isIn kl_X7_133 ks_X7_isIn ⟨rfl, rfl, Nat.le_of_ble_eq_true rfl, Nat.le_of_ble_eq_true rfl⟩ (Nat.le_of_ble_eq_true rfl) ⟨Nat.le_of_ble_eq_true rfl, Nat.le_of_ble_eq_true rfl⟩ rfl dX7_feed_76 rfl rfl ?_
  intro v2
  refine j_if_eq 87 82 dX7_feed_79 (by decide) rfl ?_ ?_
  · refine j_bipush (v := -2) 89 dX7_feed_87 rfl bc_m2 ?_
    exact j_iret dX7_feed_89 rfl
  · refine j_iload 84 0 dX7_feed_82 rfl rfl ?_
    refine j_if_ne 90 87 dX7_feed_84 (by decide) rfl ?_ ?_
    · refine j_aload_n 91 1 dX7_feed_90 rfl rfl rfl ?_
      refine j_gI 94 kf_X7_308 dX7_feed_91 rfl ?_
      intro v3
      refine j_iload_n 95 2 dX7_feed_94 rfl rfl rfl ?_
      refine j_iadd 96 dX7_feed_95 rfl ?_
      refine j_bipush (v := 60) 98 dX7_feed_96 rfl bc_60 ?_
      refine j_icmp_le 104 101 dX7_feed_98 (by decide) rfl ?_ ?_
      · refine j_iconst (v := 0) 105 dX7_feed_104 rfl ic_0 ?_
        refine j_istore 107 [(8, .int 0), (7, .int s0), (0, .ref l0), (1, .int l1), (2, .int l2), (3, .int l3), (4, .int l4), (5, .int l5), (6, .int l6)] dX7_feed_105 rfl (by decide) rfl ?_
        refine j_sub [2, 3, 4, 5, 6, 7, 8, 0] rfl ?_
        exact okX7_feed_L107 G fu l0 l1 l2 l3 l4 l5 l6 0 x
      · refine j_bipush (v := -4) 103 dX7_feed_101 rfl bc_m4 ?_
        exact j_iret dX7_feed_103 rfl
    · refine j_bipush (v := -2) 89 dX7_feed_87 rfl bc_m2 ?_
      exact j_iret dX7_feed_89 rfl
def X7_feed (a0 : Nat) (a1 : Int32) (a2 : Int32) (a3 : Int32) (a4 : Int32) (a5 : Int32) (a6 : Int32) (x : Hs) : Option (Int32 × Hs) := (vO x 6 a0).bind fun _ =>
  (X7_isIn (Int32.toInt64 a2) 0 255).bind fun v1 =>
  (if v1 = 0 then X7_feed_J68 a0 a1 a2 a3 a4 a5 a6 0 x else
  (X7_isIn (Int32.toInt64 a3) 0 255).bind fun v10 =>
  (if v10 = 0 then X7_feed_J68 a0 a1 a2 a3 a4 a5 a6 0 x else
  (X7_isIn (Int32.toInt64 a4) 0 255).bind fun v11 =>
  (if v11 = 0 then X7_feed_J68 a0 a1 a2 a3 a4 a5 a6 0 x else
  (X7_isIn (Int32.toInt64 a5) 0 255).bind fun v12 =>
  (if v12 = 0 then X7_feed_J68 a0 a1 a2 a3 a4 a5 a6 0 x else
  (X7_isIn (Int32.toInt64 a6) 0 255).bind fun v13 =>
  (if v13 = 0 then X7_feed_J68 a0 a1 a2 a3 a4 a5 a6 0 x else
  X7_feed_J68 a0 a1 a2 a3 a4 a5 a6 1 x)))))
theorem rvX7_feed {a0 : Nat} {a1 : Int32} {a2 : Int32} {a3 : Int32} {a4 : Int32} {a5 : Int32} {a6 : Int32} {x : Hs} {r : Int32 × Hs} (h : X7_feed a0 a1 a2 a3 a4 a5 a6 x = some r) : ∃ fs, x.1 a0 = .inr (6, fs) := vO_bind h
theorem okX7_feed (G : JG) (x : Hs) (a0 : Nat) (a1 : Int32) (a2 : Int32) (a3 : Int32) (a4 : Int32) (a5 : Int32) (a6 : Int32) : ∀ r, X7_feed a0 a1 a2 a3 a4 a5 a6 x = some r → JC G yX7_feed cX7_feed 9 (some .int) (jR 2 0 0) 0 0 [.ref a0, .int a1, .int a2, .int a3, .int a4, .int a5, .int a6] x ((some (.int r.1), r.2)) := by
  refine jc_of (own := RX7) (E := (fun r : Int32 × Hs => ((some (.int r.1), r.2) : JR))) (by decide) rfl rfl (Nat.le_of_ble_eq_true rfl) rfl ?_
  unfold X7_feed
  refine j_chk ?_
  refine j_iload_n 1 2 dX7_feed_0 rfl rfl rfl ?_
  refine j_i2l 2 dX7_feed_1 rfl ?_
  refine j_lconst (v := 0) 3 dX7_feed_2 rfl lc_0 ?_
  refine j_ldc2 6 kk_X7_306 dX7_feed_3 rfl ?_
  refine j_callS_i (As := [.long (Int32.toInt64 a2), .long 0, .long 255]) (st := []) 9 (okX7_isIn G x (Int32.toInt64 a2) 0 255) kc_X7_isIn kl_X7_133 ks_X7_isIn ⟨rfl, rfl, Nat.le_of_ble_eq_true rfl, Nat.le_of_ble_eq_true rfl⟩ (Nat.le_of_ble_eq_true rfl) ⟨Nat.le_of_ble_eq_true rfl, Nat.le_of_ble_eq_true rfl⟩ rfl dX7_feed_6 rfl rfl ?_
  intro v1
  refine j_if_eq 67 12 dX7_feed_9 (by decide) rfl ?_ ?_
  · refine j_iconst (v := 0) 68 dX7_feed_67 rfl ic_0 ?_
    exact okX7_feed_J68 G a0 a1 a2 a3 a4 a5 a6 0 x
  · refine j_iload_n 13 3 dX7_feed_12 rfl rfl rfl ?_
    refine j_i2l 14 dX7_feed_13 rfl ?_
    refine j_lconst (v := 0) 15 dX7_feed_14 rfl lc_0 ?_
    refine j_ldc2 18 kk_X7_306 dX7_feed_15 rfl ?_
    refine j_callS_i (As := [.long (Int32.toInt64 a3), .long 0, .long 255]) (st := []) 21 (okX7_isIn G x (Int32.toInt64 a3) 0 255) kc_X7_isIn kl_X7_133 ks_X7_isIn ⟨rfl, rfl, Nat.le_of_ble_eq_true rfl, Nat.le_of_ble_eq_true rfl⟩ (Nat.le_of_ble_eq_true rfl) ⟨Nat.le_of_ble_eq_true rfl, Nat.le_of_ble_eq_true rfl⟩ rfl dX7_feed_18 rfl rfl ?_
    intro v10
    refine j_if_eq 67 24 dX7_feed_21 (by decide) rfl ?_ ?_
    · refine j_iconst (v := 0) 68 dX7_feed_67 rfl ic_0 ?_
      exact okX7_feed_J68 G a0 a1 a2 a3 a4 a5 a6 0 x
    · refine j_iload 26 4 dX7_feed_24 rfl rfl ?_
      refine j_i2l 27 dX7_feed_26 rfl ?_
      refine j_lconst (v := 0) 28 dX7_feed_27 rfl lc_0 ?_
      refine j_ldc2 31 kk_X7_306 dX7_feed_28 rfl ?_
      refine j_callS_i (As := [.long (Int32.toInt64 a4), .long 0, .long 255]) (st := []) 34 (okX7_isIn G x (Int32.toInt64 a4) 0 255) kc_X7_isIn kl_X7_133 ks_X7_isIn ⟨rfl, rfl, Nat.le_of_ble_eq_true rfl, Nat.le_of_ble_eq_true rfl⟩ (Nat.le_of_ble_eq_true rfl) ⟨Nat.le_of_ble_eq_true rfl, Nat.le_of_ble_eq_true rfl⟩ rfl dX7_feed_31 rfl rfl ?_
      intro v11
      refine j_if_eq 67 37 dX7_feed_34 (by decide) rfl ?_ ?_
      · refine j_iconst (v := 0) 68 dX7_feed_67 rfl ic_0 ?_
        exact okX7_feed_J68 G a0 a1 a2 a3 a4 a5 a6 0 x
      · refine j_iload 39 5 dX7_feed_37 rfl rfl ?_
        refine j_i2l 40 dX7_feed_39 rfl ?_
        refine j_lconst (v := 0) 41 dX7_feed_40 rfl lc_0 ?_
        refine j_ldc2 44 kk_X7_306 dX7_feed_41 rfl ?_
        refine j_callS_i (As := [.long (Int32.toInt64 a5), .long 0, .long 255]) (st := []) 47 (okX7_isIn G x (Int32.toInt64 a5) 0 255) kc_X7_isIn kl_X7_133 ks_X7_isIn ⟨rfl, rfl, Nat.le_of_ble_eq_true rfl, Nat.le_of_ble_eq_true rfl⟩ (Nat.le_of_ble_eq_true rfl) ⟨Nat.le_of_ble_eq_true rfl, Nat.le_of_ble_eq_true rfl⟩ rfl dX7_feed_44 rfl rfl ?_
        intro v12
        refine j_if_eq 67 50 dX7_feed_47 (by decide) rfl ?_ ?_
        · refine j_iconst (v := 0) 68 dX7_feed_67 rfl ic_0 ?_
          exact okX7_feed_J68 G a0 a1 a2 a3 a4 a5 a6 0 x
        · refine j_iload 52 6 dX7_feed_50 rfl rfl ?_
          refine j_i2l 53 dX7_feed_52 rfl ?_
          refine j_lconst (v := 0) 54 dX7_feed_53 rfl lc_0 ?_
          refine j_ldc2 57 kk_X7_306 dX7_feed_54 rfl ?_
          refine j_callS_i (As := [.long (Int32.toInt64 a6), .long 0, .long 255]) (st := []) 60 (okX7_isIn G x (Int32.toInt64 a6) 0 255) kc_X7_isIn kl_X7_133 ks_X7_isIn ⟨rfl, rfl, Nat.le_of_ble_eq_true rfl, Nat.le_of_ble_eq_true rfl⟩ (Nat.le_of_ble_eq_true rfl) ⟨Nat.le_of_ble_eq_true rfl, Nat.le_of_ble_eq_true rfl⟩ rfl dX7_feed_57 rfl rfl ?_
          intro v13
          refine j_if_eq 67 63 dX7_feed_60 (by decide) rfl ?_ ?_
          · refine j_iconst (v := 0) 68 dX7_feed_67 rfl ic_0 ?_
            exact okX7_feed_J68 G a0 a1 a2 a3 a4 a5 a6 0 x
          · refine j_iconst (v := 1) 64 dX7_feed_63 rfl ic_1 ?_
            refine j_goto 68 dX7_feed_64 (by decide) ?_
            exact okX7_feed_J68 G a0 a1 a2 a3 a4 a5 a6 1 x
