/-! Each method as a pure term, and the machine's rows. Written by wip/whole/decomp.py. -/
-- X7_isJoint: ('BarStepsModel', 'isJoint', '(I)Z')
def X7_isJoint (a0 : Nat) (a1 : Int32) (x : Hs) : Option (Int32) := (vO x 6 a0).bind fun _ =>
  (gI x 6 a0 0).bind fun v1 =>
  (if v1 ≤ 0 then (zb 0).bind fun v2 => some v2 else
  (gI x 6 a0 0).bind fun v3 =>
  (X7_isIn (Int32.toInt64 a1) (-1) (Int32.toInt64 (v3 - 1))).bind fun v4 =>
  (if v4 = 0 then (zb 0).bind fun v5 => some v5 else
  (zb 1).bind fun v6 => some v6))
theorem rvX7_isJoint {a0 : Nat} {a1 : Int32} {x : Hs} {r : Int32} (h : X7_isJoint a0 a1 x = some r) : ∃ fs, x.1 a0 = .inr (6, fs) := vO_bind h
theorem okX7_isJoint (G : JG) (x : Hs) (a0 : Nat) (a1 : Int32) : ∀ r, X7_isJoint a0 a1 x = some r → JC G yX7_isJoint cX7_isJoint 2 (some .boolean) (jR 2 0 0) 0 0 [.ref a0, .int a1] x ((some (.int r), x)) := by
  refine jc_of (own := RX7) (E := (fun r : Int32 => ((some (.int r), x) : JR))) (by decide) rfl rfl (Nat.le_of_ble_eq_true rfl) rfl ?_
  unfold X7_isJoint
  refine j_chk ?_
  refine j_aload_n 1 0 dX7_isJoint_0 rfl rfl rfl ?_
  refine j_gI 4 kf_X7_129 dX7_isJoint_1 rfl ?_
  intro v1
  refine j_if_le 29 7 dX7_isJoint_4 (by decide) rfl ?_ ?_
  · refine j_iconst (v := 0) 30 dX7_isJoint_29 rfl ic_0 ?_
    exact j_zret dX7_isJoint_30 (fun _ => rfl)
  · refine j_iload_n 8 1 dX7_isJoint_7 rfl rfl rfl ?_
    refine j_i2l 9 dX7_isJoint_8 rfl ?_
    refine j_ldc2 12 kk_X7_197 dX7_isJoint_9 rfl ?_
    refine j_aload_n 13 0 dX7_isJoint_12 rfl rfl rfl ?_
    refine j_gI 16 kf_X7_129 dX7_isJoint_13 rfl ?_
    intro v3
    refine j_iconst (v := 1) 17 dX7_isJoint_16 rfl ic_1 ?_
    refine j_isub 18 dX7_isJoint_17 rfl ?_
    refine j_i2l 19 dX7_isJoint_18 rfl ?_
    refine j_callS_i (As := [.long (Int32.toInt64 a1), .long (-1), .long (Int32.toInt64 (v3 - 1))]) (st := []) 22 (okX7_isIn G x (Int32.toInt64 a1) (-1) (Int32.toInt64 (v3 - 1))) kc_X7_isIn kl_X7_133 ks_X7_isIn ⟨rfl, rfl, Nat.le_of_ble_eq_true rfl, Nat.le_of_ble_eq_true rfl⟩ (Nat.le_of_ble_eq_true rfl) ⟨Nat.le_of_ble_eq_true rfl, Nat.le_of_ble_eq_true rfl⟩ rfl dX7_isJoint_19 rfl rfl ?_
    intro v4
    refine j_if_eq 29 25 dX7_isJoint_22 (by decide) rfl ?_ ?_
    · refine j_iconst (v := 0) 30 dX7_isJoint_29 rfl ic_0 ?_
      exact j_zret dX7_isJoint_30 (fun _ => rfl)
    · refine j_iconst (v := 1) 26 dX7_isJoint_25 rfl ic_1 ?_
      refine j_goto 30 dX7_isJoint_26 (by decide) ?_
      exact j_zret dX7_isJoint_30 (fun _ => rfl)
-- X7_leads: ('BarStepsModel', 'leads', '(I)I')
def X7_leads (a0 : Nat) (a1 : Int32) (x : Hs) : Option (Int32) := (vO x 6 a0).bind fun _ =>
  (if a1 = (-1) then (gR x 6 a0 7).bind fun v8 =>
  (aI x v8 0).bind fun v9 =>
  (if v9 = (-1) then some 0 else
  (X7_side a0 0 x).bind fun v10 =>
  some v10) else
  (gI x 6 a0 0).bind fun v1 =>
  (if a1 = (v1 - 1) then (gR x 6 a0 7).bind fun v5 =>
  (aI x v5 1).bind fun v6 =>
  (if v6 = (-1) then some 0 else
  (X7_side a0 a1 x).bind fun v7 =>
  some v7) else
  (X7_side a0 a1 x).bind fun v2 =>
  (X7_side a0 (a1 + 1) x).bind fun v3 =>
  (J9_min_7cf53 v2 v3).bind fun v4 =>
  some v4))
theorem rvX7_leads {a0 : Nat} {a1 : Int32} {x : Hs} {r : Int32} (h : X7_leads a0 a1 x = some r) : ∃ fs, x.1 a0 = .inr (6, fs) := vO_bind h
theorem okX7_leads (G : JG) (x : Hs) (a0 : Nat) (a1 : Int32) : ∀ r, X7_leads a0 a1 x = some r → JC G yX7_leads cX7_leads 2 (some .int) (jR 3 0 0) 0 0 [.ref a0, .int a1] x ((some (.int r), x)) := by
  refine jc_of (own := RX7) (E := (fun r : Int32 => ((some (.int r), x) : JR))) (by decide) rfl rfl (Nat.le_of_ble_eq_true rfl) rfl ?_
  unfold X7_leads
  refine j_chk ?_
  refine j_iload_n 1 1 dX7_leads_0 rfl rfl rfl ?_
  refine j_iconst (v := -1) 2 dX7_leads_1 rfl ic_m1 ?_
  refine j_icmp_ne 25 5 dX7_leads_2 (by decide) rfl ?_ ?_
  · refine j_iload_n 26 1 dX7_leads_25 rfl rfl rfl ?_
    refine j_aload_n 27 0 dX7_leads_26 rfl rfl rfl ?_
    refine j_gI 30 kf_X7_129 dX7_leads_27 rfl ?_
    intro v1
    refine j_iconst (v := 1) 31 dX7_leads_30 rfl ic_1 ?_
    refine j_isub 32 dX7_leads_31 rfl ?_
    refine j_icmp_ne 55 35 dX7_leads_32 (by decide) rfl ?_ ?_
    · refine j_aload_n 56 0 dX7_leads_55 rfl rfl rfl ?_
      refine j_iload_n 57 1 dX7_leads_56 rfl rfl rfl ?_
      refine j_callV_i (ci := 6) (As := [.int a1]) (st := []) 60 (okX7_side G x a0 a1) kc_X7_side kl_X7_185 ki_X7_side kv_X7_side kh_X7 (by decide) (fun _ h => rvX7_side h) ⟨rfl, rfl, Nat.le_of_ble_eq_true rfl, Nat.le_of_ble_eq_true rfl⟩ (Nat.le_of_ble_eq_true rfl) ⟨Nat.le_of_ble_eq_true rfl, Nat.le_of_ble_eq_true rfl⟩ rfl dX7_leads_57 rfl rfl ?_
      intro v2
      refine j_aload_n 61 0 dX7_leads_60 rfl rfl rfl ?_
      refine j_iload_n 62 1 dX7_leads_61 rfl rfl rfl ?_
      refine j_iconst (v := 1) 63 dX7_leads_62 rfl ic_1 ?_
      refine j_iadd 64 dX7_leads_63 rfl ?_
      refine j_callV_i (ci := 6) (As := [.int (a1 + 1)]) (st := [.int v2]) 67 (okX7_side G x a0 (a1 + 1)) kc_X7_side kl_X7_185 ki_X7_side kv_X7_side kh_X7 (by decide) (fun _ h => rvX7_side h) ⟨rfl, rfl, Nat.le_of_ble_eq_true rfl, Nat.le_of_ble_eq_true rfl⟩ (Nat.le_of_ble_eq_true rfl) ⟨Nat.le_of_ble_eq_true rfl, Nat.le_of_ble_eq_true rfl⟩ rfl dX7_leads_64 rfl rfl ?_
      intro v3
      refine j_callS_i (As := [.int v2, .int v3]) (st := []) 70 (okJ9_min_7cf53 G x v2 v3) kc_J9_min_7cf53 kl_X7_151 ks_J9_min_7cf53 ⟨rfl, rfl, Nat.le_of_ble_eq_true rfl, Nat.le_of_ble_eq_true rfl⟩ (Nat.le_of_ble_eq_true rfl) ⟨Nat.le_of_ble_eq_true rfl, Nat.le_of_ble_eq_true rfl⟩ rfl dX7_leads_67 rfl rfl ?_
      intro v4
      exact j_iret dX7_leads_70 rfl
    · refine j_aload_n 36 0 dX7_leads_35 rfl rfl rfl ?_
      refine j_gR 39 kf_X7_32 dX7_leads_36 rfl ?_
      intro v5
      refine j_iconst (v := 1) 40 dX7_leads_39 rfl ic_1 ?_
      refine j_aI 41 dX7_leads_40 rfl ?_
      intro v6
      refine j_iconst (v := -1) 42 dX7_leads_41 rfl ic_m1 ?_
      refine j_icmp_ne 49 45 dX7_leads_42 (by decide) rfl ?_ ?_
      · refine j_aload_n 50 0 dX7_leads_49 rfl rfl rfl ?_
        refine j_iload_n 51 1 dX7_leads_50 rfl rfl rfl ?_
        refine j_callV_i (ci := 6) (As := [.int a1]) (st := []) 54 (okX7_side G x a0 a1) kc_X7_side kl_X7_185 ki_X7_side kv_X7_side kh_X7 (by decide) (fun _ h => rvX7_side h) ⟨rfl, rfl, Nat.le_of_ble_eq_true rfl, Nat.le_of_ble_eq_true rfl⟩ (Nat.le_of_ble_eq_true rfl) ⟨Nat.le_of_ble_eq_true rfl, Nat.le_of_ble_eq_true rfl⟩ rfl dX7_leads_51 rfl rfl ?_
        intro v7
        exact j_iret dX7_leads_54 rfl
      · refine j_iconst (v := 0) 46 dX7_leads_45 rfl ic_0 ?_
        refine j_goto 54 dX7_leads_46 (by decide) ?_
        exact j_iret dX7_leads_54 rfl
  · refine j_aload_n 6 0 dX7_leads_5 rfl rfl rfl ?_
    refine j_gR 9 kf_X7_32 dX7_leads_6 rfl ?_
    intro v8
    refine j_iconst (v := 0) 10 dX7_leads_9 rfl ic_0 ?_
    refine j_aI 11 dX7_leads_10 rfl ?_
    intro v9
    refine j_iconst (v := -1) 12 dX7_leads_11 rfl ic_m1 ?_
    refine j_icmp_ne 19 15 dX7_leads_12 (by decide) rfl ?_ ?_
    · refine j_aload_n 20 0 dX7_leads_19 rfl rfl rfl ?_
      refine j_iconst (v := 0) 21 dX7_leads_20 rfl ic_0 ?_
      refine j_callV_i (ci := 6) (As := [.int 0]) (st := []) 24 (okX7_side G x a0 0) kc_X7_side kl_X7_185 ki_X7_side kv_X7_side kh_X7 (by decide) (fun _ h => rvX7_side h) ⟨rfl, rfl, Nat.le_of_ble_eq_true rfl, Nat.le_of_ble_eq_true rfl⟩ (Nat.le_of_ble_eq_true rfl) ⟨Nat.le_of_ble_eq_true rfl, Nat.le_of_ble_eq_true rfl⟩ rfl dX7_leads_21 rfl rfl ?_
      intro v10
      exact j_iret dX7_leads_24 rfl
    · refine j_iconst (v := 0) 16 dX7_leads_15 rfl ic_0 ?_
      refine j_goto 24 dX7_leads_16 (by decide) ?_
      exact j_iret dX7_leads_24 rfl
-- X7_joint: ('BarStepsModel', 'joint', '(I)I')
def X7_joint (a0 : Nat) (a1 : Int32) (x : Hs) : Option (Int32) := (vO x 6 a0).bind fun _ =>
  (X7_isJoint a0 a1 x).bind fun v1 =>
  (if v1 = 0 then some (-2) else
  (X7_leads a0 a1 x).bind fun v2 =>
  some v2)
theorem rvX7_joint {a0 : Nat} {a1 : Int32} {x : Hs} {r : Int32} (h : X7_joint a0 a1 x = some r) : ∃ fs, x.1 a0 = .inr (6, fs) := vO_bind h
theorem okX7_joint (G : JG) (x : Hs) (a0 : Nat) (a1 : Int32) : ∀ r, X7_joint a0 a1 x = some r → JC G yX7_joint cX7_joint 2 (some .int) (jR 4 0 0) 0 0 [.ref a0, .int a1] x ((some (.int r), x)) := by
  refine jc_of (own := RX7) (E := (fun r : Int32 => ((some (.int r), x) : JR))) (by decide) rfl rfl (Nat.le_of_ble_eq_true rfl) rfl ?_
  unfold X7_joint
  refine j_chk ?_
  refine j_aload_n 1 0 dX7_joint_0 rfl rfl rfl ?_
  refine j_iload_n 2 1 dX7_joint_1 rfl rfl rfl ?_
  refine j_callV_i (ci := 6) (As := [.int a1]) (st := []) 5 (okX7_isJoint G x a0 a1) kc_X7_isJoint kl_X7_201 ki_X7_isJoint kv_X7_isJoint kh_X7 (by decide) (fun _ h => rvX7_isJoint h) ⟨rfl, rfl, Nat.le_of_ble_eq_true rfl, Nat.le_of_ble_eq_true rfl⟩ (Nat.le_of_ble_eq_true rfl) ⟨Nat.le_of_ble_eq_true rfl, Nat.le_of_ble_eq_true rfl⟩ rfl dX7_joint_2 rfl rfl ?_
  intro v1
  refine j_if_eq 16 8 dX7_joint_5 (by decide) rfl ?_ ?_
  · refine j_bipush (v := -2) 18 dX7_joint_16 rfl bc_m2 ?_
    exact j_iret dX7_joint_18 rfl
  · refine j_aload_n 9 0 dX7_joint_8 rfl rfl rfl ?_
    refine j_iload_n 10 1 dX7_joint_9 rfl rfl rfl ?_
    refine j_callV_i (ci := 6) (As := [.int a1]) (st := []) 13 (okX7_leads G x a0 a1) kc_X7_leads kl_X7_204 ki_X7_leads kv_X7_leads kh_X7 (by decide) (fun _ h => rvX7_leads h) ⟨rfl, rfl, Nat.le_of_ble_eq_true rfl, Nat.le_of_ble_eq_true rfl⟩ (Nat.le_of_ble_eq_true rfl) ⟨Nat.le_of_ble_eq_true rfl, Nat.le_of_ble_eq_true rfl⟩ rfl dX7_joint_10 rfl rfl ?_
    intro v2
    refine j_goto 18 dX7_joint_13 (by decide) ?_
    exact j_iret dX7_joint_18 rfl
-- X7_think: ('BarStepsModel', 'think', '()V')
def X7_think_L46 : Nat → Nat → Int32 → Hs → Option (Hs)
  | 0, _, _, _ => none
  | n + 1, l0, l1, x => (gI x 6 l0 9).bind fun v6 =>
  (if v6 ≤ l1 then some x else
  (gR x 6 l0 16).bind fun v7 =>
  (gR x 6 l0 10).bind fun v8 =>
  (aI x v8 l1).bind fun v9 =>
  (wI x v7 l1 v9).bind fun y10 =>
  (gR y10 6 l0 17).bind fun v11 =>
  (gR y10 6 l0 11).bind fun v12 =>
  (aI y10 v12 l1).bind fun v13 =>
  (wI y10 v11 l1 v13).bind fun y14 =>
  (gR y14 6 l0 18).bind fun v15 =>
  (gR y14 6 l0 12).bind fun v16 =>
  (aI y14 v16 l1).bind fun v17 =>
  (wI y14 v15 l1 v17).bind fun y18 =>
  X7_think_L46 n l0 (l1 + 1) y18)
theorem okX7_think_L46 (G : JG) : ∀ (n : Nat), ∀ (l0 : Nat) (l1 : Int32) (x : Hs), JM G RX7 cX7_think 2 (jZ G (none) "think" (jR 1 0 0) 0 0) (fun r : Hs => ((none, r) : JR)) 46 [(0, .ref l0), (1, .int l1)] [] x 0 0 (X7_think_L46 n l0 l1 x) := by
  intro n
  induction n with
  | zero => intro l0 l1 x; exact j_none
  | succ n ih =>
    intro l0 l1 x
    unfold X7_think_L46
    refine j_iload_n 47 1 dX7_think_46 rfl rfl rfl ?_
    refine j_aload_n 48 0 dX7_think_47 rfl rfl rfl ?_
    refine j_gI 51 kf_X7_210 dX7_think_48 rfl ?_
    intro v6
    refine j_icmp_ge 96 54 dX7_think_51 (by decide) rfl ?_ ?_
    · exact j_vret dX7_think_96 rfl
    · refine j_aload_n 55 0 dX7_think_54 rfl rfl rfl ?_
      refine j_gR 58 kf_X7_50 dX7_think_55 rfl ?_
      intro v7
      refine j_iload_n 59 1 dX7_think_58 rfl rfl rfl ?_
      refine j_aload_n 60 0 dX7_think_59 rfl rfl rfl ?_
      refine j_gR 63 kf_X7_38 dX7_think_60 rfl ?_
      intro v8
      refine j_iload_n 64 1 dX7_think_63 rfl rfl rfl ?_
      refine j_aI 65 dX7_think_64 rfl ?_
      intro v9
      refine j_wI 66 dX7_think_65 rfl ?_
      intro y10
      refine j_aload_n 67 0 dX7_think_66 rfl rfl rfl ?_
      refine j_gR 70 kf_X7_53 dX7_think_67 rfl ?_
      intro v11
      refine j_iload_n 71 1 dX7_think_70 rfl rfl rfl ?_
      refine j_aload_n 72 0 dX7_think_71 rfl rfl rfl ?_
      refine j_gR 75 kf_X7_41 dX7_think_72 rfl ?_
      intro v12
      refine j_iload_n 76 1 dX7_think_75 rfl rfl rfl ?_
      refine j_aI 77 dX7_think_76 rfl ?_
      intro v13
      refine j_wI 78 dX7_think_77 rfl ?_
      intro y14
      refine j_aload_n 79 0 dX7_think_78 rfl rfl rfl ?_
      refine j_gR 82 kf_X7_56 dX7_think_79 rfl ?_
      intro v15
      refine j_iload_n 83 1 dX7_think_82 rfl rfl rfl ?_
      refine j_aload_n 84 0 dX7_think_83 rfl rfl rfl ?_
      refine j_gR 87 kf_X7_44 dX7_think_84 rfl ?_
      intro v16
      refine j_iload_n 88 1 dX7_think_87 rfl rfl rfl ?_
      refine j_aI 89 dX7_think_88 rfl ?_
      intro v17
      refine j_wI 90 dX7_think_89 rfl ?_
      intro y18
      refine j_iinc 93 1 [(1, .int (l1 + 1)), (0, .ref l0)] dX7_think_90 rfl rfl (ii_1 _) (by decide) rfl ?_
      refine j_goto 46 dX7_think_93 (by decide) ?_
      refine j_sub [1, 0] rfl ?_
      exact ih l0 (l1 + 1) y18
def X7_think_L2 : Nat → Nat → Int32 → Hs → Option (Hs)
  | 0, _, _, _ => none
  | n + 1, l0, l1, x => (gI x 6 l0 0).bind fun v1 =>
  (if v1 ≤ l1 then (gL x 6 l0 6).bind fun v2 =>
  (pV x 6 l0 14 (.long v2)).bind fun y3 =>
  (gI y3 6 l0 9).bind fun v4 =>
  (pV y3 6 l0 15 (.int v4)).bind fun y5 =>
  X7_think_L46 fu l0 0 y5 else
  (gR x 6 l0 13).bind fun v19 =>
  (gR x 6 l0 5).bind fun v20 =>
  (aL x v20 l1).bind fun v21 =>
  (wL x v19 l1 v21).bind fun y22 =>
  X7_think_L2 n l0 (l1 + 1) y22)
theorem okX7_think_L2 (G : JG) : ∀ (n : Nat), ∀ (l0 : Nat) (l1 : Int32) (x : Hs), JM G RX7 cX7_think 2 (jZ G (none) "think" (jR 1 0 0) 0 0) (fun r : Hs => ((none, r) : JR)) 2 [(0, .ref l0), (1, .int l1)] [] x 0 0 (X7_think_L2 n l0 l1 x) := by
  intro n
  induction n with
  | zero => intro l0 l1 x; exact j_none
  | succ n ih =>
    intro l0 l1 x
    unfold X7_think_L2
    refine j_iload_n 3 1 dX7_think_2 rfl rfl rfl ?_
    refine j_aload_n 4 0 dX7_think_3 rfl rfl rfl ?_
    refine j_gI 7 kf_X7_129 dX7_think_4 rfl ?_
    intro v1
    refine j_icmp_ge 28 10 dX7_think_7 (by decide) rfl ?_ ?_
    · refine j_aload_n 29 0 dX7_think_28 rfl rfl rfl ?_
      refine j_aload_n 30 0 dX7_think_29 rfl rfl rfl ?_
      refine j_gL 33 kf_X7_28 dX7_think_30 rfl ?_
      intro v2
      refine j_put 36 kf_X7_207 dX7_think_33 rfl rfl rfl ?_
      intro y3
      refine j_aload_n 37 0 dX7_think_36 rfl rfl rfl ?_
      refine j_aload_n 38 0 dX7_think_37 rfl rfl rfl ?_
      refine j_gI 41 kf_X7_210 dX7_think_38 rfl ?_
      intro v4
      refine j_put 44 kf_X7_213 dX7_think_41 rfl rfl rfl ?_
      intro y5
      refine j_iconst (v := 0) 45 dX7_think_44 rfl ic_0 ?_
      refine j_istore_n 46 [(1, .int 0), (0, .ref l0)] dX7_think_45 rfl rfl (by decide) rfl ?_
      refine j_sub [1, 0] rfl ?_
      exact okX7_think_L46 G fu l0 0 y5
    · refine j_aload_n 11 0 dX7_think_10 rfl rfl rfl ?_
      refine j_gR 14 kf_X7_47 dX7_think_11 rfl ?_
      intro v19
      refine j_iload_n 15 1 dX7_think_14 rfl rfl rfl ?_
      refine j_aload_n 16 0 dX7_think_15 rfl rfl rfl ?_
      refine j_gR 19 kf_X7_24 dX7_think_16 rfl ?_
      intro v20
      refine j_iload_n 20 1 dX7_think_19 rfl rfl rfl ?_
      refine j_aL 21 dX7_think_20 rfl ?_
      intro v21
      refine j_wL 22 dX7_think_21 rfl ?_
      intro y22
      refine j_iinc 25 1 [(1, .int (l1 + 1)), (0, .ref l0)] dX7_think_22 rfl rfl (ii_1 _) (by decide) rfl ?_
      refine j_goto 2 dX7_think_25 (by decide) ?_
      refine j_sub [1, 0] rfl ?_
      exact ih l0 (l1 + 1) y22
def X7_think (a0 : Nat) (x : Hs) : Option (Hs) := (vO x 6 a0).bind fun _ =>
  X7_think_L2 fu a0 0 x
theorem rvX7_think {a0 : Nat} {x : Hs} {r : Hs} (h : X7_think a0 x = some r) : ∃ fs, x.1 a0 = .inr (6, fs) := vO_bind h
theorem okX7_think (G : JG) (x : Hs) (a0 : Nat) : ∀ r, X7_think a0 x = some r → JC G yX7_think cX7_think 2 (none) (jR 1 0 0) 0 0 [.ref a0] x ((none, r)) := by
  refine jc_of (own := RX7) (E := (fun r : Hs => ((none, r) : JR))) (by decide) rfl rfl (Nat.le_of_ble_eq_true rfl) rfl ?_
  unfold X7_think
  refine j_chk ?_
  refine j_iconst (v := 0) 1 dX7_think_0 rfl ic_0 ?_
  refine j_istore_n 2 [(1, .int 0), (0, .ref a0)] dX7_think_1 rfl rfl (by decide) rfl ?_
  refine j_sub [1, 0] rfl ?_
  exact okX7_think_L2 G fu a0 0 x
-- X7_keep: ('BarStepsModel', 'keep', '()V')
def X7_keep_L46 : Nat → Nat → Int32 → Hs → Option (Hs)
  | 0, _, _, _ => none
  | n + 1, l0, l1, x => (gI x 6 l0 15).bind fun v6 =>
  (if v6 ≤ l1 then some x else
  (gR x 6 l0 10).bind fun v7 =>
  (gR x 6 l0 16).bind fun v8 =>
  (aI x v8 l1).bind fun v9 =>
  (wI x v7 l1 v9).bind fun y10 =>
  (gR y10 6 l0 11).bind fun v11 =>
  (gR y10 6 l0 17).bind fun v12 =>
  (aI y10 v12 l1).bind fun v13 =>
  (wI y10 v11 l1 v13).bind fun y14 =>
  (gR y14 6 l0 12).bind fun v15 =>
  (gR y14 6 l0 18).bind fun v16 =>
  (aI y14 v16 l1).bind fun v17 =>
  (wI y14 v15 l1 v17).bind fun y18 =>
  X7_keep_L46 n l0 (l1 + 1) y18)
theorem okX7_keep_L46 (G : JG) : ∀ (n : Nat), ∀ (l0 : Nat) (l1 : Int32) (x : Hs), JM G RX7 cX7_keep 2 (jZ G (none) "keep" (jR 1 0 0) 0 0) (fun r : Hs => ((none, r) : JR)) 46 [(0, .ref l0), (1, .int l1)] [] x 0 0 (X7_keep_L46 n l0 l1 x) := by
  intro n
  induction n with
  | zero => intro l0 l1 x; exact j_none
  | succ n ih =>
    intro l0 l1 x
    unfold X7_keep_L46
    refine j_iload_n 47 1 dX7_keep_46 rfl rfl rfl ?_
    refine j_aload_n 48 0 dX7_keep_47 rfl rfl rfl ?_
    refine j_gI 51 kf_X7_213 dX7_keep_48 rfl ?_
    intro v6
    refine j_icmp_ge 96 54 dX7_keep_51 (by decide) rfl ?_ ?_
    · exact j_vret dX7_keep_96 rfl
    · refine j_aload_n 55 0 dX7_keep_54 rfl rfl rfl ?_
      refine j_gR 58 kf_X7_38 dX7_keep_55 rfl ?_
      intro v7
      refine j_iload_n 59 1 dX7_keep_58 rfl rfl rfl ?_
      refine j_aload_n 60 0 dX7_keep_59 rfl rfl rfl ?_
      refine j_gR 63 kf_X7_50 dX7_keep_60 rfl ?_
      intro v8
      refine j_iload_n 64 1 dX7_keep_63 rfl rfl rfl ?_
      refine j_aI 65 dX7_keep_64 rfl ?_
      intro v9
      refine j_wI 66 dX7_keep_65 rfl ?_
      intro y10
      refine j_aload_n 67 0 dX7_keep_66 rfl rfl rfl ?_
      refine j_gR 70 kf_X7_41 dX7_keep_67 rfl ?_
      intro v11
      refine j_iload_n 71 1 dX7_keep_70 rfl rfl rfl ?_
      refine j_aload_n 72 0 dX7_keep_71 rfl rfl rfl ?_
      refine j_gR 75 kf_X7_53 dX7_keep_72 rfl ?_
      intro v12
      refine j_iload_n 76 1 dX7_keep_75 rfl rfl rfl ?_
      refine j_aI 77 dX7_keep_76 rfl ?_
      intro v13
      refine j_wI 78 dX7_keep_77 rfl ?_
      intro y14
      refine j_aload_n 79 0 dX7_keep_78 rfl rfl rfl ?_
      refine j_gR 82 kf_X7_44 dX7_keep_79 rfl ?_
      intro v15
      refine j_iload_n 83 1 dX7_keep_82 rfl rfl rfl ?_
      refine j_aload_n 84 0 dX7_keep_83 rfl rfl rfl ?_
      refine j_gR 87 kf_X7_56 dX7_keep_84 rfl ?_
      intro v16
      refine j_iload_n 88 1 dX7_keep_87 rfl rfl rfl ?_
      refine j_aI 89 dX7_keep_88 rfl ?_
      intro v17
      refine j_wI 90 dX7_keep_89 rfl ?_
      intro y18
      refine j_iinc 93 1 [(1, .int (l1 + 1)), (0, .ref l0)] dX7_keep_90 rfl rfl (ii_1 _) (by decide) rfl ?_
      refine j_goto 46 dX7_keep_93 (by decide) ?_
      refine j_sub [1, 0] rfl ?_
      exact ih l0 (l1 + 1) y18
def X7_keep_L2 : Nat → Nat → Int32 → Hs → Option (Hs)
  | 0, _, _, _ => none
  | n + 1, l0, l1, x => (gI x 6 l0 0).bind fun v1 =>
  (if v1 ≤ l1 then (gL x 6 l0 14).bind fun v2 =>
  (pV x 6 l0 6 (.long v2)).bind fun y3 =>
  (gI y3 6 l0 15).bind fun v4 =>
  (pV y3 6 l0 9 (.int v4)).bind fun y5 =>
  X7_keep_L46 fu l0 0 y5 else
  (gR x 6 l0 5).bind fun v19 =>
  (gR x 6 l0 13).bind fun v20 =>
  (aL x v20 l1).bind fun v21 =>
  (wL x v19 l1 v21).bind fun y22 =>
  X7_keep_L2 n l0 (l1 + 1) y22)
theorem okX7_keep_L2 (G : JG) : ∀ (n : Nat), ∀ (l0 : Nat) (l1 : Int32) (x : Hs), JM G RX7 cX7_keep 2 (jZ G (none) "keep" (jR 1 0 0) 0 0) (fun r : Hs => ((none, r) : JR)) 2 [(0, .ref l0), (1, .int l1)] [] x 0 0 (X7_keep_L2 n l0 l1 x) := by
  intro n
  induction n with
  | zero => intro l0 l1 x; exact j_none
  | succ n ih =>
    intro l0 l1 x
    unfold X7_keep_L2
    refine j_iload_n 3 1 dX7_keep_2 rfl rfl rfl ?_
    refine j_aload_n 4 0 dX7_keep_3 rfl rfl rfl ?_
    refine j_gI 7 kf_X7_129 dX7_keep_4 rfl ?_
    intro v1
    refine j_icmp_ge 28 10 dX7_keep_7 (by decide) rfl ?_ ?_
    · refine j_aload_n 29 0 dX7_keep_28 rfl rfl rfl ?_
      refine j_aload_n 30 0 dX7_keep_29 rfl rfl rfl ?_
      refine j_gL 33 kf_X7_207 dX7_keep_30 rfl ?_
      intro v2
      refine j_put 36 kf_X7_28 dX7_keep_33 rfl rfl rfl ?_
      intro y3
      refine j_aload_n 37 0 dX7_keep_36 rfl rfl rfl ?_
      refine j_aload_n 38 0 dX7_keep_37 rfl rfl rfl ?_
      refine j_gI 41 kf_X7_213 dX7_keep_38 rfl ?_
      intro v4
      refine j_put 44 kf_X7_210 dX7_keep_41 rfl rfl rfl ?_
      intro y5
      refine j_iconst (v := 0) 45 dX7_keep_44 rfl ic_0 ?_
      refine j_istore_n 46 [(1, .int 0), (0, .ref l0)] dX7_keep_45 rfl rfl (by decide) rfl ?_
      refine j_sub [1, 0] rfl ?_
      exact okX7_keep_L46 G fu l0 0 y5
    · refine j_aload_n 11 0 dX7_keep_10 rfl rfl rfl ?_
      refine j_gR 14 kf_X7_24 dX7_keep_11 rfl ?_
      intro v19
      refine j_iload_n 15 1 dX7_keep_14 rfl rfl rfl ?_
      refine j_aload_n 16 0 dX7_keep_15 rfl rfl rfl ?_
      refine j_gR 19 kf_X7_47 dX7_keep_16 rfl ?_
      intro v20
      refine j_iload_n 20 1 dX7_keep_19 rfl rfl rfl ?_
      refine j_aL 21 dX7_keep_20 rfl ?_
      intro v21
      refine j_wL 22 dX7_keep_21 rfl ?_
      intro y22
      refine j_iinc 25 1 [(1, .int (l1 + 1)), (0, .ref l0)] dX7_keep_22 rfl rfl (ii_1 _) (by decide) rfl ?_
      refine j_goto 2 dX7_keep_25 (by decide) ?_
      refine j_sub [1, 0] rfl ?_
      exact ih l0 (l1 + 1) y22
def X7_keep (a0 : Nat) (x : Hs) : Option (Hs) := (vO x 6 a0).bind fun _ =>
  X7_keep_L2 fu a0 0 x
theorem rvX7_keep {a0 : Nat} {x : Hs} {r : Hs} (h : X7_keep a0 x = some r) : ∃ fs, x.1 a0 = .inr (6, fs) := vO_bind h
theorem okX7_keep (G : JG) (x : Hs) (a0 : Nat) : ∀ r, X7_keep a0 x = some r → JC G yX7_keep cX7_keep 2 (none) (jR 1 0 0) 0 0 [.ref a0] x ((none, r)) := by
  refine jc_of (own := RX7) (E := (fun r : Hs => ((none, r) : JR))) (by decide) rfl rfl (Nat.le_of_ble_eq_true rfl) rfl ?_
  unfold X7_keep
  refine j_chk ?_
  refine j_iconst (v := 0) 1 dX7_keep_0 rfl ic_0 ?_
  refine j_istore_n 2 [(1, .int 0), (0, .ref a0)] dX7_keep_1 rfl rfl (by decide) rfl ?_
  refine j_sub [1, 0] rfl ?_
  exact okX7_keep_L2 G fu a0 0 x
-- X7_flows: ('BarStepsModel', 'flows', '(I)J')
def X7_flows_J60 (x : Hs) (l0 : Nat) (l1 : Int32) (l2 : Int64) (s0 : Int64) : Option (Int64) := (X7_leads l0 l1 x).bind fun v6 =>
  some ((Int32.toInt64 v6) * (l2 - s0))
theorem okX7_flows_J60 (G : JG) (x : Hs) : ∀ (l0 : Nat) (l1 : Int32) (l2 : Int64) (s0 : Int64), JM G RX7 cX7_flows 6 (jZ G (some .long) "flows" (jR 4 0 0) 0 0) (fun r : Int64 => ((some (.long r), x) : JR)) 60 [(0, .ref l0), (1, .int l1), (2, .long l2)] [.long s0] x 0 0 (X7_flows_J60 x l0 l1 l2 s0) := by
  intro l0 l1 l2 s0
  unfold X7_flows_J60
  refine j_lstore 62 [(4, .long s0), (0, .ref l0), (1, .int l1), (2, .long l2)] dX7_flows_60 rfl (by decide) rfl ?_
  refine j_aload_n 63 1 dX7_flows_62 rfl rfl rfl ?_
  refine j_iload_n 64 2 dX7_flows_63 rfl rfl rfl ?_
  refine j_callV_i (ci := 6) (As := [.int l1]) (st := []) 67 (okX7_leads G x l0 l1) kc_X7_leads kl_X7_204 ki_X7_leads kv_X7_leads kh_X7 (by decide) (fun _ h => rvX7_leads h) ⟨rfl, rfl, Nat.le_of_ble_eq_true rfl, Nat.le_of_ble_eq_true rfl⟩ (Nat.le_of_ble_eq_true rfl) ⟨Nat.le_of_ble_eq_true rfl, Nat.le_of_ble_eq_true rfl⟩ rfl dX7_flows_64 rfl rfl ?_
  intro v6
  refine j_i2l 68 dX7_flows_67 rfl ?_
  refine j_lload_n 69 3 dX7_flows_68 rfl rfl rfl ?_
  refine j_lload 71 0 dX7_flows_69 rfl rfl ?_
  refine j_lsub 72 dX7_flows_71 rfl ?_
  refine j_lmul 73 dX7_flows_72 rfl ?_
  exact j_lret dX7_flows_73 rfl
def X7_flows_J26 (x : Hs) (l0 : Nat) (l1 : Int32) (s0 : Int64) : Option (Int64) := (gI x 6 l0 0).bind fun v3 =>
  (if l1 = (v3 - 1) then (gR x 6 l0 7).bind fun v7 =>
  (aI x v7 1).bind fun v8 =>
  (gL x 6 l0 14).bind fun v9 =>
  X7_flows_J60 x l0 l1 s0 ((Int32.toInt64 v8) * v9) else
  (gR x 6 l0 13).bind fun v4 =>
  (aL x v4 (l1 + 1)).bind fun v5 =>
  X7_flows_J60 x l0 l1 s0 v5)
theorem okX7_flows_J26 (G : JG) (x : Hs) : ∀ (l0 : Nat) (l1 : Int32) (s0 : Int64), JM G RX7 cX7_flows 6 (jZ G (some .long) "flows" (jR 4 0 0) 0 0) (fun r : Int64 => ((some (.long r), x) : JR)) 26 [(0, .ref l0), (1, .int l1)] [.long s0] x 0 0 (X7_flows_J26 x l0 l1 s0) := by
  intro l0 l1 s0
  unfold X7_flows_J26
  refine j_lstore_n 27 [(2, .long s0), (0, .ref l0), (1, .int l1)] dX7_flows_26 rfl rfl (by decide) rfl ?_
  refine j_iload_n 28 2 dX7_flows_27 rfl rfl rfl ?_
  refine j_aload_n 29 1 dX7_flows_28 rfl rfl rfl ?_
  refine j_gI 32 kf_X7_129 dX7_flows_29 rfl ?_
  intro v3
  refine j_iconst (v := 1) 33 dX7_flows_32 rfl ic_1 ?_
  refine j_isub 34 dX7_flows_33 rfl ?_
  refine j_icmp_ne 52 37 dX7_flows_34 (by decide) rfl ?_ ?_
  · refine j_aload_n 53 1 dX7_flows_52 rfl rfl rfl ?_
    refine j_gR 56 kf_X7_47 dX7_flows_53 rfl ?_
    intro v4
    refine j_iload_n 57 2 dX7_flows_56 rfl rfl rfl ?_
    refine j_iconst (v := 1) 58 dX7_flows_57 rfl ic_1 ?_
    refine j_iadd 59 dX7_flows_58 rfl ?_
    refine j_aL 60 dX7_flows_59 rfl ?_
    intro v5
    refine j_sub [1, 2, 0] rfl ?_
    exact okX7_flows_J60 G x l0 l1 s0 v5
  · refine j_aload_n 38 1 dX7_flows_37 rfl rfl rfl ?_
    refine j_gR 41 kf_X7_32 dX7_flows_38 rfl ?_
    intro v7
    refine j_iconst (v := 1) 42 dX7_flows_41 rfl ic_1 ?_
    refine j_aI 43 dX7_flows_42 rfl ?_
    intro v8
    refine j_i2l 44 dX7_flows_43 rfl ?_
    refine j_aload_n 45 1 dX7_flows_44 rfl rfl rfl ?_
    refine j_gL 48 kf_X7_207 dX7_flows_45 rfl ?_
    intro v9
    refine j_lmul 49 dX7_flows_48 rfl ?_
    refine j_goto 60 dX7_flows_49 (by decide) ?_
    refine j_sub [1, 2, 0] rfl ?_
    exact okX7_flows_J60 G x l0 l1 s0 ((Int32.toInt64 v8) * v9)
def X7_flows (a0 : Nat) (a1 : Int32) (x : Hs) : Option (Int64) := (vO x 6 a0).bind fun _ =>
  (if a1 = (-1) then (gR x 6 a0 7).bind fun v10 =>
  (aI x v10 0).bind fun v11 =>
  (gL x 6 a0 14).bind fun v12 =>
  X7_flows_J26 x a0 a1 ((Int32.toInt64 v11) * v12) else
  (gR x 6 a0 13).bind fun v1 =>
  (aL x v1 a1).bind fun v2 =>
  X7_flows_J26 x a0 a1 v2)
theorem rvX7_flows {a0 : Nat} {a1 : Int32} {x : Hs} {r : Int64} (h : X7_flows a0 a1 x = some r) : ∃ fs, x.1 a0 = .inr (6, fs) := vO_bind h
theorem okX7_flows (G : JG) (x : Hs) (a0 : Nat) (a1 : Int32) : ∀ r, X7_flows a0 a1 x = some r → JC G yX7_flows cX7_flows 6 (some .long) (jR 4 0 0) 0 0 [.ref a0, .int a1] x ((some (.long r), x)) := by
  refine jc_of (own := RX7) (E := (fun r : Int64 => ((some (.long r), x) : JR))) (by decide) rfl rfl (Nat.le_of_ble_eq_true rfl) rfl ?_
  unfold X7_flows
  refine j_chk ?_
  refine j_iload_n 1 1 dX7_flows_0 rfl rfl rfl ?_
  refine j_iconst (v := -1) 2 dX7_flows_1 rfl ic_m1 ?_
  refine j_icmp_ne 20 5 dX7_flows_2 (by decide) rfl ?_ ?_
  · refine j_aload_n 21 0 dX7_flows_20 rfl rfl rfl ?_
    refine j_gR 24 kf_X7_47 dX7_flows_21 rfl ?_
    intro v1
    refine j_iload_n 25 1 dX7_flows_24 rfl rfl rfl ?_
    refine j_aL 26 dX7_flows_25 rfl ?_
    intro v2
    exact okX7_flows_J26 G x a0 a1 v2
  · refine j_aload_n 6 0 dX7_flows_5 rfl rfl rfl ?_
    refine j_gR 9 kf_X7_32 dX7_flows_6 rfl ?_
    intro v10
    refine j_iconst (v := 0) 10 dX7_flows_9 rfl ic_0 ?_
    refine j_aI 11 dX7_flows_10 rfl ?_
    intro v11
    refine j_i2l 12 dX7_flows_11 rfl ?_
    refine j_aload_n 13 0 dX7_flows_12 rfl rfl rfl ?_
    refine j_gL 16 kf_X7_207 dX7_flows_13 rfl ?_
    intro v12
    refine j_lmul 17 dX7_flows_16 rfl ?_
    refine j_goto 26 dX7_flows_17 (by decide) ?_
    exact okX7_flows_J26 G x a0 a1 ((Int32.toInt64 v11) * v12)
-- X7_change: ('BarStepsModel', 'change', '(I)J')
def X7_change (a0 : Nat) (a1 : Int32) (x : Hs) : Option (Int64) := (vO x 6 a0).bind fun _ =>
  (X7_flows a0 (a1 - 1) x).bind fun v1 =>
  (X7_flows a0 a1 x).bind fun v2 =>
  (X7_fin a0 a1 x).bind fun v3 =>
  (gR x 6 a0 8).bind fun v4 =>
  (aI x v4 1).bind fun v5 =>
  (gL x 6 a0 14).bind fun v6 =>
  (gR x 6 a0 13).bind fun v7 =>
  (aL x v7 a1).bind fun v8 =>
  (gR x 6 a0 4).bind fun v9 =>
  (aI x v9 a1).bind fun v10 =>
  (gL x 6 a0 14).bind fun v11 =>
  some (((v1 - v2) + ((Int32.toInt64 v3) * (((Int32.toInt64 v5) * v6) - v8))) + ((Int32.toInt64 v10) * v11))
theorem rvX7_change {a0 : Nat} {a1 : Int32} {x : Hs} {r : Int64} (h : X7_change a0 a1 x = some r) : ∃ fs, x.1 a0 = .inr (6, fs) := vO_bind h
theorem okX7_change (G : JG) (x : Hs) (a0 : Nat) (a1 : Int32) : ∀ r, X7_change a0 a1 x = some r → JC G yX7_change cX7_change 2 (some .long) (jR 5 0 0) 0 0 [.ref a0, .int a1] x ((some (.long r), x)) := by
  refine jc_of (own := RX7) (E := (fun r : Int64 => ((some (.long r), x) : JR))) (by decide) rfl rfl (Nat.le_of_ble_eq_true rfl) rfl ?_
  unfold X7_change
  refine j_chk ?_
  refine j_aload_n 1 0 dX7_change_0 rfl rfl rfl ?_
  refine j_iload_n 2 1 dX7_change_1 rfl rfl rfl ?_
  refine j_iconst (v := 1) 3 dX7_change_2 rfl ic_1 ?_
  refine j_isub 4 dX7_change_3 rfl ?_
  refine j_callV_l (ci := 6) (As := [.int (a1 - 1)]) (st := []) 7 (okX7_flows G x a0 (a1 - 1)) kc_X7_flows kl_X7_216 ki_X7_flows kv_X7_flows kh_X7 (by decide) (fun _ h => rvX7_flows h) ⟨rfl, rfl, Nat.le_of_ble_eq_true rfl, Nat.le_of_ble_eq_true rfl⟩ (Nat.le_of_ble_eq_true rfl) ⟨Nat.le_of_ble_eq_true rfl, Nat.le_of_ble_eq_true rfl⟩ rfl dX7_change_4 rfl rfl ?_
  intro v1
  refine j_aload_n 8 0 dX7_change_7 rfl rfl rfl ?_
  refine j_iload_n 9 1 dX7_change_8 rfl rfl rfl ?_
  refine j_callV_l (ci := 6) (As := [.int a1]) (st := [.long v1]) 12 (okX7_flows G x a0 a1) kc_X7_flows kl_X7_216 ki_X7_flows kv_X7_flows kh_X7 (by decide) (fun _ h => rvX7_flows h) ⟨rfl, rfl, Nat.le_of_ble_eq_true rfl, Nat.le_of_ble_eq_true rfl⟩ (Nat.le_of_ble_eq_true rfl) ⟨Nat.le_of_ble_eq_true rfl, Nat.le_of_ble_eq_true rfl⟩ rfl dX7_change_9 rfl rfl ?_
  intro v2
  refine j_lsub 13 dX7_change_12 rfl ?_
  refine j_aload_n 14 0 dX7_change_13 rfl rfl rfl ?_
  refine j_iload_n 15 1 dX7_change_14 rfl rfl rfl ?_
  refine j_callV_i (ci := 6) (As := [.int a1]) (st := [.long (v1 - v2)]) 18 (okX7_fin G x a0 a1) kc_X7_fin kl_X7_191 ki_X7_fin kv_X7_fin kh_X7 (by decide) (fun _ h => rvX7_fin h) ⟨rfl, rfl, Nat.le_of_ble_eq_true rfl, Nat.le_of_ble_eq_true rfl⟩ (Nat.le_of_ble_eq_true rfl) ⟨Nat.le_of_ble_eq_true rfl, Nat.le_of_ble_eq_true rfl⟩ rfl dX7_change_15 rfl rfl ?_
  intro v3
  refine j_i2l 19 dX7_change_18 rfl ?_
  refine j_aload_n 20 0 dX7_change_19 rfl rfl rfl ?_
  refine j_gR 23 kf_X7_35 dX7_change_20 rfl ?_
  intro v4
  refine j_iconst (v := 1) 24 dX7_change_23 rfl ic_1 ?_
  refine j_aI 25 dX7_change_24 rfl ?_
  intro v5
  refine j_i2l 26 dX7_change_25 rfl ?_
  refine j_aload_n 27 0 dX7_change_26 rfl rfl rfl ?_
  refine j_gL 30 kf_X7_207 dX7_change_27 rfl ?_
  intro v6
  refine j_lmul 31 dX7_change_30 rfl ?_
  refine j_aload_n 32 0 dX7_change_31 rfl rfl rfl ?_
  refine j_gR 35 kf_X7_47 dX7_change_32 rfl ?_
  intro v7
  refine j_iload_n 36 1 dX7_change_35 rfl rfl rfl ?_
  refine j_aL 37 dX7_change_36 rfl ?_
  intro v8
  refine j_lsub 38 dX7_change_37 rfl ?_
  refine j_lmul 39 dX7_change_38 rfl ?_
  refine j_ladd 40 dX7_change_39 rfl ?_
  refine j_aload_n 41 0 dX7_change_40 rfl rfl rfl ?_
  refine j_gR 44 kf_X7_21 dX7_change_41 rfl ?_
  intro v9
  refine j_iload_n 45 1 dX7_change_44 rfl rfl rfl ?_
  refine j_aI 46 dX7_change_45 rfl ?_
  intro v10
  refine j_i2l 47 dX7_change_46 rfl ?_
  refine j_aload_n 48 0 dX7_change_47 rfl rfl rfl ?_
  refine j_gL 51 kf_X7_207 dX7_change_48 rfl ?_
  intro v11
  refine j_lmul 52 dX7_change_51 rfl ?_
  refine j_ladd 53 dX7_change_52 rfl ?_
  exact j_lret dX7_change_53 rfl
-- X7_reckons: ('BarStepsModel', 'reckons', '()J')
def X7_reckons_L199 : Nat → Nat → Int64 → Int64 → Int32 → Hs → Option (Int64 × Hs)
  | 0, _, _, _, _, _ => none
  | n + 1, l0, l1, l3, l5, x => (gI x 6 l0 0).bind fun v6 =>
  (if v6 ≤ l5 then (o_ldiv l3 l1).bind fun v7 =>
  some (v7, x) else
  (gR x 6 l0 19).bind fun v8 =>
  (aL x v8 l5).bind fun v9 =>
  (o_ldiv v9 l1).bind fun v10 =>
  (wL x v8 l5 v10).bind fun y11 =>
  X7_reckons_L199 n l0 l1 l3 (l5 + 1) y11)
theorem okX7_reckons_L199 (G : JG) : ∀ (n : Nat), ∀ (l0 : Nat) (l1 : Int64) (l3 : Int64) (l5 : Int32) (x : Hs), JM G RX7 cX7_reckons 6 (jZ G (some .long) "reckons" (jR 6 0 0) 0 0) (fun r : Int64 × Hs => ((some (.long r.1), r.2) : JR)) 199 [(0, .ref l0), (1, .long l1), (3, .long l3), (5, .int l5)] [] x 0 0 (X7_reckons_L199 n l0 l1 l3 l5 x) := by
  intro n
  induction n with
  | zero => intro l0 l1 l3 l5 x; exact j_none
  | succ n ih =>
    intro l0 l1 l3 l5 x
    unfold X7_reckons_L199
    refine j_iload 201 3 dX7_reckons_199 rfl rfl ?_
    refine j_aload_n 202 0 dX7_reckons_201 rfl rfl rfl ?_
    refine j_gI 205 kf_X7_129 dX7_reckons_202 rfl ?_
    intro v6
    refine j_icmp_ge 225 208 dX7_reckons_205 (by decide) rfl ?_ ?_
    · refine j_lload_n 226 2 dX7_reckons_225 rfl rfl rfl ?_
      refine j_lload_n 227 1 dX7_reckons_226 rfl rfl rfl ?_
      refine j_ldiv 228 dX7_reckons_227 rfl ?_
      intro v7
      exact j_lret dX7_reckons_228 rfl
    · refine j_aload_n 209 0 dX7_reckons_208 rfl rfl rfl ?_
      refine j_gR 212 kf_X7_59 dX7_reckons_209 rfl ?_
      intro v8
      refine j_iload 214 3 dX7_reckons_212 rfl rfl ?_
      refine j_dup2_11 215 dX7_reckons_214 rfl rfl rfl ?_
      refine j_aL 216 dX7_reckons_215 rfl ?_
      intro v9
      refine j_lload_n 217 1 dX7_reckons_216 rfl rfl rfl ?_
      refine j_ldiv 218 dX7_reckons_217 rfl ?_
      intro v10
      refine j_wL 219 dX7_reckons_218 rfl ?_
      intro y11
      refine j_iinc 222 3 [(5, .int (l5 + 1)), (0, .ref l0), (1, .long l1), (3, .long l3)] dX7_reckons_219 rfl rfl (ii_1 _) (by decide) rfl ?_
      refine j_goto 199 dX7_reckons_222 (by decide) ?_
      refine j_sub [1, 2, 3, 0] rfl ?_
      exact ih l0 l1 l3 (l5 + 1) y11
def X7_reckons_L169 : Nat → Nat → Int64 → Int64 → Int32 → Hs → Option (Int64 × Hs)
  | 0, _, _, _, _, _ => none
  | n + 1, l0, l1, l3, l5, x => (gI x 6 l0 0).bind fun v5 =>
  (if v5 ≤ l5 then X7_reckons_L199 fu l0 l1 l3 0 x else
  (gR x 6 l0 19).bind fun v12 =>
  (aL x v12 l5).bind fun v13 =>
  (X7_divisor v13 l1).bind fun v14 =>
  X7_reckons_L169 n l0 v14 l3 (l5 + 1) x)
theorem okX7_reckons_L169 (G : JG) : ∀ (n : Nat), ∀ (l0 : Nat) (l1 : Int64) (l3 : Int64) (l5 : Int32) (x : Hs), JM G RX7 cX7_reckons 6 (jZ G (some .long) "reckons" (jR 6 0 0) 0 0) (fun r : Int64 × Hs => ((some (.long r.1), r.2) : JR)) 169 [(0, .ref l0), (1, .long l1), (3, .long l3), (5, .int l5)] [] x 0 0 (X7_reckons_L169 n l0 l1 l3 l5 x) := by
  intro n
  induction n with
  | zero => intro l0 l1 l3 l5 x; exact j_none
  | succ n ih =>
    intro l0 l1 l3 l5 x
    unfold X7_reckons_L169
    refine j_iload 171 3 dX7_reckons_169 rfl rfl ?_
    refine j_aload_n 172 0 dX7_reckons_171 rfl rfl rfl ?_
    refine j_gI 175 kf_X7_129 dX7_reckons_172 rfl ?_
    intro v5
    refine j_icmp_ge 196 178 dX7_reckons_175 (by decide) rfl ?_ ?_
    · refine j_iconst (v := 0) 197 dX7_reckons_196 rfl ic_0 ?_
      refine j_istore 199 [(5, .int 0), (0, .ref l0), (1, .long l1), (3, .long l3)] dX7_reckons_197 rfl (by decide) rfl ?_
      refine j_sub [1, 2, 3, 0] rfl ?_
      exact okX7_reckons_L199 G fu l0 l1 l3 0 x
    · refine j_aload_n 179 0 dX7_reckons_178 rfl rfl rfl ?_
      refine j_gR 182 kf_X7_59 dX7_reckons_179 rfl ?_
      intro v12
      refine j_iload 184 3 dX7_reckons_182 rfl rfl ?_
      refine j_aL 185 dX7_reckons_184 rfl ?_
      intro v13
      refine j_lload_n 186 1 dX7_reckons_185 rfl rfl rfl ?_
      refine j_callS_l (As := [.long v13, .long l1]) (st := []) 189 (okX7_divisor G x v13 l1) kc_X7_divisor kl_X7_143 ks_X7_divisor ⟨rfl, rfl, Nat.le_of_ble_eq_true rfl, Nat.le_of_ble_eq_true rfl⟩ (Nat.le_of_ble_eq_true rfl) ⟨Nat.le_of_ble_eq_true rfl, Nat.le_of_ble_eq_true rfl⟩ rfl dX7_reckons_186 rfl rfl ?_
      intro v14
      refine j_lstore_n 190 [(1, .long v14), (0, .ref l0), (3, .long l3), (5, .int l5)] dX7_reckons_189 rfl rfl (by decide) rfl ?_
      refine j_iinc 193 3 [(5, .int (l5 + 1)), (1, .long v14), (0, .ref l0), (3, .long l3)] dX7_reckons_190 rfl rfl (ii_1 _) (by decide) rfl ?_
      refine j_goto 169 dX7_reckons_193 (by decide) ?_
      refine j_sub [2, 1, 3, 0] rfl ?_
      exact ih l0 v14 l3 (l5 + 1) x
def X7_reckons_L113 : Nat → Nat → Int64 → Int32 → Hs → Option (Int64 × Hs)
  | 0, _, _, _, _ => none
  | n + 1, l0, l3, l5, x => (gI x 6 l0 15).bind fun v4 =>
  (if v4 ≤ l5 then X7_reckons_L169 fu l0 l3 l3 0 x else
  (gR x 6 l0 17).bind fun v15 =>
  (aI x v15 l5).bind fun v16 =>
  (if v16 = 1 then (gR x 6 l0 19).bind fun v17 =>
  (gR x 6 l0 16).bind fun v18 =>
  (aI x v18 l5).bind fun v19 =>
  (aL x v17 v19).bind fun v20 =>
  (gR x 6 l0 18).bind fun v21 =>
  (aI x v21 l5).bind fun v22 =>
  (wL x v17 v19 (v20 + ((Int32.toInt64 v22) * l3))).bind fun y23 =>
  X7_reckons_L113 n l0 l3 (l5 + 1) y23 else
  X7_reckons_L113 n l0 l3 (l5 + 1) x))
theorem okX7_reckons_L113 (G : JG) : ∀ (n : Nat), ∀ (l0 : Nat) (l3 : Int64) (l5 : Int32) (x : Hs), JM G RX7 cX7_reckons 6 (jZ G (some .long) "reckons" (jR 6 0 0) 0 0) (fun r : Int64 × Hs => ((some (.long r.1), r.2) : JR)) 113 [(0, .ref l0), (3, .long l3), (5, .int l5)] [] x 0 0 (X7_reckons_L113 n l0 l3 l5 x) := by
  intro n
  induction n with
  | zero => intro l0 l3 l5 x; exact j_none
  | succ n ih =>
    intro l0 l3 l5 x
    unfold X7_reckons_L113
    refine j_iload 115 2 dX7_reckons_113 rfl rfl ?_
    refine j_aload_n 116 0 dX7_reckons_115 rfl rfl rfl ?_
    refine j_gI 119 kf_X7_213 dX7_reckons_116 rfl ?_
    intro v4
    refine j_icmp_ge 164 122 dX7_reckons_119 (by decide) rfl ?_ ?_
    · refine j_lload_n 165 1 dX7_reckons_164 rfl rfl rfl ?_
      refine j_lstore_n 166 [(1, .long l3), (0, .ref l0), (3, .long l3), (5, .int l5)] dX7_reckons_165 rfl rfl (by decide) rfl ?_
      refine j_iconst (v := 0) 167 dX7_reckons_166 rfl ic_0 ?_
      refine j_istore 169 [(5, .int 0), (1, .long l3), (0, .ref l0), (3, .long l3)] dX7_reckons_167 rfl (by decide) rfl ?_
      refine j_sub [2, 1, 3, 0] rfl ?_
      exact okX7_reckons_L169 G fu l0 l3 l3 0 x
    · refine j_aload_n 123 0 dX7_reckons_122 rfl rfl rfl ?_
      refine j_gR 126 kf_X7_53 dX7_reckons_123 rfl ?_
      intro v15
      refine j_iload 128 2 dX7_reckons_126 rfl rfl ?_
      refine j_aI 129 dX7_reckons_128 rfl ?_
      intro v16
      refine j_iconst (v := 1) 130 dX7_reckons_129 rfl ic_1 ?_
      refine j_icmp_ne 158 133 dX7_reckons_130 (by decide) rfl ?_ ?_
      · refine j_iinc 161 2 [(5, .int (l5 + 1)), (0, .ref l0), (3, .long l3)] dX7_reckons_158 rfl rfl (ii_1 _) (by decide) rfl ?_
        refine j_goto 113 dX7_reckons_161 (by decide) ?_
        refine j_sub [1, 2, 0] rfl ?_
        exact ih l0 l3 (l5 + 1) x
      · refine j_aload_n 134 0 dX7_reckons_133 rfl rfl rfl ?_
        refine j_gR 137 kf_X7_59 dX7_reckons_134 rfl ?_
        intro v17
        refine j_aload_n 138 0 dX7_reckons_137 rfl rfl rfl ?_
        refine j_gR 141 kf_X7_50 dX7_reckons_138 rfl ?_
        intro v18
        refine j_iload 143 2 dX7_reckons_141 rfl rfl ?_
        refine j_aI 144 dX7_reckons_143 rfl ?_
        intro v19
        refine j_dup2_11 145 dX7_reckons_144 rfl rfl rfl ?_
        refine j_aL 146 dX7_reckons_145 rfl ?_
        intro v20
        refine j_aload_n 147 0 dX7_reckons_146 rfl rfl rfl ?_
        refine j_gR 150 kf_X7_56 dX7_reckons_147 rfl ?_
        intro v21
        refine j_iload 152 2 dX7_reckons_150 rfl rfl ?_
        refine j_aI 153 dX7_reckons_152 rfl ?_
        intro v22
        refine j_i2l 154 dX7_reckons_153 rfl ?_
        refine j_lload_n 155 1 dX7_reckons_154 rfl rfl rfl ?_
        refine j_lmul 156 dX7_reckons_155 rfl ?_
        refine j_ladd 157 dX7_reckons_156 rfl ?_
        refine j_wL 158 dX7_reckons_157 rfl ?_
        intro y23
        refine j_iinc 161 2 [(5, .int (l5 + 1)), (0, .ref l0), (3, .long l3)] dX7_reckons_158 rfl rfl (ii_1 _) (by decide) rfl ?_
        refine j_goto 113 dX7_reckons_161 (by decide) ?_
        refine j_sub [1, 2, 0] rfl ?_
        exact ih l0 l3 (l5 + 1) y23
def X7_reckons_L55 : Nat → Nat → Int64 → Int64 → Int32 → Hs → Option (Int64 × Hs)
  | 0, _, _, _, _, _ => none
  | n + 1, l0, l1, l3, l5, x => (gI x 6 l0 0).bind fun v3 =>
  (if v3 ≤ l5 then X7_reckons_L113 fu l0 l3 0 x else
  (gR x 6 l0 19).bind fun v24 =>
  (gR x 6 l0 13).bind fun v25 =>
  (aL x v25 l5).bind fun v26 =>
  (X7_change l0 l5 x).bind fun v27 =>
  (X7_holds l0 l5 x).bind fun v28 =>
  (gR x 6 l0 8).bind fun v29 =>
  (aI x v29 0).bind fun v30 =>
  (o_ldiv l1 (Int32.toInt64 (v28 * v30))).bind fun v31 =>
  (wL x v24 l5 ((v26 * l1) + (v27 * v31))).bind fun y32 =>
  X7_reckons_L55 n l0 l1 l3 (l5 + 1) y32)
theorem okX7_reckons_L55 (G : JG) : ∀ (n : Nat), ∀ (l0 : Nat) (l1 : Int64) (l3 : Int64) (l5 : Int32) (x : Hs), JM G RX7 cX7_reckons 6 (jZ G (some .long) "reckons" (jR 6 0 0) 0 0) (fun r : Int64 × Hs => ((some (.long r.1), r.2) : JR)) 55 [(0, .ref l0), (1, .long l1), (3, .long l3), (5, .int l5)] [] x 0 0 (X7_reckons_L55 n l0 l1 l3 l5 x) := by
  intro n
  induction n with
  | zero => intro l0 l1 l3 l5 x; exact j_none
  | succ n ih =>
    intro l0 l1 l3 l5 x
    unfold X7_reckons_L55
    refine j_iload 57 3 dX7_reckons_55 rfl rfl ?_
    refine j_aload_n 58 0 dX7_reckons_57 rfl rfl rfl ?_
    refine j_gI 61 kf_X7_129 dX7_reckons_58 rfl ?_
    intro v3
    refine j_icmp_ge 110 64 dX7_reckons_61 (by decide) rfl ?_ ?_
    · refine j_iconst (v := 0) 111 dX7_reckons_110 rfl ic_0 ?_
      refine j_istore 113 [(5, .int 0), (0, .ref l0), (1, .long l1), (3, .long l3)] dX7_reckons_111 rfl (by decide) rfl ?_
      refine j_sub [1, 3, 0] rfl ?_
      exact okX7_reckons_L113 G fu l0 l3 0 x
    · refine j_aload_n 65 0 dX7_reckons_64 rfl rfl rfl ?_
      refine j_gR 68 kf_X7_59 dX7_reckons_65 rfl ?_
      intro v24
      refine j_iload 70 3 dX7_reckons_68 rfl rfl ?_
      refine j_aload_n 71 0 dX7_reckons_70 rfl rfl rfl ?_
      refine j_gR 74 kf_X7_47 dX7_reckons_71 rfl ?_
      intro v25
      refine j_iload 76 3 dX7_reckons_74 rfl rfl ?_
      refine j_aL 77 dX7_reckons_76 rfl ?_
      intro v26
      refine j_lload_n 78 1 dX7_reckons_77 rfl rfl rfl ?_
      refine j_lmul 79 dX7_reckons_78 rfl ?_
      refine j_aload_n 80 0 dX7_reckons_79 rfl rfl rfl ?_
      refine j_iload 82 3 dX7_reckons_80 rfl rfl ?_
      refine j_callV_l (ci := 6) (As := [.int l5]) (st := [.long (v26 * l1), .int l5, .ref v24]) 85 (okX7_change G x l0 l5) kc_X7_change kl_X7_220 ki_X7_change kv_X7_change kh_X7 (by decide) (fun _ h => rvX7_change h) ⟨rfl, rfl, Nat.le_of_ble_eq_true rfl, Nat.le_of_ble_eq_true rfl⟩ (Nat.le_of_ble_eq_true rfl) ⟨Nat.le_of_ble_eq_true rfl, Nat.le_of_ble_eq_true rfl⟩ rfl dX7_reckons_82 rfl rfl ?_
      intro v27
      refine j_lload_n 86 1 dX7_reckons_85 rfl rfl rfl ?_
      refine j_aload_n 87 0 dX7_reckons_86 rfl rfl rfl ?_
      refine j_iload 89 3 dX7_reckons_87 rfl rfl ?_
      refine j_callV_i (ci := 6) (As := [.int l5]) (st := [.long l1, .long v27, .long (v26 * l1), .int l5, .ref v24]) 92 (okX7_holds G x l0 l5) kc_X7_holds kl_X7_188 ki_X7_holds kv_X7_holds kh_X7 (by decide) (fun _ h => rvX7_holds h) ⟨rfl, rfl, Nat.le_of_ble_eq_true rfl, Nat.le_of_ble_eq_true rfl⟩ (Nat.le_of_ble_eq_true rfl) ⟨Nat.le_of_ble_eq_true rfl, Nat.le_of_ble_eq_true rfl⟩ rfl dX7_reckons_89 rfl rfl ?_
      intro v28
      refine j_aload_n 93 0 dX7_reckons_92 rfl rfl rfl ?_
      refine j_gR 96 kf_X7_35 dX7_reckons_93 rfl ?_
      intro v29
      refine j_iconst (v := 0) 97 dX7_reckons_96 rfl ic_0 ?_
      refine j_aI 98 dX7_reckons_97 rfl ?_
      intro v30
      refine j_imul 99 dX7_reckons_98 rfl ?_
      refine j_i2l 100 dX7_reckons_99 rfl ?_
      refine j_ldiv 101 dX7_reckons_100 rfl ?_
      intro v31
      refine j_lmul 102 dX7_reckons_101 rfl ?_
      refine j_ladd 103 dX7_reckons_102 rfl ?_
      refine j_wL 104 dX7_reckons_103 rfl ?_
      intro y32
      refine j_iinc 107 3 [(5, .int (l5 + 1)), (0, .ref l0), (1, .long l1), (3, .long l3)] dX7_reckons_104 rfl rfl (ii_1 _) (by decide) rfl ?_
      refine j_goto 55 dX7_reckons_107 (by decide) ?_
      refine j_sub [1, 2, 3, 0] rfl ?_
      exact ih l0 l1 l3 (l5 + 1) y32
def X7_reckons_L4 : Nat → Nat → Int64 → Int32 → Hs → Option (Int64 × Hs)
  | 0, _, _, _, _ => none
  | n + 1, l0, l1, l3, x => (gI x 6 l0 0).bind fun v1 =>
  (if v1 ≤ l3 then (gL x 6 l0 14).bind fun v2 =>
  X7_reckons_L55 fu l0 l1 (v2 * l1) 0 x else
  (X7_holds l0 l3 x).bind fun v33 =>
  (gR x 6 l0 8).bind fun v34 =>
  (aI x v34 0).bind fun v35 =>
  (X7_divisor l1 (Int32.toInt64 (v33 * v35))).bind fun v36 =>
  (o_ldiv l1 v36).bind fun v37 =>
  X7_reckons_L4 n l0 (v37 * (Int32.toInt64 (v33 * v35))) (l3 + 1) x)
theorem okX7_reckons_L4 (G : JG) : ∀ (n : Nat), ∀ (l0 : Nat) (l1 : Int64) (l3 : Int32) (x : Hs), JM G RX7 cX7_reckons 6 (jZ G (some .long) "reckons" (jR 6 0 0) 0 0) (fun r : Int64 × Hs => ((some (.long r.1), r.2) : JR)) 4 [(0, .ref l0), (1, .long l1), (3, .int l3)] [] x 0 0 (X7_reckons_L4 n l0 l1 l3 x) := by
  intro n
  induction n with
  | zero => intro l0 l1 l3 x; exact j_none
  | succ n ih =>
    intro l0 l1 l3 x
    unfold X7_reckons_L4
    refine j_iload_n 5 2 dX7_reckons_4 rfl rfl rfl ?_
    refine j_aload_n 6 0 dX7_reckons_5 rfl rfl rfl ?_
    refine j_gI 9 kf_X7_129 dX7_reckons_6 rfl ?_
    intro v1
    refine j_icmp_ge 45 12 dX7_reckons_9 (by decide) rfl ?_ ?_
    · refine j_aload_n 46 0 dX7_reckons_45 rfl rfl rfl ?_
      refine j_gL 49 kf_X7_207 dX7_reckons_46 rfl ?_
      intro v2
      refine j_lload_n 50 1 dX7_reckons_49 rfl rfl rfl ?_
      refine j_lmul 51 dX7_reckons_50 rfl ?_
      refine j_lstore_n 52 [(3, .long (v2 * l1)), (0, .ref l0), (1, .long l1)] dX7_reckons_51 rfl rfl (by decide) rfl ?_
      refine j_iconst (v := 0) 53 dX7_reckons_52 rfl ic_0 ?_
      refine j_istore 55 [(5, .int 0), (3, .long (v2 * l1)), (0, .ref l0), (1, .long l1)] dX7_reckons_53 rfl (by decide) rfl ?_
      refine j_sub [2, 3, 1, 0] rfl ?_
      exact okX7_reckons_L55 G fu l0 l1 (v2 * l1) 0 x
    · refine j_aload_n 13 0 dX7_reckons_12 rfl rfl rfl ?_
      refine j_iload_n 14 2 dX7_reckons_13 rfl rfl rfl ?_
      refine j_callV_i (ci := 6) (As := [.int l3]) (st := []) 17 (okX7_holds G x l0 l3) kc_X7_holds kl_X7_188 ki_X7_holds kv_X7_holds kh_X7 (by decide) (fun _ h => rvX7_holds h) ⟨rfl, rfl, Nat.le_of_ble_eq_true rfl, Nat.le_of_ble_eq_true rfl⟩ (Nat.le_of_ble_eq_true rfl) ⟨Nat.le_of_ble_eq_true rfl, Nat.le_of_ble_eq_true rfl⟩ rfl dX7_reckons_14 rfl rfl ?_
      intro v33
      refine j_aload_n 18 0 dX7_reckons_17 rfl rfl rfl ?_
      refine j_gR 21 kf_X7_35 dX7_reckons_18 rfl ?_
      intro v34
      refine j_iconst (v := 0) 22 dX7_reckons_21 rfl ic_0 ?_
      refine j_aI 23 dX7_reckons_22 rfl ?_
      intro v35
      refine j_imul 24 dX7_reckons_23 rfl ?_
      refine j_i2l 25 dX7_reckons_24 rfl ?_
      refine j_lstore 27 [(4, .long (Int32.toInt64 (v33 * v35))), (0, .ref l0), (1, .long l1), (3, .int l3)] dX7_reckons_25 rfl (by decide) rfl ?_
      refine j_lload_n 28 2 dX7_reckons_27 rfl rfl rfl ?_
      refine j_lload_n 29 2 dX7_reckons_28 rfl rfl rfl ?_
      refine j_lload 31 0 dX7_reckons_29 rfl rfl ?_
      refine j_callS_l (As := [.long l1, .long (Int32.toInt64 (v33 * v35))]) (st := [.long l1]) 34 (okX7_divisor G x l1 (Int32.toInt64 (v33 * v35))) kc_X7_divisor kl_X7_143 ks_X7_divisor ⟨rfl, rfl, Nat.le_of_ble_eq_true rfl, Nat.le_of_ble_eq_true rfl⟩ (Nat.le_of_ble_eq_true rfl) ⟨Nat.le_of_ble_eq_true rfl, Nat.le_of_ble_eq_true rfl⟩ rfl dX7_reckons_31 rfl rfl ?_
      intro v36
      refine j_ldiv 35 dX7_reckons_34 rfl ?_
      intro v37
      refine j_lload 37 0 dX7_reckons_35 rfl rfl ?_
      refine j_lmul 38 dX7_reckons_37 rfl ?_
      refine j_lstore_n 39 [(1, .long (v37 * (Int32.toInt64 (v33 * v35)))), (4, .long (Int32.toInt64 (v33 * v35))), (0, .ref l0), (3, .int l3)] dX7_reckons_38 rfl rfl (by decide) rfl ?_
      refine j_iinc 42 3 [(3, .int (l3 + 1)), (1, .long (v37 * (Int32.toInt64 (v33 * v35)))), (4, .long (Int32.toInt64 (v33 * v35))), (0, .ref l0)] dX7_reckons_39 rfl rfl (ii_1 _) (by decide) rfl ?_
      refine j_goto 4 dX7_reckons_42 (by decide) ?_
      refine j_sub [3, 1, 0] rfl ?_
      exact ih l0 (v37 * (Int32.toInt64 (v33 * v35))) (l3 + 1) x
def X7_reckons (a0 : Nat) (x : Hs) : Option (Int64 × Hs) := (vO x 6 a0).bind fun _ =>
  X7_reckons_L4 fu a0 1 0 x
theorem rvX7_reckons {a0 : Nat} {x : Hs} {r : Int64 × Hs} (h : X7_reckons a0 x = some r) : ∃ fs, x.1 a0 = .inr (6, fs) := vO_bind h
theorem okX7_reckons (G : JG) (x : Hs) (a0 : Nat) : ∀ r, X7_reckons a0 x = some r → JC G yX7_reckons cX7_reckons 6 (some .long) (jR 6 0 0) 0 0 [.ref a0] x ((some (.long r.1), r.2)) := by
  refine jc_of (own := RX7) (E := (fun r : Int64 × Hs => ((some (.long r.1), r.2) : JR))) (by decide) rfl rfl (Nat.le_of_ble_eq_true rfl) rfl ?_
  unfold X7_reckons
  refine j_chk ?_
  refine j_lconst (v := 1) 1 dX7_reckons_0 rfl lc_1 ?_
  refine j_lstore_n 2 [(1, .long 1), (0, .ref a0)] dX7_reckons_1 rfl rfl (by decide) rfl ?_
  refine j_iconst (v := 0) 3 dX7_reckons_2 rfl ic_0 ?_
  refine j_istore_n 4 [(3, .int 0), (1, .long 1), (0, .ref a0)] dX7_reckons_3 rfl rfl (by decide) rfl ?_
  refine j_sub [2, 1, 0] rfl ?_
  exact okX7_reckons_L4 G fu a0 1 0 x
-- X7_goes: ('BarStepsModel', 'goes', '()Z')
def X7_goes_L97 : Nat → Nat → Int32 → Int32 → Hs → Option (Int32 × Hs)
  | 0, _, _, _, _ => none
  | n + 1, l0, l3, l4, x => (gI x 6 l0 15).bind fun v6 =>
  (if v6 ≤ l4 then (pV x 6 l0 15 (.int l3)).bind fun y7 =>
  (zb 1).bind fun v8 => some (v8, y7) else
  (gR x 6 l0 17).bind fun v9 =>
  (aI x v9 l4).bind fun v10 =>
  (if v10 ≤ 1 then X7_goes_L97 n l0 l3 (l4 + 1) x else
  (gR x 6 l0 16).bind fun v11 =>
  (gR x 6 l0 16).bind fun v12 =>
  (aI x v12 l4).bind fun v13 =>
  (wI x v11 l3 v13).bind fun y14 =>
  (gR y14 6 l0 17).bind fun v15 =>
  (gR y14 6 l0 17).bind fun v16 =>
  (aI y14 v16 l4).bind fun v17 =>
  (wI y14 v15 l3 (v17 - 1)).bind fun y18 =>
  (gR y18 6 l0 18).bind fun v19 =>
  (gR y18 6 l0 18).bind fun v20 =>
  (aI y18 v20 l4).bind fun v21 =>
  (wI y18 v19 l3 v21).bind fun y22 =>
  X7_goes_L97 n l0 (l3 + 1) (l4 + 1) y22))
theorem okX7_goes_L97 (G : JG) : ∀ (n : Nat), ∀ (l0 : Nat) (l3 : Int32) (l4 : Int32) (x : Hs), JM G RX7 cX7_goes 5 (jZ G (some .boolean) "goes" (jR 7 0 0) 0 0) (fun r : Int32 × Hs => ((some (.int r.1), r.2) : JR)) 97 [(0, .ref l0), (3, .int l3), (4, .int l4)] [] x 0 0 (X7_goes_L97 n l0 l3 l4 x) := by
  intro n
  induction n with
  | zero => intro l0 l3 l4 x; exact j_none
  | succ n ih =>
    intro l0 l3 l4 x
    unfold X7_goes_L97
    refine j_iload 99 2 dX7_goes_97 rfl rfl ?_
    refine j_aload_n 100 0 dX7_goes_99 rfl rfl rfl ?_
    refine j_gI 103 kf_X7_213 dX7_goes_100 rfl ?_
    intro v6
    refine j_icmp_ge 167 106 dX7_goes_103 (by decide) rfl ?_ ?_
    · refine j_aload_n 168 0 dX7_goes_167 rfl rfl rfl ?_
      refine j_iload_n 169 1 dX7_goes_168 rfl rfl rfl ?_
      refine j_put 172 kf_X7_213 dX7_goes_169 rfl rfl rfl ?_
      intro y7
      refine j_iconst (v := 1) 173 dX7_goes_172 rfl ic_1 ?_
      exact j_zret dX7_goes_173 (fun _ => rfl)
    · refine j_aload_n 107 0 dX7_goes_106 rfl rfl rfl ?_
      refine j_gR 110 kf_X7_53 dX7_goes_107 rfl ?_
      intro v9
      refine j_iload 112 2 dX7_goes_110 rfl rfl ?_
      refine j_aI 113 dX7_goes_112 rfl ?_
      intro v10
      refine j_iconst (v := 1) 114 dX7_goes_113 rfl ic_1 ?_
      refine j_icmp_le 161 117 dX7_goes_114 (by decide) rfl ?_ ?_
      · refine j_iinc 164 2 [(4, .int (l4 + 1)), (0, .ref l0), (3, .int l3)] dX7_goes_161 rfl rfl (ii_1 _) (by decide) rfl ?_
        refine j_goto 97 dX7_goes_164 (by decide) ?_
        refine j_sub [1, 2, 0] rfl ?_
        exact ih l0 l3 (l4 + 1) x
      · refine j_aload_n 118 0 dX7_goes_117 rfl rfl rfl ?_
        refine j_gR 121 kf_X7_50 dX7_goes_118 rfl ?_
        intro v11
        refine j_iload_n 122 1 dX7_goes_121 rfl rfl rfl ?_
        refine j_aload_n 123 0 dX7_goes_122 rfl rfl rfl ?_
        refine j_gR 126 kf_X7_50 dX7_goes_123 rfl ?_
        intro v12
        refine j_iload 128 2 dX7_goes_126 rfl rfl ?_
        refine j_aI 129 dX7_goes_128 rfl ?_
        intro v13
        refine j_wI 130 dX7_goes_129 rfl ?_
        intro y14
        refine j_aload_n 131 0 dX7_goes_130 rfl rfl rfl ?_
        refine j_gR 134 kf_X7_53 dX7_goes_131 rfl ?_
        intro v15
        refine j_iload_n 135 1 dX7_goes_134 rfl rfl rfl ?_
        refine j_aload_n 136 0 dX7_goes_135 rfl rfl rfl ?_
        refine j_gR 139 kf_X7_53 dX7_goes_136 rfl ?_
        intro v16
        refine j_iload 141 2 dX7_goes_139 rfl rfl ?_
        refine j_aI 142 dX7_goes_141 rfl ?_
        intro v17
        refine j_iconst (v := 1) 143 dX7_goes_142 rfl ic_1 ?_
        refine j_isub 144 dX7_goes_143 rfl ?_
        refine j_wI 145 dX7_goes_144 rfl ?_
        intro y18
        refine j_aload_n 146 0 dX7_goes_145 rfl rfl rfl ?_
        refine j_gR 149 kf_X7_56 dX7_goes_146 rfl ?_
        intro v19
        refine j_iload_n 150 1 dX7_goes_149 rfl rfl rfl ?_
        refine j_aload_n 151 0 dX7_goes_150 rfl rfl rfl ?_
        refine j_gR 154 kf_X7_56 dX7_goes_151 rfl ?_
        intro v20
        refine j_iload 156 2 dX7_goes_154 rfl rfl ?_
        refine j_aI 157 dX7_goes_156 rfl ?_
        intro v21
        refine j_wI 158 dX7_goes_157 rfl ?_
        intro y22
        refine j_iinc 161 1 [(3, .int (l3 + 1)), (0, .ref l0), (4, .int l4)] dX7_goes_158 rfl rfl (ii_1 _) (by decide) rfl ?_
        refine j_iinc 164 2 [(4, .int (l4 + 1)), (3, .int (l3 + 1)), (0, .ref l0)] dX7_goes_161 rfl rfl (ii_1 _) (by decide) rfl ?_
        refine j_goto 97 dX7_goes_164 (by decide) ?_
        refine j_sub [2, 1, 0] rfl ?_
        exact ih l0 (l3 + 1) (l4 + 1) y22
def X7_goes_L61 : Nat → Nat → Int64 → Int32 → Hs → Option (Int32 × Hs)
  | 0, _, _, _, _ => none
  | n + 1, l0, l1, l3, x => (gI x 6 l0 0).bind fun v4 =>
  (if v4 ≤ l3 then (pV x 6 l0 14 (.long l1)).bind fun y5 =>
  X7_goes_L97 fu l0 0 0 y5 else
  (gR x 6 l0 13).bind fun v23 =>
  (gR x 6 l0 19).bind fun v24 =>
  (aL x v24 l3).bind fun v25 =>
  (wL x v23 l3 v25).bind fun y26 =>
  X7_goes_L61 n l0 l1 (l3 + 1) y26)
theorem okX7_goes_L61 (G : JG) : ∀ (n : Nat), ∀ (l0 : Nat) (l1 : Int64) (l3 : Int32) (x : Hs), JM G RX7 cX7_goes 5 (jZ G (some .boolean) "goes" (jR 7 0 0) 0 0) (fun r : Int32 × Hs => ((some (.int r.1), r.2) : JR)) 61 [(0, .ref l0), (1, .long l1), (3, .int l3)] [] x 0 0 (X7_goes_L61 n l0 l1 l3 x) := by
  intro n
  induction n with
  | zero => intro l0 l1 l3 x; exact j_none
  | succ n ih =>
    intro l0 l1 l3 x
    unfold X7_goes_L61
    refine j_iload_n 62 2 dX7_goes_61 rfl rfl rfl ?_
    refine j_aload_n 63 0 dX7_goes_62 rfl rfl rfl ?_
    refine j_gI 66 kf_X7_129 dX7_goes_63 rfl ?_
    intro v4
    refine j_icmp_ge 87 69 dX7_goes_66 (by decide) rfl ?_ ?_
    · refine j_aload_n 88 0 dX7_goes_87 rfl rfl rfl ?_
      refine j_lload_n 89 1 dX7_goes_88 rfl rfl rfl ?_
      refine j_put 92 kf_X7_207 dX7_goes_89 rfl rfl rfl ?_
      intro y5
      refine j_iconst (v := 0) 93 dX7_goes_92 rfl ic_0 ?_
      refine j_istore_n 94 [(3, .int 0), (0, .ref l0), (1, .long l1)] dX7_goes_93 rfl rfl (by decide) rfl ?_
      refine j_iconst (v := 0) 95 dX7_goes_94 rfl ic_0 ?_
      refine j_istore 97 [(4, .int 0), (3, .int 0), (0, .ref l0), (1, .long l1)] dX7_goes_95 rfl (by decide) rfl ?_
      refine j_sub [2, 1, 0] rfl ?_
      exact okX7_goes_L97 G fu l0 0 0 y5
    · refine j_aload_n 70 0 dX7_goes_69 rfl rfl rfl ?_
      refine j_gR 73 kf_X7_47 dX7_goes_70 rfl ?_
      intro v23
      refine j_iload_n 74 2 dX7_goes_73 rfl rfl rfl ?_
      refine j_aload_n 75 0 dX7_goes_74 rfl rfl rfl ?_
      refine j_gR 78 kf_X7_59 dX7_goes_75 rfl ?_
      intro v24
      refine j_iload_n 79 2 dX7_goes_78 rfl rfl rfl ?_
      refine j_aL 80 dX7_goes_79 rfl ?_
      intro v25
      refine j_wL 81 dX7_goes_80 rfl ?_
      intro y26
      refine j_iinc 84 2 [(3, .int (l3 + 1)), (0, .ref l0), (1, .long l1)] dX7_goes_81 rfl rfl (ii_1 _) (by decide) rfl ?_
      refine j_goto 61 dX7_goes_84 (by decide) ?_
      refine j_sub [1, 2, 0] rfl ?_
      exact ih l0 l1 (l3 + 1) y26
def X7_goes_L22 : Nat → Nat → Int64 → Int32 → Hs → Option (Int32 × Hs)
  | 0, _, _, _, _ => none
  | n + 1, l0, l1, l3, x => (gI x 6 l0 0).bind fun v3 =>
  (if v3 ≤ l3 then X7_goes_L61 fu l0 l1 0 x else
  (gR x 6 l0 19).bind fun v27 =>
  (aL x v27 l3).bind fun v28 =>
  (J9_abs_067f4 v28).bind fun v29 =>
  (if v29 ≤ 1000000000000 then X7_goes_L22 n l0 l1 (l3 + 1) x else
  (pV x 6 l0 20 (.int l3)).bind fun y30 =>
  (zb 0).bind fun v31 => some (v31, y30)))
theorem okX7_goes_L22 (G : JG) : ∀ (n : Nat), ∀ (l0 : Nat) (l1 : Int64) (l3 : Int32) (x : Hs), JM G RX7 cX7_goes 5 (jZ G (some .boolean) "goes" (jR 7 0 0) 0 0) (fun r : Int32 × Hs => ((some (.int r.1), r.2) : JR)) 22 [(0, .ref l0), (1, .long l1), (3, .int l3)] [] x 0 0 (X7_goes_L22 n l0 l1 l3 x) := by
  intro n
  induction n with
  | zero => intro l0 l1 l3 x; exact j_none
  | succ n ih =>
    intro l0 l1 l3 x
    unfold X7_goes_L22
    refine j_iload_n 23 2 dX7_goes_22 rfl rfl rfl ?_
    refine j_aload_n 24 0 dX7_goes_23 rfl rfl rfl ?_
    refine j_gI 27 kf_X7_129 dX7_goes_24 rfl ?_
    intro v3
    refine j_icmp_ge 59 30 dX7_goes_27 (by decide) rfl ?_ ?_
    · refine j_iconst (v := 0) 60 dX7_goes_59 rfl ic_0 ?_
      refine j_istore_n 61 [(3, .int 0), (0, .ref l0), (1, .long l1)] dX7_goes_60 rfl rfl (by decide) rfl ?_
      refine j_sub [1, 2, 0] rfl ?_
      exact okX7_goes_L61 G fu l0 l1 0 x
    · refine j_aload_n 31 0 dX7_goes_30 rfl rfl rfl ?_
      refine j_gR 34 kf_X7_59 dX7_goes_31 rfl ?_
      intro v27
      refine j_iload_n 35 2 dX7_goes_34 rfl rfl rfl ?_
      refine j_aL 36 dX7_goes_35 rfl ?_
      intro v28
      refine j_callS_l (As := [.long v28]) (st := []) 39 (okJ9_abs_067f4 G x v28) kc_J9_abs_067f4 kl_X7_137 ks_J9_abs_067f4 ⟨rfl, rfl, Nat.le_of_ble_eq_true rfl, Nat.le_of_ble_eq_true rfl⟩ (Nat.le_of_ble_eq_true rfl) ⟨Nat.le_of_ble_eq_true rfl, Nat.le_of_ble_eq_true rfl⟩ rfl dX7_goes_36 rfl rfl ?_
      intro v29
      refine j_ldc2 42 kk_X7_230 dX7_goes_39 rfl ?_
      refine j_lcmp_le 43 53 46 dX7_goes_42 rfl dX7_goes_43 (by decide) rfl ?_ ?_
      · refine j_iinc 56 2 [(3, .int (l3 + 1)), (0, .ref l0), (1, .long l1)] dX7_goes_53 rfl rfl (ii_1 _) (by decide) rfl ?_
        refine j_goto 22 dX7_goes_56 (by decide) ?_
        refine j_sub [1, 2, 0] rfl ?_
        exact ih l0 l1 (l3 + 1) x
      · refine j_aload_n 47 0 dX7_goes_46 rfl rfl rfl ?_
        refine j_iload_n 48 2 dX7_goes_47 rfl rfl rfl ?_
        refine j_put 51 kf_X7_227 dX7_goes_48 rfl rfl rfl ?_
        intro y30
        refine j_iconst (v := 0) 52 dX7_goes_51 rfl ic_0 ?_
        exact j_zret dX7_goes_52 (fun _ => rfl)
def X7_goes (a0 : Nat) (x : Hs) : Option (Int32 × Hs) := (vO x 6 a0).bind fun _ =>
  (X7_reckons a0 x).bind fun q1 =>
  (pV q1.2 6 a0 20 (.int (-1))).bind fun y2 =>
  (if q1.1 ≤ 1000000000000 then X7_goes_L22 fu a0 q1.1 0 y2 else
  (zb 0).bind fun v32 => some (v32, y2))
theorem rvX7_goes {a0 : Nat} {x : Hs} {r : Int32 × Hs} (h : X7_goes a0 x = some r) : ∃ fs, x.1 a0 = .inr (6, fs) := vO_bind h
theorem okX7_goes (G : JG) (x : Hs) (a0 : Nat) : ∀ r, X7_goes a0 x = some r → JC G yX7_goes cX7_goes 5 (some .boolean) (jR 7 0 0) 0 0 [.ref a0] x ((some (.int r.1), r.2)) := by
  refine jc_of (own := RX7) (E := (fun r : Int32 × Hs => ((some (.int r.1), r.2) : JR))) (by decide) rfl rfl (Nat.le_of_ble_eq_true rfl) rfl ?_
  unfold X7_goes
  refine j_chk ?_
  refine j_aload_n 1 0 dX7_goes_0 rfl rfl rfl ?_
  refine j_callV_lw (ci := 6) (As := []) (st := []) 4 (okX7_reckons G x a0) kc_X7_reckons kl_X7_223 ki_X7_reckons kv_X7_reckons kh_X7 (by decide) (fun _ h => rvX7_reckons h) ⟨rfl, rfl, Nat.le_of_ble_eq_true rfl, Nat.le_of_ble_eq_true rfl⟩ (Nat.le_of_ble_eq_true rfl) ⟨Nat.le_of_ble_eq_true rfl, Nat.le_of_ble_eq_true rfl⟩ rfl dX7_goes_1 rfl rfl ?_
  intro q1
  refine j_lstore_n 5 [(1, .long q1.1), (0, .ref a0)] dX7_goes_4 rfl rfl (by decide) rfl ?_
  refine j_aload_n 6 1 dX7_goes_5 rfl rfl rfl ?_
  refine j_iconst (v := -1) 7 dX7_goes_6 rfl ic_m1 ?_
  refine j_put 10 kf_X7_227 dX7_goes_7 rfl rfl rfl ?_
  intro y2
  refine j_lload_n 11 0 dX7_goes_10 rfl rfl rfl ?_
  refine j_ldc2 14 kk_X7_230 dX7_goes_11 rfl ?_
  refine j_lcmp_le 15 20 18 dX7_goes_14 rfl dX7_goes_15 (by decide) rfl ?_ ?_
  · refine j_iconst (v := 0) 21 dX7_goes_20 rfl ic_0 ?_
    refine j_istore_n 22 [(3, .int 0), (1, .long q1.1), (0, .ref a0)] dX7_goes_21 rfl rfl (by decide) rfl ?_
    refine j_sub [2, 1, 0] rfl ?_
    exact okX7_goes_L22 G fu a0 q1.1 0 y2
  · refine j_iconst (v := 0) 19 dX7_goes_18 rfl ic_0 ?_
    exact j_zret dX7_goes_19 (fun _ => rfl)
-- X7_goes_: ('BarStepsModel', 'goes', '(I)Z')
def X7_goes__L8 : Nat → Nat → Int32 → Int32 → Int32 → Hs → Option (Int32 × Hs)
  | 0, _, _, _, _, _ => none
  | n + 1, l0, l1, l2, l3, x => (if l1 ≤ l3 then (zb l2).bind fun v2 => some (v2, x) else
  (if l2 = 0 then (zb l2).bind fun v3 => some (v3, x) else
  (X7_goes l0 x).bind fun q4 =>
  X7_goes__L8 n l0 l1 q4.1 (l3 + 1) q4.2))
theorem okX7_goes__L8 (G : JG) : ∀ (n : Nat), ∀ (l0 : Nat) (l1 : Int32) (l2 : Int32) (l3 : Int32) (x : Hs), JM G RX7 cX7_goes_ 4 (jZ G (some .boolean) "goes" (jR 8 0 0) 0 0) (fun r : Int32 × Hs => ((some (.int r.1), r.2) : JR)) 8 [(0, .ref l0), (1, .int l1), (2, .int l2), (3, .int l3)] [] x 0 0 (X7_goes__L8 n l0 l1 l2 l3 x) := by
  intro n
  induction n with
  | zero => intro l0 l1 l2 l3 x; exact j_none
  | succ n ih =>
    intro l0 l1 l2 l3 x
    unfold X7_goes__L8
    refine j_iload_n 9 3 dX7_goes__8 rfl rfl rfl ?_
    refine j_iload_n 10 1 dX7_goes__9 rfl rfl rfl ?_
    refine j_icmp_ge 28 13 dX7_goes__10 (by decide) rfl ?_ ?_
    · refine j_iload_n 29 2 dX7_goes__28 rfl rfl rfl ?_
      exact j_zret dX7_goes__29 (fun _ => rfl)
    · refine j_iload_n 14 2 dX7_goes__13 rfl rfl rfl ?_
      refine j_if_eq 28 17 dX7_goes__14 (by decide) rfl ?_ ?_
      · refine j_iload_n 29 2 dX7_goes__28 rfl rfl rfl ?_
        exact j_zret dX7_goes__29 (fun _ => rfl)
      · refine j_aload_n 18 0 dX7_goes__17 rfl rfl rfl ?_
        refine j_callV_iw (ci := 6) (As := []) (st := []) 21 (okX7_goes G x l0) kc_X7_goes kl_X7_235 ki_X7_goes kv_X7_goes kh_X7 (by decide) (fun _ h => rvX7_goes h) ⟨rfl, rfl, Nat.le_of_ble_eq_true rfl, Nat.le_of_ble_eq_true rfl⟩ (Nat.le_of_ble_eq_true rfl) ⟨Nat.le_of_ble_eq_true rfl, Nat.le_of_ble_eq_true rfl⟩ rfl dX7_goes__18 rfl rfl ?_
        intro q4
        refine j_istore_n 22 [(2, .int q4.1), (0, .ref l0), (1, .int l1), (3, .int l3)] dX7_goes__21 rfl rfl (by decide) rfl ?_
        refine j_iinc 25 3 [(3, .int (l3 + 1)), (2, .int q4.1), (0, .ref l0), (1, .int l1)] dX7_goes__22 rfl rfl (ii_1 _) (by decide) rfl ?_
        refine j_goto 8 dX7_goes__25 (by decide) ?_
        refine j_sub [2, 3, 1, 0] rfl ?_
        exact ih l0 l1 q4.1 (l3 + 1) q4.2
def X7_goes_ (a0 : Nat) (a1 : Int32) (x : Hs) : Option (Int32 × Hs) := (vO x 6 a0).bind fun _ =>
  (X7_think a0 x).bind fun q1 =>
  X7_goes__L8 fu a0 a1 1 0 q1
theorem rvX7_goes_ {a0 : Nat} {a1 : Int32} {x : Hs} {r : Int32 × Hs} (h : X7_goes_ a0 a1 x = some r) : ∃ fs, x.1 a0 = .inr (6, fs) := vO_bind h
theorem okX7_goes_ (G : JG) (x : Hs) (a0 : Nat) (a1 : Int32) : ∀ r, X7_goes_ a0 a1 x = some r → JC G yX7_goes_ cX7_goes_ 4 (some .boolean) (jR 8 0 0) 0 0 [.ref a0, .int a1] x ((some (.int r.1), r.2)) := by
  refine jc_of (own := RX7) (E := (fun r : Int32 × Hs => ((some (.int r.1), r.2) : JR))) (by decide) rfl rfl (Nat.le_of_ble_eq_true rfl) rfl ?_
  unfold X7_goes_
  refine j_chk ?_
  refine j_aload_n 1 0 dX7_goes__0 rfl rfl rfl ?_
  refine j_callV_v (ci := 6) (As := []) (st := []) 4 (okX7_think G x a0) kc_X7_think kl_X7_232 ki_X7_think kv_X7_think kh_X7 (by decide) (fun _ h => rvX7_think h) ⟨rfl, rfl, Nat.le_of_ble_eq_true rfl, Nat.le_of_ble_eq_true rfl⟩ (Nat.le_of_ble_eq_true rfl) ⟨Nat.le_of_ble_eq_true rfl, Nat.le_of_ble_eq_true rfl⟩ rfl dX7_goes__1 rfl rfl ?_
  intro q1
  refine j_iconst (v := 1) 5 dX7_goes__4 rfl ic_1 ?_
  refine j_istore_n 6 [(2, .int 1), (0, .ref a0), (1, .int a1)] dX7_goes__5 rfl rfl (by decide) rfl ?_
  refine j_iconst (v := 0) 7 dX7_goes__6 rfl ic_0 ?_
  refine j_istore_n 8 [(3, .int 0), (2, .int 1), (0, .ref a0), (1, .int a1)] dX7_goes__7 rfl rfl (by decide) rfl ?_
  refine j_sub [2, 3, 1, 0] rfl ?_
  exact okX7_goes__L8 G fu a0 a1 1 0 q1
-- X7_greatest: ('BarStepsModel', 'greatest', '()J')
def X7_greatest_L9 (x : Hs) : Nat → Nat → Int64 → Int32 → Option (Int64)
  | 0, _, _, _ => none
  | n + 1, l0, l1, l3 => (gI x 6 l0 0).bind fun v3 =>
  (if v3 ≤ l3 then some l1 else
  (gR x 6 l0 13).bind fun v4 =>
  (aL x v4 l3).bind fun v5 =>
  (J9_max_f86c9 l1 v5).bind fun v6 =>
  X7_greatest_L9 x n l0 v6 (l3 + 1))
theorem okX7_greatest_L9 (G : JG) (x : Hs) : ∀ (n : Nat), ∀ (l0 : Nat) (l1 : Int64) (l3 : Int32), JM G RX7 cX7_greatest 4 (jZ G (some .long) "greatest" (jR 2 0 0) 0 0) (fun r : Int64 => ((some (.long r), x) : JR)) 9 [(0, .ref l0), (1, .long l1), (3, .int l3)] [] x 0 0 (X7_greatest_L9 x n l0 l1 l3) := by
  intro n
  induction n with
  | zero => intro l0 l1 l3; exact j_none
  | succ n ih =>
    intro l0 l1 l3
    unfold X7_greatest_L9
    refine j_iload_n 10 2 dX7_greatest_9 rfl rfl rfl ?_
    refine j_aload_n 11 0 dX7_greatest_10 rfl rfl rfl ?_
    refine j_gI 14 kf_X7_129 dX7_greatest_11 rfl ?_
    intro v3
    refine j_icmp_ge 34 17 dX7_greatest_14 (by decide) rfl ?_ ?_
    · refine j_lload_n 35 1 dX7_greatest_34 rfl rfl rfl ?_
      exact j_lret dX7_greatest_35 rfl
    · refine j_lload_n 18 1 dX7_greatest_17 rfl rfl rfl ?_
      refine j_aload_n 19 0 dX7_greatest_18 rfl rfl rfl ?_
      refine j_gR 22 kf_X7_47 dX7_greatest_19 rfl ?_
      intro v4
      refine j_iload_n 23 2 dX7_greatest_22 rfl rfl rfl ?_
      refine j_aL 24 dX7_greatest_23 rfl ?_
      intro v5
      refine j_callS_l (As := [.long l1, .long v5]) (st := []) 27 (okJ9_max_f86c9 G x l1 v5) kc_J9_max_f86c9 kl_X7_239 ks_J9_max_f86c9 ⟨rfl, rfl, Nat.le_of_ble_eq_true rfl, Nat.le_of_ble_eq_true rfl⟩ (Nat.le_of_ble_eq_true rfl) ⟨Nat.le_of_ble_eq_true rfl, Nat.le_of_ble_eq_true rfl⟩ rfl dX7_greatest_24 rfl rfl ?_
      intro v6
      refine j_lstore_n 28 [(1, .long v6), (0, .ref l0), (3, .int l3)] dX7_greatest_27 rfl rfl (by decide) rfl ?_
      refine j_iinc 31 2 [(3, .int (l3 + 1)), (1, .long v6), (0, .ref l0)] dX7_greatest_28 rfl rfl (ii_1 _) (by decide) rfl ?_
      refine j_goto 9 dX7_greatest_31 (by decide) ?_
      refine j_sub [2, 1, 0] rfl ?_
      exact ih l0 v6 (l3 + 1)
def X7_greatest (a0 : Nat) (x : Hs) : Option (Int64) := (vO x 6 a0).bind fun _ =>
  (gR x 6 a0 13).bind fun v1 =>
  (aL x v1 0).bind fun v2 =>
  X7_greatest_L9 x fu a0 v2 1
theorem rvX7_greatest {a0 : Nat} {x : Hs} {r : Int64} (h : X7_greatest a0 x = some r) : ∃ fs, x.1 a0 = .inr (6, fs) := vO_bind h
theorem okX7_greatest (G : JG) (x : Hs) (a0 : Nat) : ∀ r, X7_greatest a0 x = some r → JC G yX7_greatest cX7_greatest 4 (some .long) (jR 2 0 0) 0 0 [.ref a0] x ((some (.long r), x)) := by
  refine jc_of (own := RX7) (E := (fun r : Int64 => ((some (.long r), x) : JR))) (by decide) rfl rfl (Nat.le_of_ble_eq_true rfl) rfl ?_
  unfold X7_greatest
  refine j_chk ?_
  refine j_aload_n 1 0 dX7_greatest_0 rfl rfl rfl ?_
  refine j_gR 4 kf_X7_47 dX7_greatest_1 rfl ?_
  intro v1
  refine j_iconst (v := 0) 5 dX7_greatest_4 rfl ic_0 ?_
  refine j_aL 6 dX7_greatest_5 rfl ?_
  intro v2
  refine j_lstore_n 7 [(1, .long v2), (0, .ref a0)] dX7_greatest_6 rfl rfl (by decide) rfl ?_
  refine j_iconst (v := 1) 8 dX7_greatest_7 rfl ic_1 ?_
  refine j_istore_n 9 [(3, .int 1), (1, .long v2), (0, .ref a0)] dX7_greatest_8 rfl rfl (by decide) rfl ?_
  refine j_sub [2, 1, 0] rfl ?_
  exact okX7_greatest_L9 G x fu a0 v2 1
-- X7_least: ('BarStepsModel', 'least', '()J')
def X7_least_L9 (x : Hs) : Nat → Nat → Int64 → Int32 → Option (Int64)
  | 0, _, _, _ => none
  | n + 1, l0, l1, l3 => (gI x 6 l0 0).bind fun v3 =>
  (if v3 ≤ l3 then some l1 else
  (gR x 6 l0 13).bind fun v4 =>
  (aL x v4 l3).bind fun v5 =>
  (X7_lesser l1 v5).bind fun v6 =>
  X7_least_L9 x n l0 v6 (l3 + 1))
theorem okX7_least_L9 (G : JG) (x : Hs) : ∀ (n : Nat), ∀ (l0 : Nat) (l1 : Int64) (l3 : Int32), JM G RX7 cX7_least 4 (jZ G (some .long) "least" (jR 2 0 0) 0 0) (fun r : Int64 => ((some (.long r), x) : JR)) 9 [(0, .ref l0), (1, .long l1), (3, .int l3)] [] x 0 0 (X7_least_L9 x n l0 l1 l3) := by
  intro n
  induction n with
  | zero => intro l0 l1 l3; exact j_none
  | succ n ih =>
    intro l0 l1 l3
    unfold X7_least_L9
    refine j_iload_n 10 2 dX7_least_9 rfl rfl rfl ?_
    refine j_aload_n 11 0 dX7_least_10 rfl rfl rfl ?_
    refine j_gI 14 kf_X7_129 dX7_least_11 rfl ?_
    intro v3
    refine j_icmp_ge 34 17 dX7_least_14 (by decide) rfl ?_ ?_
    · refine j_lload_n 35 1 dX7_least_34 rfl rfl rfl ?_
      exact j_lret dX7_least_35 rfl
    · refine j_lload_n 18 1 dX7_least_17 rfl rfl rfl ?_
      refine j_aload_n 19 0 dX7_least_18 rfl rfl rfl ?_
      refine j_gR 22 kf_X7_47 dX7_least_19 rfl ?_
      intro v4
      refine j_iload_n 23 2 dX7_least_22 rfl rfl rfl ?_
      refine j_aL 24 dX7_least_23 rfl ?_
      intro v5
      refine j_callS_l (As := [.long l1, .long v5]) (st := []) 27 (okX7_lesser G x l1 v5) kc_X7_lesser kl_X7_242 ks_X7_lesser ⟨rfl, rfl, Nat.le_of_ble_eq_true rfl, Nat.le_of_ble_eq_true rfl⟩ (Nat.le_of_ble_eq_true rfl) ⟨Nat.le_of_ble_eq_true rfl, Nat.le_of_ble_eq_true rfl⟩ rfl dX7_least_24 rfl rfl ?_
      intro v6
      refine j_lstore_n 28 [(1, .long v6), (0, .ref l0), (3, .int l3)] dX7_least_27 rfl rfl (by decide) rfl ?_
      refine j_iinc 31 2 [(3, .int (l3 + 1)), (1, .long v6), (0, .ref l0)] dX7_least_28 rfl rfl (ii_1 _) (by decide) rfl ?_
      refine j_goto 9 dX7_least_31 (by decide) ?_
      refine j_sub [2, 1, 0] rfl ?_
      exact ih l0 v6 (l3 + 1)
def X7_least (a0 : Nat) (x : Hs) : Option (Int64) := (vO x 6 a0).bind fun _ =>
  (gR x 6 a0 13).bind fun v1 =>
  (aL x v1 0).bind fun v2 =>
  X7_least_L9 x fu a0 v2 1
theorem rvX7_least {a0 : Nat} {x : Hs} {r : Int64} (h : X7_least a0 x = some r) : ∃ fs, x.1 a0 = .inr (6, fs) := vO_bind h
theorem okX7_least (G : JG) (x : Hs) (a0 : Nat) : ∀ r, X7_least a0 x = some r → JC G yX7_least cX7_least 4 (some .long) (jR 2 0 0) 0 0 [.ref a0] x ((some (.long r), x)) := by
  refine jc_of (own := RX7) (E := (fun r : Int64 => ((some (.long r), x) : JR))) (by decide) rfl rfl (Nat.le_of_ble_eq_true rfl) rfl ?_
  unfold X7_least
  refine j_chk ?_
  refine j_aload_n 1 0 dX7_least_0 rfl rfl rfl ?_
  refine j_gR 4 kf_X7_47 dX7_least_1 rfl ?_
  intro v1
  refine j_iconst (v := 0) 5 dX7_least_4 rfl ic_0 ?_
  refine j_aL 6 dX7_least_5 rfl ?_
  intro v2
  refine j_lstore_n 7 [(1, .long v2), (0, .ref a0)] dX7_least_6 rfl rfl (by decide) rfl ?_
  refine j_iconst (v := 1) 8 dX7_least_7 rfl ic_1 ?_
  refine j_istore_n 9 [(3, .int 1), (1, .long v2), (0, .ref a0)] dX7_least_8 rfl rfl (by decide) rfl ?_
  refine j_sub [2, 1, 0] rfl ?_
  exact okX7_least_L9 G x fu a0 v2 1
-- X7_isMore: ('BarStepsModel', 'isMore', '(JJJJ)Z')
def X7_isMore_J70 (l12 : Int64) : Option (Int32) := (if l12 ≤ 0 then (zb 0).bind fun v3 => some v3 else
  (zb 1).bind fun v4 => some v4)
theorem okX7_isMore_J70 (G : JG) (x : Hs) (n : Nat) : ∀ (l12 : Int64), JM G RX7 cX7_isMore 16 (jZ G (some .boolean) "isMore" (jR (n + 3) 0 0) 0 0) (fun r : Int32 => ((some (.int r), x) : JR)) 70 [(12, .long l12)] [] x 0 0 (X7_isMore_J70 l12) := by
  intro l12
  unfold X7_isMore_J70
  refine j_lload 72 0 dX7_isMore_70 rfl rfl ?_
  refine j_lconst (v := 0) 73 dX7_isMore_72 rfl lc_0 ?_
  refine j_lcmp_le 74 81 77 dX7_isMore_73 rfl dX7_isMore_74 (by decide) rfl ?_ ?_
  · refine j_iconst (v := 0) 82 dX7_isMore_81 rfl ic_0 ?_
    exact j_zret dX7_isMore_82 (fun _ => rfl)
  · refine j_iconst (v := 1) 78 dX7_isMore_77 rfl ic_1 ?_
    refine j_goto 82 dX7_isMore_78 (by decide) ?_
    exact j_zret dX7_isMore_82 (fun _ => rfl)
def X7_isMore : Nat → Int64 → Int64 → Int64 → Int64 → Option (Int32)
  | 0, _, _, _, _ => none
  | n + 1, a0, a1, a2, a3 => (J9_floorDiv_f86c9 a0 a1).bind fun v1 =>
  (J9_floorDiv_f86c9 a2 a3).bind fun v2 =>
  (if v1 = v2 then (if (a0 - (v1 * a1)) = 0 then X7_isMore_J70 (a0 - (v1 * a1)) else
  (if (a2 - (v2 * a3)) = 0 then X7_isMore_J70 (a0 - (v1 * a1)) else
  (X7_isMore n a3 (a2 - (v2 * a3)) a1 (a0 - (v1 * a1))).bind fun v5 =>
  (zb v5).bind fun v6 => some v6)) else
  (if v1 ≤ v2 then (zb 0).bind fun v7 => some v7 else
  (zb 1).bind fun v8 => some v8))
theorem okX7_isMore (G : JG) (x : Hs) : ∀ (n : Nat) (a0 : Int64) (a1 : Int64) (a2 : Int64) (a3 : Int64), ∀ r, X7_isMore n a0 a1 a2 a3 = some r → JC G yX7_isMore cX7_isMore 16 (some .boolean) (jR (n + 2) 0 0) 0 0 [.long a0, .long a1, .long a2, .long a3] x ((some (.int r), x)) := by
  intro n
  induction n with
  | zero => intro a0 a1 a2 a3 r h; cases h
  | succ n ih =>
    intro a0 a1 a2 a3
    refine jc_of (own := RX7) (E := (fun r : Int32 => ((some (.int r), x) : JR))) (by decide) rfl rfl (Nat.le_of_ble_eq_true rfl) rfl ?_
    unfold X7_isMore
    refine j_lload_n 1 0 dX7_isMore_0 rfl rfl rfl ?_
    refine j_lload_n 2 1 dX7_isMore_1 rfl rfl rfl ?_
    refine j_callS_l (As := [.long a0, .long a1]) (st := []) 5 (okJ9_floorDiv_f86c9 G x a0 a1) kc_J9_floorDiv_f86c9 kl_X7_245 ks_J9_floorDiv_f86c9 ⟨rfl, rfl, by simp only [jZ, jR]; omega, by simp only [jZ, jR]; omega⟩ (Nat.le_of_ble_eq_true rfl) ⟨by simp only [jZ, jR]; omega, by simp only [jZ, jR]; omega⟩ rfl dX7_isMore_2 rfl rfl ?_
    intro v1
    refine j_lstore 7 [(8, .long v1), (0, .long a0), (2, .long a1), (4, .long a2), (6, .long a3)] dX7_isMore_5 rfl (by decide) rfl ?_
    refine j_lload 9 3 dX7_isMore_7 rfl rfl ?_
    refine j_lload 11 4 dX7_isMore_9 rfl rfl ?_
    refine j_callS_l (As := [.long a2, .long a3]) (st := []) 14 (okJ9_floorDiv_f86c9 G x a2 a3) kc_J9_floorDiv_f86c9 kl_X7_245 ks_J9_floorDiv_f86c9 ⟨rfl, rfl, by simp only [jZ, jR]; omega, by simp only [jZ, jR]; omega⟩ (Nat.le_of_ble_eq_true rfl) ⟨by simp only [jZ, jR]; omega, by simp only [jZ, jR]; omega⟩ rfl dX7_isMore_11 rfl rfl ?_
    intro v2
    refine j_lstore 16 [(10, .long v2), (8, .long v1), (0, .long a0), (2, .long a1), (4, .long a2), (6, .long a3)] dX7_isMore_14 rfl (by decide) rfl ?_
    refine j_lload 18 1 dX7_isMore_16 rfl rfl ?_
    refine j_lload 20 0 dX7_isMore_18 rfl rfl ?_
    refine j_lcmp_eq 21 38 24 dX7_isMore_20 rfl dX7_isMore_21 (by decide) rfl ?_ ?_
    · refine j_lload_n 39 2 dX7_isMore_38 rfl rfl rfl ?_
      refine j_lload 41 1 dX7_isMore_39 rfl rfl ?_
      refine j_lload_n 42 3 dX7_isMore_41 rfl rfl rfl ?_
      refine j_lmul 43 dX7_isMore_42 rfl ?_
      refine j_lsub 44 dX7_isMore_43 rfl ?_
      refine j_lstore 46 [(12, .long (a0 - (v1 * a1))), (10, .long v2), (8, .long v1), (0, .long a0), (2, .long a1), (4, .long a2), (6, .long a3)] dX7_isMore_44 rfl (by decide) rfl ?_
      refine j_lload 48 5 dX7_isMore_46 rfl rfl ?_
      refine j_lload 50 1 dX7_isMore_48 rfl rfl ?_
      refine j_lload 52 6 dX7_isMore_50 rfl rfl ?_
      refine j_lmul 53 dX7_isMore_52 rfl ?_
      refine j_lsub 54 dX7_isMore_53 rfl ?_
      refine j_lstore 56 [(14, .long (a2 - (v2 * a3))), (12, .long (a0 - (v1 * a1))), (10, .long v2), (8, .long v1), (0, .long a0), (2, .long a1), (4, .long a2), (6, .long a3)] dX7_isMore_54 rfl (by decide) rfl ?_
      refine j_lload 58 1 dX7_isMore_56 rfl rfl ?_
      refine j_lconst (v := 0) 59 dX7_isMore_58 rfl lc_0 ?_
      refine j_lcmp_eq 60 70 63 dX7_isMore_59 rfl dX7_isMore_60 (by decide) rfl ?_ ?_
      · refine j_sub [1] rfl ?_
        exact okX7_isMore_J70 G x n (a0 - (v1 * a1))
      · refine j_lload 65 0 dX7_isMore_63 rfl rfl ?_
        refine j_lconst (v := 0) 66 dX7_isMore_65 rfl lc_0 ?_
        refine j_lcmp_ne 67 83 70 dX7_isMore_66 rfl dX7_isMore_67 (by decide) rfl ?_ ?_
        · refine j_lload 85 7 dX7_isMore_83 rfl rfl ?_
          refine j_lload 87 0 dX7_isMore_85 rfl rfl ?_
          refine j_lload_n 88 5 dX7_isMore_87 rfl rfl rfl ?_
          refine j_lload 90 1 dX7_isMore_88 rfl rfl ?_
          refine j_callS_i (As := [.long a3, .long (a2 - (v2 * a3)), .long a1, .long (a0 - (v1 * a1))]) (st := []) 93 (ih a3 (a2 - (v2 * a3)) a1 (a0 - (v1 * a1))) kc_X7_isMore kl_X7_248 ks_X7_isMore ⟨rfl, rfl, by simp only [jZ, jR]; omega, by simp only [jZ, jR]; omega⟩ (Nat.le_of_ble_eq_true rfl) ⟨by simp only [jZ, jR]; omega, by simp only [jZ, jR]; omega⟩ rfl dX7_isMore_90 rfl rfl ?_
          intro v5
          exact j_zret dX7_isMore_93 (fun _ => rfl)
        · refine j_sub [1] rfl ?_
          exact okX7_isMore_J70 G x n (a0 - (v1 * a1))
    · refine j_lload 26 1 dX7_isMore_24 rfl rfl ?_
      refine j_lload 28 0 dX7_isMore_26 rfl rfl ?_
      refine j_lcmp_le 29 36 32 dX7_isMore_28 rfl dX7_isMore_29 (by decide) rfl ?_ ?_
      · refine j_iconst (v := 0) 37 dX7_isMore_36 rfl ic_0 ?_
        exact j_zret dX7_isMore_37 (fun _ => rfl)
      · refine j_iconst (v := 1) 33 dX7_isMore_32 rfl ic_1 ?_
        refine j_goto 37 dX7_isMore_33 (by decide) ?_
        exact j_zret dX7_isMore_37 (fun _ => rfl)
-- X7_t: ('BarStepsModel', 't', '(II)J')
def X7_t (a0 : Nat) (a1 : Int32) (a2 : Int32) (x : Hs) : Option (Int64) := (vO x 6 a0).bind fun _ =>
  (X7_isCell a0 a1 x).bind fun v1 =>
  (if v1 = 0 then some (-9223372036854775808) else
  (X7_isIn (Int32.toInt64 a2) 0 1).bind fun v2 =>
  (if v2 = 0 then some (-9223372036854775808) else
  (gR x 6 a0 5).bind fun v3 =>
  (aL x v3 a1).bind fun v4 =>
  (gL x 6 a0 6).bind fun v5 =>
  (X7_part v4 v5 a2).bind fun v6 =>
  some v6))
theorem rvX7_t {a0 : Nat} {a1 : Int32} {a2 : Int32} {x : Hs} {r : Int64} (h : X7_t a0 a1 a2 x = some r) : ∃ fs, x.1 a0 = .inr (6, fs) := vO_bind h
theorem okX7_t (G : JG) (x : Hs) (a0 : Nat) (a1 : Int32) (a2 : Int32) : ∀ r, X7_t a0 a1 a2 x = some r → JC G yX7_t cX7_t 3 (some .long) (jR 4 0 0) 0 0 [.ref a0, .int a1, .int a2] x ((some (.long r), x)) := by
  refine jc_of (own := RX7) (E := (fun r : Int64 => ((some (.long r), x) : JR))) (by decide) rfl rfl (Nat.le_of_ble_eq_true rfl) rfl ?_
  unfold X7_t
  refine j_chk ?_
  refine j_aload_n 1 0 dX7_t_0 rfl rfl rfl ?_
  refine j_iload_n 2 1 dX7_t_1 rfl rfl rfl ?_
  refine j_callV_i (ci := 6) (As := [.int a1]) (st := []) 5 (okX7_isCell G x a0 a1) kc_X7_isCell kl_X7_177 ki_X7_isCell kv_X7_isCell kh_X7 (by decide) (fun _ h => rvX7_isCell h) ⟨rfl, rfl, Nat.le_of_ble_eq_true rfl, Nat.le_of_ble_eq_true rfl⟩ (Nat.le_of_ble_eq_true rfl) ⟨Nat.le_of_ble_eq_true rfl, Nat.le_of_ble_eq_true rfl⟩ rfl dX7_t_2 rfl rfl ?_
  intro v1
  refine j_if_eq 35 8 dX7_t_5 (by decide) rfl ?_ ?_
  · refine j_ldc2 38 kk_X7_256 dX7_t_35 rfl ?_
    exact j_lret dX7_t_38 rfl
  · refine j_iload_n 9 2 dX7_t_8 rfl rfl rfl ?_
    refine j_i2l 10 dX7_t_9 rfl ?_
    refine j_lconst (v := 0) 11 dX7_t_10 rfl lc_0 ?_
    refine j_lconst (v := 1) 12 dX7_t_11 rfl lc_1 ?_
    refine j_callS_i (As := [.long (Int32.toInt64 a2), .long 0, .long 1]) (st := []) 15 (okX7_isIn G x (Int32.toInt64 a2) 0 1) kc_X7_isIn kl_X7_133 ks_X7_isIn ⟨rfl, rfl, Nat.le_of_ble_eq_true rfl, Nat.le_of_ble_eq_true rfl⟩ (Nat.le_of_ble_eq_true rfl) ⟨Nat.le_of_ble_eq_true rfl, Nat.le_of_ble_eq_true rfl⟩ rfl dX7_t_12 rfl rfl ?_
    intro v2
    refine j_if_eq 35 18 dX7_t_15 (by decide) rfl ?_ ?_
    · refine j_ldc2 38 kk_X7_256 dX7_t_35 rfl ?_
      exact j_lret dX7_t_38 rfl
    · refine j_aload_n 19 0 dX7_t_18 rfl rfl rfl ?_
      refine j_gR 22 kf_X7_24 dX7_t_19 rfl ?_
      intro v3
      refine j_iload_n 23 1 dX7_t_22 rfl rfl rfl ?_
      refine j_aL 24 dX7_t_23 rfl ?_
      intro v4
      refine j_aload_n 25 0 dX7_t_24 rfl rfl rfl ?_
      refine j_gL 28 kf_X7_28 dX7_t_25 rfl ?_
      intro v5
      refine j_iload_n 29 2 dX7_t_28 rfl rfl rfl ?_
      refine j_callS_l (As := [.long v4, .long v5, .int a2]) (st := []) 32 (okX7_part G x v4 v5 a2) kc_X7_part kl_X7_252 ks_X7_part ⟨rfl, rfl, Nat.le_of_ble_eq_true rfl, Nat.le_of_ble_eq_true rfl⟩ (Nat.le_of_ble_eq_true rfl) ⟨Nat.le_of_ble_eq_true rfl, Nat.le_of_ble_eq_true rfl⟩ rfl dX7_t_29 rfl rfl ?_
      intro v6
      refine j_goto 38 dX7_t_32 (by decide) ?_
      exact j_lret dX7_t_38 rfl
-- X7_line: ('BarStepsModel', 'line', '()J')
def X7_line (a0 : Nat) (x : Hs) : Option (Int64) := (vO x 6 a0).bind fun _ =>
  (gL x 6 a0 6).bind fun v1 =>
  some v1
theorem rvX7_line {a0 : Nat} {x : Hs} {r : Int64} (h : X7_line a0 x = some r) : ∃ fs, x.1 a0 = .inr (6, fs) := vO_bind h
theorem okX7_line (G : JG) (x : Hs) (a0 : Nat) : ∀ r, X7_line a0 x = some r → JC G yX7_line cX7_line 1 (some .long) (jR 1 0 0) 0 0 [.ref a0] x ((some (.long r), x)) := by
  refine jc_of (own := RX7) (E := (fun r : Int64 => ((some (.long r), x) : JR))) (by decide) rfl rfl (Nat.le_of_ble_eq_true rfl) rfl ?_
  unfold X7_line
  refine j_chk ?_
  refine j_aload_n 1 0 dX7_line_0 rfl rfl rfl ?_
  refine j_gL 4 kf_X7_28 dX7_line_1 rfl ?_
  intro v1
  exact j_lret dX7_line_4 rfl
-- X7_flow: ('BarStepsModel', 'flow', '(II)J')
def X7_flow (a0 : Nat) (a1 : Int32) (a2 : Int32) (x : Hs) : Option (Int64 × Hs) := (vO x 6 a0).bind fun _ =>
  (X7_isJoint a0 a1 x).bind fun v1 =>
  (if v1 = 0 then some ((-9223372036854775808), x) else
  (X7_isIn (Int32.toInt64 a2) 0 1).bind fun v2 =>
  (if v2 = 0 then some ((-9223372036854775808), x) else
  (X7_think a0 x).bind fun q3 =>
  (X7_flows a0 a1 q3).bind fun v4 =>
  (gL q3 6 a0 6).bind fun v5 =>
  (X7_part v4 v5 a2).bind fun v6 =>
  some (v6, q3)))
theorem rvX7_flow {a0 : Nat} {a1 : Int32} {a2 : Int32} {x : Hs} {r : Int64 × Hs} (h : X7_flow a0 a1 a2 x = some r) : ∃ fs, x.1 a0 = .inr (6, fs) := vO_bind h
theorem okX7_flow (G : JG) (x : Hs) (a0 : Nat) (a1 : Int32) (a2 : Int32) : ∀ r, X7_flow a0 a1 a2 x = some r → JC G yX7_flow cX7_flow 3 (some .long) (jR 5 0 0) 0 0 [.ref a0, .int a1, .int a2] x ((some (.long r.1), r.2)) := by
  refine jc_of (own := RX7) (E := (fun r : Int64 × Hs => ((some (.long r.1), r.2) : JR))) (by decide) rfl rfl (Nat.le_of_ble_eq_true rfl) rfl ?_
  unfold X7_flow
  refine j_chk ?_
  refine j_aload_n 1 0 dX7_flow_0 rfl rfl rfl ?_
  refine j_iload_n 2 1 dX7_flow_1 rfl rfl rfl ?_
  refine j_callV_i (ci := 6) (As := [.int a1]) (st := []) 5 (okX7_isJoint G x a0 a1) kc_X7_isJoint kl_X7_201 ki_X7_isJoint kv_X7_isJoint kh_X7 (by decide) (fun _ h => rvX7_isJoint h) ⟨rfl, rfl, Nat.le_of_ble_eq_true rfl, Nat.le_of_ble_eq_true rfl⟩ (Nat.le_of_ble_eq_true rfl) ⟨Nat.le_of_ble_eq_true rfl, Nat.le_of_ble_eq_true rfl⟩ rfl dX7_flow_2 rfl rfl ?_
  intro v1
  refine j_if_eq 18 8 dX7_flow_5 (by decide) rfl ?_ ?_
  · refine j_ldc2 21 kk_X7_256 dX7_flow_18 rfl ?_
    exact j_lret dX7_flow_21 rfl
  · refine j_iload_n 9 2 dX7_flow_8 rfl rfl rfl ?_
    refine j_i2l 10 dX7_flow_9 rfl ?_
    refine j_lconst (v := 0) 11 dX7_flow_10 rfl lc_0 ?_
    refine j_lconst (v := 1) 12 dX7_flow_11 rfl lc_1 ?_
    refine j_callS_i (As := [.long (Int32.toInt64 a2), .long 0, .long 1]) (st := []) 15 (okX7_isIn G x (Int32.toInt64 a2) 0 1) kc_X7_isIn kl_X7_133 ks_X7_isIn ⟨rfl, rfl, Nat.le_of_ble_eq_true rfl, Nat.le_of_ble_eq_true rfl⟩ (Nat.le_of_ble_eq_true rfl) ⟨Nat.le_of_ble_eq_true rfl, Nat.le_of_ble_eq_true rfl⟩ rfl dX7_flow_12 rfl rfl ?_
    intro v2
    refine j_if_ne 22 18 dX7_flow_15 (by decide) rfl ?_ ?_
    · refine j_aload_n 23 0 dX7_flow_22 rfl rfl rfl ?_
      refine j_callV_v (ci := 6) (As := []) (st := []) 26 (okX7_think G x a0) kc_X7_think kl_X7_232 ki_X7_think kv_X7_think kh_X7 (by decide) (fun _ h => rvX7_think h) ⟨rfl, rfl, Nat.le_of_ble_eq_true rfl, Nat.le_of_ble_eq_true rfl⟩ (Nat.le_of_ble_eq_true rfl) ⟨Nat.le_of_ble_eq_true rfl, Nat.le_of_ble_eq_true rfl⟩ rfl dX7_flow_23 rfl rfl ?_
      intro q3
      refine j_aload_n 27 0 dX7_flow_26 rfl rfl rfl ?_
      refine j_iload_n 28 1 dX7_flow_27 rfl rfl rfl ?_
      refine j_callV_l (ci := 6) (As := [.int a1]) (st := []) 31 (okX7_flows G q3 a0 a1) kc_X7_flows kl_X7_216 ki_X7_flows kv_X7_flows kh_X7 (by decide) (fun _ h => rvX7_flows h) ⟨rfl, rfl, Nat.le_of_ble_eq_true rfl, Nat.le_of_ble_eq_true rfl⟩ (Nat.le_of_ble_eq_true rfl) ⟨Nat.le_of_ble_eq_true rfl, Nat.le_of_ble_eq_true rfl⟩ rfl dX7_flow_28 rfl rfl ?_
      intro v4
      refine j_aload_n 32 0 dX7_flow_31 rfl rfl rfl ?_
      refine j_gL 35 kf_X7_28 dX7_flow_32 rfl ?_
      intro v5
      refine j_iload_n 36 2 dX7_flow_35 rfl rfl rfl ?_
      refine j_callS_l (As := [.long v4, .long v5, .int a2]) (st := []) 39 (okX7_part G q3 v4 v5 a2) kc_X7_part kl_X7_252 ks_X7_part ⟨rfl, rfl, Nat.le_of_ble_eq_true rfl, Nat.le_of_ble_eq_true rfl⟩ (Nat.le_of_ble_eq_true rfl) ⟨Nat.le_of_ble_eq_true rfl, Nat.le_of_ble_eq_true rfl⟩ rfl dX7_flow_36 rfl rfl ?_
      intro v6
      exact j_lret dX7_flow_39 rfl
    · refine j_ldc2 21 kk_X7_256 dX7_flow_18 rfl ?_
      exact j_lret dX7_flow_21 rfl
-- X7_together: ('BarStepsModel', 'together', '(I)I')
def X7_together (a0 : Nat) (a1 : Int32) (x : Hs) : Option (Int32) := (vO x 6 a0).bind fun _ =>
  (X7_leads a0 (a1 - 1) x).bind fun v1 =>
  (X7_leads a0 a1 x).bind fun v2 =>
  (X7_fin a0 a1 x).bind fun v3 =>
  some ((v1 + v2) + v3)
theorem rvX7_together {a0 : Nat} {a1 : Int32} {x : Hs} {r : Int32} (h : X7_together a0 a1 x = some r) : ∃ fs, x.1 a0 = .inr (6, fs) := vO_bind h
theorem okX7_together (G : JG) (x : Hs) (a0 : Nat) (a1 : Int32) : ∀ r, X7_together a0 a1 x = some r → JC G yX7_together cX7_together 2 (some .int) (jR 4 0 0) 0 0 [.ref a0, .int a1] x ((some (.int r), x)) := by
  refine jc_of (own := RX7) (E := (fun r : Int32 => ((some (.int r), x) : JR))) (by decide) rfl rfl (Nat.le_of_ble_eq_true rfl) rfl ?_
  unfold X7_together
  refine j_chk ?_
  refine j_aload_n 1 0 dX7_together_0 rfl rfl rfl ?_
  refine j_iload_n 2 1 dX7_together_1 rfl rfl rfl ?_
  refine j_iconst (v := 1) 3 dX7_together_2 rfl ic_1 ?_
  refine j_isub 4 dX7_together_3 rfl ?_
  refine j_callV_i (ci := 6) (As := [.int (a1 - 1)]) (st := []) 7 (okX7_leads G x a0 (a1 - 1)) kc_X7_leads kl_X7_204 ki_X7_leads kv_X7_leads kh_X7 (by decide) (fun _ h => rvX7_leads h) ⟨rfl, rfl, Nat.le_of_ble_eq_true rfl, Nat.le_of_ble_eq_true rfl⟩ (Nat.le_of_ble_eq_true rfl) ⟨Nat.le_of_ble_eq_true rfl, Nat.le_of_ble_eq_true rfl⟩ rfl dX7_together_4 rfl rfl ?_
  intro v1
  refine j_aload_n 8 0 dX7_together_7 rfl rfl rfl ?_
  refine j_iload_n 9 1 dX7_together_8 rfl rfl rfl ?_
  refine j_callV_i (ci := 6) (As := [.int a1]) (st := [.int v1]) 12 (okX7_leads G x a0 a1) kc_X7_leads kl_X7_204 ki_X7_leads kv_X7_leads kh_X7 (by decide) (fun _ h => rvX7_leads h) ⟨rfl, rfl, Nat.le_of_ble_eq_true rfl, Nat.le_of_ble_eq_true rfl⟩ (Nat.le_of_ble_eq_true rfl) ⟨Nat.le_of_ble_eq_true rfl, Nat.le_of_ble_eq_true rfl⟩ rfl dX7_together_9 rfl rfl ?_
  intro v2
  refine j_iadd 13 dX7_together_12 rfl ?_
  refine j_aload_n 14 0 dX7_together_13 rfl rfl rfl ?_
  refine j_iload_n 15 1 dX7_together_14 rfl rfl rfl ?_
  refine j_callV_i (ci := 6) (As := [.int a1]) (st := [.int (v1 + v2)]) 18 (okX7_fin G x a0 a1) kc_X7_fin kl_X7_191 ki_X7_fin kv_X7_fin kh_X7 (by decide) (fun _ h => rvX7_fin h) ⟨rfl, rfl, Nat.le_of_ble_eq_true rfl, Nat.le_of_ble_eq_true rfl⟩ (Nat.le_of_ble_eq_true rfl) ⟨Nat.le_of_ble_eq_true rfl, Nat.le_of_ble_eq_true rfl⟩ rfl dX7_together_15 rfl rfl ?_
  intro v3
  refine j_iadd 19 dX7_together_18 rfl ?_
  exact j_iret dX7_together_19 rfl
-- X7_stable: ('BarStepsModel', 'stable', '(I)I')
def X7_stable_J42 (x : Hs) (r20 : Nat → Int32 → Int32 → Int32 → Option (Int32)) (l0 : Nat) (l1 : Int32) (l3 : Int32) : Option (Int32) := (X7_together l0 l3 x).bind fun v2 =>
  (X7_holds l0 l3 x).bind fun v3 =>
  (gR x 6 l0 8).bind fun v4 =>
  (aI x v4 0).bind fun v5 =>
  (if (v3 * v5) < v2 then r20 l0 l1 0 (l3 + 1) else
  r20 l0 l1 1 (l3 + 1))
theorem okX7_stable_J42 (G : JG) (x : Hs) (r20 : Nat → Int32 → Int32 → Int32 → Option (Int32)) (hr20 : ∀ (l0 : Nat) (l1 : Int32) (l2 : Int32) (l3 : Int32), JM G RX7 cX7_stable 4 (jZ G (some .int) "stable" (jR 5 0 0) 0 0) (fun r : Int32 => ((some (.int r), x) : JR)) 20 [(0, .ref l0), (1, .int l1), (2, .int l2), (3, .int l3)] [] x 0 0 (r20 l0 l1 l2 l3)) : ∀ (l0 : Nat) (l1 : Int32) (l3 : Int32), JM G RX7 cX7_stable 4 (jZ G (some .int) "stable" (jR 5 0 0) 0 0) (fun r : Int32 => ((some (.int r), x) : JR)) 42 [(0, .ref l0), (1, .int l1), (3, .int l3)] [] x 0 0 (X7_stable_J42 x r20 l0 l1 l3) := by
  intro l0 l1 l3
  unfold X7_stable_J42
  refine j_aload_n 43 0 dX7_stable_42 rfl rfl rfl ?_
  refine j_iload_n 44 2 dX7_stable_43 rfl rfl rfl ?_
  refine j_callV_i (ci := 6) (As := [.int l3]) (st := []) 47 (okX7_together G x l0 l3) kc_X7_together kl_X7_258 ki_X7_together kv_X7_together kh_X7 (by decide) (fun _ h => rvX7_together h) ⟨rfl, rfl, Nat.le_of_ble_eq_true rfl, Nat.le_of_ble_eq_true rfl⟩ (Nat.le_of_ble_eq_true rfl) ⟨Nat.le_of_ble_eq_true rfl, Nat.le_of_ble_eq_true rfl⟩ rfl dX7_stable_44 rfl rfl ?_
  intro v2
  refine j_aload_n 48 0 dX7_stable_47 rfl rfl rfl ?_
  refine j_iload_n 49 2 dX7_stable_48 rfl rfl rfl ?_
  refine j_callV_i (ci := 6) (As := [.int l3]) (st := [.int v2]) 52 (okX7_holds G x l0 l3) kc_X7_holds kl_X7_188 ki_X7_holds kv_X7_holds kh_X7 (by decide) (fun _ h => rvX7_holds h) ⟨rfl, rfl, Nat.le_of_ble_eq_true rfl, Nat.le_of_ble_eq_true rfl⟩ (Nat.le_of_ble_eq_true rfl) ⟨Nat.le_of_ble_eq_true rfl, Nat.le_of_ble_eq_true rfl⟩ rfl dX7_stable_49 rfl rfl ?_
  intro v3
  refine j_aload_n 53 0 dX7_stable_52 rfl rfl rfl ?_
  refine j_gR 56 kf_X7_35 dX7_stable_53 rfl ?_
  intro v4
  refine j_iconst (v := 0) 57 dX7_stable_56 rfl ic_0 ?_
  refine j_aI 58 dX7_stable_57 rfl ?_
  intro v5
  refine j_imul 59 dX7_stable_58 rfl ?_
  refine j_icmp_gt 66 62 dX7_stable_59 (by decide) rfl ?_ ?_
  · refine j_iconst (v := 0) 67 dX7_stable_66 rfl ic_0 ?_
    refine j_istore_n 68 [(2, .int 0), (0, .ref l0), (1, .int l1), (3, .int l3)] dX7_stable_67 rfl rfl (by decide) rfl ?_
    refine j_iinc 71 3 [(3, .int (l3 + 1)), (2, .int 0), (0, .ref l0), (1, .int l1)] dX7_stable_68 rfl rfl (ii_1 _) (by decide) rfl ?_
    refine j_goto 20 dX7_stable_71 (by decide) ?_
    refine j_sub [2, 3, 1, 0] rfl ?_
    exact hr20 l0 l1 0 (l3 + 1)
  · refine j_iconst (v := 1) 63 dX7_stable_62 rfl ic_1 ?_
    refine j_goto 67 dX7_stable_63 (by decide) ?_
    refine j_istore_n 68 [(2, .int 1), (0, .ref l0), (1, .int l1), (3, .int l3)] dX7_stable_67 rfl rfl (by decide) rfl ?_
    refine j_iinc 71 3 [(3, .int (l3 + 1)), (2, .int 1), (0, .ref l0), (1, .int l1)] dX7_stable_68 rfl rfl (ii_1 _) (by decide) rfl ?_
    refine j_goto 20 dX7_stable_71 (by decide) ?_
    refine j_sub [2, 3, 1, 0] rfl ?_
    exact hr20 l0 l1 1 (l3 + 1)
def X7_stable_L20 (x : Hs) : Nat → Nat → Int32 → Int32 → Int32 → Option (Int32)
  | 0, _, _, _, _ => none
  | n + 1, l0, l1, l2, l3 => (gI x 6 l0 0).bind fun v1 =>
  (if v1 ≤ l3 then (if l2 = 0 then some 0 else
  some 1) else
  (if l2 = 0 then X7_stable_L20 x n l0 l1 0 (l3 + 1) else
  (if l1 = (-1) then X7_stable_J42 x (fun l0 l1 l2 l3 => X7_stable_L20 x n l0 l1 l2 l3) l0 l1 l3 else
  (if l1 = l3 then X7_stable_J42 x (fun l0 l1 l2 l3 => X7_stable_L20 x n l0 l1 l2 l3) l0 l1 l3 else
  X7_stable_L20 x n l0 l1 1 (l3 + 1)))))
theorem okX7_stable_L20 (G : JG) (x : Hs) : ∀ (n : Nat), ∀ (l0 : Nat) (l1 : Int32) (l2 : Int32) (l3 : Int32), JM G RX7 cX7_stable 4 (jZ G (some .int) "stable" (jR 5 0 0) 0 0) (fun r : Int32 => ((some (.int r), x) : JR)) 20 [(0, .ref l0), (1, .int l1), (2, .int l2), (3, .int l3)] [] x 0 0 (X7_stable_L20 x n l0 l1 l2 l3) := by
  intro n
  induction n with
  | zero => intro l0 l1 l2 l3; exact j_none
  | succ n ih =>
    intro l0 l1 l2 l3
    unfold X7_stable_L20
    refine j_iload_n 21 3 dX7_stable_20 rfl rfl rfl ?_
    refine j_aload_n 22 0 dX7_stable_21 rfl rfl rfl ?_
    refine j_gI 25 kf_X7_129 dX7_stable_22 rfl ?_
    intro v1
    refine j_icmp_ge 74 28 dX7_stable_25 (by decide) rfl ?_ ?_
    · refine j_iload_n 75 2 dX7_stable_74 rfl rfl rfl ?_
      refine j_if_eq 82 78 dX7_stable_75 (by decide) rfl ?_ ?_
      · refine j_iconst (v := 0) 83 dX7_stable_82 rfl ic_0 ?_
        exact j_iret dX7_stable_83 rfl
      · refine j_iconst (v := 1) 79 dX7_stable_78 rfl ic_1 ?_
        refine j_goto 83 dX7_stable_79 (by decide) ?_
        exact j_iret dX7_stable_83 rfl
    · refine j_iload_n 29 2 dX7_stable_28 rfl rfl rfl ?_
      refine j_if_eq 66 32 dX7_stable_29 (by decide) rfl ?_ ?_
      · refine j_iconst (v := 0) 67 dX7_stable_66 rfl ic_0 ?_
        refine j_istore_n 68 [(2, .int 0), (0, .ref l0), (1, .int l1), (3, .int l3)] dX7_stable_67 rfl rfl (by decide) rfl ?_
        refine j_iinc 71 3 [(3, .int (l3 + 1)), (2, .int 0), (0, .ref l0), (1, .int l1)] dX7_stable_68 rfl rfl (ii_1 _) (by decide) rfl ?_
        refine j_goto 20 dX7_stable_71 (by decide) ?_
        refine j_sub [2, 3, 1, 0] rfl ?_
        exact ih l0 l1 0 (l3 + 1)
      · refine j_iload_n 33 1 dX7_stable_32 rfl rfl rfl ?_
        refine j_iconst (v := -1) 34 dX7_stable_33 rfl ic_m1 ?_
        refine j_icmp_eq 42 37 dX7_stable_34 (by decide) rfl ?_ ?_
        · refine j_sub [0, 1, 3] rfl ?_
          exact okX7_stable_J42 G x (fun l0 l1 l2 l3 => X7_stable_L20 x n l0 l1 l2 l3) ih l0 l1 l3
        · refine j_iload_n 38 1 dX7_stable_37 rfl rfl rfl ?_
          refine j_iload_n 39 3 dX7_stable_38 rfl rfl rfl ?_
          refine j_icmp_ne 62 42 dX7_stable_39 (by decide) rfl ?_ ?_
          · refine j_iconst (v := 1) 63 dX7_stable_62 rfl ic_1 ?_
            refine j_goto 67 dX7_stable_63 (by decide) ?_
            refine j_istore_n 68 [(2, .int 1), (0, .ref l0), (1, .int l1), (3, .int l3)] dX7_stable_67 rfl rfl (by decide) rfl ?_
            refine j_iinc 71 3 [(3, .int (l3 + 1)), (2, .int 1), (0, .ref l0), (1, .int l1)] dX7_stable_68 rfl rfl (ii_1 _) (by decide) rfl ?_
            refine j_goto 20 dX7_stable_71 (by decide) ?_
            refine j_sub [2, 3, 1, 0] rfl ?_
            exact ih l0 l1 1 (l3 + 1)
          · refine j_sub [0, 1, 3] rfl ?_
            exact okX7_stable_J42 G x (fun l0 l1 l2 l3 => X7_stable_L20 x n l0 l1 l2 l3) ih l0 l1 l3
def X7_stable_J16 (x : Hs) (l0 : Nat) (l1 : Int32) : Option (Int32) := X7_stable_L20 x fu l0 l1 1 0
theorem okX7_stable_J16 (G : JG) (x : Hs) : ∀ (l0 : Nat) (l1 : Int32), JM G RX7 cX7_stable 4 (jZ G (some .int) "stable" (jR 5 0 0) 0 0) (fun r : Int32 => ((some (.int r), x) : JR)) 16 [(0, .ref l0), (1, .int l1)] [] x 0 0 (X7_stable_J16 x l0 l1) := by
  intro l0 l1
  unfold X7_stable_J16
  refine j_iconst (v := 1) 17 dX7_stable_16 rfl ic_1 ?_
  refine j_istore_n 18 [(2, .int 1), (0, .ref l0), (1, .int l1)] dX7_stable_17 rfl rfl (by decide) rfl ?_
  refine j_iconst (v := 0) 19 dX7_stable_18 rfl ic_0 ?_
  refine j_istore_n 20 [(3, .int 0), (2, .int 1), (0, .ref l0), (1, .int l1)] dX7_stable_19 rfl rfl (by decide) rfl ?_
  refine j_sub [2, 3, 1, 0] rfl ?_
  exact okX7_stable_L20 G x fu l0 l1 1 0
def X7_stable (a0 : Nat) (a1 : Int32) (x : Hs) : Option (Int32) := (vO x 6 a0).bind fun _ =>
  (if a1 = (-1) then X7_stable_J16 x a0 a1 else
  (X7_isCell a0 a1 x).bind fun v6 =>
  (if v6 = 0 then some (-2) else
  X7_stable_J16 x a0 a1))
theorem rvX7_stable {a0 : Nat} {a1 : Int32} {x : Hs} {r : Int32} (h : X7_stable a0 a1 x = some r) : ∃ fs, x.1 a0 = .inr (6, fs) := vO_bind h
theorem okX7_stable (G : JG) (x : Hs) (a0 : Nat) (a1 : Int32) : ∀ r, X7_stable a0 a1 x = some r → JC G yX7_stable cX7_stable 4 (some .int) (jR 5 0 0) 0 0 [.ref a0, .int a1] x ((some (.int r), x)) := by
  refine jc_of (own := RX7) (E := (fun r : Int32 => ((some (.int r), x) : JR))) (by decide) rfl rfl (Nat.le_of_ble_eq_true rfl) rfl ?_
  unfold X7_stable
  refine j_chk ?_
  refine j_iload_n 1 1 dX7_stable_0 rfl rfl rfl ?_
  refine j_iconst (v := -1) 2 dX7_stable_1 rfl ic_m1 ?_
  refine j_icmp_eq 16 5 dX7_stable_2 (by decide) rfl ?_ ?_
  · exact okX7_stable_J16 G x a0 a1
  · refine j_aload_n 6 0 dX7_stable_5 rfl rfl rfl ?_
    refine j_iload_n 7 1 dX7_stable_6 rfl rfl rfl ?_
    refine j_callV_i (ci := 6) (As := [.int a1]) (st := []) 10 (okX7_isCell G x a0 a1) kc_X7_isCell kl_X7_177 ki_X7_isCell kv_X7_isCell kh_X7 (by decide) (fun _ h => rvX7_isCell h) ⟨rfl, rfl, Nat.le_of_ble_eq_true rfl, Nat.le_of_ble_eq_true rfl⟩ (Nat.le_of_ble_eq_true rfl) ⟨Nat.le_of_ble_eq_true rfl, Nat.le_of_ble_eq_true rfl⟩ rfl dX7_stable_7 rfl rfl ?_
    intro v6
    refine j_if_ne 16 13 dX7_stable_10 (by decide) rfl ?_ ?_
    · exact okX7_stable_J16 G x a0 a1
    · refine j_bipush (v := -2) 15 dX7_stable_13 rfl bc_m2 ?_
      exact j_iret dX7_stable_15 rfl
