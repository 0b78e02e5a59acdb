/-! Each method as a pure term, and the machine's rows. Written by wip/whole/decomp.py. -/
-- X2_init: ('BarSteps$Pulses', '<init>', '()V')
def X2_init (a0 : Nat) (x : Hs) : Option (Hs) := (nC x (.inl (x.2.2 0, 12, .inl (fun _ => 0)))).bind fun q1 =>
  (pV q1.2 1 a0 0 (.ref q1.1)).bind fun y2 =>
  (nC y2 (.inl (y2.2.2 0, 12, .inl (fun _ => 0)))).bind fun q3 =>
  (pV q3.2 1 a0 1 (.ref q3.1)).bind fun y4 =>
  (nC y4 (.inl (y4.2.2 0, 12, .inl (fun _ => 0)))).bind fun q5 =>
  (pV q5.2 1 a0 2 (.ref q5.1)).bind fun y6 =>
  (pV y6 1 a0 3 (.int 0)).bind fun y7 =>
  some y7
theorem okX2_init (G : JG) (x : Hs) (a0 : Nat) : ∀ r, X2_init a0 x = some r → JC G yX2_init cX2_init 1 (none) (jR 1 3 36) 3 36 [.ref a0] x ((none, r)) := by
  refine jc_of (own := RX2) (E := (fun r : Hs => ((none, r) : JR))) (by decide) rfl rfl (Nat.le_of_ble_eq_true rfl) rfl ?_
  unfold X2_init
  refine j_aload_n 1 0 dX2_init_0 rfl rfl rfl ?_
  refine j_objInit 4 kl_X2_3 koi_i koi_c (Nat.le_of_ble_eq_true rfl) (Nat.le_of_ble_eq_true rfl) dX2_init_1 rfl ?_
  refine j_aload_n 5 0 dX2_init_4 rfl rfl rfl ?_
  refine j_bipush (v := 12) 7 dX2_init_5 rfl bc_12 ?_
  refine j_newI (N := 12) 9 kar_int (by decide) (by decide) (Nat.le_of_ble_eq_true rfl) (Nat.le_of_ble_eq_true rfl) (Nat.le_of_ble_eq_true rfl) dX2_init_7 rfl ?_
  intro q1
  refine j_putF 12 kf_X2_9 rfl (fun _ _ _ h => by cases h; rfl) dX2_init_9 rfl rfl rfl ?_
  intro y2
  refine j_aload_n 13 0 dX2_init_12 rfl rfl rfl ?_
  refine j_bipush (v := 12) 15 dX2_init_13 rfl bc_12 ?_
  refine j_newI (N := 12) 17 kar_int (by decide) (by decide) (Nat.le_of_ble_eq_true rfl) (Nat.le_of_ble_eq_true rfl) (Nat.le_of_ble_eq_true rfl) dX2_init_15 rfl ?_
  intro q3
  refine j_putF 20 kf_X2_15 rfl (fun _ _ _ h => by cases h; rfl) dX2_init_17 rfl rfl rfl ?_
  intro y4
  refine j_aload_n 21 0 dX2_init_20 rfl rfl rfl ?_
  refine j_bipush (v := 12) 23 dX2_init_21 rfl bc_12 ?_
  refine j_newI (N := 12) 25 kar_int (by decide) (by decide) (Nat.le_of_ble_eq_true rfl) (Nat.le_of_ble_eq_true rfl) (Nat.le_of_ble_eq_true rfl) dX2_init_23 rfl ?_
  intro q5
  refine j_putF 28 kf_X2_18 rfl (fun _ _ _ h => by cases h; rfl) dX2_init_25 rfl rfl rfl ?_
  intro y6
  refine j_aload_n 29 0 dX2_init_28 rfl rfl rfl ?_
  refine j_iconst (v := 0) 30 dX2_init_29 rfl ic_0 ?_
  refine j_put 33 kf_X2_21 dX2_init_30 rfl rfl rfl ?_
  intro y7
  exact j_vret dX2_init_33 rfl
-- X0_init: ('BarSteps$Bar', '<init>', '()V')
def X0_init (a0 : Nat) (x : Hs) : Option (Hs) := (pV x 0 a0 0 (.int 0)).bind fun y1 =>
  (nC y1 (.inl (y1.2.2 0, 8, .inl (fun _ => 0)))).bind fun q2 =>
  (pV q2.2 0 a0 1 (.ref q2.1)).bind fun y3 =>
  (nC y3 (.inl (y3.2.2 0, 8, .inl (fun _ => 0)))).bind fun q4 =>
  (pV q4.2 0 a0 2 (.ref q4.1)).bind fun y5 =>
  (nC y5 (.inl (y5.2.2 0, 8, .inl (fun _ => 0)))).bind fun q6 =>
  (pV q6.2 0 a0 3 (.ref q6.1)).bind fun y7 =>
  (nC y7 (.inl (y7.2.2 0, 8, .inl (fun _ => 0)))).bind fun q8 =>
  (pV q8.2 0 a0 4 (.ref q8.1)).bind fun y9 =>
  (nC y9 (.inl (y9.2.2 0, 8, .inl (fun _ => 0)))).bind fun q10 =>
  (pV q10.2 0 a0 5 (.ref q10.1)).bind fun y11 =>
  (nC y11 (.inl (y11.2.2 0, 8, .inl (fun _ => 0)))).bind fun q12 =>
  (pV q12.2 0 a0 6 (.ref q12.1)).bind fun y13 =>
  (nC y13 (.inl (y13.2.2 0, 8, .inl (fun _ => 0)))).bind fun q14 =>
  (pV q14.2 0 a0 7 (.ref q14.1)).bind fun y15 =>
  (nC y15 (.inl (y15.2.2 1, 8, .inr (.inl (fun _ => 0))))).bind fun q16 =>
  (pV q16.2 0 a0 8 (.ref q16.1)).bind fun y17 =>
  (pV y17 0 a0 9 (.long 1)).bind fun y18 =>
  (nC y18 (.inl (y18.2.2 0, 2, .inl (fun _ => 0)))).bind fun q19 =>
  (wI q19.2 q19.1 0 (-1)).bind fun y20 =>
  (wI y20 q19.1 1 (-1)).bind fun y21 =>
  (pV y21 0 a0 10 (.ref q19.1)).bind fun y22 =>
  (pV y22 0 a0 11 (.int 4)).bind fun y23 =>
  (pV y23 0 a0 12 (.int 0)).bind fun y24 =>
  (nC y24 (.inr (1, df_X2))).bind fun q25 =>
  (X2_init q25.1 q25.2).bind fun y26 =>
  (pV y26 0 a0 13 (.ref q25.1)).bind fun y27 =>
  (nC y27 (.inl (y27.2.2 1, 8, .inr (.inl (fun _ => 0))))).bind fun q28 =>
  (pV q28.2 0 a0 14 (.ref q28.1)).bind fun y29 =>
  some y29
theorem okX0_init (G : JG) (x : Hs) (a0 : Nat) : ∀ r, X0_init a0 x = some r → JC G yX0_init cX0_init 1 (none) (jR 2 14 114) 14 114 [.ref a0] x ((none, r)) := by
  refine jc_of (own := RX0) (E := (fun r : Hs => ((none, r) : JR))) (by decide) rfl rfl (Nat.le_of_ble_eq_true rfl) rfl ?_
  unfold X0_init
  refine j_aload_n 1 0 dX0_init_0 rfl rfl rfl ?_
  refine j_objInit 4 kl_X0_3 koi_i koi_c (Nat.le_of_ble_eq_true rfl) (Nat.le_of_ble_eq_true rfl) dX0_init_1 rfl ?_
  refine j_aload_n 5 0 dX0_init_4 rfl rfl rfl ?_
  refine j_iconst (v := 0) 6 dX0_init_5 rfl ic_0 ?_
  refine j_put 9 kf_X0_9 dX0_init_6 rfl rfl rfl ?_
  intro y1
  refine j_aload_n 10 0 dX0_init_9 rfl rfl rfl ?_
  refine j_bipush (v := 8) 12 dX0_init_10 rfl bc_8 ?_
  refine j_newI (N := 8) 14 kar_int (by decide) (by decide) (Nat.le_of_ble_eq_true rfl) (Nat.le_of_ble_eq_true rfl) (Nat.le_of_ble_eq_true rfl) dX0_init_12 rfl ?_
  intro q2
  refine j_putF 17 kf_X0_15 rfl (fun _ _ _ h => by cases h; rfl) dX0_init_14 rfl rfl rfl ?_
  intro y3
  refine j_aload_n 18 0 dX0_init_17 rfl rfl rfl ?_
  refine j_bipush (v := 8) 20 dX0_init_18 rfl bc_8 ?_
  refine j_newI (N := 8) 22 kar_int (by decide) (by decide) (Nat.le_of_ble_eq_true rfl) (Nat.le_of_ble_eq_true rfl) (Nat.le_of_ble_eq_true rfl) dX0_init_20 rfl ?_
  intro q4
  refine j_putF 25 kf_X0_19 rfl (fun _ _ _ h => by cases h; rfl) dX0_init_22 rfl rfl rfl ?_
  intro y5
  refine j_aload_n 26 0 dX0_init_25 rfl rfl rfl ?_
  refine j_bipush (v := 8) 28 dX0_init_26 rfl bc_8 ?_
  refine j_newI (N := 8) 30 kar_int (by decide) (by decide) (Nat.le_of_ble_eq_true rfl) (Nat.le_of_ble_eq_true rfl) (Nat.le_of_ble_eq_true rfl) dX0_init_28 rfl ?_
  intro q6
  refine j_putF 33 kf_X0_22 rfl (fun _ _ _ h => by cases h; rfl) dX0_init_30 rfl rfl rfl ?_
  intro y7
  refine j_aload_n 34 0 dX0_init_33 rfl rfl rfl ?_
  refine j_bipush (v := 8) 36 dX0_init_34 rfl bc_8 ?_
  refine j_newI (N := 8) 38 kar_int (by decide) (by decide) (Nat.le_of_ble_eq_true rfl) (Nat.le_of_ble_eq_true rfl) (Nat.le_of_ble_eq_true rfl) dX0_init_36 rfl ?_
  intro q8
  refine j_putF 41 kf_X0_25 rfl (fun _ _ _ h => by cases h; rfl) dX0_init_38 rfl rfl rfl ?_
  intro y9
  refine j_aload_n 42 0 dX0_init_41 rfl rfl rfl ?_
  refine j_bipush (v := 8) 44 dX0_init_42 rfl bc_8 ?_
  refine j_newI (N := 8) 46 kar_int (by decide) (by decide) (Nat.le_of_ble_eq_true rfl) (Nat.le_of_ble_eq_true rfl) (Nat.le_of_ble_eq_true rfl) dX0_init_44 rfl ?_
  intro q10
  refine j_putF 49 kf_X0_28 rfl (fun _ _ _ h => by cases h; rfl) dX0_init_46 rfl rfl rfl ?_
  intro y11
  refine j_aload_n 50 0 dX0_init_49 rfl rfl rfl ?_
  refine j_bipush (v := 8) 52 dX0_init_50 rfl bc_8 ?_
  refine j_newI (N := 8) 54 kar_int (by decide) (by decide) (Nat.le_of_ble_eq_true rfl) (Nat.le_of_ble_eq_true rfl) (Nat.le_of_ble_eq_true rfl) dX0_init_52 rfl ?_
  intro q12
  refine j_putF 57 kf_X0_31 rfl (fun _ _ _ h => by cases h; rfl) dX0_init_54 rfl rfl rfl ?_
  intro y13
  refine j_aload_n 58 0 dX0_init_57 rfl rfl rfl ?_
  refine j_bipush (v := 8) 60 dX0_init_58 rfl bc_8 ?_
  refine j_newI (N := 8) 62 kar_int (by decide) (by decide) (Nat.le_of_ble_eq_true rfl) (Nat.le_of_ble_eq_true rfl) (Nat.le_of_ble_eq_true rfl) dX0_init_60 rfl ?_
  intro q14
  refine j_putF 65 kf_X0_34 rfl (fun _ _ _ h => by cases h; rfl) dX0_init_62 rfl rfl rfl ?_
  intro y15
  refine j_aload_n 66 0 dX0_init_65 rfl rfl rfl ?_
  refine j_bipush (v := 8) 68 dX0_init_66 rfl bc_8 ?_
  refine j_newL (N := 8) 70 kar_long (by decide) (by decide) (Nat.le_of_ble_eq_true rfl) (Nat.le_of_ble_eq_true rfl) (Nat.le_of_ble_eq_true rfl) dX0_init_68 rfl ?_
  intro q16
  refine j_putF 73 kf_X0_37 rfl (fun _ _ _ h => by cases h; rfl) dX0_init_70 rfl rfl rfl ?_
  intro y17
  refine j_aload_n 74 0 dX0_init_73 rfl rfl rfl ?_
  refine j_lconst (v := 1) 75 dX0_init_74 rfl lc_1 ?_
  refine j_put 78 kf_X0_41 dX0_init_75 rfl rfl rfl ?_
  intro y18
  refine j_aload_n 79 0 dX0_init_78 rfl rfl rfl ?_
  refine j_iconst (v := 2) 80 dX0_init_79 rfl ic_2 ?_
  refine j_newI (N := 2) 82 kar_int (by decide) (by decide) (Nat.le_of_ble_eq_true rfl) (Nat.le_of_ble_eq_true rfl) (Nat.le_of_ble_eq_true rfl) dX0_init_80 rfl ?_
  intro q19
  refine j_dup 83 dX0_init_82 rfl rfl ?_
  refine j_iconst (v := 0) 84 dX0_init_83 rfl ic_0 ?_
  refine j_iconst (v := -1) 85 dX0_init_84 rfl ic_m1 ?_
  refine j_wI 86 dX0_init_85 rfl ?_
  intro y20
  refine j_dup 87 dX0_init_86 rfl rfl ?_
  refine j_iconst (v := 1) 88 dX0_init_87 rfl ic_1 ?_
  refine j_iconst (v := -1) 89 dX0_init_88 rfl ic_m1 ?_
  refine j_wI 90 dX0_init_89 rfl ?_
  intro y21
  refine j_putF 93 kf_X0_45 rfl (fun _ _ _ h => by cases h; rfl) dX0_init_90 rfl rfl rfl ?_
  intro y22
  refine j_aload_n 94 0 dX0_init_93 rfl rfl rfl ?_
  refine j_iconst (v := 4) 95 dX0_init_94 rfl ic_4 ?_
  refine j_put 98 kf_X0_48 dX0_init_95 rfl rfl rfl ?_
  intro y23
  refine j_aload_n 99 0 dX0_init_98 rfl rfl rfl ?_
  refine j_iconst (v := 0) 100 dX0_init_99 rfl ic_0 ?_
  refine j_put 103 kf_X0_51 dX0_init_100 rfl rfl rfl ?_
  intro y24
  refine j_aload_n 104 0 dX0_init_103 rfl rfl rfl ?_
  refine j_new 107 kc_X2 kcl_X0_54 kin_X2 kini_X2 kd_X2 (Nat.le_of_ble_eq_true rfl) (Nat.le_of_ble_eq_true rfl) dX0_init_104 rfl ?_
  intro q25
  refine j_dup 108 dX0_init_107 rfl rfl ?_
  refine j_callIN_v (As := []) (st := [.ref q25.1, .ref a0]) 111 (okX2_init G q25.2 q25.1) rfl kc_X2_init kl_X0_56 ki_X2_init ⟨rfl, rfl, Nat.le_of_ble_eq_true rfl, Nat.le_of_ble_eq_true rfl⟩ (Nat.le_of_ble_eq_true rfl) ⟨Nat.le_of_ble_eq_true rfl, Nat.le_of_ble_eq_true rfl⟩ rfl dX0_init_108 rfl rfl ?_
  intro y26
  refine j_putF 114 kf_X0_57 rfl (fun _ _ _ h => by cases h; rfl) dX0_init_111 rfl rfl rfl ?_
  intro y27
  refine j_aload_n 115 0 dX0_init_114 rfl rfl rfl ?_
  refine j_bipush (v := 8) 117 dX0_init_115 rfl bc_8 ?_
  refine j_newL (N := 8) 119 kar_long (by decide) (by decide) (Nat.le_of_ble_eq_true rfl) (Nat.le_of_ble_eq_true rfl) (Nat.le_of_ble_eq_true rfl) dX0_init_117 rfl ?_
  intro q28
  refine j_putF 122 kf_X0_61 rfl (fun _ _ _ h => by cases h; rfl) dX0_init_119 rfl rfl rfl ?_
  intro y29
  exact j_vret dX0_init_122 rfl
-- X2_become: ('BarSteps$Pulses', 'become', '(LBarSteps$Pulses;)V')
def X2_become (a0 : Nat) (a1 : Nat) (x : Hs) : Option (Hs) := (vO x 1 a0).bind fun _ =>
  (gR x 1 a1 0).bind fun v1 =>
  (gR x 1 a0 0).bind fun v2 =>
  (cpI x v1 0 v2 0 12).bind fun y3 =>
  (gR y3 1 a1 1).bind fun v4 =>
  (gR y3 1 a0 1).bind fun v5 =>
  (cpI y3 v4 0 v5 0 12).bind fun y6 =>
  (gR y6 1 a1 2).bind fun v7 =>
  (gR y6 1 a0 2).bind fun v8 =>
  (cpI y6 v7 0 v8 0 12).bind fun y9 =>
  (gI y9 1 a1 3).bind fun v10 =>
  (pV y9 1 a0 3 (.int v10)).bind fun y11 =>
  some y11
theorem rvX2_become {a0 : Nat} {a1 : Nat} {x : Hs} {r : Hs} (h : X2_become a0 a1 x = some r) : ∃ fs, x.1 a0 = .inr (1, fs) := vO_bind h
theorem okX2_become (G : JG) (x : Hs) (a0 : Nat) (a1 : Nat) : ∀ r, X2_become a0 a1 x = some r → JC G yX2_become cX2_become 2 (none) (jR 1 0 0) 0 0 [.ref a0, .ref a1] x ((none, r)) := by
  refine jc_of (own := RX2) (E := (fun r : Hs => ((none, r) : JR))) (by decide) rfl rfl (Nat.le_of_ble_eq_true rfl) rfl ?_
  unfold X2_become
  refine j_chk ?_
  refine j_aload_n 1 1 dX2_become_0 rfl rfl rfl ?_
  refine j_gR 4 kf_X2_9 dX2_become_1 rfl ?_
  intro v1
  refine j_iconst (v := 0) 5 dX2_become_4 rfl ic_0 ?_
  refine j_aload_n 6 0 dX2_become_5 rfl rfl rfl ?_
  refine j_gR 9 kf_X2_9 dX2_become_6 rfl ?_
  intro v2
  refine j_iconst (v := 0) 10 dX2_become_9 rfl ic_0 ?_
  refine j_bipush (v := 12) 12 dX2_become_10 rfl bc_12 ?_
  refine j_cpI 15 kl_X2_25 kac_n kac_s kac_i (Nat.le_of_ble_eq_true rfl) (Nat.le_of_ble_eq_true rfl) dX2_become_12 rfl ?_
  intro y3
  refine j_aload_n 16 1 dX2_become_15 rfl rfl rfl ?_
  refine j_gR 19 kf_X2_15 dX2_become_16 rfl ?_
  intro v4
  refine j_iconst (v := 0) 20 dX2_become_19 rfl ic_0 ?_
  refine j_aload_n 21 0 dX2_become_20 rfl rfl rfl ?_
  refine j_gR 24 kf_X2_15 dX2_become_21 rfl ?_
  intro v5
  refine j_iconst (v := 0) 25 dX2_become_24 rfl ic_0 ?_
  refine j_bipush (v := 12) 27 dX2_become_25 rfl bc_12 ?_
  refine j_cpI 30 kl_X2_25 kac_n kac_s kac_i (Nat.le_of_ble_eq_true rfl) (Nat.le_of_ble_eq_true rfl) dX2_become_27 rfl ?_
  intro y6
  refine j_aload_n 31 1 dX2_become_30 rfl rfl rfl ?_
  refine j_gR 34 kf_X2_18 dX2_become_31 rfl ?_
  intro v7
  refine j_iconst (v := 0) 35 dX2_become_34 rfl ic_0 ?_
  refine j_aload_n 36 0 dX2_become_35 rfl rfl rfl ?_
  refine j_gR 39 kf_X2_18 dX2_become_36 rfl ?_
  intro v8
  refine j_iconst (v := 0) 40 dX2_become_39 rfl ic_0 ?_
  refine j_bipush (v := 12) 42 dX2_become_40 rfl bc_12 ?_
  refine j_cpI 45 kl_X2_25 kac_n kac_s kac_i (Nat.le_of_ble_eq_true rfl) (Nat.le_of_ble_eq_true rfl) dX2_become_42 rfl ?_
  intro y9
  refine j_aload_n 46 0 dX2_become_45 rfl rfl rfl ?_
  refine j_aload_n 47 1 dX2_become_46 rfl rfl rfl ?_
  refine j_gI 50 kf_X2_21 dX2_become_47 rfl ?_
  intro v10
  refine j_put 53 kf_X2_21 dX2_become_50 rfl rfl rfl ?_
  intro y11
  exact j_vret dX2_become_53 rfl
-- X0_become: ('BarSteps$Bar', 'become', '(LBarSteps$Bar;)V')
def X0_become (a0 : Nat) (a1 : Nat) (x : Hs) : Option (Hs) := (vO x 0 a0).bind fun _ =>
  (gI x 0 a1 0).bind fun v1 =>
  (pV x 0 a0 0 (.int v1)).bind fun y2 =>
  (gR y2 0 a1 1).bind fun v3 =>
  (gR y2 0 a0 1).bind fun v4 =>
  (cpI y2 v3 0 v4 0 8).bind fun y5 =>
  (gR y5 0 a1 2).bind fun v6 =>
  (gR y5 0 a0 2).bind fun v7 =>
  (cpI y5 v6 0 v7 0 8).bind fun y8 =>
  (gR y8 0 a1 3).bind fun v9 =>
  (gR y8 0 a0 3).bind fun v10 =>
  (cpI y8 v9 0 v10 0 8).bind fun y11 =>
  (gR y11 0 a1 4).bind fun v12 =>
  (gR y11 0 a0 4).bind fun v13 =>
  (cpI y11 v12 0 v13 0 8).bind fun y14 =>
  (gR y14 0 a1 5).bind fun v15 =>
  (gR y14 0 a0 5).bind fun v16 =>
  (cpI y14 v15 0 v16 0 8).bind fun y17 =>
  (gR y17 0 a1 6).bind fun v18 =>
  (gR y17 0 a0 6).bind fun v19 =>
  (cpI y17 v18 0 v19 0 8).bind fun y20 =>
  (gR y20 0 a1 7).bind fun v21 =>
  (gR y20 0 a0 7).bind fun v22 =>
  (cpI y20 v21 0 v22 0 8).bind fun y23 =>
  (gR y23 0 a1 8).bind fun v24 =>
  (gR y23 0 a0 8).bind fun v25 =>
  (cpL y23 v24 0 v25 0 8).bind fun y26 =>
  (gL y26 0 a1 9).bind fun v27 =>
  (pV y26 0 a0 9 (.long v27)).bind fun y28 =>
  (gR y28 0 a1 10).bind fun v29 =>
  (gR y28 0 a0 10).bind fun v30 =>
  (gR y28 0 a0 10).bind fun v31 =>
  (aN y28 v31).bind fun v32 =>
  (cpI y28 v29 0 v30 0 v32).bind fun y33 =>
  (gI y33 0 a1 11).bind fun v34 =>
  (pV y33 0 a0 11 (.int v34)).bind fun y35 =>
  (gI y35 0 a1 12).bind fun v36 =>
  (pV y35 0 a0 12 (.int v36)).bind fun y37 =>
  (gR y37 0 a0 13).bind fun v38 =>
  (gR y37 0 a1 13).bind fun v39 =>
  (X2_become v38 v39 y37).bind fun q40 =>
  some q40
theorem rvX0_become {a0 : Nat} {a1 : Nat} {x : Hs} {r : Hs} (h : X0_become a0 a1 x = some r) : ∃ fs, x.1 a0 = .inr (0, fs) := vO_bind h
theorem okX0_become (G : JG) (x : Hs) (a0 : Nat) (a1 : Nat) : ∀ r, X0_become a0 a1 x = some r → JC G yX0_become cX0_become 2 (none) (jR 2 0 0) 0 0 [.ref a0, .ref a1] x ((none, r)) := by
  refine jc_of (own := RX0) (E := (fun r : Hs => ((none, r) : JR))) (by decide) rfl rfl (Nat.le_of_ble_eq_true rfl) rfl ?_
  unfold X0_become
  refine j_chk ?_
  refine j_aload_n 1 0 dX0_become_0 rfl rfl rfl ?_
  refine j_aload_n 2 1 dX0_become_1 rfl rfl rfl ?_
  refine j_gI 5 kf_X0_9 dX0_become_2 rfl ?_
  intro v1
  refine j_put 8 kf_X0_9 dX0_become_5 rfl rfl rfl ?_
  intro y2
  refine j_aload_n 9 1 dX0_become_8 rfl rfl rfl ?_
  refine j_gR 12 kf_X0_15 dX0_become_9 rfl ?_
  intro v3
  refine j_iconst (v := 0) 13 dX0_become_12 rfl ic_0 ?_
  refine j_aload_n 14 0 dX0_become_13 rfl rfl rfl ?_
  refine j_gR 17 kf_X0_15 dX0_become_14 rfl ?_
  intro v4
  refine j_iconst (v := 0) 18 dX0_become_17 rfl ic_0 ?_
  refine j_bipush (v := 8) 20 dX0_become_18 rfl bc_8 ?_
  refine j_cpI 23 kl_X0_64 kac_n kac_s kac_i (Nat.le_of_ble_eq_true rfl) (Nat.le_of_ble_eq_true rfl) dX0_become_20 rfl ?_
  intro y5
  refine j_aload_n 24 1 dX0_become_23 rfl rfl rfl ?_
  refine j_gR 27 kf_X0_19 dX0_become_24 rfl ?_
  intro v6
  refine j_iconst (v := 0) 28 dX0_become_27 rfl ic_0 ?_
  refine j_aload_n 29 0 dX0_become_28 rfl rfl rfl ?_
  refine j_gR 32 kf_X0_19 dX0_become_29 rfl ?_
  intro v7
  refine j_iconst (v := 0) 33 dX0_become_32 rfl ic_0 ?_
  refine j_bipush (v := 8) 35 dX0_become_33 rfl bc_8 ?_
  refine j_cpI 38 kl_X0_64 kac_n kac_s kac_i (Nat.le_of_ble_eq_true rfl) (Nat.le_of_ble_eq_true rfl) dX0_become_35 rfl ?_
  intro y8
  refine j_aload_n 39 1 dX0_become_38 rfl rfl rfl ?_
  refine j_gR 42 kf_X0_22 dX0_become_39 rfl ?_
  intro v9
  refine j_iconst (v := 0) 43 dX0_become_42 rfl ic_0 ?_
  refine j_aload_n 44 0 dX0_become_43 rfl rfl rfl ?_
  refine j_gR 47 kf_X0_22 dX0_become_44 rfl ?_
  intro v10
  refine j_iconst (v := 0) 48 dX0_become_47 rfl ic_0 ?_
  refine j_bipush (v := 8) 50 dX0_become_48 rfl bc_8 ?_
  refine j_cpI 53 kl_X0_64 kac_n kac_s kac_i (Nat.le_of_ble_eq_true rfl) (Nat.le_of_ble_eq_true rfl) dX0_become_50 rfl ?_
  intro y11
  refine j_aload_n 54 1 dX0_become_53 rfl rfl rfl ?_
  refine j_gR 57 kf_X0_25 dX0_become_54 rfl ?_
  intro v12
  refine j_iconst (v := 0) 58 dX0_become_57 rfl ic_0 ?_
  refine j_aload_n 59 0 dX0_become_58 rfl rfl rfl ?_
  refine j_gR 62 kf_X0_25 dX0_become_59 rfl ?_
  intro v13
  refine j_iconst (v := 0) 63 dX0_become_62 rfl ic_0 ?_
  refine j_bipush (v := 8) 65 dX0_become_63 rfl bc_8 ?_
  refine j_cpI 68 kl_X0_64 kac_n kac_s kac_i (Nat.le_of_ble_eq_true rfl) (Nat.le_of_ble_eq_true rfl) dX0_become_65 rfl ?_
  intro y14
  refine j_aload_n 69 1 dX0_become_68 rfl rfl rfl ?_
  refine j_gR 72 kf_X0_28 dX0_become_69 rfl ?_
  intro v15
  refine j_iconst (v := 0) 73 dX0_become_72 rfl ic_0 ?_
  refine j_aload_n 74 0 dX0_become_73 rfl rfl rfl ?_
  refine j_gR 77 kf_X0_28 dX0_become_74 rfl ?_
  intro v16
  refine j_iconst (v := 0) 78 dX0_become_77 rfl ic_0 ?_
  refine j_bipush (v := 8) 80 dX0_become_78 rfl bc_8 ?_
  refine j_cpI 83 kl_X0_64 kac_n kac_s kac_i (Nat.le_of_ble_eq_true rfl) (Nat.le_of_ble_eq_true rfl) dX0_become_80 rfl ?_
  intro y17
  refine j_aload_n 84 1 dX0_become_83 rfl rfl rfl ?_
  refine j_gR 87 kf_X0_31 dX0_become_84 rfl ?_
  intro v18
  refine j_iconst (v := 0) 88 dX0_become_87 rfl ic_0 ?_
  refine j_aload_n 89 0 dX0_become_88 rfl rfl rfl ?_
  refine j_gR 92 kf_X0_31 dX0_become_89 rfl ?_
  intro v19
  refine j_iconst (v := 0) 93 dX0_become_92 rfl ic_0 ?_
  refine j_bipush (v := 8) 95 dX0_become_93 rfl bc_8 ?_
  refine j_cpI 98 kl_X0_64 kac_n kac_s kac_i (Nat.le_of_ble_eq_true rfl) (Nat.le_of_ble_eq_true rfl) dX0_become_95 rfl ?_
  intro y20
  refine j_aload_n 99 1 dX0_become_98 rfl rfl rfl ?_
  refine j_gR 102 kf_X0_34 dX0_become_99 rfl ?_
  intro v21
  refine j_iconst (v := 0) 103 dX0_become_102 rfl ic_0 ?_
  refine j_aload_n 104 0 dX0_become_103 rfl rfl rfl ?_
  refine j_gR 107 kf_X0_34 dX0_become_104 rfl ?_
  intro v22
  refine j_iconst (v := 0) 108 dX0_become_107 rfl ic_0 ?_
  refine j_bipush (v := 8) 110 dX0_become_108 rfl bc_8 ?_
  refine j_cpI 113 kl_X0_64 kac_n kac_s kac_i (Nat.le_of_ble_eq_true rfl) (Nat.le_of_ble_eq_true rfl) dX0_become_110 rfl ?_
  intro y23
  refine j_aload_n 114 1 dX0_become_113 rfl rfl rfl ?_
  refine j_gR 117 kf_X0_37 dX0_become_114 rfl ?_
  intro v24
  refine j_iconst (v := 0) 118 dX0_become_117 rfl ic_0 ?_
  refine j_aload_n 119 0 dX0_become_118 rfl rfl rfl ?_
  refine j_gR 122 kf_X0_37 dX0_become_119 rfl ?_
  intro v25
  refine j_iconst (v := 0) 123 dX0_become_122 rfl ic_0 ?_
  refine j_bipush (v := 8) 125 dX0_become_123 rfl bc_8 ?_
  refine j_cpL 128 kl_X0_64 kac_n kac_s kac_i (Nat.le_of_ble_eq_true rfl) (Nat.le_of_ble_eq_true rfl) dX0_become_125 rfl ?_
  intro y26
  refine j_aload_n 129 0 dX0_become_128 rfl rfl rfl ?_
  refine j_aload_n 130 1 dX0_become_129 rfl rfl rfl ?_
  refine j_gL 133 kf_X0_41 dX0_become_130 rfl ?_
  intro v27
  refine j_put 136 kf_X0_41 dX0_become_133 rfl rfl rfl ?_
  intro y28
  refine j_aload_n 137 1 dX0_become_136 rfl rfl rfl ?_
  refine j_gR 140 kf_X0_45 dX0_become_137 rfl ?_
  intro v29
  refine j_iconst (v := 0) 141 dX0_become_140 rfl ic_0 ?_
  refine j_aload_n 142 0 dX0_become_141 rfl rfl rfl ?_
  refine j_gR 145 kf_X0_45 dX0_become_142 rfl ?_
  intro v30
  refine j_iconst (v := 0) 146 dX0_become_145 rfl ic_0 ?_
  refine j_aload_n 147 0 dX0_become_146 rfl rfl rfl ?_
  refine j_gR 150 kf_X0_45 dX0_become_147 rfl ?_
  intro v31
  refine j_aN 151 dX0_become_150 rfl ?_
  intro v32
  refine j_cpI 154 kl_X0_64 kac_n kac_s kac_i (Nat.le_of_ble_eq_true rfl) (Nat.le_of_ble_eq_true rfl) dX0_become_151 rfl ?_
  intro y33
  refine j_aload_n 155 0 dX0_become_154 rfl rfl rfl ?_
  refine j_aload_n 156 1 dX0_become_155 rfl rfl rfl ?_
  refine j_gI 159 kf_X0_48 dX0_become_156 rfl ?_
  intro v34
  refine j_put 162 kf_X0_48 dX0_become_159 rfl rfl rfl ?_
  intro y35
  refine j_aload_n 163 0 dX0_become_162 rfl rfl rfl ?_
  refine j_aload_n 164 1 dX0_become_163 rfl rfl rfl ?_
  refine j_gI 167 kf_X0_51 dX0_become_164 rfl ?_
  intro v36
  refine j_put 170 kf_X0_51 dX0_become_167 rfl rfl rfl ?_
  intro y37
  refine j_aload_n 171 0 dX0_become_170 rfl rfl rfl ?_
  refine j_gR 174 kf_X0_57 dX0_become_171 rfl ?_
  intro v38
  refine j_aload_n 175 1 dX0_become_174 rfl rfl rfl ?_
  refine j_gR 178 kf_X0_57 dX0_become_175 rfl ?_
  intro v39
  refine j_callV_v (ci := 1) (As := [.ref v39]) (st := []) 181 (okX2_become G y37 v38 v39) kc_X2_become kl_X0_70 ki_X2_become kv_X2_become kh_X2 (by decide) (fun _ h => rvX2_become h) ⟨rfl, rfl, Nat.le_of_ble_eq_true rfl, Nat.le_of_ble_eq_true rfl⟩ (Nat.le_of_ble_eq_true rfl) ⟨Nat.le_of_ble_eq_true rfl, Nat.le_of_ble_eq_true rfl⟩ rfl dX0_become_178 rfl rfl ?_
  intro q40
  exact j_vret dX0_become_181 rfl
-- X0_has: ('BarSteps$Bar', 'has', '(I)Z')
def X0_has (a0 : Nat) (a1 : Int32) (x : Hs) : Option (Int32) := (vO x 0 a0).bind fun _ =>
  (if a1 < 0 then (zb 0).bind fun v1 => some v1 else
  (gI x 0 a0 0).bind fun v2 =>
  (if v2 ≤ a1 then (zb 0).bind fun v3 => some v3 else
  (zb 1).bind fun v4 => some v4))
theorem rvX0_has {a0 : Nat} {a1 : Int32} {x : Hs} {r : Int32} (h : X0_has a0 a1 x = some r) : ∃ fs, x.1 a0 = .inr (0, fs) := vO_bind h
theorem okX0_has (G : JG) (x : Hs) (a0 : Nat) (a1 : Int32) : ∀ r, X0_has a0 a1 x = some r → JC G yX0_has cX0_has 2 (some .boolean) (jR 1 0 0) 0 0 [.ref a0, .int a1] x ((some (.int r), x)) := by
  refine jc_of (own := RX0) (E := (fun r : Int32 => ((some (.int r), x) : JR))) (by decide) rfl rfl (Nat.le_of_ble_eq_true rfl) rfl ?_
  unfold X0_has
  refine j_chk ?_
  refine j_iload_n 1 1 dX0_has_0 rfl rfl rfl ?_
  refine j_if_lt 16 4 dX0_has_1 (by decide) rfl ?_ ?_
  · refine j_iconst (v := 0) 17 dX0_has_16 rfl ic_0 ?_
    exact j_zret dX0_has_17 (fun _ => rfl)
  · refine j_iload_n 5 1 dX0_has_4 rfl rfl rfl ?_
    refine j_aload_n 6 0 dX0_has_5 rfl rfl rfl ?_
    refine j_gI 9 kf_X0_9 dX0_has_6 rfl ?_
    intro v2
    refine j_icmp_ge 16 12 dX0_has_9 (by decide) rfl ?_ ?_
    · refine j_iconst (v := 0) 17 dX0_has_16 rfl ic_0 ?_
      exact j_zret dX0_has_17 (fun _ => rfl)
    · refine j_iconst (v := 1) 13 dX0_has_12 rfl ic_1 ?_
      refine j_goto 17 dX0_has_13 (by decide) ?_
      exact j_zret dX0_has_17 (fun _ => rfl)
-- J9_min_7cf53: ('java/lang/Math', 'min', '(II)I')
def J9_min_7cf53 (a0 : Int32) (a1 : Int32) : Option (Int32) := (if a1 < a0 then some a1 else
  some a0)
theorem okJ9_min_7cf53 (G : JG) (x : Hs) (a0 : Int32) (a1 : Int32) : ∀ r, J9_min_7cf53 a0 a1 = some r → JC G yJ9_min_7cf53 cJ9_min_7cf53 2 (some .int) (jR 1 0 0) 0 0 [.int a0, .int a1] x ((some (.int r), x)) := by
  refine jc_ofF (own := RJ9) (E := (fun r : Int32 => ((some (.int r), x) : JR))) (by decide +kernel) rfl rfl (Nat.le_of_ble_eq_true rfl) rfl ?_
  unfold J9_min_7cf53
  refine j_iload_n 1 0 dJ9_min_7cf53_0 rfl rfl rfl ?_
  refine j_iload_n 2 1 dJ9_min_7cf53_1 rfl rfl rfl ?_
  refine j_icmp_gt 9 5 dJ9_min_7cf53_2 (by decide) rfl ?_ ?_
  · refine j_iload_n 10 1 dJ9_min_7cf53_9 rfl rfl rfl ?_
    exact j_iret dJ9_min_7cf53_10 rfl
  · refine j_iload_n 6 0 dJ9_min_7cf53_5 rfl rfl rfl ?_
    refine j_goto 10 dJ9_min_7cf53_6 (by decide) ?_
    exact j_iret dJ9_min_7cf53_10 rfl
-- X1_sideOf: ('BarSteps$Kinds', 'sideOf', '(II)I')
def X1_sideOf (a0 : Int32) (a1 : Int32) : Option (Int32) := (o_idiv (a1 + 1) 2).bind fun v1 =>
  (if a0 = 1 then some v1 else
  (if a0 = 2 then some a1 else
  (if a0 = 3 then some v1 else
  (if a0 = 4 then some (10 - a1) else
  (if a0 = 5 then (J9_min_7cf53 2 v1).bind fun v6 =>
  some v6 else
  some a1)))))
theorem okX1_sideOf (G : JG) (x : Hs) (a0 : Int32) (a1 : Int32) : ∀ r, X1_sideOf a0 a1 = some r → JC G yX1_sideOf cX1_sideOf 3 (some .int) (jR 2 0 0) 0 0 [.int a0, .int a1] x ((some (.int r), x)) := by
  refine jc_of (own := RX1) (E := (fun r : Int32 => ((some (.int r), x) : JR))) (by decide) rfl rfl (Nat.le_of_ble_eq_true rfl) rfl ?_
  unfold X1_sideOf
  refine j_iload_n 1 1 dX1_sideOf_0 rfl rfl rfl ?_
  refine j_iconst (v := 1) 2 dX1_sideOf_1 rfl ic_1 ?_
  refine j_iadd 3 dX1_sideOf_2 rfl ?_
  refine j_iconst (v := 2) 4 dX1_sideOf_3 rfl ic_2 ?_
  refine j_idiv 5 dX1_sideOf_4 rfl ?_
  intro v1
  refine j_istore_n 6 [(2, .int v1), (0, .int a0), (1, .int a1)] dX1_sideOf_5 rfl rfl (by decide) rfl ?_
  refine j_iload_n 7 1 dX1_sideOf_6 rfl rfl rfl ?_
  refine j_ite (fun h2 => ?_) (fun h2 => ?_)
  · refine j_tinE (w := 1) 40 dX1_sideOf_7 h2 (by decide) (by decide) rfl (by decide) ?_
    refine j_iload_n 41 0 dX1_sideOf_40 rfl rfl rfl ?_
    exact j_iret dX1_sideOf_41 rfl
  refine j_ite (fun h3 => ?_) (fun h3 => ?_)
  · refine j_tinE (w := 2) 53 dX1_sideOf_7 h3 (by decide) (by decide) rfl (by decide) ?_
    refine j_iload_n 54 2 dX1_sideOf_53 rfl rfl rfl ?_
    exact j_iret dX1_sideOf_54 rfl
  refine j_ite (fun h4 => ?_) (fun h4 => ?_)
  · refine j_tinE (w := 3) 40 dX1_sideOf_7 h4 (by decide) (by decide) rfl (by decide) ?_
    refine j_iload_n 41 0 dX1_sideOf_40 rfl rfl rfl ?_
    exact j_iret dX1_sideOf_41 rfl
  refine j_ite (fun h5 => ?_) (fun h5 => ?_)
  · refine j_tinE (w := 4) 48 dX1_sideOf_7 h5 (by decide) (by decide) rfl (by decide) ?_
    refine j_bipush (v := 10) 50 dX1_sideOf_48 rfl bc_10 ?_
    refine j_iload_n 51 2 dX1_sideOf_50 rfl rfl rfl ?_
    refine j_isub 52 dX1_sideOf_51 rfl ?_
    exact j_iret dX1_sideOf_52 rfl
  refine j_ite (fun h7 => ?_) (fun h7 => ?_)
  · refine j_tinE (w := 5) 42 dX1_sideOf_7 h7 (by decide) (by decide) rfl (by decide) ?_
    refine j_iconst (v := 2) 43 dX1_sideOf_42 rfl ic_2 ?_
    refine j_iload_n 44 0 dX1_sideOf_43 rfl rfl rfl ?_
    refine j_callS_i (As := [.int 2, .int v1]) (st := []) 47 (okJ9_min_7cf53 G x 2 v1) kc_J9_min_7cf53 kl_X1_13 ks_J9_min_7cf53 ⟨rfl, rfl, Nat.le_of_ble_eq_true rfl, Nat.le_of_ble_eq_true rfl⟩ (Nat.le_of_ble_eq_true rfl) ⟨Nat.le_of_ble_eq_true rfl, Nat.le_of_ble_eq_true rfl⟩ rfl dX1_sideOf_44 rfl rfl ?_
    intro v6
    exact j_iret dX1_sideOf_47 rfl
  have h2n := sw_ne h2
  have h3n := sw_ne h3
  have h4n := sw_ne h4
  have h5n := sw_ne h5
  have h7n := sw_ne h7
  have h2m : (Int32.toInt 1) = 1 := by decide
  have h3m : (Int32.toInt 2) = 2 := by decide
  have h4m : (Int32.toInt 3) = 3 := by decide
  have h5m : (Int32.toInt 4) = 4 := by decide
  have h7m : (Int32.toInt 5) = 5 := by decide
  refine j_tout 53 dX1_sideOf_7 (by omega) (by decide) ?_
  refine j_iload_n 54 2 dX1_sideOf_53 rfl rfl rfl ?_
  exact j_iret dX1_sideOf_54 rfl
-- X1_holdsOf: ('BarSteps$Kinds', 'holdsOf', '(II)I')
def X1_holdsOf_J10 (l1 : Int32) : Option (Int32) := some (2 * l1)
theorem okX1_holdsOf_J10 (G : JG) (x : Hs) : ∀ (l1 : Int32), JM G RX1 cX1_holdsOf 2 (jZ G (some .int) "holdsOf" (jR 1 0 0) 0 0) (fun r : Int32 => ((some (.int r), x) : JR)) 10 [(1, .int l1)] [] x 0 0 (X1_holdsOf_J10 l1) := by
  intro l1
  unfold X1_holdsOf_J10
  refine j_iconst (v := 2) 11 dX1_holdsOf_10 rfl ic_2 ?_
  refine j_iload_n 12 0 dX1_holdsOf_11 rfl rfl rfl ?_
  refine j_imul 13 dX1_holdsOf_12 rfl ?_
  refine j_goto 17 dX1_holdsOf_13 (by decide) ?_
  exact j_iret dX1_holdsOf_17 rfl
def X1_holdsOf (a0 : Int32) (a1 : Int32) : Option (Int32) := (if a0 = 2 then X1_holdsOf_J10 a1 else
  (if a0 = 4 then X1_holdsOf_J10 a1 else
  some a1))
theorem okX1_holdsOf (G : JG) (x : Hs) (a0 : Int32) (a1 : Int32) : ∀ r, X1_holdsOf a0 a1 = some r → JC G yX1_holdsOf cX1_holdsOf 2 (some .int) (jR 1 0 0) 0 0 [.int a0, .int a1] x ((some (.int r), x)) := by
  refine jc_of (own := RX1) (E := (fun r : Int32 => ((some (.int r), x) : JR))) (by decide) rfl rfl (Nat.le_of_ble_eq_true rfl) rfl ?_
  unfold X1_holdsOf
  refine j_iload_n 1 0 dX1_holdsOf_0 rfl rfl rfl ?_
  refine j_iconst (v := 2) 2 dX1_holdsOf_1 rfl ic_2 ?_
  refine j_icmp_eq 10 5 dX1_holdsOf_2 (by decide) rfl ?_ ?_
  · refine j_sub [1] rfl ?_
    exact okX1_holdsOf_J10 G x a1
  · refine j_iload_n 6 0 dX1_holdsOf_5 rfl rfl rfl ?_
    refine j_iconst (v := 4) 7 dX1_holdsOf_6 rfl ic_4 ?_
    refine j_icmp_ne 16 10 dX1_holdsOf_7 (by decide) rfl ?_ ?_
    · refine j_iload_n 17 1 dX1_holdsOf_16 rfl rfl rfl ?_
      exact j_iret dX1_holdsOf_17 rfl
    · refine j_sub [1] rfl ?_
      exact okX1_holdsOf_J10 G x a1
-- X1_finOf: ('BarSteps$Kinds', 'finOf', '(I)I')
def X1_finOf (a0 : Int32) : Option (Int32) := (if a0 = 3 then some 1 else
  some 0)
theorem okX1_finOf (G : JG) (x : Hs) (a0 : Int32) : ∀ r, X1_finOf a0 = some r → JC G yX1_finOf cX1_finOf 1 (some .int) (jR 1 0 0) 0 0 [.int a0] x ((some (.int r), x)) := by
  refine jc_of (own := RX1) (E := (fun r : Int32 => ((some (.int r), x) : JR))) (by decide) rfl rfl (Nat.le_of_ble_eq_true rfl) rfl ?_
  unfold X1_finOf
  refine j_iload_n 1 0 dX1_finOf_0 rfl rfl rfl ?_
  refine j_iconst (v := 3) 2 dX1_finOf_1 rfl ic_3 ?_
  refine j_icmp_ne 9 5 dX1_finOf_2 (by decide) rfl ?_ ?_
  · refine j_iconst (v := 0) 10 dX1_finOf_9 rfl ic_0 ?_
    exact j_iret dX1_finOf_10 rfl
  · refine j_iconst (v := 1) 6 dX1_finOf_5 rfl ic_1 ?_
    refine j_goto 10 dX1_finOf_6 (by decide) ?_
    exact j_iret dX1_finOf_10 rfl
-- X0_make: ('BarSteps$Bar', 'make', '(I)V')
def X0_make (a0 : Nat) (a1 : Int32) (x : Hs) : Option (Hs) := (vO x 0 a0).bind fun _ =>
  (gR x 0 a0 5).bind fun v1 =>
  (gR x 0 a0 1).bind fun v2 =>
  (aI x v2 a1).bind fun v3 =>
  (gR x 0 a0 2).bind fun v4 =>
  (aI x v4 a1).bind fun v5 =>
  (X1_sideOf v3 v5).bind fun v6 =>
  (wI x v1 a1 v6).bind fun y7 =>
  (gR y7 0 a0 6).bind fun v8 =>
  (gR y7 0 a0 1).bind fun v9 =>
  (aI y7 v9 a1).bind fun v10 =>
  (gR y7 0 a0 3).bind fun v11 =>
  (aI y7 v11 a1).bind fun v12 =>
  (X1_holdsOf v10 v12).bind fun v13 =>
  (wI y7 v8 a1 v13).bind fun y14 =>
  (gR y14 0 a0 7).bind fun v15 =>
  (gR y14 0 a0 1).bind fun v16 =>
  (aI y14 v16 a1).bind fun v17 =>
  (X1_finOf v17).bind fun v18 =>
  (wI y14 v15 a1 v18).bind fun y19 =>
  some y19
theorem rvX0_make {a0 : Nat} {a1 : Int32} {x : Hs} {r : Hs} (h : X0_make a0 a1 x = some r) : ∃ fs, x.1 a0 = .inr (0, fs) := vO_bind h
theorem okX0_make (G : JG) (x : Hs) (a0 : Nat) (a1 : Int32) : ∀ r, X0_make a0 a1 x = some r → JC G yX0_make cX0_make 2 (none) (jR 3 0 0) 0 0 [.ref a0, .int a1] x ((none, r)) := by
  refine jc_of (own := RX0) (E := (fun r : Hs => ((none, r) : JR))) (by decide) rfl rfl (Nat.le_of_ble_eq_true rfl) rfl ?_
  unfold X0_make
  refine j_chk ?_
  refine j_aload_n 1 0 dX0_make_0 rfl rfl rfl ?_
  refine j_gR 4 kf_X0_28 dX0_make_1 rfl ?_
  intro v1
  refine j_iload_n 5 1 dX0_make_4 rfl rfl rfl ?_
  refine j_aload_n 6 0 dX0_make_5 rfl rfl rfl ?_
  refine j_gR 9 kf_X0_15 dX0_make_6 rfl ?_
  intro v2
  refine j_iload_n 10 1 dX0_make_9 rfl rfl rfl ?_
  refine j_aI 11 dX0_make_10 rfl ?_
  intro v3
  refine j_aload_n 12 0 dX0_make_11 rfl rfl rfl ?_
  refine j_gR 15 kf_X0_19 dX0_make_12 rfl ?_
  intro v4
  refine j_iload_n 16 1 dX0_make_15 rfl rfl rfl ?_
  refine j_aI 17 dX0_make_16 rfl ?_
  intro v5
  refine j_callS_i (As := [.int v3, .int v5]) (st := [.int a1, .ref v1]) 20 (okX1_sideOf G x v3 v5) kc_X1_sideOf kl_X0_78 ks_X1_sideOf ⟨rfl, rfl, Nat.le_of_ble_eq_true rfl, Nat.le_of_ble_eq_true rfl⟩ (Nat.le_of_ble_eq_true rfl) ⟨Nat.le_of_ble_eq_true rfl, Nat.le_of_ble_eq_true rfl⟩ rfl dX0_make_17 rfl rfl ?_
  intro v6
  refine j_wI 21 dX0_make_20 rfl ?_
  intro y7
  refine j_aload_n 22 0 dX0_make_21 rfl rfl rfl ?_
  refine j_gR 25 kf_X0_31 dX0_make_22 rfl ?_
  intro v8
  refine j_iload_n 26 1 dX0_make_25 rfl rfl rfl ?_
  refine j_aload_n 27 0 dX0_make_26 rfl rfl rfl ?_
  refine j_gR 30 kf_X0_15 dX0_make_27 rfl ?_
  intro v9
  refine j_iload_n 31 1 dX0_make_30 rfl rfl rfl ?_
  refine j_aI 32 dX0_make_31 rfl ?_
  intro v10
  refine j_aload_n 33 0 dX0_make_32 rfl rfl rfl ?_
  refine j_gR 36 kf_X0_22 dX0_make_33 rfl ?_
  intro v11
  refine j_iload_n 37 1 dX0_make_36 rfl rfl rfl ?_
  refine j_aI 38 dX0_make_37 rfl ?_
  intro v12
  refine j_callS_i (As := [.int v10, .int v12]) (st := [.int a1, .ref v8]) 41 (okX1_holdsOf G y7 v10 v12) kc_X1_holdsOf kl_X0_84 ks_X1_holdsOf ⟨rfl, rfl, Nat.le_of_ble_eq_true rfl, Nat.le_of_ble_eq_true rfl⟩ (Nat.le_of_ble_eq_true rfl) ⟨Nat.le_of_ble_eq_true rfl, Nat.le_of_ble_eq_true rfl⟩ rfl dX0_make_38 rfl rfl ?_
  intro v13
  refine j_wI 42 dX0_make_41 rfl ?_
  intro y14
  refine j_aload_n 43 0 dX0_make_42 rfl rfl rfl ?_
  refine j_gR 46 kf_X0_34 dX0_make_43 rfl ?_
  intro v15
  refine j_iload_n 47 1 dX0_make_46 rfl rfl rfl ?_
  refine j_aload_n 48 0 dX0_make_47 rfl rfl rfl ?_
  refine j_gR 51 kf_X0_15 dX0_make_48 rfl ?_
  intro v16
  refine j_iload_n 52 1 dX0_make_51 rfl rfl rfl ?_
  refine j_aI 53 dX0_make_52 rfl ?_
  intro v17
  refine j_callS_i (As := [.int v17]) (st := [.int a1, .ref v15]) 56 (okX1_finOf G y14 v17) kc_X1_finOf kl_X0_87 ks_X1_finOf ⟨rfl, rfl, Nat.le_of_ble_eq_true rfl, Nat.le_of_ble_eq_true rfl⟩ (Nat.le_of_ble_eq_true rfl) ⟨Nat.le_of_ble_eq_true rfl, Nat.le_of_ble_eq_true rfl⟩ rfl dX0_make_53 rfl rfl ?_
  intro v18
  refine j_wI 57 dX0_make_56 rfl ?_
  intro y19
  exact j_vret dX0_make_57 rfl
-- X0_append: ('BarSteps$Bar', 'append', '(IIII)I')
def X0_append (a0 : Nat) (a1 : Int32) (a2 : Int32) (a3 : Int32) (a4 : Int32) (x : Hs) : Option (Int32 × Hs) := (vO x 0 a0).bind fun _ =>
  (gI x 0 a0 0).bind fun v1 =>
  (if v1 < 8 then (gI x 0 a0 0).bind fun v2 =>
  (gI x 0 a0 0).bind fun v3 =>
  (pV x 0 a0 0 (.int (v3 + 1))).bind fun y4 =>
  (gR y4 0 a0 1).bind fun v5 =>
  (wI y4 v5 v2 a1).bind fun y6 =>
  (gR y6 0 a0 2).bind fun v7 =>
  (wI y6 v7 v2 a2).bind fun y8 =>
  (gR y8 0 a0 3).bind fun v9 =>
  (wI y8 v9 v2 a3).bind fun y10 =>
  (gR y10 0 a0 4).bind fun v11 =>
  (wI y10 v11 v2 0).bind fun y12 =>
  (gR y12 0 a0 8).bind fun v13 =>
  (gL y12 0 a0 9).bind fun v14 =>
  (wL y12 v13 v2 ((Int32.toInt64 a4) * v14)).bind fun y15 =>
  (X0_make a0 v2 y15).bind fun q16 =>
  some (v2, q16) else
  some ((-4), x))
theorem rvX0_append {a0 : Nat} {a1 : Int32} {a2 : Int32} {a3 : Int32} {a4 : Int32} {x : Hs} {r : Int32 × Hs} (h : X0_append a0 a1 a2 a3 a4 x = some r) : ∃ fs, x.1 a0 = .inr (0, fs) := vO_bind h
theorem okX0_append (G : JG) (x : Hs) (a0 : Nat) (a1 : Int32) (a2 : Int32) (a3 : Int32) (a4 : Int32) : ∀ r, X0_append a0 a1 a2 a3 a4 x = some r → JC G yX0_append cX0_append 6 (some .int) (jR 4 0 0) 0 0 [.ref a0, .int a1, .int a2, .int a3, .int a4] x ((some (.int r.1), r.2)) := by
  refine jc_of (own := RX0) (E := (fun r : Int32 × Hs => ((some (.int r.1), r.2) : JR))) (by decide) rfl rfl (Nat.le_of_ble_eq_true rfl) rfl ?_
  unfold X0_append
  refine j_chk ?_
  refine j_aload_n 1 0 dX0_append_0 rfl rfl rfl ?_
  refine j_gI 4 kf_X0_9 dX0_append_1 rfl ?_
  intro v1
  refine j_bipush (v := 8) 6 dX0_append_4 rfl bc_8 ?_
  refine j_icmp_lt 12 9 dX0_append_6 (by decide) rfl ?_ ?_
  · refine j_aload_n 13 0 dX0_append_12 rfl rfl rfl ?_
    refine j_gI 16 kf_X0_9 dX0_append_13 rfl ?_
    intro v2
    refine j_istore 18 [(5, .int v2), (0, .ref a0), (1, .int a1), (2, .int a2), (3, .int a3), (4, .int a4)] dX0_append_16 rfl (by decide) rfl ?_
    refine j_aload_n 19 1 dX0_append_18 rfl rfl rfl ?_
    refine j_dup 20 dX0_append_19 rfl rfl ?_
    refine j_gI 23 kf_X0_9 dX0_append_20 rfl ?_
    intro v3
    refine j_iconst (v := 1) 24 dX0_append_23 rfl ic_1 ?_
    refine j_iadd 25 dX0_append_24 rfl ?_
    refine j_put 28 kf_X0_9 dX0_append_25 rfl rfl rfl ?_
    intro y4
    refine j_aload_n 29 1 dX0_append_28 rfl rfl rfl ?_
    refine j_gR 32 kf_X0_15 dX0_append_29 rfl ?_
    intro v5
    refine j_iload 34 0 dX0_append_32 rfl rfl ?_
    refine j_iload_n 35 2 dX0_append_34 rfl rfl rfl ?_
    refine j_wI 36 dX0_append_35 rfl ?_
    intro y6
    refine j_aload_n 37 1 dX0_append_36 rfl rfl rfl ?_
    refine j_gR 40 kf_X0_19 dX0_append_37 rfl ?_
    intro v7
    refine j_iload 42 0 dX0_append_40 rfl rfl ?_
    refine j_iload_n 43 3 dX0_append_42 rfl rfl rfl ?_
    refine j_wI 44 dX0_append_43 rfl ?_
    intro y8
    refine j_aload_n 45 1 dX0_append_44 rfl rfl rfl ?_
    refine j_gR 48 kf_X0_22 dX0_append_45 rfl ?_
    intro v9
    refine j_iload 50 0 dX0_append_48 rfl rfl ?_
    refine j_iload_n 51 4 dX0_append_50 rfl rfl rfl ?_
    refine j_wI 52 dX0_append_51 rfl ?_
    intro y10
    refine j_aload_n 53 1 dX0_append_52 rfl rfl rfl ?_
    refine j_gR 56 kf_X0_25 dX0_append_53 rfl ?_
    intro v11
    refine j_iload 58 0 dX0_append_56 rfl rfl ?_
    refine j_iconst (v := 0) 59 dX0_append_58 rfl ic_0 ?_
    refine j_wI 60 dX0_append_59 rfl ?_
    intro y12
    refine j_aload_n 61 1 dX0_append_60 rfl rfl rfl ?_
    refine j_gR 64 kf_X0_37 dX0_append_61 rfl ?_
    intro v13
    refine j_iload 66 0 dX0_append_64 rfl rfl ?_
    refine j_iload 68 5 dX0_append_66 rfl rfl ?_
    refine j_i2l 69 dX0_append_68 rfl ?_
    refine j_aload_n 70 1 dX0_append_69 rfl rfl rfl ?_
    refine j_gL 73 kf_X0_41 dX0_append_70 rfl ?_
    intro v14
    refine j_lmul 74 dX0_append_73 rfl ?_
    refine j_wL 75 dX0_append_74 rfl ?_
    intro y15
    refine j_aload_n 76 1 dX0_append_75 rfl rfl rfl ?_
    refine j_iload 78 0 dX0_append_76 rfl rfl ?_
    refine j_callV_v (ci := 0) (As := [.int v2]) (st := []) 81 (okX0_make G y15 a0 v2) kc_X0_make kl_X0_74 ki_X0_make kv_X0_make kh_X0 (by decide) (fun _ h => rvX0_make h) ⟨rfl, rfl, Nat.le_of_ble_eq_true rfl, Nat.le_of_ble_eq_true rfl⟩ (Nat.le_of_ble_eq_true rfl) ⟨Nat.le_of_ble_eq_true rfl, Nat.le_of_ble_eq_true rfl⟩ rfl dX0_append_78 rfl rfl ?_
    intro q16
    refine j_iload 83 0 dX0_append_81 rfl rfl ?_
    exact j_iret dX0_append_83 rfl
  · refine j_bipush (v := -4) 11 dX0_append_9 rfl bc_m4 ?_
    exact j_iret dX0_append_11 rfl
-- X2_append: ('BarSteps$Pulses', 'append', '(III)I')
def X2_append (a0 : Nat) (a1 : Int32) (a2 : Int32) (a3 : Int32) (x : Hs) : Option (Int32 × Hs) := (vO x 1 a0).bind fun _ =>
  (gI x 1 a0 3).bind fun v1 =>
  (if v1 < 12 then (gR x 1 a0 0).bind fun v2 =>
  (gI x 1 a0 3).bind fun v3 =>
  (wI x v2 v3 a1).bind fun y4 =>
  (gR y4 1 a0 1).bind fun v5 =>
  (gI y4 1 a0 3).bind fun v6 =>
  (wI y4 v5 v6 a2).bind fun y7 =>
  (gR y7 1 a0 2).bind fun v8 =>
  (gI y7 1 a0 3).bind fun v9 =>
  (wI y7 v8 v9 a3).bind fun y10 =>
  (gI y10 1 a0 3).bind fun v11 =>
  (pV y10 1 a0 3 (.int (v11 + 1))).bind fun y12 =>
  (gI y12 1 a0 3).bind fun v13 =>
  some (v13, y12) else
  some ((-4), x))
theorem rvX2_append {a0 : Nat} {a1 : Int32} {a2 : Int32} {a3 : Int32} {x : Hs} {r : Int32 × Hs} (h : X2_append a0 a1 a2 a3 x = some r) : ∃ fs, x.1 a0 = .inr (1, fs) := vO_bind h
theorem okX2_append (G : JG) (x : Hs) (a0 : Nat) (a1 : Int32) (a2 : Int32) (a3 : Int32) : ∀ r, X2_append a0 a1 a2 a3 x = some r → JC G yX2_append cX2_append 4 (some .int) (jR 1 0 0) 0 0 [.ref a0, .int a1, .int a2, .int a3] x ((some (.int r.1), r.2)) := by
  refine jc_of (own := RX2) (E := (fun r : Int32 × Hs => ((some (.int r.1), r.2) : JR))) (by decide) rfl rfl (Nat.le_of_ble_eq_true rfl) rfl ?_
  unfold X2_append
  refine j_chk ?_
  refine j_aload_n 1 0 dX2_append_0 rfl rfl rfl ?_
  refine j_gI 4 kf_X2_21 dX2_append_1 rfl ?_
  intro v1
  refine j_bipush (v := 12) 6 dX2_append_4 rfl bc_12 ?_
  refine j_icmp_lt 12 9 dX2_append_6 (by decide) rfl ?_ ?_
  · refine j_aload_n 13 0 dX2_append_12 rfl rfl rfl ?_
    refine j_gR 16 kf_X2_9 dX2_append_13 rfl ?_
    intro v2
    refine j_aload_n 17 0 dX2_append_16 rfl rfl rfl ?_
    refine j_gI 20 kf_X2_21 dX2_append_17 rfl ?_
    intro v3
    refine j_iload_n 21 1 dX2_append_20 rfl rfl rfl ?_
    refine j_wI 22 dX2_append_21 rfl ?_
    intro y4
    refine j_aload_n 23 0 dX2_append_22 rfl rfl rfl ?_
    refine j_gR 26 kf_X2_15 dX2_append_23 rfl ?_
    intro v5
    refine j_aload_n 27 0 dX2_append_26 rfl rfl rfl ?_
    refine j_gI 30 kf_X2_21 dX2_append_27 rfl ?_
    intro v6
    refine j_iload_n 31 2 dX2_append_30 rfl rfl rfl ?_
    refine j_wI 32 dX2_append_31 rfl ?_
    intro y7
    refine j_aload_n 33 0 dX2_append_32 rfl rfl rfl ?_
    refine j_gR 36 kf_X2_18 dX2_append_33 rfl ?_
    intro v8
    refine j_aload_n 37 0 dX2_append_36 rfl rfl rfl ?_
    refine j_gI 40 kf_X2_21 dX2_append_37 rfl ?_
    intro v9
    refine j_iload_n 41 3 dX2_append_40 rfl rfl rfl ?_
    refine j_wI 42 dX2_append_41 rfl ?_
    intro y10
    refine j_aload_n 43 0 dX2_append_42 rfl rfl rfl ?_
    refine j_dup 44 dX2_append_43 rfl rfl ?_
    refine j_gI 47 kf_X2_21 dX2_append_44 rfl ?_
    intro v11
    refine j_iconst (v := 1) 48 dX2_append_47 rfl ic_1 ?_
    refine j_iadd 49 dX2_append_48 rfl ?_
    refine j_put 52 kf_X2_21 dX2_append_49 rfl rfl rfl ?_
    intro y12
    refine j_aload_n 53 0 dX2_append_52 rfl rfl rfl ?_
    refine j_gI 56 kf_X2_21 dX2_append_53 rfl ?_
    intro v13
    exact j_iret dX2_append_56 rfl
  · refine j_bipush (v := -4) 11 dX2_append_9 rfl bc_m4 ?_
    exact j_iret dX2_append_11 rfl
-- X2_removeOf: ('BarSteps$Pulses', 'removeOf', '(I)I')
def X2_removeOf_L12 : Nat → Nat → Int32 → Int32 → Int32 → Hs → Option (Int32 × Hs)
  | 0, _, _, _, _, _ => none
  | n + 1, l0, l1, l2, l3, x => (if l2 ≤ l3 then (gI x 1 l0 3).bind fun v3 =>
  some ((l2 - v3), x) else
  (gR x 1 l0 0).bind fun v4 =>
  (aI x v4 l3).bind fun v5 =>
  (if v5 = l1 then X2_removeOf_L12 n l0 l1 l2 (l3 + 1) x else
  (gR x 1 l0 0).bind fun v6 =>
  (aI x v6 l3).bind fun v7 =>
  (gR x 1 l0 1).bind fun v8 =>
  (aI x v8 l3).bind fun v9 =>
  (gR x 1 l0 2).bind fun v10 =>
  (aI x v10 l3).bind fun v11 =>
  (X2_append l0 v7 v9 v11 x).bind fun q12 =>
  X2_removeOf_L12 n l0 l1 l2 (l3 + 1) q12.2))
theorem okX2_removeOf_L12 (G : JG) : ∀ (n : Nat), ∀ (l0 : Nat) (l1 : Int32) (l2 : Int32) (l3 : Int32) (x : Hs), JM G RX2 cX2_removeOf 4 (jZ G (some .int) "removeOf" (jR 2 0 0) 0 0) (fun r : Int32 × Hs => ((some (.int r.1), r.2) : JR)) 12 [(0, .ref l0), (1, .int l1), (2, .int l2), (3, .int l3)] [] x 0 0 (X2_removeOf_L12 n l0 l1 l2 l3 x) := by
  intro n
  induction n with
  | zero => intro l0 l1 l2 l3 x; exact j_none
  | succ n ih =>
    intro l0 l1 l2 l3 x
    unfold X2_removeOf_L12
    refine j_iload_n 13 3 dX2_removeOf_12 rfl rfl rfl ?_
    refine j_iload_n 14 2 dX2_removeOf_13 rfl rfl rfl ?_
    refine j_icmp_ge 56 17 dX2_removeOf_14 (by decide) rfl ?_ ?_
    · refine j_iload_n 57 2 dX2_removeOf_56 rfl rfl rfl ?_
      refine j_aload_n 58 0 dX2_removeOf_57 rfl rfl rfl ?_
      refine j_gI 61 kf_X2_21 dX2_removeOf_58 rfl ?_
      intro v3
      refine j_isub 62 dX2_removeOf_61 rfl ?_
      exact j_iret dX2_removeOf_62 rfl
    · refine j_aload_n 18 0 dX2_removeOf_17 rfl rfl rfl ?_
      refine j_gR 21 kf_X2_9 dX2_removeOf_18 rfl ?_
      intro v4
      refine j_iload_n 22 3 dX2_removeOf_21 rfl rfl rfl ?_
      refine j_aI 23 dX2_removeOf_22 rfl ?_
      intro v5
      refine j_iload_n 24 1 dX2_removeOf_23 rfl rfl rfl ?_
      refine j_icmp_eq 50 27 dX2_removeOf_24 (by decide) rfl ?_ ?_
      · refine j_iinc 53 3 [(3, .int (l3 + 1)), (0, .ref l0), (1, .int l1), (2, .int l2)] dX2_removeOf_50 rfl rfl (ii_1 _) (by decide) rfl ?_
        refine j_goto 12 dX2_removeOf_53 (by decide) ?_
        refine j_sub [1, 2, 3, 0] rfl ?_
        exact ih l0 l1 l2 (l3 + 1) x
      · refine j_aload_n 28 0 dX2_removeOf_27 rfl rfl rfl ?_
        refine j_aload_n 29 0 dX2_removeOf_28 rfl rfl rfl ?_
        refine j_gR 32 kf_X2_9 dX2_removeOf_29 rfl ?_
        intro v6
        refine j_iload_n 33 3 dX2_removeOf_32 rfl rfl rfl ?_
        refine j_aI 34 dX2_removeOf_33 rfl ?_
        intro v7
        refine j_aload_n 35 0 dX2_removeOf_34 rfl rfl rfl ?_
        refine j_gR 38 kf_X2_15 dX2_removeOf_35 rfl ?_
        intro v8
        refine j_iload_n 39 3 dX2_removeOf_38 rfl rfl rfl ?_
        refine j_aI 40 dX2_removeOf_39 rfl ?_
        intro v9
        refine j_aload_n 41 0 dX2_removeOf_40 rfl rfl rfl ?_
        refine j_gR 44 kf_X2_18 dX2_removeOf_41 rfl ?_
        intro v10
        refine j_iload_n 45 3 dX2_removeOf_44 rfl rfl rfl ?_
        refine j_aI 46 dX2_removeOf_45 rfl ?_
        intro v11
        refine j_callV_iw (ci := 1) (As := [.int v7, .int v9, .int v11]) (st := []) 49 (okX2_append G x l0 v7 v9 v11) kc_X2_append kl_X2_31 ki_X2_append kv_X2_append kh_X2 (by decide) (fun _ h => rvX2_append h) ⟨rfl, rfl, Nat.le_of_ble_eq_true rfl, Nat.le_of_ble_eq_true rfl⟩ (Nat.le_of_ble_eq_true rfl) ⟨Nat.le_of_ble_eq_true rfl, Nat.le_of_ble_eq_true rfl⟩ rfl dX2_removeOf_46 rfl rfl ?_
        intro q12
        refine j_pop 50 dX2_removeOf_49 rfl rfl ?_
        refine j_iinc 53 3 [(3, .int (l3 + 1)), (0, .ref l0), (1, .int l1), (2, .int l2)] dX2_removeOf_50 rfl rfl (ii_1 _) (by decide) rfl ?_
        refine j_goto 12 dX2_removeOf_53 (by decide) ?_
        refine j_sub [1, 2, 3, 0] rfl ?_
        exact ih l0 l1 l2 (l3 + 1) q12.2
def X2_removeOf (a0 : Nat) (a1 : Int32) (x : Hs) : Option (Int32 × Hs) := (vO x 1 a0).bind fun _ =>
  (gI x 1 a0 3).bind fun v1 =>
  (pV x 1 a0 3 (.int 0)).bind fun y2 =>
  X2_removeOf_L12 fu a0 a1 v1 0 y2
theorem rvX2_removeOf {a0 : Nat} {a1 : Int32} {x : Hs} {r : Int32 × Hs} (h : X2_removeOf a0 a1 x = some r) : ∃ fs, x.1 a0 = .inr (1, fs) := vO_bind h
theorem okX2_removeOf (G : JG) (x : Hs) (a0 : Nat) (a1 : Int32) : ∀ r, X2_removeOf a0 a1 x = some r → JC G yX2_removeOf cX2_removeOf 4 (some .int) (jR 2 0 0) 0 0 [.ref a0, .int a1] x ((some (.int r.1), r.2)) := by
  refine jc_of (own := RX2) (E := (fun r : Int32 × Hs => ((some (.int r.1), r.2) : JR))) (by decide) rfl rfl (Nat.le_of_ble_eq_true rfl) rfl ?_
  unfold X2_removeOf
  refine j_chk ?_
  refine j_aload_n 1 0 dX2_removeOf_0 rfl rfl rfl ?_
  refine j_gI 4 kf_X2_21 dX2_removeOf_1 rfl ?_
  intro v1
  refine j_istore_n 5 [(2, .int v1), (0, .ref a0), (1, .int a1)] dX2_removeOf_4 rfl rfl (by decide) rfl ?_
  refine j_aload_n 6 1 dX2_removeOf_5 rfl rfl rfl ?_
  refine j_iconst (v := 0) 7 dX2_removeOf_6 rfl ic_0 ?_
  refine j_put 10 kf_X2_21 dX2_removeOf_7 rfl rfl rfl ?_
  intro y2
  refine j_iconst (v := 0) 11 dX2_removeOf_10 rfl ic_0 ?_
  refine j_istore_n 12 [(3, .int 0), (2, .int v1), (0, .ref a0), (1, .int a1)] dX2_removeOf_11 rfl rfl (by decide) rfl ?_
  refine j_sub [2, 3, 1, 0] rfl ?_
  exact okX2_removeOf_L12 G fu a0 a1 v1 0 y2
-- J9_abs_067f4: ('java/lang/Math', 'abs', '(J)J')
def J9_abs_067f4 (a0 : Int64) : Option (Int64) := (if 0 ≤ a0 then some a0 else
  some (-a0))
theorem okJ9_abs_067f4 (G : JG) (x : Hs) (a0 : Int64) : ∀ r, J9_abs_067f4 a0 = some r → JC G yJ9_abs_067f4 cJ9_abs_067f4 2 (some .long) (jR 1 0 0) 0 0 [.long a0] x ((some (.long r), x)) := by
  refine jc_ofF (own := RJ9) (E := (fun r : Int64 => ((some (.long r), x) : JR))) (by decide +kernel) rfl rfl (Nat.le_of_ble_eq_true rfl) rfl ?_
  unfold J9_abs_067f4
  refine j_lload_n 1 0 dJ9_abs_067f4_0 rfl rfl rfl ?_
  refine j_lconst (v := 0) 2 dJ9_abs_067f4_1 rfl lc_0 ?_
  refine j_lcmp_ge 3 11 6 dJ9_abs_067f4_2 rfl dJ9_abs_067f4_3 (by decide) rfl ?_ ?_
  · refine j_lload_n 12 0 dJ9_abs_067f4_11 rfl rfl rfl ?_
    exact j_lret dJ9_abs_067f4_12 rfl
  · refine j_lload_n 7 0 dJ9_abs_067f4_6 rfl rfl rfl ?_
    refine j_lneg 8 dJ9_abs_067f4_7 rfl ?_
    refine j_goto 12 dJ9_abs_067f4_8 (by decide) ?_
    exact j_lret dJ9_abs_067f4_12 rfl
-- X6_commonDivisor: ('BarSteps', 'commonDivisor', '(JJ)J')
def X6_commonDivisor_L15 : Nat → Int64 → Int64 → Int32 → Option (Int64)
  | 0, _, _, _ => none
  | n + 1, l4, l6, l8 => (if 1000 ≤ l8 then some l4 else
  (if l6 = 0 then some l4 else
  (o_lrem l4 l6).bind fun v3 =>
  X6_commonDivisor_L15 n l6 v3 (l8 + 1)))
theorem okX6_commonDivisor_L15 (G : JG) (x : Hs) : ∀ (n : Nat), ∀ (l4 : Int64) (l6 : Int64) (l8 : Int32), JM G RX6 cX6_commonDivisor 11 (jZ G (some .long) "commonDivisor" (jR 2 0 0) 0 0) (fun r : Int64 => ((some (.long r), x) : JR)) 15 [(4, .long l4), (6, .long l6), (8, .int l8)] [] x 0 0 (X6_commonDivisor_L15 n l4 l6 l8) := by
  intro n
  induction n with
  | zero => intro l4 l6 l8; exact j_none
  | succ n ih =>
    intro l4 l6 l8
    unfold X6_commonDivisor_L15
    refine j_iload 17 2 dX6_commonDivisor_15 rfl rfl ?_
    refine j_sipush (v := 1000) 20 dX6_commonDivisor_17 rfl sc_1000 ?_
    refine j_icmp_ge 51 23 dX6_commonDivisor_20 (by decide) rfl ?_ ?_
    · refine j_lload 53 0 dX6_commonDivisor_51 rfl rfl ?_
      exact j_lret dX6_commonDivisor_53 rfl
    · refine j_lload 25 1 dX6_commonDivisor_23 rfl rfl ?_
      refine j_lconst (v := 0) 26 dX6_commonDivisor_25 rfl lc_0 ?_
      refine j_lcmp_eq 27 51 30 dX6_commonDivisor_26 rfl dX6_commonDivisor_27 (by decide) rfl ?_ ?_
      · refine j_lload 53 0 dX6_commonDivisor_51 rfl rfl ?_
        exact j_lret dX6_commonDivisor_53 rfl
      · refine j_lload 32 0 dX6_commonDivisor_30 rfl rfl ?_
        refine j_lload 34 1 dX6_commonDivisor_32 rfl rfl ?_
        refine j_lrem 35 dX6_commonDivisor_34 rfl ?_
        intro v3
        refine j_lstore 37 [(9, .long v3), (4, .long l4), (6, .long l6), (8, .int l8)] dX6_commonDivisor_35 rfl (by decide) rfl ?_
        refine j_lload 39 2 dX6_commonDivisor_37 rfl rfl ?_
        refine j_lstore 41 [(4, .long l6), (9, .long v3), (6, .long l6), (8, .int l8)] dX6_commonDivisor_39 rfl (by decide) rfl ?_
        refine j_lload 43 1 dX6_commonDivisor_41 rfl rfl ?_
        refine j_lstore 45 [(6, .long v3), (4, .long l6), (9, .long v3), (8, .int l8)] dX6_commonDivisor_43 rfl (by decide) rfl ?_
        refine j_iinc 48 3 [(8, .int (l8 + 1)), (6, .long v3), (4, .long l6), (9, .long v3)] dX6_commonDivisor_45 rfl rfl (ii_1 _) (by decide) rfl ?_
        refine j_goto 15 dX6_commonDivisor_48 (by decide) ?_
        refine j_sub [2, 1, 0] rfl ?_
        exact ih l6 v3 (l8 + 1)
def X6_commonDivisor (a0 : Int64) (a1 : Int64) : Option (Int64) := (J9_abs_067f4 a0).bind fun v1 =>
  (J9_abs_067f4 a1).bind fun v2 =>
  X6_commonDivisor_L15 fu v1 v2 0
theorem okX6_commonDivisor (G : JG) (x : Hs) (a0 : Int64) (a1 : Int64) : ∀ r, X6_commonDivisor a0 a1 = some r → JC G yX6_commonDivisor cX6_commonDivisor 11 (some .long) (jR 2 0 0) 0 0 [.long a0, .long a1] x ((some (.long r), x)) := by
  refine jc_of (own := RX6) (E := (fun r : Int64 => ((some (.long r), x) : JR))) (by decide) rfl rfl (Nat.le_of_ble_eq_true rfl) rfl ?_
  unfold X6_commonDivisor
  refine j_lload_n 1 0 dX6_commonDivisor_0 rfl rfl rfl ?_
  refine j_callS_l (As := [.long a0]) (st := []) 4 (okJ9_abs_067f4 G x a0) kc_J9_abs_067f4 kl_X6_371 ks_J9_abs_067f4 ⟨rfl, rfl, Nat.le_of_ble_eq_true rfl, Nat.le_of_ble_eq_true rfl⟩ (Nat.le_of_ble_eq_true rfl) ⟨Nat.le_of_ble_eq_true rfl, Nat.le_of_ble_eq_true rfl⟩ rfl dX6_commonDivisor_1 rfl rfl ?_
  intro v1
  refine j_lstore 6 [(4, .long v1), (0, .long a0), (2, .long a1)] dX6_commonDivisor_4 rfl (by decide) rfl ?_
  refine j_lload_n 7 2 dX6_commonDivisor_6 rfl rfl rfl ?_
  refine j_callS_l (As := [.long a1]) (st := []) 10 (okJ9_abs_067f4 G x a1) kc_J9_abs_067f4 kl_X6_371 ks_J9_abs_067f4 ⟨rfl, rfl, Nat.le_of_ble_eq_true rfl, Nat.le_of_ble_eq_true rfl⟩ (Nat.le_of_ble_eq_true rfl) ⟨Nat.le_of_ble_eq_true rfl, Nat.le_of_ble_eq_true rfl⟩ rfl dX6_commonDivisor_7 rfl rfl ?_
  intro v2
  refine j_lstore 12 [(6, .long v2), (4, .long v1), (0, .long a0), (2, .long a1)] dX6_commonDivisor_10 rfl (by decide) rfl ?_
  refine j_iconst (v := 0) 13 dX6_commonDivisor_12 rfl ic_0 ?_
  refine j_istore 15 [(8, .int 0), (6, .long v2), (4, .long v1), (0, .long a0), (2, .long a1)] dX6_commonDivisor_13 rfl (by decide) rfl ?_
  refine j_sub [2, 1, 0] rfl ?_
  exact okX6_commonDivisor_L15 G x fu v1 v2 0
-- X6_quotient: ('BarSteps', 'quotient', '(JJ)J')
def X6_quotient (a0 : Int64) (a1 : Int64) : Option (Int64) := (if a1 = 0 then some 0 else
  (o_ldiv a0 a1).bind fun v1 =>
  some v1)
theorem okX6_quotient (G : JG) (x : Hs) (a0 : Int64) (a1 : Int64) : ∀ r, X6_quotient a0 a1 = some r → JC G yX6_quotient cX6_quotient 4 (some .long) (jR 1 0 0) 0 0 [.long a0, .long a1] x ((some (.long r), x)) := by
  refine jc_of (own := RX6) (E := (fun r : Int64 => ((some (.long r), x) : JR))) (by decide) rfl rfl (Nat.le_of_ble_eq_true rfl) rfl ?_
  unfold X6_quotient
  refine j_lload_n 1 1 dX6_quotient_0 rfl rfl rfl ?_
  refine j_lconst (v := 0) 2 dX6_quotient_1 rfl lc_0 ?_
  refine j_lcmp_ne 3 10 6 dX6_quotient_2 rfl dX6_quotient_3 (by decide) rfl ?_ ?_
  · refine j_lload_n 11 0 dX6_quotient_10 rfl rfl rfl ?_
    refine j_lload_n 12 1 dX6_quotient_11 rfl rfl rfl ?_
    refine j_ldiv 13 dX6_quotient_12 rfl ?_
    intro v1
    exact j_lret dX6_quotient_13 rfl
  · refine j_lconst (v := 0) 7 dX6_quotient_6 rfl lc_0 ?_
    refine j_goto 13 dX6_quotient_7 (by decide) ?_
    exact j_lret dX6_quotient_13 rfl
-- X0_reduce: ('BarSteps$Bar', 'reduce', '([JJ)J')
def X0_reduce_L35 : Nat → Nat → Nat → Int64 → Int64 → Int32 → Hs → Option (Int64 × Hs)
  | 0, _, _, _, _, _, _ => none
  | n + 1, l0, l1, l2, l4, l6, x => (gI x 0 l0 0).bind fun v2 =>
  (if v2 ≤ l6 then (X6_quotient l2 l4).bind fun v3 =>
  some (v3, x) else
  (aL x l1 l6).bind fun v4 =>
  (X6_quotient v4 l4).bind fun v5 =>
  (wL x l1 l6 v5).bind fun y6 =>
  X0_reduce_L35 n l0 l1 l2 l4 (l6 + 1) y6)
theorem okX0_reduce_L35 (G : JG) : ∀ (n : Nat), ∀ (l0 : Nat) (l1 : Nat) (l2 : Int64) (l4 : Int64) (l6 : Int32) (x : Hs), JM G RX0 cX0_reduce 7 (jZ G (some .long) "reduce" (jR 3 0 0) 0 0) (fun r : Int64 × Hs => ((some (.long r.1), r.2) : JR)) 35 [(0, .ref l0), (1, .ref l1), (2, .long l2), (4, .long l4), (6, .int l6)] [] x 0 0 (X0_reduce_L35 n l0 l1 l2 l4 l6 x) := by
  intro n
  induction n with
  | zero => intro l0 l1 l2 l4 l6 x; exact j_none
  | succ n ih =>
    intro l0 l1 l2 l4 l6 x
    unfold X0_reduce_L35
    refine j_iload 37 4 dX0_reduce_35 rfl rfl ?_
    refine j_aload_n 38 0 dX0_reduce_37 rfl rfl rfl ?_
    refine j_gI 41 kf_X0_9 dX0_reduce_38 rfl ?_
    intro v2
    refine j_icmp_ge 63 44 dX0_reduce_41 (by decide) rfl ?_ ?_
    · refine j_lload_n 64 2 dX0_reduce_63 rfl rfl rfl ?_
      refine j_lload 66 3 dX0_reduce_64 rfl rfl ?_
      refine j_callSN_l (As := [.long l2, .long l4]) (st := []) 69 (okX6_quotient G x l2 l4) kc_X6_quotient kl_X0_131 ks_X6_quotient ⟨rfl, rfl, Nat.le_of_ble_eq_true rfl, Nat.le_of_ble_eq_true rfl⟩ (Nat.le_of_ble_eq_true rfl) ⟨Nat.le_of_ble_eq_true rfl, Nat.le_of_ble_eq_true rfl⟩ rfl dX0_reduce_66 rfl rfl ?_
      intro v3
      exact j_lret dX0_reduce_69 rfl
    · refine j_aload_n 45 1 dX0_reduce_44 rfl rfl rfl ?_
      refine j_iload 47 4 dX0_reduce_45 rfl rfl ?_
      refine j_aload_n 48 1 dX0_reduce_47 rfl rfl rfl ?_
      refine j_iload 50 4 dX0_reduce_48 rfl rfl ?_
      refine j_aL 51 dX0_reduce_50 rfl ?_
      intro v4
      refine j_lload 53 3 dX0_reduce_51 rfl rfl ?_
      refine j_callSN_l (As := [.long v4, .long l4]) (st := [.int l6, .ref l1]) 56 (okX6_quotient G x v4 l4) kc_X6_quotient kl_X0_131 ks_X6_quotient ⟨rfl, rfl, Nat.le_of_ble_eq_true rfl, Nat.le_of_ble_eq_true rfl⟩ (Nat.le_of_ble_eq_true rfl) ⟨Nat.le_of_ble_eq_true rfl, Nat.le_of_ble_eq_true rfl⟩ rfl dX0_reduce_53 rfl rfl ?_
      intro v5
      refine j_wL 57 dX0_reduce_56 rfl ?_
      intro y6
      refine j_iinc 60 4 [(6, .int (l6 + 1)), (0, .ref l0), (1, .ref l1), (2, .long l2), (4, .long l4)] dX0_reduce_57 rfl rfl (ii_1 _) (by decide) rfl ?_
      refine j_goto 35 dX0_reduce_60 (by decide) ?_
      refine j_sub [1, 2, 3, 4, 0] rfl ?_
      exact ih l0 l1 l2 l4 (l6 + 1) y6
def X0_reduce_L6 : Nat → Nat → Nat → Int64 → Int64 → Int32 → Hs → Option (Int64 × Hs)
  | 0, _, _, _, _, _, _ => none
  | n + 1, l0, l1, l2, l4, l6, x => (gI x 0 l0 0).bind fun v1 =>
  (if v1 ≤ l6 then X0_reduce_L35 fu l0 l1 l2 l4 0 x else
  (aL x l1 l6).bind fun v7 =>
  (X6_commonDivisor l4 v7).bind fun v8 =>
  X0_reduce_L6 n l0 l1 l2 v8 (l6 + 1) x)
theorem okX0_reduce_L6 (G : JG) : ∀ (n : Nat), ∀ (l0 : Nat) (l1 : Nat) (l2 : Int64) (l4 : Int64) (l6 : Int32) (x : Hs), JM G RX0 cX0_reduce 7 (jZ G (some .long) "reduce" (jR 3 0 0) 0 0) (fun r : Int64 × Hs => ((some (.long r.1), r.2) : JR)) 6 [(0, .ref l0), (1, .ref l1), (2, .long l2), (4, .long l4), (6, .int l6)] [] x 0 0 (X0_reduce_L6 n l0 l1 l2 l4 l6 x) := by
  intro n
  induction n with
  | zero => intro l0 l1 l2 l4 l6 x; exact j_none
  | succ n ih =>
    intro l0 l1 l2 l4 l6 x
    unfold X0_reduce_L6
    refine j_iload 8 4 dX0_reduce_6 rfl rfl ?_
    refine j_aload_n 9 0 dX0_reduce_8 rfl rfl rfl ?_
    refine j_gI 12 kf_X0_9 dX0_reduce_9 rfl ?_
    intro v1
    refine j_icmp_ge 32 15 dX0_reduce_12 (by decide) rfl ?_ ?_
    · refine j_iconst (v := 0) 33 dX0_reduce_32 rfl ic_0 ?_
      refine j_istore 35 [(6, .int 0), (0, .ref l0), (1, .ref l1), (2, .long l2), (4, .long l4)] dX0_reduce_33 rfl (by decide) rfl ?_
      refine j_sub [1, 2, 3, 4, 0] rfl ?_
      exact okX0_reduce_L35 G fu l0 l1 l2 l4 0 x
    · refine j_lload 17 3 dX0_reduce_15 rfl rfl ?_
      refine j_aload_n 18 1 dX0_reduce_17 rfl rfl rfl ?_
      refine j_iload 20 4 dX0_reduce_18 rfl rfl ?_
      refine j_aL 21 dX0_reduce_20 rfl ?_
      intro v7
      refine j_callSN_l (As := [.long l4, .long v7]) (st := []) 24 (okX6_commonDivisor G x l4 v7) kc_X6_commonDivisor kl_X0_152 ks_X6_commonDivisor ⟨rfl, rfl, Nat.le_of_ble_eq_true rfl, Nat.le_of_ble_eq_true rfl⟩ (Nat.le_of_ble_eq_true rfl) ⟨Nat.le_of_ble_eq_true rfl, Nat.le_of_ble_eq_true rfl⟩ rfl dX0_reduce_21 rfl rfl ?_
      intro v8
      refine j_lstore 26 [(4, .long v8), (0, .ref l0), (1, .ref l1), (2, .long l2), (6, .int l6)] dX0_reduce_24 rfl (by decide) rfl ?_
      refine j_iinc 29 4 [(6, .int (l6 + 1)), (4, .long v8), (0, .ref l0), (1, .ref l1), (2, .long l2)] dX0_reduce_26 rfl rfl (ii_1 _) (by decide) rfl ?_
      refine j_goto 6 dX0_reduce_29 (by decide) ?_
      refine j_sub [2, 3, 4, 1, 0] rfl ?_
      exact ih l0 l1 l2 v8 (l6 + 1) x
def X0_reduce (a0 : Nat) (a1 : Nat) (a2 : Int64) (x : Hs) : Option (Int64 × Hs) := (vO x 0 a0).bind fun _ =>
  X0_reduce_L6 fu a0 a1 a2 a2 0 x
theorem rvX0_reduce {a0 : Nat} {a1 : Nat} {a2 : Int64} {x : Hs} {r : Int64 × Hs} (h : X0_reduce a0 a1 a2 x = some r) : ∃ fs, x.1 a0 = .inr (0, fs) := vO_bind h
theorem okX0_reduce (G : JG) (x : Hs) (a0 : Nat) (a1 : Nat) (a2 : Int64) : ∀ r, X0_reduce a0 a1 a2 x = some r → JC G yX0_reduce cX0_reduce 7 (some .long) (jR 3 0 0) 0 0 [.ref a0, .ref a1, .long a2] x ((some (.long r.1), r.2)) := by
  refine jc_of (own := RX0) (E := (fun r : Int64 × Hs => ((some (.long r.1), r.2) : JR))) (by decide) rfl rfl (Nat.le_of_ble_eq_true rfl) rfl ?_
  unfold X0_reduce
  refine j_chk ?_
  refine j_lload_n 1 2 dX0_reduce_0 rfl rfl rfl ?_
  refine j_lstore 3 [(4, .long a2), (0, .ref a0), (1, .ref a1), (2, .long a2)] dX0_reduce_1 rfl (by decide) rfl ?_
  refine j_iconst (v := 0) 4 dX0_reduce_3 rfl ic_0 ?_
  refine j_istore 6 [(6, .int 0), (4, .long a2), (0, .ref a0), (1, .ref a1), (2, .long a2)] dX0_reduce_4 rfl (by decide) rfl ?_
  refine j_sub [2, 3, 4, 1, 0] rfl ?_
  exact okX0_reduce_L6 G fu a0 a1 a2 a2 0 x
-- X0_removeLatest: ('BarSteps$Bar', 'removeLatest', '()V')
def X0_removeLatest (a0 : Nat) (x : Hs) : Option (Hs) := (vO x 0 a0).bind fun _ =>
  (gI x 0 a0 0).bind fun v1 =>
  (if v1 ≤ 0 then some x else
  (gI x 0 a0 0).bind fun v2 =>
  (pV x 0 a0 0 (.int (v2 - 1))).bind fun y3 =>
  (gR y3 0 a0 13).bind fun v4 =>
  (gI y3 0 a0 0).bind fun v5 =>
  (X2_removeOf v4 v5 y3).bind fun q6 =>
  (gR q6.2 0 a0 8).bind fun v7 =>
  (gL q6.2 0 a0 9).bind fun v8 =>
  (X0_reduce a0 v7 v8 q6.2).bind fun q9 =>
  (pV q9.2 0 a0 9 (.long q9.1)).bind fun y10 =>
  some y10)
theorem rvX0_removeLatest {a0 : Nat} {x : Hs} {r : Hs} (h : X0_removeLatest a0 x = some r) : ∃ fs, x.1 a0 = .inr (0, fs) := vO_bind h
theorem okX0_removeLatest (G : JG) (x : Hs) (a0 : Nat) : ∀ r, X0_removeLatest a0 x = some r → JC G yX0_removeLatest cX0_removeLatest 1 (none) (jR 4 0 0) 0 0 [.ref a0] x ((none, r)) := by
  refine jc_of (own := RX0) (E := (fun r : Hs => ((none, r) : JR))) (by decide) rfl rfl (Nat.le_of_ble_eq_true rfl) rfl ?_
  unfold X0_removeLatest
  refine j_chk ?_
  refine j_aload_n 1 0 dX0_removeLatest_0 rfl rfl rfl ?_
  refine j_gI 4 kf_X0_9 dX0_removeLatest_1 rfl ?_
  intro v1
  refine j_if_le 45 7 dX0_removeLatest_4 (by decide) rfl ?_ ?_
  · exact j_vret dX0_removeLatest_45 rfl
  · refine j_aload_n 8 0 dX0_removeLatest_7 rfl rfl rfl ?_
    refine j_dup 9 dX0_removeLatest_8 rfl rfl ?_
    refine j_gI 12 kf_X0_9 dX0_removeLatest_9 rfl ?_
    intro v2
    refine j_iconst (v := 1) 13 dX0_removeLatest_12 rfl ic_1 ?_
    refine j_isub 14 dX0_removeLatest_13 rfl ?_
    refine j_put 17 kf_X0_9 dX0_removeLatest_14 rfl rfl rfl ?_
    intro y3
    refine j_aload_n 18 0 dX0_removeLatest_17 rfl rfl rfl ?_
    refine j_gR 21 kf_X0_57 dX0_removeLatest_18 rfl ?_
    intro v4
    refine j_aload_n 22 0 dX0_removeLatest_21 rfl rfl rfl ?_
    refine j_gI 25 kf_X0_9 dX0_removeLatest_22 rfl ?_
    intro v5
    refine j_callV_iw (ci := 1) (As := [.int v5]) (st := []) 28 (okX2_removeOf G y3 v4 v5) kc_X2_removeOf kl_X0_91 ki_X2_removeOf kv_X2_removeOf kh_X2 (by decide) (fun _ h => rvX2_removeOf h) ⟨rfl, rfl, Nat.le_of_ble_eq_true rfl, Nat.le_of_ble_eq_true rfl⟩ (Nat.le_of_ble_eq_true rfl) ⟨Nat.le_of_ble_eq_true rfl, Nat.le_of_ble_eq_true rfl⟩ rfl dX0_removeLatest_25 rfl rfl ?_
    intro q6
    refine j_pop 29 dX0_removeLatest_28 rfl rfl ?_
    refine j_aload_n 30 0 dX0_removeLatest_29 rfl rfl rfl ?_
    refine j_aload_n 31 0 dX0_removeLatest_30 rfl rfl rfl ?_
    refine j_aload_n 32 0 dX0_removeLatest_31 rfl rfl rfl ?_
    refine j_gR 35 kf_X0_37 dX0_removeLatest_32 rfl ?_
    intro v7
    refine j_aload_n 36 0 dX0_removeLatest_35 rfl rfl rfl ?_
    refine j_gL 39 kf_X0_41 dX0_removeLatest_36 rfl ?_
    intro v8
    refine j_callV_lw (ci := 0) (As := [.ref v7, .long v8]) (st := [.ref a0]) 42 (okX0_reduce G q6.2 a0 v7 v8) kc_X0_reduce kl_X0_94 ki_X0_reduce kv_X0_reduce kh_X0 (by decide) (fun _ h => rvX0_reduce h) ⟨rfl, rfl, Nat.le_of_ble_eq_true rfl, Nat.le_of_ble_eq_true rfl⟩ (Nat.le_of_ble_eq_true rfl) ⟨Nat.le_of_ble_eq_true rfl, Nat.le_of_ble_eq_true rfl⟩ rfl dX0_removeLatest_39 rfl rfl ?_
    intro q9
    refine j_put 45 kf_X0_41 dX0_removeLatest_42 rfl rfl rfl ?_
    intro y10
    exact j_vret dX0_removeLatest_45 rfl
-- X0_changeKind: ('BarSteps$Bar', 'changeKind', '(II)I')
def X0_changeKind (a0 : Nat) (a1 : Int32) (a2 : Int32) (x : Hs) : Option (Int32 × Hs) := (vO x 0 a0).bind fun _ =>
  (gR x 0 a0 1).bind fun v1 =>
  (aI x v1 a1).bind fun v2 =>
  (gR x 0 a0 1).bind fun v3 =>
  (wI x v3 a1 a2).bind fun y4 =>
  (X0_make a0 a1 y4).bind fun q5 =>
  some (v2, q5)
theorem rvX0_changeKind {a0 : Nat} {a1 : Int32} {a2 : Int32} {x : Hs} {r : Int32 × Hs} (h : X0_changeKind a0 a1 a2 x = some r) : ∃ fs, x.1 a0 = .inr (0, fs) := vO_bind h
theorem okX0_changeKind (G : JG) (x : Hs) (a0 : Nat) (a1 : Int32) (a2 : Int32) : ∀ r, X0_changeKind a0 a1 a2 x = some r → JC G yX0_changeKind cX0_changeKind 4 (some .int) (jR 4 0 0) 0 0 [.ref a0, .int a1, .int a2] x ((some (.int r.1), r.2)) := by
  refine jc_of (own := RX0) (E := (fun r : Int32 × Hs => ((some (.int r.1), r.2) : JR))) (by decide) rfl rfl (Nat.le_of_ble_eq_true rfl) rfl ?_
  unfold X0_changeKind
  refine j_chk ?_
  refine j_aload_n 1 0 dX0_changeKind_0 rfl rfl rfl ?_
  refine j_gR 4 kf_X0_15 dX0_changeKind_1 rfl ?_
  intro v1
  refine j_iload_n 5 1 dX0_changeKind_4 rfl rfl rfl ?_
  refine j_aI 6 dX0_changeKind_5 rfl ?_
  intro v2
  refine j_istore_n 7 [(3, .int v2), (0, .ref a0), (1, .int a1), (2, .int a2)] dX0_changeKind_6 rfl rfl (by decide) rfl ?_
  refine j_aload_n 8 1 dX0_changeKind_7 rfl rfl rfl ?_
  refine j_gR 11 kf_X0_15 dX0_changeKind_8 rfl ?_
  intro v3
  refine j_iload_n 12 2 dX0_changeKind_11 rfl rfl rfl ?_
  refine j_iload_n 13 3 dX0_changeKind_12 rfl rfl rfl ?_
  refine j_wI 14 dX0_changeKind_13 rfl ?_
  intro y4
  refine j_aload_n 15 1 dX0_changeKind_14 rfl rfl rfl ?_
  refine j_iload_n 16 2 dX0_changeKind_15 rfl rfl rfl ?_
  refine j_callV_v (ci := 0) (As := [.int a1]) (st := []) 19 (okX0_make G y4 a0 a1) kc_X0_make kl_X0_74 ki_X0_make kv_X0_make kh_X0 (by decide) (fun _ h => rvX0_make h) ⟨rfl, rfl, Nat.le_of_ble_eq_true rfl, Nat.le_of_ble_eq_true rfl⟩ (Nat.le_of_ble_eq_true rfl) ⟨Nat.le_of_ble_eq_true rfl, Nat.le_of_ble_eq_true rfl⟩ rfl dX0_changeKind_16 rfl rfl ?_
  intro q5
  refine j_iload_n 20 0 dX0_changeKind_19 rfl rfl rfl ?_
  exact j_iret dX0_changeKind_20 rfl
-- X0_changeK: ('BarSteps$Bar', 'changeK', '(II)I')
def X0_changeK (a0 : Nat) (a1 : Int32) (a2 : Int32) (x : Hs) : Option (Int32 × Hs) := (vO x 0 a0).bind fun _ =>
  (gR x 0 a0 2).bind fun v1 =>
  (aI x v1 a1).bind fun v2 =>
  (gR x 0 a0 2).bind fun v3 =>
  (wI x v3 a1 a2).bind fun y4 =>
  (X0_make a0 a1 y4).bind fun q5 =>
  some (v2, q5)
theorem rvX0_changeK {a0 : Nat} {a1 : Int32} {a2 : Int32} {x : Hs} {r : Int32 × Hs} (h : X0_changeK a0 a1 a2 x = some r) : ∃ fs, x.1 a0 = .inr (0, fs) := vO_bind h
theorem okX0_changeK (G : JG) (x : Hs) (a0 : Nat) (a1 : Int32) (a2 : Int32) : ∀ r, X0_changeK a0 a1 a2 x = some r → JC G yX0_changeK cX0_changeK 4 (some .int) (jR 4 0 0) 0 0 [.ref a0, .int a1, .int a2] x ((some (.int r.1), r.2)) := by
  refine jc_of (own := RX0) (E := (fun r : Int32 × Hs => ((some (.int r.1), r.2) : JR))) (by decide) rfl rfl (Nat.le_of_ble_eq_true rfl) rfl ?_
  unfold X0_changeK
  refine j_chk ?_
  refine j_aload_n 1 0 dX0_changeK_0 rfl rfl rfl ?_
  refine j_gR 4 kf_X0_19 dX0_changeK_1 rfl ?_
  intro v1
  refine j_iload_n 5 1 dX0_changeK_4 rfl rfl rfl ?_
  refine j_aI 6 dX0_changeK_5 rfl ?_
  intro v2
  refine j_istore_n 7 [(3, .int v2), (0, .ref a0), (1, .int a1), (2, .int a2)] dX0_changeK_6 rfl rfl (by decide) rfl ?_
  refine j_aload_n 8 1 dX0_changeK_7 rfl rfl rfl ?_
  refine j_gR 11 kf_X0_19 dX0_changeK_8 rfl ?_
  intro v3
  refine j_iload_n 12 2 dX0_changeK_11 rfl rfl rfl ?_
  refine j_iload_n 13 3 dX0_changeK_12 rfl rfl rfl ?_
  refine j_wI 14 dX0_changeK_13 rfl ?_
  intro y4
  refine j_aload_n 15 1 dX0_changeK_14 rfl rfl rfl ?_
  refine j_iload_n 16 2 dX0_changeK_15 rfl rfl rfl ?_
  refine j_callV_v (ci := 0) (As := [.int a1]) (st := []) 19 (okX0_make G y4 a0 a1) kc_X0_make kl_X0_74 ki_X0_make kv_X0_make kh_X0 (by decide) (fun _ h => rvX0_make h) ⟨rfl, rfl, Nat.le_of_ble_eq_true rfl, Nat.le_of_ble_eq_true rfl⟩ (Nat.le_of_ble_eq_true rfl) ⟨Nat.le_of_ble_eq_true rfl, Nat.le_of_ble_eq_true rfl⟩ rfl dX0_changeK_16 rfl rfl ?_
  intro q5
  refine j_iload_n 20 0 dX0_changeK_19 rfl rfl rfl ?_
  exact j_iret dX0_changeK_20 rfl
-- X0_changeC: ('BarSteps$Bar', 'changeC', '(II)I')
def X0_changeC (a0 : Nat) (a1 : Int32) (a2 : Int32) (x : Hs) : Option (Int32 × Hs) := (vO x 0 a0).bind fun _ =>
  (gR x 0 a0 3).bind fun v1 =>
  (aI x v1 a1).bind fun v2 =>
  (gR x 0 a0 3).bind fun v3 =>
  (wI x v3 a1 a2).bind fun y4 =>
  (X0_make a0 a1 y4).bind fun q5 =>
  some (v2, q5)
theorem rvX0_changeC {a0 : Nat} {a1 : Int32} {a2 : Int32} {x : Hs} {r : Int32 × Hs} (h : X0_changeC a0 a1 a2 x = some r) : ∃ fs, x.1 a0 = .inr (0, fs) := vO_bind h
theorem okX0_changeC (G : JG) (x : Hs) (a0 : Nat) (a1 : Int32) (a2 : Int32) : ∀ r, X0_changeC a0 a1 a2 x = some r → JC G yX0_changeC cX0_changeC 4 (some .int) (jR 4 0 0) 0 0 [.ref a0, .int a1, .int a2] x ((some (.int r.1), r.2)) := by
  refine jc_of (own := RX0) (E := (fun r : Int32 × Hs => ((some (.int r.1), r.2) : JR))) (by decide) rfl rfl (Nat.le_of_ble_eq_true rfl) rfl ?_
  unfold X0_changeC
  refine j_chk ?_
  refine j_aload_n 1 0 dX0_changeC_0 rfl rfl rfl ?_
  refine j_gR 4 kf_X0_22 dX0_changeC_1 rfl ?_
  intro v1
  refine j_iload_n 5 1 dX0_changeC_4 rfl rfl rfl ?_
  refine j_aI 6 dX0_changeC_5 rfl ?_
  intro v2
  refine j_istore_n 7 [(3, .int v2), (0, .ref a0), (1, .int a1), (2, .int a2)] dX0_changeC_6 rfl rfl (by decide) rfl ?_
  refine j_aload_n 8 1 dX0_changeC_7 rfl rfl rfl ?_
  refine j_gR 11 kf_X0_22 dX0_changeC_8 rfl ?_
  intro v3
  refine j_iload_n 12 2 dX0_changeC_11 rfl rfl rfl ?_
  refine j_iload_n 13 3 dX0_changeC_12 rfl rfl rfl ?_
  refine j_wI 14 dX0_changeC_13 rfl ?_
  intro y4
  refine j_aload_n 15 1 dX0_changeC_14 rfl rfl rfl ?_
  refine j_iload_n 16 2 dX0_changeC_15 rfl rfl rfl ?_
  refine j_callV_v (ci := 0) (As := [.int a1]) (st := []) 19 (okX0_make G y4 a0 a1) kc_X0_make kl_X0_74 ki_X0_make kv_X0_make kh_X0 (by decide) (fun _ h => rvX0_make h) ⟨rfl, rfl, Nat.le_of_ble_eq_true rfl, Nat.le_of_ble_eq_true rfl⟩ (Nat.le_of_ble_eq_true rfl) ⟨Nat.le_of_ble_eq_true rfl, Nat.le_of_ble_eq_true rfl⟩ rfl dX0_changeC_16 rfl rfl ?_
  intro q5
  refine j_iload_n 20 0 dX0_changeC_19 rfl rfl rfl ?_
  exact j_iret dX0_changeC_20 rfl
-- X0_changeSource: ('BarSteps$Bar', 'changeSource', '(II)I')
def X0_changeSource (a0 : Nat) (a1 : Int32) (a2 : Int32) (x : Hs) : Option (Int32 × Hs) := (vO x 0 a0).bind fun _ =>
  (gR x 0 a0 4).bind fun v1 =>
  (aI x v1 a1).bind fun v2 =>
  (gR x 0 a0 4).bind fun v3 =>
  (wI x v3 a1 a2).bind fun y4 =>
  some (v2, y4)
theorem rvX0_changeSource {a0 : Nat} {a1 : Int32} {a2 : Int32} {x : Hs} {r : Int32 × Hs} (h : X0_changeSource a0 a1 a2 x = some r) : ∃ fs, x.1 a0 = .inr (0, fs) := vO_bind h
theorem okX0_changeSource (G : JG) (x : Hs) (a0 : Nat) (a1 : Int32) (a2 : Int32) : ∀ r, X0_changeSource a0 a1 a2 x = some r → JC G yX0_changeSource cX0_changeSource 4 (some .int) (jR 1 0 0) 0 0 [.ref a0, .int a1, .int a2] x ((some (.int r.1), r.2)) := by
  refine jc_of (own := RX0) (E := (fun r : Int32 × Hs => ((some (.int r.1), r.2) : JR))) (by decide) rfl rfl (Nat.le_of_ble_eq_true rfl) rfl ?_
  unfold X0_changeSource
  refine j_chk ?_
  refine j_aload_n 1 0 dX0_changeSource_0 rfl rfl rfl ?_
  refine j_gR 4 kf_X0_25 dX0_changeSource_1 rfl ?_
  intro v1
  refine j_iload_n 5 1 dX0_changeSource_4 rfl rfl rfl ?_
  refine j_aI 6 dX0_changeSource_5 rfl ?_
  intro v2
  refine j_istore_n 7 [(3, .int v2), (0, .ref a0), (1, .int a1), (2, .int a2)] dX0_changeSource_6 rfl rfl (by decide) rfl ?_
  refine j_aload_n 8 1 dX0_changeSource_7 rfl rfl rfl ?_
  refine j_gR 11 kf_X0_25 dX0_changeSource_8 rfl ?_
  intro v3
  refine j_iload_n 12 2 dX0_changeSource_11 rfl rfl rfl ?_
  refine j_iload_n 13 3 dX0_changeSource_12 rfl rfl rfl ?_
  refine j_wI 14 dX0_changeSource_13 rfl ?_
  intro y4
  refine j_iload_n 15 0 dX0_changeSource_14 rfl rfl rfl ?_
  exact j_iret dX0_changeSource_15 rfl
-- X0_changeHeat: ('BarSteps$Bar', 'changeHeat', '(II)V')
def X0_changeHeat (a0 : Nat) (a1 : Int32) (a2 : Int32) (x : Hs) : Option (Hs) := (vO x 0 a0).bind fun _ =>
  (gR x 0 a0 8).bind fun v1 =>
  (gL x 0 a0 9).bind fun v2 =>
  (wL x v1 a1 ((Int32.toInt64 a2) * v2)).bind fun y3 =>
  (gR y3 0 a0 8).bind fun v4 =>
  (gL y3 0 a0 9).bind fun v5 =>
  (X0_reduce a0 v4 v5 y3).bind fun q6 =>
  (pV q6.2 0 a0 9 (.long q6.1)).bind fun y7 =>
  some y7
theorem rvX0_changeHeat {a0 : Nat} {a1 : Int32} {a2 : Int32} {x : Hs} {r : Hs} (h : X0_changeHeat a0 a1 a2 x = some r) : ∃ fs, x.1 a0 = .inr (0, fs) := vO_bind h
theorem okX0_changeHeat (G : JG) (x : Hs) (a0 : Nat) (a1 : Int32) (a2 : Int32) : ∀ r, X0_changeHeat a0 a1 a2 x = some r → JC G yX0_changeHeat cX0_changeHeat 3 (none) (jR 4 0 0) 0 0 [.ref a0, .int a1, .int a2] x ((none, r)) := by
  refine jc_of (own := RX0) (E := (fun r : Hs => ((none, r) : JR))) (by decide) rfl rfl (Nat.le_of_ble_eq_true rfl) rfl ?_
  unfold X0_changeHeat
  refine j_chk ?_
  refine j_aload_n 1 0 dX0_changeHeat_0 rfl rfl rfl ?_
  refine j_gR 4 kf_X0_37 dX0_changeHeat_1 rfl ?_
  intro v1
  refine j_iload_n 5 1 dX0_changeHeat_4 rfl rfl rfl ?_
  refine j_iload_n 6 2 dX0_changeHeat_5 rfl rfl rfl ?_
  refine j_i2l 7 dX0_changeHeat_6 rfl ?_
  refine j_aload_n 8 0 dX0_changeHeat_7 rfl rfl rfl ?_
  refine j_gL 11 kf_X0_41 dX0_changeHeat_8 rfl ?_
  intro v2
  refine j_lmul 12 dX0_changeHeat_11 rfl ?_
  refine j_wL 13 dX0_changeHeat_12 rfl ?_
  intro y3
  refine j_aload_n 14 0 dX0_changeHeat_13 rfl rfl rfl ?_
  refine j_aload_n 15 0 dX0_changeHeat_14 rfl rfl rfl ?_
  refine j_aload_n 16 0 dX0_changeHeat_15 rfl rfl rfl ?_
  refine j_gR 19 kf_X0_37 dX0_changeHeat_16 rfl ?_
  intro v4
  refine j_aload_n 20 0 dX0_changeHeat_19 rfl rfl rfl ?_
  refine j_gL 23 kf_X0_41 dX0_changeHeat_20 rfl ?_
  intro v5
  refine j_callV_lw (ci := 0) (As := [.ref v4, .long v5]) (st := [.ref a0]) 26 (okX0_reduce G y3 a0 v4 v5) kc_X0_reduce kl_X0_94 ki_X0_reduce kv_X0_reduce kh_X0 (by decide) (fun _ h => rvX0_reduce h) ⟨rfl, rfl, Nat.le_of_ble_eq_true rfl, Nat.le_of_ble_eq_true rfl⟩ (Nat.le_of_ble_eq_true rfl) ⟨Nat.le_of_ble_eq_true rfl, Nat.le_of_ble_eq_true rfl⟩ rfl dX0_changeHeat_23 rfl rfl ?_
  intro q6
  refine j_put 29 kf_X0_41 dX0_changeHeat_26 rfl rfl rfl ?_
  intro y7
  exact j_vret dX0_changeHeat_29 rfl
-- X0_warm: ('BarSteps$Bar', 'warm', '(II)V')
def X0_warm (a0 : Nat) (a1 : Int32) (a2 : Int32) (x : Hs) : Option (Hs) := (vO x 0 a0).bind fun _ =>
  (gR x 0 a0 8).bind fun v1 =>
  (aL x v1 a1).bind fun v2 =>
  (gL x 0 a0 9).bind fun v3 =>
  (wL x v1 a1 (v2 + ((Int32.toInt64 a2) * v3))).bind fun y4 =>
  some y4
theorem rvX0_warm {a0 : Nat} {a1 : Int32} {a2 : Int32} {x : Hs} {r : Hs} (h : X0_warm a0 a1 a2 x = some r) : ∃ fs, x.1 a0 = .inr (0, fs) := vO_bind h
theorem okX0_warm (G : JG) (x : Hs) (a0 : Nat) (a1 : Int32) (a2 : Int32) : ∀ r, X0_warm a0 a1 a2 x = some r → JC G yX0_warm cX0_warm 3 (none) (jR 1 0 0) 0 0 [.ref a0, .int a1, .int a2] x ((none, r)) := by
  refine jc_of (own := RX0) (E := (fun r : Hs => ((none, r) : JR))) (by decide) rfl rfl (Nat.le_of_ble_eq_true rfl) rfl ?_
  unfold X0_warm
  refine j_chk ?_
  refine j_aload_n 1 0 dX0_warm_0 rfl rfl rfl ?_
  refine j_gR 4 kf_X0_37 dX0_warm_1 rfl ?_
  intro v1
  refine j_iload_n 5 1 dX0_warm_4 rfl rfl rfl ?_
  refine j_dup2_11 6 dX0_warm_5 rfl rfl rfl ?_
  refine j_aL 7 dX0_warm_6 rfl ?_
  intro v2
  refine j_iload_n 8 2 dX0_warm_7 rfl rfl rfl ?_
  refine j_i2l 9 dX0_warm_8 rfl ?_
  refine j_aload_n 10 0 dX0_warm_9 rfl rfl rfl ?_
  refine j_gL 13 kf_X0_41 dX0_warm_10 rfl ?_
  intro v3
  refine j_lmul 14 dX0_warm_13 rfl ?_
  refine j_ladd 15 dX0_warm_14 rfl ?_
  refine j_wL 16 dX0_warm_15 rfl ?_
  intro y4
  exact j_vret dX0_warm_16 rfl
-- X6_firstGreatest: ('BarSteps', 'firstGreatest', '([JI)I')
def X6_firstGreatest_L4 (x : Hs) : Nat → Nat → Int32 → Int32 → Int32 → Option (Int32)
  | 0, _, _, _, _ => none
  | n + 1, l0, l1, l2, l3 => (if l1 ≤ l3 then some l2 else
  (if l2 = (-1) then X6_firstGreatest_L4 x n l0 l1 l3 (l3 + 1) else
  (aL x l0 l3).bind fun v1 =>
  (aL x l0 l2).bind fun v2 =>
  (if v1 ≤ v2 then X6_firstGreatest_L4 x n l0 l1 l2 (l3 + 1) else
  X6_firstGreatest_L4 x n l0 l1 l3 (l3 + 1))))
theorem okX6_firstGreatest_L4 (G : JG) (x : Hs) : ∀ (n : Nat), ∀ (l0 : Nat) (l1 : Int32) (l2 : Int32) (l3 : Int32), JM G RX6 cX6_firstGreatest 4 (jZ G (some .int) "firstGreatest" (jR 1 0 0) 0 0) (fun r : Int32 => ((some (.int r), x) : JR)) 4 [(0, .ref l0), (1, .int l1), (2, .int l2), (3, .int l3)] [] x 0 0 (X6_firstGreatest_L4 x n l0 l1 l2 l3) := by
  intro n
  induction n with
  | zero => intro l0 l1 l2 l3; exact j_none
  | succ n ih =>
    intro l0 l1 l2 l3
    unfold X6_firstGreatest_L4
    refine j_iload_n 5 3 dX6_firstGreatest_4 rfl rfl rfl ?_
    refine j_iload_n 6 1 dX6_firstGreatest_5 rfl rfl rfl ?_
    refine j_icmp_ge 32 9 dX6_firstGreatest_6 (by decide) rfl ?_ ?_
    · refine j_iload_n 33 2 dX6_firstGreatest_32 rfl rfl rfl ?_
      exact j_iret dX6_firstGreatest_33 rfl
    · refine j_iload_n 10 2 dX6_firstGreatest_9 rfl rfl rfl ?_
      refine j_iconst (v := -1) 11 dX6_firstGreatest_10 rfl ic_m1 ?_
      refine j_icmp_eq 24 14 dX6_firstGreatest_11 (by decide) rfl ?_ ?_
      · refine j_iload_n 25 3 dX6_firstGreatest_24 rfl rfl rfl ?_
        refine j_istore_n 26 [(2, .int l3), (0, .ref l0), (1, .int l1), (3, .int l3)] dX6_firstGreatest_25 rfl rfl (by decide) rfl ?_
        refine j_iinc 29 3 [(3, .int (l3 + 1)), (2, .int l3), (0, .ref l0), (1, .int l1)] dX6_firstGreatest_26 rfl rfl (ii_1 _) (by decide) rfl ?_
        refine j_goto 4 dX6_firstGreatest_29 (by decide) ?_
        refine j_sub [2, 3, 1, 0] rfl ?_
        exact ih l0 l1 l3 (l3 + 1)
      · refine j_aload_n 15 0 dX6_firstGreatest_14 rfl rfl rfl ?_
        refine j_iload_n 16 3 dX6_firstGreatest_15 rfl rfl rfl ?_
        refine j_aL 17 dX6_firstGreatest_16 rfl ?_
        intro v1
        refine j_aload_n 18 0 dX6_firstGreatest_17 rfl rfl rfl ?_
        refine j_iload_n 19 2 dX6_firstGreatest_18 rfl rfl rfl ?_
        refine j_aL 20 dX6_firstGreatest_19 rfl ?_
        intro v2
        refine j_lcmp_le 21 26 24 dX6_firstGreatest_20 rfl dX6_firstGreatest_21 (by decide) rfl ?_ ?_
        · refine j_iinc 29 3 [(3, .int (l3 + 1)), (0, .ref l0), (1, .int l1), (2, .int l2)] dX6_firstGreatest_26 rfl rfl (ii_1 _) (by decide) rfl ?_
          refine j_goto 4 dX6_firstGreatest_29 (by decide) ?_
          refine j_sub [1, 2, 3, 0] rfl ?_
          exact ih l0 l1 l2 (l3 + 1)
        · refine j_iload_n 25 3 dX6_firstGreatest_24 rfl rfl rfl ?_
          refine j_istore_n 26 [(2, .int l3), (0, .ref l0), (1, .int l1), (3, .int l3)] dX6_firstGreatest_25 rfl rfl (by decide) rfl ?_
          refine j_iinc 29 3 [(3, .int (l3 + 1)), (2, .int l3), (0, .ref l0), (1, .int l1)] dX6_firstGreatest_26 rfl rfl (ii_1 _) (by decide) rfl ?_
          refine j_goto 4 dX6_firstGreatest_29 (by decide) ?_
          refine j_sub [2, 3, 1, 0] rfl ?_
          exact ih l0 l1 l3 (l3 + 1)
def X6_firstGreatest (a0 : Nat) (a1 : Int32) (x : Hs) : Option (Int32) := X6_firstGreatest_L4 x fu a0 a1 (-1) 0
theorem okX6_firstGreatest (G : JG) (x : Hs) (a0 : Nat) (a1 : Int32) : ∀ r, X6_firstGreatest a0 a1 x = some r → JC G yX6_firstGreatest cX6_firstGreatest 4 (some .int) (jR 1 0 0) 0 0 [.ref a0, .int a1] x ((some (.int r), x)) := by
  refine jc_of (own := RX6) (E := (fun r : Int32 => ((some (.int r), x) : JR))) (by decide) rfl rfl (Nat.le_of_ble_eq_true rfl) rfl ?_
  unfold X6_firstGreatest
  refine j_iconst (v := -1) 1 dX6_firstGreatest_0 rfl ic_m1 ?_
  refine j_istore_n 2 [(2, .int (-1)), (0, .ref a0), (1, .int a1)] dX6_firstGreatest_1 rfl rfl (by decide) rfl ?_
  refine j_iconst (v := 0) 3 dX6_firstGreatest_2 rfl ic_0 ?_
  refine j_istore_n 4 [(3, .int 0), (2, .int (-1)), (0, .ref a0), (1, .int a1)] dX6_firstGreatest_3 rfl rfl (by decide) rfl ?_
  refine j_sub [2, 3, 1, 0] rfl ?_
  exact okX6_firstGreatest_L4 G x fu a0 a1 (-1) 0
-- X0_hottestCell: ('BarSteps$Bar', 'hottestCell', '()I')
def X0_hottestCell (a0 : Nat) (x : Hs) : Option (Int32) := (vO x 0 a0).bind fun _ =>
  (gR x 0 a0 8).bind fun v1 =>
  (gI x 0 a0 0).bind fun v2 =>
  (X6_firstGreatest v1 v2 x).bind fun v3 =>
  some v3
theorem rvX0_hottestCell {a0 : Nat} {x : Hs} {r : Int32} (h : X0_hottestCell a0 x = some r) : ∃ fs, x.1 a0 = .inr (0, fs) := vO_bind h
theorem okX0_hottestCell (G : JG) (x : Hs) (a0 : Nat) : ∀ r, X0_hottestCell a0 x = some r → JC G yX0_hottestCell cX0_hottestCell 1 (some .int) (jR 2 0 0) 0 0 [.ref a0] x ((some (.int r), x)) := by
  refine jc_of (own := RX0) (E := (fun r : Int32 => ((some (.int r), x) : JR))) (by decide) rfl rfl (Nat.le_of_ble_eq_true rfl) rfl ?_
  unfold X0_hottestCell
  refine j_chk ?_
  refine j_aload_n 1 0 dX0_hottestCell_0 rfl rfl rfl ?_
  refine j_gR 4 kf_X0_37 dX0_hottestCell_1 rfl ?_
  intro v1
  refine j_aload_n 5 0 dX0_hottestCell_4 rfl rfl rfl ?_
  refine j_gI 8 kf_X0_9 dX0_hottestCell_5 rfl ?_
  intro v2
  refine j_callSN_i (As := [.ref v1, .int v2]) (st := []) 11 (okX6_firstGreatest G x v1 v2) kc_X6_firstGreatest kl_X0_98 ks_X6_firstGreatest ⟨rfl, rfl, Nat.le_of_ble_eq_true rfl, Nat.le_of_ble_eq_true rfl⟩ (Nat.le_of_ble_eq_true rfl) ⟨Nat.le_of_ble_eq_true rfl, Nat.le_of_ble_eq_true rfl⟩ rfl dX0_hottestCell_8 rfl rfl ?_
  intro v3
  exact j_iret dX0_hottestCell_11 rfl
-- X0_coldestCell: ('BarSteps$Bar', 'coldestCell', '()I')
def X0_coldestCell_L4 (x : Hs) : Nat → Nat → Int32 → Int32 → Option (Int32)
  | 0, _, _, _ => none
  | n + 1, l0, l1, l2 => (gI x 0 l0 0).bind fun v1 =>
  (if v1 ≤ l2 then some l1 else
  (if l1 = (-1) then X0_coldestCell_L4 x n l0 l2 (l2 + 1) else
  (gR x 0 l0 8).bind fun v2 =>
  (aL x v2 l2).bind fun v3 =>
  (gR x 0 l0 8).bind fun v4 =>
  (aL x v4 l1).bind fun v5 =>
  (if v5 ≤ v3 then X0_coldestCell_L4 x n l0 l1 (l2 + 1) else
  X0_coldestCell_L4 x n l0 l2 (l2 + 1))))
theorem okX0_coldestCell_L4 (G : JG) (x : Hs) : ∀ (n : Nat), ∀ (l0 : Nat) (l1 : Int32) (l2 : Int32), JM G RX0 cX0_coldestCell 3 (jZ G (some .int) "coldestCell" (jR 1 0 0) 0 0) (fun r : Int32 => ((some (.int r), x) : JR)) 4 [(0, .ref l0), (1, .int l1), (2, .int l2)] [] x 0 0 (X0_coldestCell_L4 x n l0 l1 l2) := by
  intro n
  induction n with
  | zero => intro l0 l1 l2; exact j_none
  | succ n ih =>
    intro l0 l1 l2
    unfold X0_coldestCell_L4
    refine j_iload_n 5 2 dX0_coldestCell_4 rfl rfl rfl ?_
    refine j_aload_n 6 0 dX0_coldestCell_5 rfl rfl rfl ?_
    refine j_gI 9 kf_X0_9 dX0_coldestCell_6 rfl ?_
    intro v1
    refine j_icmp_ge 41 12 dX0_coldestCell_9 (by decide) rfl ?_ ?_
    · refine j_iload_n 42 1 dX0_coldestCell_41 rfl rfl rfl ?_
      exact j_iret dX0_coldestCell_42 rfl
    · refine j_iload_n 13 1 dX0_coldestCell_12 rfl rfl rfl ?_
      refine j_iconst (v := -1) 14 dX0_coldestCell_13 rfl ic_m1 ?_
      refine j_icmp_eq 33 17 dX0_coldestCell_14 (by decide) rfl ?_ ?_
      · refine j_iload_n 34 2 dX0_coldestCell_33 rfl rfl rfl ?_
        refine j_istore_n 35 [(1, .int l2), (0, .ref l0), (2, .int l2)] dX0_coldestCell_34 rfl rfl (by decide) rfl ?_
        refine j_iinc 38 2 [(2, .int (l2 + 1)), (1, .int l2), (0, .ref l0)] dX0_coldestCell_35 rfl rfl (ii_1 _) (by decide) rfl ?_
        refine j_goto 4 dX0_coldestCell_38 (by decide) ?_
        refine j_sub [2, 1, 0] rfl ?_
        exact ih l0 l2 (l2 + 1)
      · refine j_aload_n 18 0 dX0_coldestCell_17 rfl rfl rfl ?_
        refine j_gR 21 kf_X0_37 dX0_coldestCell_18 rfl ?_
        intro v2
        refine j_iload_n 22 2 dX0_coldestCell_21 rfl rfl rfl ?_
        refine j_aL 23 dX0_coldestCell_22 rfl ?_
        intro v3
        refine j_aload_n 24 0 dX0_coldestCell_23 rfl rfl rfl ?_
        refine j_gR 27 kf_X0_37 dX0_coldestCell_24 rfl ?_
        intro v4
        refine j_iload_n 28 1 dX0_coldestCell_27 rfl rfl rfl ?_
        refine j_aL 29 dX0_coldestCell_28 rfl ?_
        intro v5
        refine j_lcmp_ge 30 35 33 dX0_coldestCell_29 rfl dX0_coldestCell_30 (by decide) rfl ?_ ?_
        · refine j_iinc 38 2 [(2, .int (l2 + 1)), (0, .ref l0), (1, .int l1)] dX0_coldestCell_35 rfl rfl (ii_1 _) (by decide) rfl ?_
          refine j_goto 4 dX0_coldestCell_38 (by decide) ?_
          refine j_sub [1, 2, 0] rfl ?_
          exact ih l0 l1 (l2 + 1)
        · refine j_iload_n 34 2 dX0_coldestCell_33 rfl rfl rfl ?_
          refine j_istore_n 35 [(1, .int l2), (0, .ref l0), (2, .int l2)] dX0_coldestCell_34 rfl rfl (by decide) rfl ?_
          refine j_iinc 38 2 [(2, .int (l2 + 1)), (1, .int l2), (0, .ref l0)] dX0_coldestCell_35 rfl rfl (ii_1 _) (by decide) rfl ?_
          refine j_goto 4 dX0_coldestCell_38 (by decide) ?_
          refine j_sub [2, 1, 0] rfl ?_
          exact ih l0 l2 (l2 + 1)
def X0_coldestCell (a0 : Nat) (x : Hs) : Option (Int32) := (vO x 0 a0).bind fun _ =>
  X0_coldestCell_L4 x fu a0 (-1) 0
theorem rvX0_coldestCell {a0 : Nat} {x : Hs} {r : Int32} (h : X0_coldestCell a0 x = some r) : ∃ fs, x.1 a0 = .inr (0, fs) := vO_bind h
theorem okX0_coldestCell (G : JG) (x : Hs) (a0 : Nat) : ∀ r, X0_coldestCell a0 x = some r → JC G yX0_coldestCell cX0_coldestCell 3 (some .int) (jR 1 0 0) 0 0 [.ref a0] x ((some (.int r), x)) := by
  refine jc_of (own := RX0) (E := (fun r : Int32 => ((some (.int r), x) : JR))) (by decide) rfl rfl (Nat.le_of_ble_eq_true rfl) rfl ?_
  unfold X0_coldestCell
  refine j_chk ?_
  refine j_iconst (v := -1) 1 dX0_coldestCell_0 rfl ic_m1 ?_
  refine j_istore_n 2 [(1, .int (-1)), (0, .ref a0)] dX0_coldestCell_1 rfl rfl (by decide) rfl ?_
  refine j_iconst (v := 0) 3 dX0_coldestCell_2 rfl ic_0 ?_
  refine j_istore_n 4 [(2, .int 0), (1, .int (-1)), (0, .ref a0)] dX0_coldestCell_3 rfl rfl (by decide) rfl ?_
  refine j_sub [2, 1, 0] rfl ?_
  exact okX0_coldestCell_L4 G x fu a0 (-1) 0
-- X0_greatest: ('BarSteps$Bar', 'greatest', '()J')
def X0_greatest (a0 : Nat) (x : Hs) : Option (Int64) := (vO x 0 a0).bind fun _ =>
  (X0_hottestCell a0 x).bind fun v1 =>
  (if v1 = (-1) then some 0 else
  (gR x 0 a0 8).bind fun v2 =>
  (aL x v2 v1).bind fun v3 =>
  some v3)
theorem rvX0_greatest {a0 : Nat} {x : Hs} {r : Int64} (h : X0_greatest a0 x = some r) : ∃ fs, x.1 a0 = .inr (0, fs) := vO_bind h
theorem okX0_greatest (G : JG) (x : Hs) (a0 : Nat) : ∀ r, X0_greatest a0 x = some r → JC G yX0_greatest cX0_greatest 2 (some .long) (jR 3 0 0) 0 0 [.ref a0] x ((some (.long r), x)) := by
  refine jc_of (own := RX0) (E := (fun r : Int64 => ((some (.long r), x) : JR))) (by decide) rfl rfl (Nat.le_of_ble_eq_true rfl) rfl ?_
  unfold X0_greatest
  refine j_chk ?_
  refine j_aload_n 1 0 dX0_greatest_0 rfl rfl rfl ?_
  refine j_callV_i (ci := 0) (As := []) (st := []) 4 (okX0_hottestCell G x a0) kc_X0_hottestCell kl_X0_102 ki_X0_hottestCell kv_X0_hottestCell kh_X0 (by decide) (fun _ h => rvX0_hottestCell h) ⟨rfl, rfl, Nat.le_of_ble_eq_true rfl, Nat.le_of_ble_eq_true rfl⟩ (Nat.le_of_ble_eq_true rfl) ⟨Nat.le_of_ble_eq_true rfl, Nat.le_of_ble_eq_true rfl⟩ rfl dX0_greatest_1 rfl rfl ?_
  intro v1
  refine j_istore_n 5 [(1, .int v1), (0, .ref a0)] dX0_greatest_4 rfl rfl (by decide) rfl ?_
  refine j_iload_n 6 0 dX0_greatest_5 rfl rfl rfl ?_
  refine j_iconst (v := -1) 7 dX0_greatest_6 rfl ic_m1 ?_
  refine j_icmp_ne 14 10 dX0_greatest_7 (by decide) rfl ?_ ?_
  · refine j_aload_n 15 1 dX0_greatest_14 rfl rfl rfl ?_
    refine j_gR 18 kf_X0_37 dX0_greatest_15 rfl ?_
    intro v2
    refine j_iload_n 19 0 dX0_greatest_18 rfl rfl rfl ?_
    refine j_aL 20 dX0_greatest_19 rfl ?_
    intro v3
    exact j_lret dX0_greatest_20 rfl
  · refine j_lconst (v := 0) 11 dX0_greatest_10 rfl lc_0 ?_
    refine j_goto 20 dX0_greatest_11 (by decide) ?_
    exact j_lret dX0_greatest_20 rfl
-- X0_least: ('BarSteps$Bar', 'least', '()J')
def X0_least (a0 : Nat) (x : Hs) : Option (Int64) := (vO x 0 a0).bind fun _ =>
  (X0_coldestCell a0 x).bind fun v1 =>
  (if v1 = (-1) then some 0 else
  (gR x 0 a0 8).bind fun v2 =>
  (aL x v2 v1).bind fun v3 =>
  some v3)
theorem rvX0_least {a0 : Nat} {x : Hs} {r : Int64} (h : X0_least a0 x = some r) : ∃ fs, x.1 a0 = .inr (0, fs) := vO_bind h
theorem okX0_least (G : JG) (x : Hs) (a0 : Nat) : ∀ r, X0_least a0 x = some r → JC G yX0_least cX0_least 2 (some .long) (jR 2 0 0) 0 0 [.ref a0] x ((some (.long r), x)) := by
  refine jc_of (own := RX0) (E := (fun r : Int64 => ((some (.long r), x) : JR))) (by decide) rfl rfl (Nat.le_of_ble_eq_true rfl) rfl ?_
  unfold X0_least
  refine j_chk ?_
  refine j_aload_n 1 0 dX0_least_0 rfl rfl rfl ?_
  refine j_callV_i (ci := 0) (As := []) (st := []) 4 (okX0_coldestCell G x a0) kc_X0_coldestCell kl_X0_106 ki_X0_coldestCell kv_X0_coldestCell kh_X0 (by decide) (fun _ h => rvX0_coldestCell h) ⟨rfl, rfl, Nat.le_of_ble_eq_true rfl, Nat.le_of_ble_eq_true rfl⟩ (Nat.le_of_ble_eq_true rfl) ⟨Nat.le_of_ble_eq_true rfl, Nat.le_of_ble_eq_true rfl⟩ rfl dX0_least_1 rfl rfl ?_
  intro v1
  refine j_istore_n 5 [(1, .int v1), (0, .ref a0)] dX0_least_4 rfl rfl (by decide) rfl ?_
  refine j_iload_n 6 0 dX0_least_5 rfl rfl rfl ?_
  refine j_iconst (v := -1) 7 dX0_least_6 rfl ic_m1 ?_
  refine j_icmp_ne 14 10 dX0_least_7 (by decide) rfl ?_ ?_
  · refine j_aload_n 15 1 dX0_least_14 rfl rfl rfl ?_
    refine j_gR 18 kf_X0_37 dX0_least_15 rfl ?_
    intro v2
    refine j_iload_n 19 0 dX0_least_18 rfl rfl rfl ?_
    refine j_aL 20 dX0_least_19 rfl ?_
    intro v3
    exact j_lret dX0_least_20 rfl
  · refine j_lconst (v := 0) 11 dX0_least_10 rfl lc_0 ?_
    refine j_goto 20 dX0_least_11 (by decide) ?_
    exact j_lret dX0_least_20 rfl
