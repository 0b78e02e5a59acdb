/-! Each method as a pure term, and the machine's rows. Written by wip/whole/decomp.py. -/
-- X6_of: ('BarSteps', 'of', '(II)I')
def X6_of (a0 : Nat) (a1 : Int32) (a2 : Int32) (x : Hs) : Option (Int32) := (vO x 5 a0).bind fun _ =>
  (gR x 5 a0 0).bind fun v1 =>
  (X0_has v1 a1 x).bind fun v2 =>
  (if v2 = 0 then some (-1000) else
  (if a2 = 0 then (gR x 5 a0 0).bind fun v3 =>
  (gR x 0 v3 1).bind fun v4 =>
  (aI x v4 a1).bind fun v5 =>
  some v5 else
  (if a2 = 1 then (gR x 5 a0 0).bind fun v7 =>
  (gR x 0 v7 2).bind fun v8 =>
  (aI x v8 a1).bind fun v9 =>
  some v9 else
  (if a2 = 2 then (gR x 5 a0 0).bind fun v11 =>
  (gR x 0 v11 3).bind fun v12 =>
  (aI x v12 a1).bind fun v13 =>
  some v13 else
  (if a2 = 3 then (gR x 5 a0 0).bind fun v15 =>
  (gR x 0 v15 4).bind fun v16 =>
  (aI x v16 a1).bind fun v17 =>
  some v17 else
  (if a2 = 4 then (gR x 5 a0 0).bind fun v19 =>
  (gR x 0 v19 5).bind fun v20 =>
  (aI x v20 a1).bind fun v21 =>
  some v21 else
  (if a2 = 5 then (gR x 5 a0 0).bind fun v23 =>
  (gR x 0 v23 6).bind fun v24 =>
  (aI x v24 a1).bind fun v25 =>
  some v25 else
  (if a2 = 6 then (gR x 5 a0 0).bind fun v27 =>
  (gR x 0 v27 7).bind fun v28 =>
  (aI x v28 a1).bind fun v29 =>
  some v29 else
  (if a2 = 7 then (gR x 5 a0 0).bind fun v31 =>
  (gR x 0 v31 1).bind fun v32 =>
  (aI x v32 a1).bind fun v33 =>
  (gR x 5 a0 0).bind fun v34 =>
  (gR x 0 v34 3).bind fun v35 =>
  (aI x v35 a1).bind fun v36 =>
  (X1_madeOf v33 v36).bind fun v37 =>
  some v37 else
  some (-1000))))))))))
theorem rvX6_of {a0 : Nat} {a1 : Int32} {a2 : Int32} {x : Hs} {r : Int32} (h : X6_of a0 a1 a2 x = some r) : ∃ fs, x.1 a0 = .inr (5, fs) := vO_bind h
theorem okX6_of (G : JG) (x : Hs) (a0 : Nat) (a1 : Int32) (a2 : Int32) : ∀ r, X6_of a0 a1 a2 x = some r → JC G yX6_of cX6_of 3 (some .int) (jR 4 0 0) 0 0 [.ref a0, .int a1, .int a2] x ((some (.int r), x)) := by
  refine jc_of (own := RX6) (E := (fun r : Int32 => ((some (.int r), x) : JR))) (by decide) rfl rfl (Nat.le_of_ble_eq_true rfl) rfl ?_
  unfold X6_of
  refine j_chk ?_
  refine j_aload_n 1 0 dX6_of_0 rfl rfl rfl ?_
  refine j_gR 4 kf_X6_12 dX6_of_1 rfl ?_
  intro v1
  refine j_iload_n 5 1 dX6_of_4 rfl rfl rfl ?_
  refine j_callV_i (ci := 0) (As := [.int a1]) (st := []) 8 (okX0_has G x v1 a1) kc_X0_has kl_X6_77 ki_X0_has kv_X0_has kh_X0 (by decide) (fun _ h => rvX0_has h) ⟨rfl, rfl, Nat.le_of_ble_eq_true rfl, Nat.le_of_ble_eq_true rfl⟩ (Nat.le_of_ble_eq_true rfl) ⟨Nat.le_of_ble_eq_true rfl, Nat.le_of_ble_eq_true rfl⟩ rfl dX6_of_5 rfl rfl ?_
  intro v2
  refine j_if_ne 15 11 dX6_of_8 (by decide) rfl ?_ ?_
  · refine j_iload_n 16 2 dX6_of_15 rfl rfl rfl ?_
    refine j_ite (fun h6 => ?_) (fun h6 => ?_)
    · refine j_tinE (w := 0) 64 dX6_of_16 h6 (by decide) (by decide) rfl (by decide) ?_
      refine j_aload_n 65 0 dX6_of_64 rfl rfl rfl ?_
      refine j_gR 68 kf_X6_12 dX6_of_65 rfl ?_
      intro v3
      refine j_gR 71 kf_X6_100 dX6_of_68 rfl ?_
      intro v4
      refine j_iload_n 72 1 dX6_of_71 rfl rfl rfl ?_
      refine j_aI 73 dX6_of_72 rfl ?_
      intro v5
      exact j_iret dX6_of_73 rfl
    refine j_ite (fun h10 => ?_) (fun h10 => ?_)
    · refine j_tinE (w := 1) 74 dX6_of_16 h10 (by decide) (by decide) rfl (by decide) ?_
      refine j_aload_n 75 0 dX6_of_74 rfl rfl rfl ?_
      refine j_gR 78 kf_X6_12 dX6_of_75 rfl ?_
      intro v7
      refine j_gR 81 kf_X6_103 dX6_of_78 rfl ?_
      intro v8
      refine j_iload_n 82 1 dX6_of_81 rfl rfl rfl ?_
      refine j_aI 83 dX6_of_82 rfl ?_
      intro v9
      exact j_iret dX6_of_83 rfl
    refine j_ite (fun h14 => ?_) (fun h14 => ?_)
    · refine j_tinE (w := 2) 84 dX6_of_16 h14 (by decide) (by decide) rfl (by decide) ?_
      refine j_aload_n 85 0 dX6_of_84 rfl rfl rfl ?_
      refine j_gR 88 kf_X6_12 dX6_of_85 rfl ?_
      intro v11
      refine j_gR 91 kf_X6_106 dX6_of_88 rfl ?_
      intro v12
      refine j_iload_n 92 1 dX6_of_91 rfl rfl rfl ?_
      refine j_aI 93 dX6_of_92 rfl ?_
      intro v13
      exact j_iret dX6_of_93 rfl
    refine j_ite (fun h18 => ?_) (fun h18 => ?_)
    · refine j_tinE (w := 3) 94 dX6_of_16 h18 (by decide) (by decide) rfl (by decide) ?_
      refine j_aload_n 95 0 dX6_of_94 rfl rfl rfl ?_
      refine j_gR 98 kf_X6_12 dX6_of_95 rfl ?_
      intro v15
      refine j_gR 101 kf_X6_109 dX6_of_98 rfl ?_
      intro v16
      refine j_iload_n 102 1 dX6_of_101 rfl rfl rfl ?_
      refine j_aI 103 dX6_of_102 rfl ?_
      intro v17
      exact j_iret dX6_of_103 rfl
    refine j_ite (fun h22 => ?_) (fun h22 => ?_)
    · refine j_tinE (w := 4) 104 dX6_of_16 h22 (by decide) (by decide) rfl (by decide) ?_
      refine j_aload_n 105 0 dX6_of_104 rfl rfl rfl ?_
      refine j_gR 108 kf_X6_12 dX6_of_105 rfl ?_
      intro v19
      refine j_gR 111 kf_X6_112 dX6_of_108 rfl ?_
      intro v20
      refine j_iload_n 112 1 dX6_of_111 rfl rfl rfl ?_
      refine j_aI 113 dX6_of_112 rfl ?_
      intro v21
      exact j_iret dX6_of_113 rfl
    refine j_ite (fun h26 => ?_) (fun h26 => ?_)
    · refine j_tinE (w := 5) 114 dX6_of_16 h26 (by decide) (by decide) rfl (by decide) ?_
      refine j_aload_n 115 0 dX6_of_114 rfl rfl rfl ?_
      refine j_gR 118 kf_X6_12 dX6_of_115 rfl ?_
      intro v23
      refine j_gR 121 kf_X6_115 dX6_of_118 rfl ?_
      intro v24
      refine j_iload_n 122 1 dX6_of_121 rfl rfl rfl ?_
      refine j_aI 123 dX6_of_122 rfl ?_
      intro v25
      exact j_iret dX6_of_123 rfl
    refine j_ite (fun h30 => ?_) (fun h30 => ?_)
    · refine j_tinE (w := 6) 124 dX6_of_16 h30 (by decide) (by decide) rfl (by decide) ?_
      refine j_aload_n 125 0 dX6_of_124 rfl rfl rfl ?_
      refine j_gR 128 kf_X6_12 dX6_of_125 rfl ?_
      intro v27
      refine j_gR 131 kf_X6_118 dX6_of_128 rfl ?_
      intro v28
      refine j_iload_n 132 1 dX6_of_131 rfl rfl rfl ?_
      refine j_aI 133 dX6_of_132 rfl ?_
      intro v29
      exact j_iret dX6_of_133 rfl
    refine j_ite (fun h38 => ?_) (fun h38 => ?_)
    · refine j_tinE (w := 7) 134 dX6_of_16 h38 (by decide) (by decide) rfl (by decide) ?_
      refine j_aload_n 135 0 dX6_of_134 rfl rfl rfl ?_
      refine j_gR 138 kf_X6_12 dX6_of_135 rfl ?_
      intro v31
      refine j_gR 141 kf_X6_100 dX6_of_138 rfl ?_
      intro v32
      refine j_iload_n 142 1 dX6_of_141 rfl rfl rfl ?_
      refine j_aI 143 dX6_of_142 rfl ?_
      intro v33
      refine j_aload_n 144 0 dX6_of_143 rfl rfl rfl ?_
      refine j_gR 147 kf_X6_12 dX6_of_144 rfl ?_
      intro v34
      refine j_gR 150 kf_X6_106 dX6_of_147 rfl ?_
      intro v35
      refine j_iload_n 151 1 dX6_of_150 rfl rfl rfl ?_
      refine j_aI 152 dX6_of_151 rfl ?_
      intro v36
      refine j_callS_i (As := [.int v33, .int v36]) (st := []) 155 (okX1_madeOf G x v33 v36) kc_X1_madeOf kl_X6_121 ks_X1_madeOf ⟨rfl, rfl, Nat.le_of_ble_eq_true rfl, Nat.le_of_ble_eq_true rfl⟩ (Nat.le_of_ble_eq_true rfl) ⟨Nat.le_of_ble_eq_true rfl, Nat.le_of_ble_eq_true rfl⟩ rfl dX6_of_152 rfl rfl ?_
      intro v37
      exact j_iret dX6_of_155 rfl
    have h6n := sw_ne h6
    have h10n := sw_ne h10
    have h14n := sw_ne h14
    have h18n := sw_ne h18
    have h22n := sw_ne h22
    have h26n := sw_ne h26
    have h30n := sw_ne h30
    have h38n := sw_ne h38
    have h6m : (Int32.toInt 0) = 0 := by decide
    have h10m : (Int32.toInt 1) = 1 := by decide
    have h14m : (Int32.toInt 2) = 2 := by decide
    have h18m : (Int32.toInt 3) = 3 := by decide
    have h22m : (Int32.toInt 4) = 4 := by decide
    have h26m : (Int32.toInt 5) = 5 := by decide
    have h30m : (Int32.toInt 6) = 6 := by decide
    have h38m : (Int32.toInt 7) = 7 := by decide
    refine j_tout 156 dX6_of_16 (by omega) (by decide) ?_
    refine j_sipush (v := -1000) 159 dX6_of_156 rfl sc_m1000 ?_
    exact j_iret dX6_of_159 rfl
  · refine j_sipush (v := -1000) 14 dX6_of_11 rfl sc_m1000 ?_
    exact j_iret dX6_of_14 rfl
-- X6_taken: ('BarSteps', 'taken', '(II)I')
def X6_taken (a0 : Nat) (a1 : Int32) (a2 : Int32) (x : Hs) : Option (Int32) := (vO x 5 a0).bind fun _ =>
  (gR x 5 a0 0).bind fun v1 =>
  (X0_has v1 a1 x).bind fun v2 =>
  (if v2 = 0 then some (-2) else
  (X6_isKind a2).bind fun v3 =>
  (if v3 = 0 then some (-2) else
  (gR x 5 a0 0).bind fun v4 =>
  (gR x 0 v4 1).bind fun v5 =>
  (aI x v5 a1).bind fun v6 =>
  (X1_isUnder v6 a2).bind fun v7 =>
  (if v7 = 0 then some (-13) else
  (gR x 5 a0 0).bind fun v8 =>
  (gR x 0 v8 2).bind fun v9 =>
  (aI x v9 a1).bind fun v10 =>
  some v10)))
theorem rvX6_taken {a0 : Nat} {a1 : Int32} {a2 : Int32} {x : Hs} {r : Int32} (h : X6_taken a0 a1 a2 x = some r) : ∃ fs, x.1 a0 = .inr (5, fs) := vO_bind h
theorem okX6_taken (G : JG) (x : Hs) (a0 : Nat) (a1 : Int32) (a2 : Int32) : ∀ r, X6_taken a0 a1 a2 x = some r → JC G yX6_taken cX6_taken 3 (some .int) (jR 3 0 0) 0 0 [.ref a0, .int a1, .int a2] x ((some (.int r), x)) := by
  refine jc_of (own := RX6) (E := (fun r : Int32 => ((some (.int r), x) : JR))) (by decide) rfl rfl (Nat.le_of_ble_eq_true rfl) rfl ?_
  unfold X6_taken
  refine j_chk ?_
  refine j_aload_n 1 0 dX6_taken_0 rfl rfl rfl ?_
  refine j_gR 4 kf_X6_12 dX6_taken_1 rfl ?_
  intro v1
  refine j_iload_n 5 1 dX6_taken_4 rfl rfl rfl ?_
  refine j_callV_i (ci := 0) (As := [.int a1]) (st := []) 8 (okX0_has G x v1 a1) kc_X0_has kl_X6_77 ki_X0_has kv_X0_has kh_X0 (by decide) (fun _ h => rvX0_has h) ⟨rfl, rfl, Nat.le_of_ble_eq_true rfl, Nat.le_of_ble_eq_true rfl⟩ (Nat.le_of_ble_eq_true rfl) ⟨Nat.le_of_ble_eq_true rfl, Nat.le_of_ble_eq_true rfl⟩ rfl dX6_taken_5 rfl rfl ?_
  intro v2
  refine j_if_eq 18 11 dX6_taken_8 (by decide) rfl ?_ ?_
  · refine j_bipush (v := -2) 20 dX6_taken_18 rfl bc_m2 ?_
    exact j_iret dX6_taken_20 rfl
  · refine j_iload_n 12 2 dX6_taken_11 rfl rfl rfl ?_
    refine j_callS_i (As := [.int a2]) (st := []) 15 (okX6_isKind G x a2) kc_X6_isKind kl_X6_53 ks_X6_isKind ⟨rfl, rfl, Nat.le_of_ble_eq_true rfl, Nat.le_of_ble_eq_true rfl⟩ (Nat.le_of_ble_eq_true rfl) ⟨Nat.le_of_ble_eq_true rfl, Nat.le_of_ble_eq_true rfl⟩ rfl dX6_taken_12 rfl rfl ?_
    intro v3
    refine j_if_ne 21 18 dX6_taken_15 (by decide) rfl ?_ ?_
    · refine j_aload_n 22 0 dX6_taken_21 rfl rfl rfl ?_
      refine j_gR 25 kf_X6_12 dX6_taken_22 rfl ?_
      intro v4
      refine j_gR 28 kf_X6_100 dX6_taken_25 rfl ?_
      intro v5
      refine j_iload_n 29 1 dX6_taken_28 rfl rfl rfl ?_
      refine j_aI 30 dX6_taken_29 rfl ?_
      intro v6
      refine j_iload_n 31 2 dX6_taken_30 rfl rfl rfl ?_
      refine j_callS_i (As := [.int v6, .int a2]) (st := []) 34 (okX1_isUnder G x v6 a2) kc_X1_isUnder kl_X6_126 ks_X1_isUnder ⟨rfl, rfl, Nat.le_of_ble_eq_true rfl, Nat.le_of_ble_eq_true rfl⟩ (Nat.le_of_ble_eq_true rfl) ⟨Nat.le_of_ble_eq_true rfl, Nat.le_of_ble_eq_true rfl⟩ rfl dX6_taken_31 rfl rfl ?_
      intro v7
      refine j_if_eq 49 37 dX6_taken_34 (by decide) rfl ?_ ?_
      · refine j_bipush (v := -13) 51 dX6_taken_49 rfl bc_m13 ?_
        exact j_iret dX6_taken_51 rfl
      · refine j_aload_n 38 0 dX6_taken_37 rfl rfl rfl ?_
        refine j_gR 41 kf_X6_12 dX6_taken_38 rfl ?_
        intro v8
        refine j_gR 44 kf_X6_103 dX6_taken_41 rfl ?_
        intro v9
        refine j_iload_n 45 1 dX6_taken_44 rfl rfl rfl ?_
        refine j_aI 46 dX6_taken_45 rfl ?_
        intro v10
        refine j_goto 51 dX6_taken_46 (by decide) ?_
        exact j_iret dX6_taken_51 rfl
    · refine j_bipush (v := -2) 20 dX6_taken_18 rfl bc_m2 ?_
      exact j_iret dX6_taken_20 rfl
-- X6_kin: ('BarSteps', 'kin', '(I)I')
def X6_kin (a0 : Nat) (a1 : Int32) (x : Hs) : Option (Int32) := (vO x 5 a0).bind fun _ =>
  (X6_isKind a1).bind fun v1 =>
  (if v1 = 0 then some (-2) else
  (X1_lineOf a1).bind fun v2 =>
  some v2)
theorem rvX6_kin {a0 : Nat} {a1 : Int32} {x : Hs} {r : Int32} (h : X6_kin a0 a1 x = some r) : ∃ fs, x.1 a0 = .inr (5, fs) := vO_bind h
theorem okX6_kin (G : JG) (x : Hs) (a0 : Nat) (a1 : Int32) : ∀ r, X6_kin a0 a1 x = some r → JC G yX6_kin cX6_kin 2 (some .int) (jR 3 0 0) 0 0 [.ref a0, .int a1] x ((some (.int r), x)) := by
  refine jc_of (own := RX6) (E := (fun r : Int32 => ((some (.int r), x) : JR))) (by decide) rfl rfl (Nat.le_of_ble_eq_true rfl) rfl ?_
  unfold X6_kin
  refine j_chk ?_
  refine j_iload_n 1 1 dX6_kin_0 rfl rfl rfl ?_
  refine j_callS_i (As := [.int a1]) (st := []) 4 (okX6_isKind G x a1) kc_X6_isKind kl_X6_53 ks_X6_isKind ⟨rfl, rfl, Nat.le_of_ble_eq_true rfl, Nat.le_of_ble_eq_true rfl⟩ (Nat.le_of_ble_eq_true rfl) ⟨Nat.le_of_ble_eq_true rfl, Nat.le_of_ble_eq_true rfl⟩ rfl dX6_kin_1 rfl rfl ?_
  intro v1
  refine j_if_eq 14 7 dX6_kin_4 (by decide) rfl ?_ ?_
  · refine j_bipush (v := -2) 16 dX6_kin_14 rfl bc_m2 ?_
    exact j_iret dX6_kin_16 rfl
  · refine j_iload_n 8 1 dX6_kin_7 rfl rfl rfl ?_
    refine j_callS_i (As := [.int a1]) (st := []) 11 (okX1_lineOf G x a1) kc_X1_lineOf kl_X6_130 ks_X1_lineOf ⟨rfl, rfl, Nat.le_of_ble_eq_true rfl, Nat.le_of_ble_eq_true rfl⟩ (Nat.le_of_ble_eq_true rfl) ⟨Nat.le_of_ble_eq_true rfl, Nat.le_of_ble_eq_true rfl⟩ rfl dX6_kin_8 rfl rfl ?_
    intro v2
    refine j_goto 16 dX6_kin_11 (by decide) ?_
    exact j_iret dX6_kin_16 rfl
-- X6_isBit: ('BarSteps', 'isBit', '(I)Z')
def X6_isBit (a0 : Int32) : Option (Int32) := (if a0 = 0 then (zb 1).bind fun v1 => some v1 else
  (if a0 = 1 then (zb 1).bind fun v3 => some v3 else
  (zb 0).bind fun v2 => some v2))
theorem okX6_isBit (G : JG) (x : Hs) (a0 : Int32) : ∀ r, X6_isBit a0 = some r → JC G yX6_isBit cX6_isBit 1 (some .boolean) (jR 1 0 0) 0 0 [.int a0] x ((some (.int r), x)) := by
  refine jc_of (own := RX6) (E := (fun r : Int32 => ((some (.int r), x) : JR))) (by decide) rfl rfl (Nat.le_of_ble_eq_true rfl) rfl ?_
  unfold X6_isBit
  refine j_iload_n 1 0 dX6_isBit_0 rfl rfl rfl ?_
  refine j_if_eq 9 4 dX6_isBit_1 (by decide) rfl ?_ ?_
  · refine j_iconst (v := 1) 10 dX6_isBit_9 rfl ic_1 ?_
    refine j_goto 14 dX6_isBit_10 (by decide) ?_
    exact j_zret dX6_isBit_14 (fun _ => rfl)
  · refine j_iload_n 5 0 dX6_isBit_4 rfl rfl rfl ?_
    refine j_iconst (v := 1) 6 dX6_isBit_5 rfl ic_1 ?_
    refine j_icmp_ne 13 9 dX6_isBit_6 (by decide) rfl ?_ ?_
    · refine j_iconst (v := 0) 14 dX6_isBit_13 rfl ic_0 ?_
      exact j_zret dX6_isBit_14 (fun _ => rfl)
    · refine j_iconst (v := 1) 10 dX6_isBit_9 rfl ic_1 ?_
      refine j_goto 14 dX6_isBit_10 (by decide) ?_
      exact j_zret dX6_isBit_14 (fun _ => rfl)
-- X6_end: ('BarSteps', 'end', '(II)I')
def X6_end (a0 : Nat) (a1 : Int32) (a2 : Int32) (x : Hs) : Option (Int32 × Hs) := (vO x 5 a0).bind fun _ =>
  (X6_isBit a1).bind fun v1 =>
  (if v1 = 0 then some ((-1000), x) else
  (X6_between a2 (-1) 999).bind fun v2 =>
  (if v2 = 0 then some ((-1000), x) else
  (gR x 5 a0 0).bind fun v3 =>
  (gR x 0 v3 10).bind fun v4 =>
  (aI x v4 a1).bind fun v5 =>
  (gR x 5 a0 0).bind fun v6 =>
  (gR x 0 v6 10).bind fun v7 =>
  (wI x v7 a1 a2).bind fun y8 =>
  some (v5, y8)))
theorem rvX6_end {a0 : Nat} {a1 : Int32} {a2 : Int32} {x : Hs} {r : Int32 × Hs} (h : X6_end a0 a1 a2 x = some r) : ∃ fs, x.1 a0 = .inr (5, fs) := vO_bind h
theorem okX6_end (G : JG) (x : Hs) (a0 : Nat) (a1 : Int32) (a2 : Int32) : ∀ r, X6_end a0 a1 a2 x = some r → JC G yX6_end cX6_end 4 (some .int) (jR 2 0 0) 0 0 [.ref a0, .int a1, .int a2] x ((some (.int r.1), r.2)) := by
  refine jc_of (own := RX6) (E := (fun r : Int32 × Hs => ((some (.int r.1), r.2) : JR))) (by decide) rfl rfl (Nat.le_of_ble_eq_true rfl) rfl ?_
  unfold X6_end
  refine j_chk ?_
  refine j_iload_n 1 1 dX6_end_0 rfl rfl rfl ?_
  refine j_callS_i (As := [.int a1]) (st := []) 4 (okX6_isBit G x a1) kc_X6_isBit kl_X6_134 ks_X6_isBit ⟨rfl, rfl, Nat.le_of_ble_eq_true rfl, Nat.le_of_ble_eq_true rfl⟩ (Nat.le_of_ble_eq_true rfl) ⟨Nat.le_of_ble_eq_true rfl, Nat.le_of_ble_eq_true rfl⟩ rfl dX6_end_1 rfl rfl ?_
  intro v1
  refine j_if_eq 18 7 dX6_end_4 (by decide) rfl ?_ ?_
  · refine j_sipush (v := -1000) 21 dX6_end_18 rfl sc_m1000 ?_
    exact j_iret dX6_end_21 rfl
  · refine j_iload_n 8 2 dX6_end_7 rfl rfl rfl ?_
    refine j_iconst (v := -1) 9 dX6_end_8 rfl ic_m1 ?_
    refine j_sipush (v := 999) 12 dX6_end_9 rfl sc_999 ?_
    refine j_callS_i (As := [.int a2, .int (-1), .int 999]) (st := []) 15 (okX6_between G x a2 (-1) 999) kc_X6_between kl_X6_137 ks_X6_between ⟨rfl, rfl, Nat.le_of_ble_eq_true rfl, Nat.le_of_ble_eq_true rfl⟩ (Nat.le_of_ble_eq_true rfl) ⟨Nat.le_of_ble_eq_true rfl, Nat.le_of_ble_eq_true rfl⟩ rfl dX6_end_12 rfl rfl ?_
    intro v2
    refine j_if_ne 22 18 dX6_end_15 (by decide) rfl ?_ ?_
    · refine j_aload_n 23 0 dX6_end_22 rfl rfl rfl ?_
      refine j_gR 26 kf_X6_12 dX6_end_23 rfl ?_
      intro v3
      refine j_gR 29 kf_X6_141 dX6_end_26 rfl ?_
      intro v4
      refine j_iload_n 30 1 dX6_end_29 rfl rfl rfl ?_
      refine j_aI 31 dX6_end_30 rfl ?_
      intro v5
      refine j_istore_n 32 [(3, .int v5), (0, .ref a0), (1, .int a1), (2, .int a2)] dX6_end_31 rfl rfl (by decide) rfl ?_
      refine j_aload_n 33 1 dX6_end_32 rfl rfl rfl ?_
      refine j_gR 36 kf_X6_12 dX6_end_33 rfl ?_
      intro v6
      refine j_gR 39 kf_X6_141 dX6_end_36 rfl ?_
      intro v7
      refine j_iload_n 40 2 dX6_end_39 rfl rfl rfl ?_
      refine j_iload_n 41 3 dX6_end_40 rfl rfl rfl ?_
      refine j_wI 42 dX6_end_41 rfl ?_
      intro y8
      refine j_iload_n 43 0 dX6_end_42 rfl rfl rfl ?_
      exact j_iret dX6_end_43 rfl
    · refine j_sipush (v := -1000) 21 dX6_end_18 rfl sc_m1000 ?_
      exact j_iret dX6_end_21 rfl
-- X6_rule: ('BarSteps', 'rule', '(II)I')
def X6_rule_J37 (l0 : Nat) (l1 : Int32) (l2 : Int32) (l3 : Int32) (x : Hs) : Option (Int32 × Hs) := (if l1 = 1 then (X6_isHeat l2).bind fun v1 =>
  (if v1 = 0 then some (l3, x) else
  (gR x 5 l0 0).bind fun v2 =>
  (gI x 0 v2 12).bind fun v3 =>
  (gR x 5 l0 0).bind fun v4 =>
  (pV x 0 v4 12 (.int l2)).bind fun y5 =>
  some (v3, y5)) else
  some (l3, x))
theorem okX6_rule_J37 (G : JG) : ∀ (l0 : Nat) (l1 : Int32) (l2 : Int32) (l3 : Int32) (x : Hs), JM G RX6 cX6_rule 4 (jZ G (some .int) "rule" (jR 3 0 0) 0 0) (fun r : Int32 × Hs => ((some (.int r.1), r.2) : JR)) 37 [(0, .ref l0), (1, .int l1), (2, .int l2), (3, .int l3)] [] x 0 0 (X6_rule_J37 l0 l1 l2 l3 x) := by
  intro l0 l1 l2 l3 x
  unfold X6_rule_J37
  refine j_iload_n 38 1 dX6_rule_37 rfl rfl rfl ?_
  refine j_iconst (v := 1) 39 dX6_rule_38 rfl ic_1 ?_
  refine j_icmp_ne 65 42 dX6_rule_39 (by decide) rfl ?_ ?_
  · refine j_iload_n 66 3 dX6_rule_65 rfl rfl rfl ?_
    exact j_iret dX6_rule_66 rfl
  · refine j_iload_n 43 2 dX6_rule_42 rfl rfl rfl ?_
    refine j_callS_i (As := [.int l2]) (st := []) 46 (okX6_isHeat G x l2) kc_X6_isHeat kl_X6_63 ks_X6_isHeat ⟨rfl, rfl, Nat.le_of_ble_eq_true rfl, Nat.le_of_ble_eq_true rfl⟩ (Nat.le_of_ble_eq_true rfl) ⟨Nat.le_of_ble_eq_true rfl, Nat.le_of_ble_eq_true rfl⟩ rfl dX6_rule_43 rfl rfl ?_
    intro v1
    refine j_if_eq 65 49 dX6_rule_46 (by decide) rfl ?_ ?_
    · refine j_iload_n 66 3 dX6_rule_65 rfl rfl rfl ?_
      exact j_iret dX6_rule_66 rfl
    · refine j_aload_n 50 0 dX6_rule_49 rfl rfl rfl ?_
      refine j_gR 53 kf_X6_12 dX6_rule_50 rfl ?_
      intro v2
      refine j_gI 56 kf_X6_147 dX6_rule_53 rfl ?_
      intro v3
      refine j_istore_n 57 [(3, .int v3), (0, .ref l0), (1, .int l1), (2, .int l2)] dX6_rule_56 rfl rfl (by decide) rfl ?_
      refine j_aload_n 58 1 dX6_rule_57 rfl rfl rfl ?_
      refine j_gR 61 kf_X6_12 dX6_rule_58 rfl ?_
      intro v4
      refine j_iload_n 62 3 dX6_rule_61 rfl rfl rfl ?_
      refine j_put 65 kf_X6_147 dX6_rule_62 rfl rfl rfl ?_
      intro y5
      refine j_iload_n 66 0 dX6_rule_65 rfl rfl rfl ?_
      exact j_iret dX6_rule_66 rfl
def X6_rule (a0 : Nat) (a1 : Int32) (a2 : Int32) (x : Hs) : Option (Int32 × Hs) := (vO x 5 a0).bind fun _ =>
  (if a1 = 0 then (X6_between a2 1 20).bind fun v6 =>
  (if v6 = 0 then X6_rule_J37 a0 a1 a2 (-1000) x else
  (gR x 5 a0 0).bind fun v7 =>
  (gI x 0 v7 11).bind fun v8 =>
  (gR x 5 a0 0).bind fun v9 =>
  (pV x 0 v9 11 (.int a2)).bind fun y10 =>
  some (v8, y10)) else
  X6_rule_J37 a0 a1 a2 (-1000) x)
theorem rvX6_rule {a0 : Nat} {a1 : Int32} {a2 : Int32} {x : Hs} {r : Int32 × Hs} (h : X6_rule a0 a1 a2 x = some r) : ∃ fs, x.1 a0 = .inr (5, fs) := vO_bind h
theorem okX6_rule (G : JG) (x : Hs) (a0 : Nat) (a1 : Int32) (a2 : Int32) : ∀ r, X6_rule a0 a1 a2 x = some r → JC G yX6_rule cX6_rule 4 (some .int) (jR 3 0 0) 0 0 [.ref a0, .int a1, .int a2] x ((some (.int r.1), r.2)) := by
  refine jc_of (own := RX6) (E := (fun r : Int32 × Hs => ((some (.int r.1), r.2) : JR))) (by decide) rfl rfl (Nat.le_of_ble_eq_true rfl) rfl ?_
  unfold X6_rule
  refine j_chk ?_
  refine j_sipush (v := -1000) 3 dX6_rule_0 rfl sc_m1000 ?_
  refine j_istore_n 4 [(3, .int (-1000)), (0, .ref a0), (1, .int a1), (2, .int a2)] dX6_rule_3 rfl rfl (by decide) rfl ?_
  refine j_iload_n 5 2 dX6_rule_4 rfl rfl rfl ?_
  refine j_if_ne 37 8 dX6_rule_5 (by decide) rfl ?_ ?_
  · refine j_sub [1, 2, 3, 0] rfl ?_
    exact okX6_rule_J37 G a0 a1 a2 (-1000) x
  · refine j_iload_n 9 3 dX6_rule_8 rfl rfl rfl ?_
    refine j_iconst (v := 1) 10 dX6_rule_9 rfl ic_1 ?_
    refine j_bipush (v := 20) 12 dX6_rule_10 rfl bc_20 ?_
    refine j_callS_i (As := [.int a2, .int 1, .int 20]) (st := []) 15 (okX6_between G x a2 1 20) kc_X6_between kl_X6_137 ks_X6_between ⟨rfl, rfl, Nat.le_of_ble_eq_true rfl, Nat.le_of_ble_eq_true rfl⟩ (Nat.le_of_ble_eq_true rfl) ⟨Nat.le_of_ble_eq_true rfl, Nat.le_of_ble_eq_true rfl⟩ rfl dX6_rule_12 rfl rfl ?_
    intro v6
    refine j_if_eq 37 18 dX6_rule_15 (by decide) rfl ?_ ?_
    · refine j_sub [1, 2, 3, 0] rfl ?_
      exact okX6_rule_J37 G a0 a1 a2 (-1000) x
    · refine j_aload_n 19 1 dX6_rule_18 rfl rfl rfl ?_
      refine j_gR 22 kf_X6_12 dX6_rule_19 rfl ?_
      intro v7
      refine j_gI 25 kf_X6_144 dX6_rule_22 rfl ?_
      intro v8
      refine j_istore_n 26 [(3, .int v8), (0, .ref a0), (1, .int a1), (2, .int a2)] dX6_rule_25 rfl rfl (by decide) rfl ?_
      refine j_aload_n 27 1 dX6_rule_26 rfl rfl rfl ?_
      refine j_gR 30 kf_X6_12 dX6_rule_27 rfl ?_
      intro v9
      refine j_iload_n 31 3 dX6_rule_30 rfl rfl rfl ?_
      refine j_put 34 kf_X6_144 dX6_rule_31 rfl rfl rfl ?_
      intro y10
      refine j_goto 65 dX6_rule_34 (by decide) ?_
      refine j_iload_n 66 0 dX6_rule_65 rfl rfl rfl ?_
      exact j_iret dX6_rule_66 rfl
-- X6_partOf: ('BarSteps', 'partOf', '(JJI)J')
def X6_partOf_J10 (l0 : Int64) (l2 : Int64) (s0 : Int64) : Option (Int64) := (X6_commonDivisor l0 l2).bind fun v1 =>
  (X6_quotient s0 v1).bind fun v2 =>
  some v2
theorem okX6_partOf_J10 (G : JG) (x : Hs) : ∀ (l0 : Int64) (l2 : Int64) (s0 : Int64), JM G RX6 cX6_partOf 5 (jZ G (some .long) "partOf" (jR 3 0 0) 0 0) (fun r : Int64 => ((some (.long r), x) : JR)) 10 [(0, .long l0), (2, .long l2)] [.long s0] x 0 0 (X6_partOf_J10 l0 l2 s0) := by
  intro l0 l2 s0
  unfold X6_partOf_J10
  refine j_lload_n 11 0 dX6_partOf_10 rfl rfl rfl ?_
  refine j_lload_n 12 1 dX6_partOf_11 rfl rfl rfl ?_
  refine j_callS_l (As := [.long l0, .long l2]) (st := [.long s0]) 15 (okX6_commonDivisor G x l0 l2) kc_X6_commonDivisor kl_X6_375 ks_X6_commonDivisor ⟨rfl, rfl, Nat.le_of_ble_eq_true rfl, Nat.le_of_ble_eq_true rfl⟩ (Nat.le_of_ble_eq_true rfl) ⟨Nat.le_of_ble_eq_true rfl, Nat.le_of_ble_eq_true rfl⟩ rfl dX6_partOf_12 rfl rfl ?_
  intro v1
  refine j_callS_l (As := [.long s0, .long v1]) (st := []) 18 (okX6_quotient G x s0 v1) kc_X6_quotient kl_X6_177 ks_X6_quotient ⟨rfl, rfl, Nat.le_of_ble_eq_true rfl, Nat.le_of_ble_eq_true rfl⟩ (Nat.le_of_ble_eq_true rfl) ⟨Nat.le_of_ble_eq_true rfl, Nat.le_of_ble_eq_true rfl⟩ rfl dX6_partOf_15 rfl rfl ?_
  intro v2
  exact j_lret dX6_partOf_18 rfl
def X6_partOf (a0 : Int64) (a1 : Int64) (a2 : Int32) : Option (Int64) := (if a2 = 0 then X6_partOf_J10 a0 a1 a0 else
  X6_partOf_J10 a0 a1 a1)
theorem okX6_partOf (G : JG) (x : Hs) (a0 : Int64) (a1 : Int64) (a2 : Int32) : ∀ r, X6_partOf a0 a1 a2 = some r → JC G yX6_partOf cX6_partOf 5 (some .long) (jR 3 0 0) 0 0 [.long a0, .long a1, .int a2] x ((some (.long r), x)) := by
  refine jc_of (own := RX6) (E := (fun r : Int64 => ((some (.long r), x) : JR))) (by decide) rfl rfl (Nat.le_of_ble_eq_true rfl) rfl ?_
  unfold X6_partOf
  refine j_iload 2 2 dX6_partOf_0 rfl rfl ?_
  refine j_if_ne 9 5 dX6_partOf_2 (by decide) rfl ?_ ?_
  · refine j_lload_n 10 1 dX6_partOf_9 rfl rfl rfl ?_
    refine j_sub [0, 1] rfl ?_
    exact okX6_partOf_J10 G x a0 a1 a1
  · refine j_lload_n 6 0 dX6_partOf_5 rfl rfl rfl ?_
    refine j_goto 10 dX6_partOf_6 (by decide) ?_
    refine j_sub [0, 1] rfl ?_
    exact okX6_partOf_J10 G x a0 a1 a0
-- X6_t: ('BarSteps', 't', '(II)J')
def X6_t (a0 : Nat) (a1 : Int32) (a2 : Int32) (x : Hs) : Option (Int64) := (vO x 5 a0).bind fun _ =>
  (gR x 5 a0 0).bind fun v1 =>
  (X0_has v1 a1 x).bind fun v2 =>
  (if v2 = 0 then some (-9223372036854775808) else
  (X6_isBit a2).bind fun v3 =>
  (if v3 = 0 then some (-9223372036854775808) else
  (gR x 5 a0 0).bind fun v4 =>
  (gR x 0 v4 8).bind fun v5 =>
  (aL x v5 a1).bind fun v6 =>
  (gR x 5 a0 0).bind fun v7 =>
  (gL x 0 v7 9).bind fun v8 =>
  (X6_partOf v6 v8 a2).bind fun v9 =>
  some v9))
theorem rvX6_t {a0 : Nat} {a1 : Int32} {a2 : Int32} {x : Hs} {r : Int64} (h : X6_t a0 a1 a2 x = some r) : ∃ fs, x.1 a0 = .inr (5, fs) := vO_bind h
theorem okX6_t (G : JG) (x : Hs) (a0 : Nat) (a1 : Int32) (a2 : Int32) : ∀ r, X6_t a0 a1 a2 x = some r → JC G yX6_t cX6_t 3 (some .long) (jR 4 0 0) 0 0 [.ref a0, .int a1, .int a2] x ((some (.long r), x)) := by
  refine jc_of (own := RX6) (E := (fun r : Int64 => ((some (.long r), x) : JR))) (by decide) rfl rfl (Nat.le_of_ble_eq_true rfl) rfl ?_
  unfold X6_t
  refine j_chk ?_
  refine j_aload_n 1 0 dX6_t_0 rfl rfl rfl ?_
  refine j_gR 4 kf_X6_12 dX6_t_1 rfl ?_
  intro v1
  refine j_iload_n 5 1 dX6_t_4 rfl rfl rfl ?_
  refine j_callV_i (ci := 0) (As := [.int a1]) (st := []) 8 (okX0_has G x v1 a1) kc_X0_has kl_X6_77 ki_X0_has kv_X0_has kh_X0 (by decide) (fun _ h => rvX0_has h) ⟨rfl, rfl, Nat.le_of_ble_eq_true rfl, Nat.le_of_ble_eq_true rfl⟩ (Nat.le_of_ble_eq_true rfl) ⟨Nat.le_of_ble_eq_true rfl, Nat.le_of_ble_eq_true rfl⟩ rfl dX6_t_5 rfl rfl ?_
  intro v2
  refine j_if_eq 18 11 dX6_t_8 (by decide) rfl ?_ ?_
  · refine j_ldc2 21 kk_X6_150 dX6_t_18 rfl ?_
    exact j_lret dX6_t_21 rfl
  · refine j_iload_n 12 2 dX6_t_11 rfl rfl rfl ?_
    refine j_callS_i (As := [.int a2]) (st := []) 15 (okX6_isBit G x a2) kc_X6_isBit kl_X6_134 ks_X6_isBit ⟨rfl, rfl, Nat.le_of_ble_eq_true rfl, Nat.le_of_ble_eq_true rfl⟩ (Nat.le_of_ble_eq_true rfl) ⟨Nat.le_of_ble_eq_true rfl, Nat.le_of_ble_eq_true rfl⟩ rfl dX6_t_12 rfl rfl ?_
    intro v3
    refine j_if_ne 22 18 dX6_t_15 (by decide) rfl ?_ ?_
    · refine j_aload_n 23 0 dX6_t_22 rfl rfl rfl ?_
      refine j_gR 26 kf_X6_12 dX6_t_23 rfl ?_
      intro v4
      refine j_gR 29 kf_X6_152 dX6_t_26 rfl ?_
      intro v5
      refine j_iload_n 30 1 dX6_t_29 rfl rfl rfl ?_
      refine j_aL 31 dX6_t_30 rfl ?_
      intro v6
      refine j_aload_n 32 0 dX6_t_31 rfl rfl rfl ?_
      refine j_gR 35 kf_X6_12 dX6_t_32 rfl ?_
      intro v7
      refine j_gL 38 kf_X6_156 dX6_t_35 rfl ?_
      intro v8
      refine j_iload_n 39 2 dX6_t_38 rfl rfl rfl ?_
      refine j_callS_l (As := [.long v6, .long v8, .int a2]) (st := []) 42 (okX6_partOf G x v6 v8 a2) kc_X6_partOf kl_X6_160 ks_X6_partOf ⟨rfl, rfl, Nat.le_of_ble_eq_true rfl, Nat.le_of_ble_eq_true rfl⟩ (Nat.le_of_ble_eq_true rfl) ⟨Nat.le_of_ble_eq_true rfl, Nat.le_of_ble_eq_true rfl⟩ rfl dX6_t_39 rfl rfl ?_
      intro v9
      exact j_lret dX6_t_42 rfl
    · refine j_ldc2 21 kk_X6_150 dX6_t_18 rfl ?_
      exact j_lret dX6_t_21 rfl
-- X6_line: ('BarSteps', 'line', '()J')
def X6_line (a0 : Nat) (x : Hs) : Option (Int64) := (vO x 5 a0).bind fun _ =>
  (gR x 5 a0 0).bind fun v1 =>
  (gL x 0 v1 9).bind fun v2 =>
  some v2
theorem rvX6_line {a0 : Nat} {x : Hs} {r : Int64} (h : X6_line a0 x = some r) : ∃ fs, x.1 a0 = .inr (5, fs) := vO_bind h
theorem okX6_line (G : JG) (x : Hs) (a0 : Nat) : ∀ r, X6_line a0 x = some r → JC G yX6_line cX6_line 1 (some .long) (jR 1 0 0) 0 0 [.ref a0] x ((some (.long r), x)) := by
  refine jc_of (own := RX6) (E := (fun r : Int64 => ((some (.long r), x) : JR))) (by decide) rfl rfl (Nat.le_of_ble_eq_true rfl) rfl ?_
  unfold X6_line
  refine j_chk ?_
  refine j_aload_n 1 0 dX6_line_0 rfl rfl rfl ?_
  refine j_gR 4 kf_X6_12 dX6_line_1 rfl ?_
  intro v1
  refine j_gL 7 kf_X6_156 dX6_line_4 rfl ?_
  intro v2
  exact j_lret dX6_line_7 rfl
-- X6_joint: ('BarSteps', 'joint', '(I)I')
def X6_joint (a0 : Nat) (a1 : Int32) (x : Hs) : Option (Int32) := (vO x 5 a0).bind fun _ =>
  (gR x 5 a0 0).bind fun v1 =>
  (X0_leads v1 a1 x).bind fun v2 =>
  some v2
theorem rvX6_joint {a0 : Nat} {a1 : Int32} {x : Hs} {r : Int32} (h : X6_joint a0 a1 x = some r) : ∃ fs, x.1 a0 = .inr (5, fs) := vO_bind h
theorem okX6_joint (G : JG) (x : Hs) (a0 : Nat) (a1 : Int32) : ∀ r, X6_joint a0 a1 x = some r → JC G yX6_joint cX6_joint 2 (some .int) (jR 3 0 0) 0 0 [.ref a0, .int a1] x ((some (.int r), x)) := by
  refine jc_of (own := RX6) (E := (fun r : Int32 => ((some (.int r), x) : JR))) (by decide) rfl rfl (Nat.le_of_ble_eq_true rfl) rfl ?_
  unfold X6_joint
  refine j_chk ?_
  refine j_aload_n 1 0 dX6_joint_0 rfl rfl rfl ?_
  refine j_gR 4 kf_X6_12 dX6_joint_1 rfl ?_
  intro v1
  refine j_iload_n 5 1 dX6_joint_4 rfl rfl rfl ?_
  refine j_callV_i (ci := 0) (As := [.int a1]) (st := []) 8 (okX0_leads G x v1 a1) kc_X0_leads kl_X6_164 ki_X0_leads kv_X0_leads kh_X0 (by decide) (fun _ h => rvX0_leads h) ⟨rfl, rfl, Nat.le_of_ble_eq_true rfl, Nat.le_of_ble_eq_true rfl⟩ (Nat.le_of_ble_eq_true rfl) ⟨Nat.le_of_ble_eq_true rfl, Nat.le_of_ble_eq_true rfl⟩ rfl dX6_joint_5 rfl rfl ?_
  intro v2
  exact j_iret dX6_joint_8 rfl
-- X6_flow: ('BarSteps', 'flow', '(II)J')
def X6_flow (a0 : Nat) (a1 : Int32) (a2 : Int32) (x : Hs) : Option (Int64) := (vO x 5 a0).bind fun _ =>
  (gR x 5 a0 0).bind fun v1 =>
  (X0_hasJoint v1 a1 x).bind fun v2 =>
  (if v2 = 0 then some (-9223372036854775808) else
  (X6_isBit a2).bind fun v3 =>
  (if v3 = 0 then some (-9223372036854775808) else
  (gR x 5 a0 0).bind fun v4 =>
  (gR x 5 a0 0).bind fun v5 =>
  (gR x 0 v5 8).bind fun v6 =>
  (gR x 5 a0 0).bind fun v7 =>
  (gL x 0 v7 9).bind fun v8 =>
  (X0_flowAbove v4 a1 v6 v8 x).bind fun v9 =>
  (gR x 5 a0 0).bind fun v10 =>
  (gL x 0 v10 9).bind fun v11 =>
  (X6_partOf v9 v11 a2).bind fun v12 =>
  some v12))
theorem rvX6_flow {a0 : Nat} {a1 : Int32} {a2 : Int32} {x : Hs} {r : Int64} (h : X6_flow a0 a1 a2 x = some r) : ∃ fs, x.1 a0 = .inr (5, fs) := vO_bind h
theorem okX6_flow (G : JG) (x : Hs) (a0 : Nat) (a1 : Int32) (a2 : Int32) : ∀ r, X6_flow a0 a1 a2 x = some r → JC G yX6_flow cX6_flow 3 (some .long) (jR 4 0 0) 0 0 [.ref a0, .int a1, .int a2] x ((some (.long r), x)) := by
  refine jc_of (own := RX6) (E := (fun r : Int64 => ((some (.long r), x) : JR))) (by decide) rfl rfl (Nat.le_of_ble_eq_true rfl) rfl ?_
  unfold X6_flow
  refine j_chk ?_
  refine j_aload_n 1 0 dX6_flow_0 rfl rfl rfl ?_
  refine j_gR 4 kf_X6_12 dX6_flow_1 rfl ?_
  intro v1
  refine j_iload_n 5 1 dX6_flow_4 rfl rfl rfl ?_
  refine j_callV_i (ci := 0) (As := [.int a1]) (st := []) 8 (okX0_hasJoint G x v1 a1) kc_X0_hasJoint kl_X6_167 ki_X0_hasJoint kv_X0_hasJoint kh_X0 (by decide) (fun _ h => rvX0_hasJoint h) ⟨rfl, rfl, Nat.le_of_ble_eq_true rfl, Nat.le_of_ble_eq_true rfl⟩ (Nat.le_of_ble_eq_true rfl) ⟨Nat.le_of_ble_eq_true rfl, Nat.le_of_ble_eq_true rfl⟩ rfl dX6_flow_5 rfl rfl ?_
  intro v2
  refine j_if_eq 18 11 dX6_flow_8 (by decide) rfl ?_ ?_
  · refine j_ldc2 21 kk_X6_150 dX6_flow_18 rfl ?_
    exact j_lret dX6_flow_21 rfl
  · refine j_iload_n 12 2 dX6_flow_11 rfl rfl rfl ?_
    refine j_callS_i (As := [.int a2]) (st := []) 15 (okX6_isBit G x a2) kc_X6_isBit kl_X6_134 ks_X6_isBit ⟨rfl, rfl, Nat.le_of_ble_eq_true rfl, Nat.le_of_ble_eq_true rfl⟩ (Nat.le_of_ble_eq_true rfl) ⟨Nat.le_of_ble_eq_true rfl, Nat.le_of_ble_eq_true rfl⟩ rfl dX6_flow_12 rfl rfl ?_
    intro v3
    refine j_if_ne 22 18 dX6_flow_15 (by decide) rfl ?_ ?_
    · refine j_aload_n 23 0 dX6_flow_22 rfl rfl rfl ?_
      refine j_gR 26 kf_X6_12 dX6_flow_23 rfl ?_
      intro v4
      refine j_iload_n 27 1 dX6_flow_26 rfl rfl rfl ?_
      refine j_aload_n 28 0 dX6_flow_27 rfl rfl rfl ?_
      refine j_gR 31 kf_X6_12 dX6_flow_28 rfl ?_
      intro v5
      refine j_gR 34 kf_X6_152 dX6_flow_31 rfl ?_
      intro v6
      refine j_aload_n 35 0 dX6_flow_34 rfl rfl rfl ?_
      refine j_gR 38 kf_X6_12 dX6_flow_35 rfl ?_
      intro v7
      refine j_gL 41 kf_X6_156 dX6_flow_38 rfl ?_
      intro v8
      refine j_callV_l (ci := 0) (As := [.int a1, .ref v6, .long v8]) (st := []) 44 (okX0_flowAbove G x v4 a1 v6 v8) kc_X0_flowAbove kl_X6_170 ki_X0_flowAbove kv_X0_flowAbove kh_X0 (by decide) (fun _ h => rvX0_flowAbove h) ⟨rfl, rfl, Nat.le_of_ble_eq_true rfl, Nat.le_of_ble_eq_true rfl⟩ (Nat.le_of_ble_eq_true rfl) ⟨Nat.le_of_ble_eq_true rfl, Nat.le_of_ble_eq_true rfl⟩ rfl dX6_flow_41 rfl rfl ?_
      intro v9
      refine j_aload_n 45 0 dX6_flow_44 rfl rfl rfl ?_
      refine j_gR 48 kf_X6_12 dX6_flow_45 rfl ?_
      intro v10
      refine j_gL 51 kf_X6_156 dX6_flow_48 rfl ?_
      intro v11
      refine j_iload_n 52 2 dX6_flow_51 rfl rfl rfl ?_
      refine j_callS_l (As := [.long v9, .long v11, .int a2]) (st := []) 55 (okX6_partOf G x v9 v11 a2) kc_X6_partOf kl_X6_160 ks_X6_partOf ⟨rfl, rfl, Nat.le_of_ble_eq_true rfl, Nat.le_of_ble_eq_true rfl⟩ (Nat.le_of_ble_eq_true rfl) ⟨Nat.le_of_ble_eq_true rfl, Nat.le_of_ble_eq_true rfl⟩ rfl dX6_flow_52 rfl rfl ?_
      intro v12
      exact j_lret dX6_flow_55 rfl
    · refine j_ldc2 21 kk_X6_150 dX6_flow_18 rfl ?_
      exact j_lret dX6_flow_21 rfl
-- X6_stable: ('BarSteps', 'stable', '(I)I')
def X6_stable_L52 (x : Hs) : Nat → Nat → Int32 → Int32 → Option (Int32)
  | 0, _, _, _ => none
  | n + 1, l0, l3, l4 => (if l3 < l4 then some 1 else
  (gR x 5 l0 0).bind fun v1 =>
  (X0_loss v1 l4 x).bind fun v2 =>
  (gR x 5 l0 0).bind fun v3 =>
  (gR x 0 v3 6).bind fun v4 =>
  (aI x v4 l4).bind fun v5 =>
  (gR x 5 l0 0).bind fun v6 =>
  (gI x 0 v6 11).bind fun v7 =>
  (if v2 ≤ (v5 * v7) then X6_stable_L52 x n l0 l3 (l4 + 1) else
  some 0))
theorem okX6_stable_L52 (G : JG) (x : Hs) : ∀ (n : Nat), ∀ (l0 : Nat) (l3 : Int32) (l4 : Int32), JM G RX6 cX6_stable 5 (jZ G (some .int) "stable" (jR 4 0 0) 0 0) (fun r : Int32 => ((some (.int r), x) : JR)) 52 [(0, .ref l0), (3, .int l3), (4, .int l4)] [] x 0 0 (X6_stable_L52 x n l0 l3 l4) := by
  intro n
  induction n with
  | zero => intro l0 l3 l4; exact j_none
  | succ n ih =>
    intro l0 l3 l4
    unfold X6_stable_L52
    refine j_iload 54 2 dX6_stable_52 rfl rfl ?_
    refine j_iload_n 55 1 dX6_stable_54 rfl rfl rfl ?_
    refine j_icmp_gt 96 58 dX6_stable_55 (by decide) rfl ?_ ?_
    · refine j_iconst (v := 1) 97 dX6_stable_96 rfl ic_1 ?_
      exact j_iret dX6_stable_97 rfl
    · refine j_aload_n 59 0 dX6_stable_58 rfl rfl rfl ?_
      refine j_gR 62 kf_X6_12 dX6_stable_59 rfl ?_
      intro v1
      refine j_iload 64 2 dX6_stable_62 rfl rfl ?_
      refine j_callV_i (ci := 0) (As := [.int l4]) (st := []) 67 (okX0_loss G x v1 l4) kc_X0_loss kl_X6_174 ki_X0_loss kv_X0_loss kh_X0 (by decide) (fun _ h => rvX0_loss h) ⟨rfl, rfl, Nat.le_of_ble_eq_true rfl, Nat.le_of_ble_eq_true rfl⟩ (Nat.le_of_ble_eq_true rfl) ⟨Nat.le_of_ble_eq_true rfl, Nat.le_of_ble_eq_true rfl⟩ rfl dX6_stable_64 rfl rfl ?_
      intro v2
      refine j_aload_n 68 0 dX6_stable_67 rfl rfl rfl ?_
      refine j_gR 71 kf_X6_12 dX6_stable_68 rfl ?_
      intro v3
      refine j_gR 74 kf_X6_115 dX6_stable_71 rfl ?_
      intro v4
      refine j_iload 76 2 dX6_stable_74 rfl rfl ?_
      refine j_aI 77 dX6_stable_76 rfl ?_
      intro v5
      refine j_aload_n 78 0 dX6_stable_77 rfl rfl rfl ?_
      refine j_gR 81 kf_X6_12 dX6_stable_78 rfl ?_
      intro v6
      refine j_gI 84 kf_X6_144 dX6_stable_81 rfl ?_
      intro v7
      refine j_imul 85 dX6_stable_84 rfl ?_
      refine j_icmp_le 90 88 dX6_stable_85 (by decide) rfl ?_ ?_
      · refine j_iinc 93 2 [(4, .int (l4 + 1)), (0, .ref l0), (3, .int l3)] dX6_stable_90 rfl rfl (ii_1 _) (by decide) rfl ?_
        refine j_goto 52 dX6_stable_93 (by decide) ?_
        refine j_sub [1, 2, 0] rfl ?_
        exact ih l0 l3 (l4 + 1)
      · refine j_iconst (v := 0) 89 dX6_stable_88 rfl ic_0 ?_
        exact j_iret dX6_stable_89 rfl
def X6_stable_J48 (x : Hs) (l0 : Nat) (l2 : Int32) (s0 : Int32) : Option (Int32) := X6_stable_L52 x fu l0 s0 l2
theorem okX6_stable_J48 (G : JG) (x : Hs) : ∀ (l0 : Nat) (l2 : Int32) (s0 : Int32), JM G RX6 cX6_stable 5 (jZ G (some .int) "stable" (jR 4 0 0) 0 0) (fun r : Int32 => ((some (.int r), x) : JR)) 48 [(0, .ref l0), (2, .int l2)] [.int s0] x 0 0 (X6_stable_J48 x l0 l2 s0) := by
  intro l0 l2 s0
  unfold X6_stable_J48
  refine j_istore_n 49 [(3, .int s0), (0, .ref l0), (2, .int l2)] dX6_stable_48 rfl rfl (by decide) rfl ?_
  refine j_iload_n 50 2 dX6_stable_49 rfl rfl rfl ?_
  refine j_istore 52 [(4, .int l2), (3, .int s0), (0, .ref l0), (2, .int l2)] dX6_stable_50 rfl (by decide) rfl ?_
  refine j_sub [2, 1, 0] rfl ?_
  exact okX6_stable_L52 G x fu l0 s0 l2
def X6_stable_J29 (x : Hs) (l0 : Nat) (l1 : Int32) (s0 : Int32) : Option (Int32) := (if l1 = (-1) then (gR x 5 l0 0).bind fun v8 =>
  (gI x 0 v8 0).bind fun v9 =>
  X6_stable_J48 x l0 s0 (v9 - 1) else
  X6_stable_J48 x l0 s0 l1)
theorem okX6_stable_J29 (G : JG) (x : Hs) : ∀ (l0 : Nat) (l1 : Int32) (s0 : Int32), JM G RX6 cX6_stable 5 (jZ G (some .int) "stable" (jR 4 0 0) 0 0) (fun r : Int32 => ((some (.int r), x) : JR)) 29 [(0, .ref l0), (1, .int l1)] [.int s0] x 0 0 (X6_stable_J29 x l0 l1 s0) := by
  intro l0 l1 s0
  unfold X6_stable_J29
  refine j_istore_n 30 [(2, .int s0), (0, .ref l0), (1, .int l1)] dX6_stable_29 rfl rfl (by decide) rfl ?_
  refine j_iload_n 31 2 dX6_stable_30 rfl rfl rfl ?_
  refine j_iconst (v := -1) 32 dX6_stable_31 rfl ic_m1 ?_
  refine j_icmp_ne 47 35 dX6_stable_32 (by decide) rfl ?_ ?_
  · refine j_iload_n 48 2 dX6_stable_47 rfl rfl rfl ?_
    refine j_sub [1, 0] rfl ?_
    exact okX6_stable_J48 G x l0 s0 l1
  · refine j_aload_n 36 1 dX6_stable_35 rfl rfl rfl ?_
    refine j_gR 39 kf_X6_12 dX6_stable_36 rfl ?_
    intro v8
    refine j_gI 42 kf_X6_70 dX6_stable_39 rfl ?_
    intro v9
    refine j_iconst (v := 1) 43 dX6_stable_42 rfl ic_1 ?_
    refine j_isub 44 dX6_stable_43 rfl ?_
    refine j_goto 48 dX6_stable_44 (by decide) ?_
    refine j_sub [1, 0] rfl ?_
    exact okX6_stable_J48 G x l0 s0 (v9 - 1)
def X6_stable_J19 (x : Hs) (l0 : Nat) (l1 : Int32) : Option (Int32) := (if l1 = (-1) then X6_stable_J29 x l0 l1 0 else
  X6_stable_J29 x l0 l1 l1)
theorem okX6_stable_J19 (G : JG) (x : Hs) : ∀ (l0 : Nat) (l1 : Int32), JM G RX6 cX6_stable 5 (jZ G (some .int) "stable" (jR 4 0 0) 0 0) (fun r : Int32 => ((some (.int r), x) : JR)) 19 [(0, .ref l0), (1, .int l1)] [] x 0 0 (X6_stable_J19 x l0 l1) := by
  intro l0 l1
  unfold X6_stable_J19
  refine j_iload_n 20 1 dX6_stable_19 rfl rfl rfl ?_
  refine j_iconst (v := -1) 21 dX6_stable_20 rfl ic_m1 ?_
  refine j_icmp_ne 28 24 dX6_stable_21 (by decide) rfl ?_ ?_
  · refine j_iload_n 29 1 dX6_stable_28 rfl rfl rfl ?_
    exact okX6_stable_J29 G x l0 l1 l1
  · refine j_iconst (v := 0) 25 dX6_stable_24 rfl ic_0 ?_
    refine j_goto 29 dX6_stable_25 (by decide) ?_
    exact okX6_stable_J29 G x l0 l1 0
def X6_stable (a0 : Nat) (a1 : Int32) (x : Hs) : Option (Int32) := (vO x 5 a0).bind fun _ =>
  (if a1 = (-1) then X6_stable_J19 x a0 a1 else
  (gR x 5 a0 0).bind fun v10 =>
  (X0_has v10 a1 x).bind fun v11 =>
  (if v11 = 0 then some (-2) else
  X6_stable_J19 x a0 a1))
theorem rvX6_stable {a0 : Nat} {a1 : Int32} {x : Hs} {r : Int32} (h : X6_stable a0 a1 x = some r) : ∃ fs, x.1 a0 = .inr (5, fs) := vO_bind h
theorem okX6_stable (G : JG) (x : Hs) (a0 : Nat) (a1 : Int32) : ∀ r, X6_stable a0 a1 x = some r → JC G yX6_stable cX6_stable 5 (some .int) (jR 4 0 0) 0 0 [.ref a0, .int a1] x ((some (.int r), x)) := by
  refine jc_of (own := RX6) (E := (fun r : Int32 => ((some (.int r), x) : JR))) (by decide) rfl rfl (Nat.le_of_ble_eq_true rfl) rfl ?_
  unfold X6_stable
  refine j_chk ?_
  refine j_iload_n 1 1 dX6_stable_0 rfl rfl rfl ?_
  refine j_iconst (v := -1) 2 dX6_stable_1 rfl ic_m1 ?_
  refine j_icmp_eq 19 5 dX6_stable_2 (by decide) rfl ?_ ?_
  · exact okX6_stable_J19 G x a0 a1
  · refine j_aload_n 6 0 dX6_stable_5 rfl rfl rfl ?_
    refine j_gR 9 kf_X6_12 dX6_stable_6 rfl ?_
    intro v10
    refine j_iload_n 10 1 dX6_stable_9 rfl rfl rfl ?_
    refine j_callV_i (ci := 0) (As := [.int a1]) (st := []) 13 (okX0_has G x v10 a1) kc_X0_has kl_X6_77 ki_X0_has kv_X0_has kh_X0 (by decide) (fun _ h => rvX0_has h) ⟨rfl, rfl, Nat.le_of_ble_eq_true rfl, Nat.le_of_ble_eq_true rfl⟩ (Nat.le_of_ble_eq_true rfl) ⟨Nat.le_of_ble_eq_true rfl, Nat.le_of_ble_eq_true rfl⟩ rfl dX6_stable_10 rfl rfl ?_
    intro v11
    refine j_if_ne 19 16 dX6_stable_13 (by decide) rfl ?_ ?_
    · exact okX6_stable_J19 G x a0 a1
    · refine j_bipush (v := -2) 18 dX6_stable_16 rfl bc_m2 ?_
      exact j_iret dX6_stable_18 rfl
-- J9_max_7cf53: ('java/lang/Math', 'max', '(II)I')
def J9_max_7cf53 (a0 : Int32) (a1 : Int32) : Option (Int32) := (if a0 < a1 then some a1 else
  some a0)
theorem okJ9_max_7cf53 (G : JG) (x : Hs) (a0 : Int32) (a1 : Int32) : ∀ r, J9_max_7cf53 a0 a1 = some r → JC G yJ9_max_7cf53 cJ9_max_7cf53 2 (some .int) (jR 1 0 0) 0 0 [.int a0, .int a1] x ((some (.int r), x)) := by
  refine jc_ofF (own := RJ9) (E := (fun r : Int32 => ((some (.int r), x) : JR))) (by decide +kernel) rfl rfl (Nat.le_of_ble_eq_true rfl) rfl ?_
  unfold J9_max_7cf53
  refine j_iload_n 1 0 dJ9_max_7cf53_0 rfl rfl rfl ?_
  refine j_iload_n 2 1 dJ9_max_7cf53_1 rfl rfl rfl ?_
  refine j_icmp_lt 9 5 dJ9_max_7cf53_2 (by decide) rfl ?_ ?_
  · refine j_iload_n 10 1 dJ9_max_7cf53_9 rfl rfl rfl ?_
    exact j_iret dJ9_max_7cf53_10 rfl
  · refine j_iload_n 6 0 dJ9_max_7cf53_5 rfl rfl rfl ?_
    refine j_goto 10 dJ9_max_7cf53_6 (by decide) ?_
    exact j_iret dJ9_max_7cf53_10 rfl
-- X6_need: ('BarSteps', 'need', '()I')
def X6_need_L4 (x : Hs) : Nat → Nat → Int32 → Int32 → Option (Int32)
  | 0, _, _, _ => none
  | n + 1, l0, l1, l2 => (gR x 5 l0 0).bind fun v1 =>
  (gI x 0 v1 0).bind fun v2 =>
  (if v2 ≤ l2 then some l1 else
  (gR x 5 l0 0).bind fun v3 =>
  (gR x 0 v3 6).bind fun v4 =>
  (aI x v4 l2).bind fun v5 =>
  (gR x 5 l0 0).bind fun v6 =>
  (X0_loss v6 l2 x).bind fun v7 =>
  (X6_quotient (Int32.toInt64 ((v7 + v5) - 1)) (Int32.toInt64 v5)).bind fun v8 =>
  (J9_max_7cf53 l1 (Int64.toInt32 v8)).bind fun v9 =>
  X6_need_L4 x n l0 v9 (l2 + 1))
theorem okX6_need_L4 (G : JG) (x : Hs) : ∀ (n : Nat), ∀ (l0 : Nat) (l1 : Int32) (l2 : Int32), JM G RX6 cX6_need 5 (jZ G (some .int) "need" (jR 4 0 0) 0 0) (fun r : Int32 => ((some (.int r), x) : JR)) 4 [(0, .ref l0), (1, .int l1), (2, .int l2)] [] x 0 0 (X6_need_L4 x n l0 l1 l2) := by
  intro n
  induction n with
  | zero => intro l0 l1 l2; exact j_none
  | succ n ih =>
    intro l0 l1 l2
    unfold X6_need_L4
    refine j_iload_n 5 2 dX6_need_4 rfl rfl rfl ?_
    refine j_aload_n 6 0 dX6_need_5 rfl rfl rfl ?_
    refine j_gR 9 kf_X6_12 dX6_need_6 rfl ?_
    intro v1
    refine j_gI 12 kf_X6_70 dX6_need_9 rfl ?_
    intro v2
    refine j_icmp_ge 59 15 dX6_need_12 (by decide) rfl ?_ ?_
    · refine j_iload_n 60 1 dX6_need_59 rfl rfl rfl ?_
      exact j_iret dX6_need_60 rfl
    · refine j_aload_n 16 0 dX6_need_15 rfl rfl rfl ?_
      refine j_gR 19 kf_X6_12 dX6_need_16 rfl ?_
      intro v3
      refine j_gR 22 kf_X6_115 dX6_need_19 rfl ?_
      intro v4
      refine j_iload_n 23 2 dX6_need_22 rfl rfl rfl ?_
      refine j_aI 24 dX6_need_23 rfl ?_
      intro v5
      refine j_istore_n 25 [(3, .int v5), (0, .ref l0), (1, .int l1), (2, .int l2)] dX6_need_24 rfl rfl (by decide) rfl ?_
      refine j_aload_n 26 1 dX6_need_25 rfl rfl rfl ?_
      refine j_gR 29 kf_X6_12 dX6_need_26 rfl ?_
      intro v6
      refine j_iload_n 30 3 dX6_need_29 rfl rfl rfl ?_
      refine j_callV_i (ci := 0) (As := [.int l2]) (st := []) 33 (okX0_loss G x v6 l2) kc_X0_loss kl_X6_174 ki_X0_loss kv_X0_loss kh_X0 (by decide) (fun _ h => rvX0_loss h) ⟨rfl, rfl, Nat.le_of_ble_eq_true rfl, Nat.le_of_ble_eq_true rfl⟩ (Nat.le_of_ble_eq_true rfl) ⟨Nat.le_of_ble_eq_true rfl, Nat.le_of_ble_eq_true rfl⟩ rfl dX6_need_30 rfl rfl ?_
      intro v7
      refine j_iload_n 34 0 dX6_need_33 rfl rfl rfl ?_
      refine j_iadd 35 dX6_need_34 rfl ?_
      refine j_iconst (v := 1) 36 dX6_need_35 rfl ic_1 ?_
      refine j_isub 37 dX6_need_36 rfl ?_
      refine j_i2l 38 dX6_need_37 rfl ?_
      refine j_iload_n 39 0 dX6_need_38 rfl rfl rfl ?_
      refine j_i2l 40 dX6_need_39 rfl ?_
      refine j_callS_l (As := [.long (Int32.toInt64 ((v7 + v5) - 1)), .long (Int32.toInt64 v5)]) (st := []) 43 (okX6_quotient G x (Int32.toInt64 ((v7 + v5) - 1)) (Int32.toInt64 v5)) kc_X6_quotient kl_X6_177 ks_X6_quotient ⟨rfl, rfl, Nat.le_of_ble_eq_true rfl, Nat.le_of_ble_eq_true rfl⟩ (Nat.le_of_ble_eq_true rfl) ⟨Nat.le_of_ble_eq_true rfl, Nat.le_of_ble_eq_true rfl⟩ rfl dX6_need_40 rfl rfl ?_
      intro v8
      refine j_l2i 44 dX6_need_43 rfl ?_
      refine j_istore 46 [(4, .int (Int64.toInt32 v8)), (3, .int v5), (0, .ref l0), (1, .int l1), (2, .int l2)] dX6_need_44 rfl (by decide) rfl ?_
      refine j_iload_n 47 3 dX6_need_46 rfl rfl rfl ?_
      refine j_iload 49 0 dX6_need_47 rfl rfl ?_
      refine j_callS_i (As := [.int l1, .int (Int64.toInt32 v8)]) (st := []) 52 (okJ9_max_7cf53 G x l1 (Int64.toInt32 v8)) kc_J9_max_7cf53 kl_X6_181 ks_J9_max_7cf53 ⟨rfl, rfl, Nat.le_of_ble_eq_true rfl, Nat.le_of_ble_eq_true rfl⟩ (Nat.le_of_ble_eq_true rfl) ⟨Nat.le_of_ble_eq_true rfl, Nat.le_of_ble_eq_true rfl⟩ rfl dX6_need_49 rfl rfl ?_
      intro v9
      refine j_istore_n 53 [(1, .int v9), (4, .int (Int64.toInt32 v8)), (3, .int v5), (0, .ref l0), (2, .int l2)] dX6_need_52 rfl rfl (by decide) rfl ?_
      refine j_iinc 56 4 [(2, .int (l2 + 1)), (1, .int v9), (4, .int (Int64.toInt32 v8)), (3, .int v5), (0, .ref l0)] dX6_need_53 rfl rfl (ii_1 _) (by decide) rfl ?_
      refine j_goto 4 dX6_need_56 (by decide) ?_
      refine j_sub [4, 1, 0] rfl ?_
      exact ih l0 v9 (l2 + 1)
def X6_need (a0 : Nat) (x : Hs) : Option (Int32) := (vO x 5 a0).bind fun _ =>
  X6_need_L4 x fu a0 1 0
theorem rvX6_need {a0 : Nat} {x : Hs} {r : Int32} (h : X6_need a0 x = some r) : ∃ fs, x.1 a0 = .inr (5, fs) := vO_bind h
theorem okX6_need (G : JG) (x : Hs) (a0 : Nat) : ∀ r, X6_need a0 x = some r → JC G yX6_need cX6_need 5 (some .int) (jR 4 0 0) 0 0 [.ref a0] x ((some (.int r), x)) := by
  refine jc_of (own := RX6) (E := (fun r : Int32 => ((some (.int r), x) : JR))) (by decide) rfl rfl (Nat.le_of_ble_eq_true rfl) rfl ?_
  unfold X6_need
  refine j_chk ?_
  refine j_iconst (v := 1) 1 dX6_need_0 rfl ic_1 ?_
  refine j_istore_n 2 [(1, .int 1), (0, .ref a0)] dX6_need_1 rfl rfl (by decide) rfl ?_
  refine j_iconst (v := 0) 3 dX6_need_2 rfl ic_0 ?_
  refine j_istore_n 4 [(2, .int 0), (1, .int 1), (0, .ref a0)] dX6_need_3 rfl rfl (by decide) rfl ?_
  refine j_sub [2, 1, 0] rfl ?_
  exact okX6_need_L4 G x fu a0 1 0
-- X6_sum: ('BarSteps', 'sum', '(I)J')
def X6_sum_L16 (x : Hs) : Nat → Nat → Int32 → Int64 → Int32 → Option (Int64)
  | 0, _, _, _, _ => none
  | n + 1, l0, l1, l2, l4 => (gR x 5 l0 0).bind fun v2 =>
  (gI x 0 v2 0).bind fun v3 =>
  (if v3 ≤ l4 then (gR x 5 l0 0).bind fun v4 =>
  (gL x 0 v4 9).bind fun v5 =>
  (X6_partOf l2 v5 l1).bind fun v6 =>
  some v6 else
  (gR x 5 l0 0).bind fun v7 =>
  (gR x 0 v7 6).bind fun v8 =>
  (aI x v8 l4).bind fun v9 =>
  (gR x 5 l0 0).bind fun v10 =>
  (gR x 0 v10 8).bind fun v11 =>
  (aL x v11 l4).bind fun v12 =>
  X6_sum_L16 x n l0 l1 (l2 + ((Int32.toInt64 v9) * v12)) (l4 + 1))
theorem okX6_sum_L16 (G : JG) (x : Hs) : ∀ (n : Nat), ∀ (l0 : Nat) (l1 : Int32) (l2 : Int64) (l4 : Int32), JM G RX6 cX6_sum 5 (jZ G (some .long) "sum" (jR 4 0 0) 0 0) (fun r : Int64 => ((some (.long r), x) : JR)) 16 [(0, .ref l0), (1, .int l1), (2, .long l2), (4, .int l4)] [] x 0 0 (X6_sum_L16 x n l0 l1 l2 l4) := by
  intro n
  induction n with
  | zero => intro l0 l1 l2 l4; exact j_none
  | succ n ih =>
    intro l0 l1 l2 l4
    unfold X6_sum_L16
    refine j_iload 18 3 dX6_sum_16 rfl rfl ?_
    refine j_aload_n 19 0 dX6_sum_18 rfl rfl rfl ?_
    refine j_gR 22 kf_X6_12 dX6_sum_19 rfl ?_
    intro v2
    refine j_gI 25 kf_X6_70 dX6_sum_22 rfl ?_
    intro v3
    refine j_icmp_ge 59 28 dX6_sum_25 (by decide) rfl ?_ ?_
    · refine j_lload_n 60 2 dX6_sum_59 rfl rfl rfl ?_
      refine j_aload_n 61 0 dX6_sum_60 rfl rfl rfl ?_
      refine j_gR 64 kf_X6_12 dX6_sum_61 rfl ?_
      intro v4
      refine j_gL 67 kf_X6_156 dX6_sum_64 rfl ?_
      intro v5
      refine j_iload_n 68 1 dX6_sum_67 rfl rfl rfl ?_
      refine j_callS_l (As := [.long l2, .long v5, .int l1]) (st := []) 71 (okX6_partOf G x l2 v5 l1) kc_X6_partOf kl_X6_160 ks_X6_partOf ⟨rfl, rfl, Nat.le_of_ble_eq_true rfl, Nat.le_of_ble_eq_true rfl⟩ (Nat.le_of_ble_eq_true rfl) ⟨Nat.le_of_ble_eq_true rfl, Nat.le_of_ble_eq_true rfl⟩ rfl dX6_sum_68 rfl rfl ?_
      intro v6
      exact j_lret dX6_sum_71 rfl
    · refine j_lload_n 29 2 dX6_sum_28 rfl rfl rfl ?_
      refine j_aload_n 30 0 dX6_sum_29 rfl rfl rfl ?_
      refine j_gR 33 kf_X6_12 dX6_sum_30 rfl ?_
      intro v7
      refine j_gR 36 kf_X6_115 dX6_sum_33 rfl ?_
      intro v8
      refine j_iload 38 3 dX6_sum_36 rfl rfl ?_
      refine j_aI 39 dX6_sum_38 rfl ?_
      intro v9
      refine j_i2l 40 dX6_sum_39 rfl ?_
      refine j_aload_n 41 0 dX6_sum_40 rfl rfl rfl ?_
      refine j_gR 44 kf_X6_12 dX6_sum_41 rfl ?_
      intro v10
      refine j_gR 47 kf_X6_152 dX6_sum_44 rfl ?_
      intro v11
      refine j_iload 49 3 dX6_sum_47 rfl rfl ?_
      refine j_aL 50 dX6_sum_49 rfl ?_
      intro v12
      refine j_lmul 51 dX6_sum_50 rfl ?_
      refine j_ladd 52 dX6_sum_51 rfl ?_
      refine j_lstore_n 53 [(2, .long (l2 + ((Int32.toInt64 v9) * v12))), (0, .ref l0), (1, .int l1), (4, .int l4)] dX6_sum_52 rfl rfl (by decide) rfl ?_
      refine j_iinc 56 3 [(4, .int (l4 + 1)), (2, .long (l2 + ((Int32.toInt64 v9) * v12))), (0, .ref l0), (1, .int l1)] dX6_sum_53 rfl rfl (ii_1 _) (by decide) rfl ?_
      refine j_goto 16 dX6_sum_56 (by decide) ?_
      refine j_sub [2, 3, 1, 0] rfl ?_
      exact ih l0 l1 (l2 + ((Int32.toInt64 v9) * v12)) (l4 + 1)
def X6_sum (a0 : Nat) (a1 : Int32) (x : Hs) : Option (Int64) := (vO x 5 a0).bind fun _ =>
  (X6_isBit a1).bind fun v1 =>
  (if v1 = 0 then some (-9223372036854775808) else
  X6_sum_L16 x fu a0 a1 0 0)
theorem rvX6_sum {a0 : Nat} {a1 : Int32} {x : Hs} {r : Int64} (h : X6_sum a0 a1 x = some r) : ∃ fs, x.1 a0 = .inr (5, fs) := vO_bind h
theorem okX6_sum (G : JG) (x : Hs) (a0 : Nat) (a1 : Int32) : ∀ r, X6_sum a0 a1 x = some r → JC G yX6_sum cX6_sum 5 (some .long) (jR 4 0 0) 0 0 [.ref a0, .int a1] x ((some (.long r), x)) := by
  refine jc_of (own := RX6) (E := (fun r : Int64 => ((some (.long r), x) : JR))) (by decide) rfl rfl (Nat.le_of_ble_eq_true rfl) rfl ?_
  unfold X6_sum
  refine j_chk ?_
  refine j_iload_n 1 1 dX6_sum_0 rfl rfl rfl ?_
  refine j_callS_i (As := [.int a1]) (st := []) 4 (okX6_isBit G x a1) kc_X6_isBit kl_X6_134 ks_X6_isBit ⟨rfl, rfl, Nat.le_of_ble_eq_true rfl, Nat.le_of_ble_eq_true rfl⟩ (Nat.le_of_ble_eq_true rfl) ⟨Nat.le_of_ble_eq_true rfl, Nat.le_of_ble_eq_true rfl⟩ rfl dX6_sum_1 rfl rfl ?_
  intro v1
  refine j_if_ne 11 7 dX6_sum_4 (by decide) rfl ?_ ?_
  · refine j_lconst (v := 0) 12 dX6_sum_11 rfl lc_0 ?_
    refine j_lstore_n 13 [(2, .long 0), (0, .ref a0), (1, .int a1)] dX6_sum_12 rfl rfl (by decide) rfl ?_
    refine j_iconst (v := 0) 14 dX6_sum_13 rfl ic_0 ?_
    refine j_istore 16 [(4, .int 0), (2, .long 0), (0, .ref a0), (1, .int a1)] dX6_sum_14 rfl (by decide) rfl ?_
    refine j_sub [2, 3, 1, 0] rfl ?_
    exact okX6_sum_L16 G x fu a0 a1 0 0
  · refine j_ldc2 10 kk_X6_150 dX6_sum_7 rfl ?_
    exact j_lret dX6_sum_10 rfl
-- X6_most: ('BarSteps', 'most', '(I)I')
def X6_most (a0 : Nat) (a1 : Int32) (x : Hs) : Option (Int32) := (vO x 5 a0).bind fun _ =>
  (X6_isBit a1).bind fun v1 =>
  (if v1 = 0 then some (-2) else
  (if a1 = 0 then (gR x 5 a0 0).bind fun v4 =>
  (X0_hottestCell v4 x).bind fun v5 =>
  some v5 else
  (gR x 5 a0 0).bind fun v2 =>
  (X0_coldestCell v2 x).bind fun v3 =>
  some v3))
theorem rvX6_most {a0 : Nat} {a1 : Int32} {x : Hs} {r : Int32} (h : X6_most a0 a1 x = some r) : ∃ fs, x.1 a0 = .inr (5, fs) := vO_bind h
theorem okX6_most (G : JG) (x : Hs) (a0 : Nat) (a1 : Int32) : ∀ r, X6_most a0 a1 x = some r → JC G yX6_most cX6_most 2 (some .int) (jR 3 0 0) 0 0 [.ref a0, .int a1] x ((some (.int r), x)) := by
  refine jc_of (own := RX6) (E := (fun r : Int32 => ((some (.int r), x) : JR))) (by decide) rfl rfl (Nat.le_of_ble_eq_true rfl) rfl ?_
  unfold X6_most
  refine j_chk ?_
  refine j_iload_n 1 1 dX6_most_0 rfl rfl rfl ?_
  refine j_callS_i (As := [.int a1]) (st := []) 4 (okX6_isBit G x a1) kc_X6_isBit kl_X6_134 ks_X6_isBit ⟨rfl, rfl, Nat.le_of_ble_eq_true rfl, Nat.le_of_ble_eq_true rfl⟩ (Nat.le_of_ble_eq_true rfl) ⟨Nat.le_of_ble_eq_true rfl, Nat.le_of_ble_eq_true rfl⟩ rfl dX6_most_1 rfl rfl ?_
  intro v1
  refine j_if_ne 10 7 dX6_most_4 (by decide) rfl ?_ ?_
  · refine j_iload_n 11 1 dX6_most_10 rfl rfl rfl ?_
    refine j_if_ne 24 14 dX6_most_11 (by decide) rfl ?_ ?_
    · refine j_aload_n 25 0 dX6_most_24 rfl rfl rfl ?_
      refine j_gR 28 kf_X6_12 dX6_most_25 rfl ?_
      intro v2
      refine j_callV_i (ci := 0) (As := []) (st := []) 31 (okX0_coldestCell G x v2) kc_X0_coldestCell kl_X6_190 ki_X0_coldestCell kv_X0_coldestCell kh_X0 (by decide) (fun _ h => rvX0_coldestCell h) ⟨rfl, rfl, Nat.le_of_ble_eq_true rfl, Nat.le_of_ble_eq_true rfl⟩ (Nat.le_of_ble_eq_true rfl) ⟨Nat.le_of_ble_eq_true rfl, Nat.le_of_ble_eq_true rfl⟩ rfl dX6_most_28 rfl rfl ?_
      intro v3
      exact j_iret dX6_most_31 rfl
    · refine j_aload_n 15 0 dX6_most_14 rfl rfl rfl ?_
      refine j_gR 18 kf_X6_12 dX6_most_15 rfl ?_
      intro v4
      refine j_callV_i (ci := 0) (As := []) (st := []) 21 (okX0_hottestCell G x v4) kc_X0_hottestCell kl_X6_186 ki_X0_hottestCell kv_X0_hottestCell kh_X0 (by decide) (fun _ h => rvX0_hottestCell h) ⟨rfl, rfl, Nat.le_of_ble_eq_true rfl, Nat.le_of_ble_eq_true rfl⟩ (Nat.le_of_ble_eq_true rfl) ⟨Nat.le_of_ble_eq_true rfl, Nat.le_of_ble_eq_true rfl⟩ rfl dX6_most_18 rfl rfl ?_
      intro v5
      refine j_goto 31 dX6_most_21 (by decide) ?_
      exact j_iret dX6_most_31 rfl
  · refine j_bipush (v := -2) 9 dX6_most_7 rfl bc_m2 ?_
    exact j_iret dX6_most_9 rfl
-- X6_stepsDone: ('BarSteps', 'stepsDone', '(LBarSteps$Bar;I)I')
def X6_stepsDone_L2 : Nat → Nat → Int32 → Int32 → Hs → Option (Int32 × Hs)
  | 0, _, _, _, _ => none
  | n + 1, l0, l1, l2, x => (if l1 ≤ l2 then some (l2, x) else
  (X0_advance l0 x).bind fun q1 =>
  (if q1.1 = (-2) then X6_stepsDone_L2 n l0 l1 (l2 + 1) q1.2 else
  some (l2, q1.2)))
theorem okX6_stepsDone_L2 (G : JG) : ∀ (n : Nat), ∀ (l0 : Nat) (l1 : Int32) (l2 : Int32) (x : Hs), JM G RX6 cX6_stepsDone 3 (jZ G (some .int) "stepsDone" (jR 6 0 0) 0 0) (fun r : Int32 × Hs => ((some (.int r.1), r.2) : JR)) 2 [(0, .ref l0), (1, .int l1), (2, .int l2)] [] x 0 0 (X6_stepsDone_L2 n l0 l1 l2 x) := by
  intro n
  induction n with
  | zero => intro l0 l1 l2 x; exact j_none
  | succ n ih =>
    intro l0 l1 l2 x
    unfold X6_stepsDone_L2
    refine j_iload_n 3 2 dX6_stepsDone_2 rfl rfl rfl ?_
    refine j_iload_n 4 1 dX6_stepsDone_3 rfl rfl rfl ?_
    refine j_icmp_ge 22 7 dX6_stepsDone_4 (by decide) rfl ?_ ?_
    · refine j_iload_n 23 2 dX6_stepsDone_22 rfl rfl rfl ?_
      exact j_iret dX6_stepsDone_23 rfl
    · refine j_aload_n 8 0 dX6_stepsDone_7 rfl rfl rfl ?_
      refine j_callV_iw (ci := 0) (As := []) (st := []) 11 (okX0_advance G x l0) kc_X0_advance kl_X6_201 ki_X0_advance kv_X0_advance kh_X0 (by decide) (fun _ h => rvX0_advance h) ⟨rfl, rfl, Nat.le_of_ble_eq_true rfl, Nat.le_of_ble_eq_true rfl⟩ (Nat.le_of_ble_eq_true rfl) ⟨Nat.le_of_ble_eq_true rfl, Nat.le_of_ble_eq_true rfl⟩ rfl dX6_stepsDone_8 rfl rfl ?_
      intro q1
      refine j_bipush (v := -2) 13 dX6_stepsDone_11 rfl bc_m2 ?_
      refine j_icmp_ne 22 16 dX6_stepsDone_13 (by decide) rfl ?_ ?_
      · refine j_iload_n 23 2 dX6_stepsDone_22 rfl rfl rfl ?_
        exact j_iret dX6_stepsDone_23 rfl
      · refine j_iinc 19 2 [(2, .int (l2 + 1)), (0, .ref l0), (1, .int l1)] dX6_stepsDone_16 rfl rfl (ii_1 _) (by decide) rfl ?_
        refine j_goto 2 dX6_stepsDone_19 (by decide) ?_
        refine j_sub [1, 2, 0] rfl ?_
        exact ih l0 l1 (l2 + 1) q1.2
def X6_stepsDone (a0 : Nat) (a1 : Int32) (x : Hs) : Option (Int32 × Hs) := X6_stepsDone_L2 fu a0 a1 0 x
theorem okX6_stepsDone (G : JG) (x : Hs) (a0 : Nat) (a1 : Int32) : ∀ r, X6_stepsDone a0 a1 x = some r → JC G yX6_stepsDone cX6_stepsDone 3 (some .int) (jR 6 0 0) 0 0 [.ref a0, .int a1] x ((some (.int r.1), r.2)) := by
  refine jc_of (own := RX6) (E := (fun r : Int32 × Hs => ((some (.int r.1), r.2) : JR))) (by decide) rfl rfl (Nat.le_of_ble_eq_true rfl) rfl ?_
  unfold X6_stepsDone
  refine j_iconst (v := 0) 1 dX6_stepsDone_0 rfl ic_0 ?_
  refine j_istore_n 2 [(2, .int 0), (0, .ref a0), (1, .int a1)] dX6_stepsDone_1 rfl rfl (by decide) rfl ?_
  refine j_sub [1, 2, 0] rfl ?_
  exact okX6_stepsDone_L2 G fu a0 a1 0 x
-- X6_step: ('BarSteps', 'step', '(I)I')
def X6_step (a0 : Nat) (a1 : Int32) (x : Hs) : Option (Int32 × Hs) := (vO x 5 a0).bind fun _ =>
  (X6_between a1 1 40).bind fun v1 =>
  (if v1 = 0 then some ((-2), x) else
  (gR x 5 a0 0).bind fun v2 =>
  (gI x 0 v2 0).bind fun v3 =>
  (if v3 = 0 then some ((-3), x) else
  (gR x 5 a0 0).bind fun v4 =>
  (X6_stepsDone v4 a1 x).bind fun q5 =>
  some (q5.1, q5.2)))
theorem rvX6_step {a0 : Nat} {a1 : Int32} {x : Hs} {r : Int32 × Hs} (h : X6_step a0 a1 x = some r) : ∃ fs, x.1 a0 = .inr (5, fs) := vO_bind h
theorem okX6_step (G : JG) (x : Hs) (a0 : Nat) (a1 : Int32) : ∀ r, X6_step a0 a1 x = some r → JC G yX6_step cX6_step 2 (some .int) (jR 7 0 0) 0 0 [.ref a0, .int a1] x ((some (.int r.1), r.2)) := by
  refine jc_of (own := RX6) (E := (fun r : Int32 × Hs => ((some (.int r.1), r.2) : JR))) (by decide) rfl rfl (Nat.le_of_ble_eq_true rfl) rfl ?_
  unfold X6_step
  refine j_chk ?_
  refine j_iload_n 1 1 dX6_step_0 rfl rfl rfl ?_
  refine j_iconst (v := 1) 2 dX6_step_1 rfl ic_1 ?_
  refine j_bipush (v := 40) 4 dX6_step_2 rfl bc_40 ?_
  refine j_callS_i (As := [.int a1, .int 1, .int 40]) (st := []) 7 (okX6_between G x a1 1 40) kc_X6_between kl_X6_137 ks_X6_between ⟨rfl, rfl, Nat.le_of_ble_eq_true rfl, Nat.le_of_ble_eq_true rfl⟩ (Nat.le_of_ble_eq_true rfl) ⟨Nat.le_of_ble_eq_true rfl, Nat.le_of_ble_eq_true rfl⟩ rfl dX6_step_4 rfl rfl ?_
  intro v1
  refine j_if_ne 13 10 dX6_step_7 (by decide) rfl ?_ ?_
  · refine j_aload_n 14 0 dX6_step_13 rfl rfl rfl ?_
    refine j_gR 17 kf_X6_12 dX6_step_14 rfl ?_
    intro v2
    refine j_gI 20 kf_X6_70 dX6_step_17 rfl ?_
    intro v3
    refine j_if_ne 26 23 dX6_step_20 (by decide) rfl ?_ ?_
    · refine j_aload_n 27 0 dX6_step_26 rfl rfl rfl ?_
      refine j_gR 30 kf_X6_12 dX6_step_27 rfl ?_
      intro v4
      refine j_iload_n 31 1 dX6_step_30 rfl rfl rfl ?_
      refine j_callS_iw (As := [.ref v4, .int a1]) (st := []) 34 (okX6_stepsDone G x v4 a1) kc_X6_stepsDone kl_X6_193 ks_X6_stepsDone ⟨rfl, rfl, Nat.le_of_ble_eq_true rfl, Nat.le_of_ble_eq_true rfl⟩ (Nat.le_of_ble_eq_true rfl) ⟨Nat.le_of_ble_eq_true rfl, Nat.le_of_ble_eq_true rfl⟩ rfl dX6_step_31 rfl rfl ?_
      intro q5
      exact j_iret dX6_step_34 rfl
    · refine j_bipush (v := -3) 25 dX6_step_23 rfl bc_m3 ?_
      exact j_iret dX6_step_25 rfl
  · refine j_bipush (v := -2) 12 dX6_step_10 rfl bc_m2 ?_
    exact j_iret dX6_step_12 rfl
-- X6_then: ('BarSteps', 'then', '(III)J')
def X6_then (a0 : Nat) (a1 : Int32) (a2 : Int32) (a3 : Int32) (x : Hs) : Option (Int64 × Hs) := (vO x 5 a0).bind fun _ =>
  (X6_between a1 0 40).bind fun v1 =>
  (if v1 = 0 then some ((-9223372036854775808), x) else
  (gR x 5 a0 0).bind fun v2 =>
  (X0_has v2 a2 x).bind fun v3 =>
  (if v3 = 0 then some ((-9223372036854775808), x) else
  (X6_isBit a3).bind fun v4 =>
  (if v4 = 0 then some ((-9223372036854775808), x) else
  (gR x 5 a0 1).bind fun v5 =>
  (gR x 5 a0 0).bind fun v6 =>
  (X0_become v5 v6 x).bind fun q7 =>
  (gR q7 5 a0 1).bind fun v8 =>
  (X6_stepsDone v8 a1 q7).bind fun q9 =>
  (if a1 ≤ q9.1 then (gR q9.2 5 a0 1).bind fun v10 =>
  (gR q9.2 0 v10 8).bind fun v11 =>
  (aL q9.2 v11 a2).bind fun v12 =>
  (gR q9.2 5 a0 1).bind fun v13 =>
  (gL q9.2 0 v13 9).bind fun v14 =>
  (X6_partOf v12 v14 a3).bind fun v15 =>
  some (v15, q9.2) else
  some ((-9223372036854775808), q9.2)))))
theorem rvX6_then {a0 : Nat} {a1 : Int32} {a2 : Int32} {a3 : Int32} {x : Hs} {r : Int64 × Hs} (h : X6_then a0 a1 a2 a3 x = some r) : ∃ fs, x.1 a0 = .inr (5, fs) := vO_bind h
theorem okX6_then (G : JG) (x : Hs) (a0 : Nat) (a1 : Int32) (a2 : Int32) (a3 : Int32) : ∀ r, X6_then a0 a1 a2 a3 x = some r → JC G yX6_then cX6_then 4 (some .long) (jR 7 0 0) 0 0 [.ref a0, .int a1, .int a2, .int a3] x ((some (.long r.1), r.2)) := by
  refine jc_of (own := RX6) (E := (fun r : Int64 × Hs => ((some (.long r.1), r.2) : JR))) (by decide) rfl rfl (Nat.le_of_ble_eq_true rfl) rfl ?_
  unfold X6_then
  refine j_chk ?_
  refine j_iload_n 1 1 dX6_then_0 rfl rfl rfl ?_
  refine j_iconst (v := 0) 2 dX6_then_1 rfl ic_0 ?_
  refine j_bipush (v := 40) 4 dX6_then_2 rfl bc_40 ?_
  refine j_callS_i (As := [.int a1, .int 0, .int 40]) (st := []) 7 (okX6_between G x a1 0 40) kc_X6_between kl_X6_137 ks_X6_between ⟨rfl, rfl, Nat.le_of_ble_eq_true rfl, Nat.le_of_ble_eq_true rfl⟩ (Nat.le_of_ble_eq_true rfl) ⟨Nat.le_of_ble_eq_true rfl, Nat.le_of_ble_eq_true rfl⟩ rfl dX6_then_4 rfl rfl ?_
  intro v1
  refine j_if_eq 28 10 dX6_then_7 (by decide) rfl ?_ ?_
  · refine j_ldc2 31 kk_X6_150 dX6_then_28 rfl ?_
    exact j_lret dX6_then_31 rfl
  · refine j_aload_n 11 0 dX6_then_10 rfl rfl rfl ?_
    refine j_gR 14 kf_X6_12 dX6_then_11 rfl ?_
    intro v2
    refine j_iload_n 15 2 dX6_then_14 rfl rfl rfl ?_
    refine j_callV_i (ci := 0) (As := [.int a2]) (st := []) 18 (okX0_has G x v2 a2) kc_X0_has kl_X6_77 ki_X0_has kv_X0_has kh_X0 (by decide) (fun _ h => rvX0_has h) ⟨rfl, rfl, Nat.le_of_ble_eq_true rfl, Nat.le_of_ble_eq_true rfl⟩ (Nat.le_of_ble_eq_true rfl) ⟨Nat.le_of_ble_eq_true rfl, Nat.le_of_ble_eq_true rfl⟩ rfl dX6_then_15 rfl rfl ?_
    intro v3
    refine j_if_eq 28 21 dX6_then_18 (by decide) rfl ?_ ?_
    · refine j_ldc2 31 kk_X6_150 dX6_then_28 rfl ?_
      exact j_lret dX6_then_31 rfl
    · refine j_iload_n 22 3 dX6_then_21 rfl rfl rfl ?_
      refine j_callS_i (As := [.int a3]) (st := []) 25 (okX6_isBit G x a3) kc_X6_isBit kl_X6_134 ks_X6_isBit ⟨rfl, rfl, Nat.le_of_ble_eq_true rfl, Nat.le_of_ble_eq_true rfl⟩ (Nat.le_of_ble_eq_true rfl) ⟨Nat.le_of_ble_eq_true rfl, Nat.le_of_ble_eq_true rfl⟩ rfl dX6_then_22 rfl rfl ?_
      intro v4
      refine j_if_ne 32 28 dX6_then_25 (by decide) rfl ?_ ?_
      · refine j_aload_n 33 0 dX6_then_32 rfl rfl rfl ?_
        refine j_gR 36 kf_X6_18 dX6_then_33 rfl ?_
        intro v5
        refine j_aload_n 37 0 dX6_then_36 rfl rfl rfl ?_
        refine j_gR 40 kf_X6_12 dX6_then_37 rfl ?_
        intro v6
        refine j_callV_v (ci := 0) (As := [.ref v6]) (st := []) 43 (okX0_become G x v5 v6) kc_X0_become kl_X6_197 ki_X0_become kv_X0_become kh_X0 (by decide) (fun _ h => rvX0_become h) ⟨rfl, rfl, Nat.le_of_ble_eq_true rfl, Nat.le_of_ble_eq_true rfl⟩ (Nat.le_of_ble_eq_true rfl) ⟨Nat.le_of_ble_eq_true rfl, Nat.le_of_ble_eq_true rfl⟩ rfl dX6_then_40 rfl rfl ?_
        intro q7
        refine j_aload_n 44 0 dX6_then_43 rfl rfl rfl ?_
        refine j_gR 47 kf_X6_18 dX6_then_44 rfl ?_
        intro v8
        refine j_iload_n 48 1 dX6_then_47 rfl rfl rfl ?_
        refine j_callS_iw (As := [.ref v8, .int a1]) (st := []) 51 (okX6_stepsDone G q7 v8 a1) kc_X6_stepsDone kl_X6_193 ks_X6_stepsDone ⟨rfl, rfl, Nat.le_of_ble_eq_true rfl, Nat.le_of_ble_eq_true rfl⟩ (Nat.le_of_ble_eq_true rfl) ⟨Nat.le_of_ble_eq_true rfl, Nat.le_of_ble_eq_true rfl⟩ rfl dX6_then_48 rfl rfl ?_
        intro q9
        refine j_iload_n 52 1 dX6_then_51 rfl rfl rfl ?_
        refine j_icmp_ge 59 55 dX6_then_52 (by decide) rfl ?_ ?_
        · refine j_aload_n 60 0 dX6_then_59 rfl rfl rfl ?_
          refine j_gR 63 kf_X6_18 dX6_then_60 rfl ?_
          intro v10
          refine j_gR 66 kf_X6_152 dX6_then_63 rfl ?_
          intro v11
          refine j_iload_n 67 2 dX6_then_66 rfl rfl rfl ?_
          refine j_aL 68 dX6_then_67 rfl ?_
          intro v12
          refine j_aload_n 69 0 dX6_then_68 rfl rfl rfl ?_
          refine j_gR 72 kf_X6_18 dX6_then_69 rfl ?_
          intro v13
          refine j_gL 75 kf_X6_156 dX6_then_72 rfl ?_
          intro v14
          refine j_iload_n 76 3 dX6_then_75 rfl rfl rfl ?_
          refine j_callS_l (As := [.long v12, .long v14, .int a3]) (st := []) 79 (okX6_partOf G q9.2 v12 v14 a3) kc_X6_partOf kl_X6_160 ks_X6_partOf ⟨rfl, rfl, Nat.le_of_ble_eq_true rfl, Nat.le_of_ble_eq_true rfl⟩ (Nat.le_of_ble_eq_true rfl) ⟨Nat.le_of_ble_eq_true rfl, Nat.le_of_ble_eq_true rfl⟩ rfl dX6_then_76 rfl rfl ?_
          intro v15
          exact j_lret dX6_then_79 rfl
        · refine j_ldc2 58 kk_X6_150 dX6_then_55 rfl ?_
          exact j_lret dX6_then_58 rfl
      · refine j_ldc2 31 kk_X6_150 dX6_then_28 rfl ?_
        exact j_lret dX6_then_31 rfl
-- X6_spent: ('BarSteps', 'spent', '(I)I')
def X6_spent_L23 : Nat → Nat → Int32 → Int32 → Hs → Option (Int32 × Hs)
  | 0, _, _, _, _ => none
  | n + 1, l0, l1, l2, x => (if 40 < l2 then some ((-1), x) else
  (gR x 5 l0 1).bind fun v5 =>
  (X0_advance v5 x).bind fun q6 =>
  (if q6.1 = (-2) then X6_spent_L23 n l0 l1 (l2 + 1) q6.2 else
  (if l1 = 0 then some (l2, q6.2) else
  some (q6.1, q6.2))))
theorem okX6_spent_L23 (G : JG) : ∀ (n : Nat), ∀ (l0 : Nat) (l1 : Int32) (l2 : Int32) (x : Hs), JM G RX6 cX6_spent 4 (jZ G (some .int) "spent" (jR 6 0 0) 0 0) (fun r : Int32 × Hs => ((some (.int r.1), r.2) : JR)) 23 [(0, .ref l0), (1, .int l1), (2, .int l2)] [] x 0 0 (X6_spent_L23 n l0 l1 l2 x) := by
  intro n
  induction n with
  | zero => intro l0 l1 l2 x; exact j_none
  | succ n ih =>
    intro l0 l1 l2 x
    unfold X6_spent_L23
    refine j_iload_n 24 2 dX6_spent_23 rfl rfl rfl ?_
    refine j_bipush (v := 40) 26 dX6_spent_24 rfl bc_40 ?_
    refine j_icmp_gt 59 29 dX6_spent_26 (by decide) rfl ?_ ?_
    · refine j_iconst (v := -1) 60 dX6_spent_59 rfl ic_m1 ?_
      exact j_iret dX6_spent_60 rfl
    · refine j_aload_n 30 0 dX6_spent_29 rfl rfl rfl ?_
      refine j_gR 33 kf_X6_18 dX6_spent_30 rfl ?_
      intro v5
      refine j_callV_iw (ci := 0) (As := []) (st := []) 36 (okX0_advance G x v5) kc_X0_advance kl_X6_201 ki_X0_advance kv_X0_advance kh_X0 (by decide) (fun _ h => rvX0_advance h) ⟨rfl, rfl, Nat.le_of_ble_eq_true rfl, Nat.le_of_ble_eq_true rfl⟩ (Nat.le_of_ble_eq_true rfl) ⟨Nat.le_of_ble_eq_true rfl, Nat.le_of_ble_eq_true rfl⟩ rfl dX6_spent_33 rfl rfl ?_
      intro q6
      refine j_istore_n 37 [(3, .int q6.1), (0, .ref l0), (1, .int l1), (2, .int l2)] dX6_spent_36 rfl rfl (by decide) rfl ?_
      refine j_iload_n 38 0 dX6_spent_37 rfl rfl rfl ?_
      refine j_bipush (v := -2) 40 dX6_spent_38 rfl bc_m2 ?_
      refine j_icmp_eq 53 43 dX6_spent_40 (by decide) rfl ?_ ?_
      · refine j_iinc 56 3 [(2, .int (l2 + 1)), (3, .int q6.1), (0, .ref l0), (1, .int l1)] dX6_spent_53 rfl rfl (ii_1 _) (by decide) rfl ?_
        refine j_goto 23 dX6_spent_56 (by decide) ?_
        refine j_sub [2, 3, 0] rfl ?_
        exact ih l0 l1 (l2 + 1) q6.2
      · refine j_iload_n 44 2 dX6_spent_43 rfl rfl rfl ?_
        refine j_if_ne 51 47 dX6_spent_44 (by decide) rfl ?_ ?_
        · refine j_iload_n 52 0 dX6_spent_51 rfl rfl rfl ?_
          exact j_iret dX6_spent_52 rfl
        · refine j_iload_n 48 3 dX6_spent_47 rfl rfl rfl ?_
          refine j_goto 52 dX6_spent_48 (by decide) ?_
          exact j_iret dX6_spent_52 rfl
def X6_spent (a0 : Nat) (a1 : Int32) (x : Hs) : Option (Int32 × Hs) := (vO x 5 a0).bind fun _ =>
  (X6_isBit a1).bind fun v1 =>
  (if v1 = 0 then some ((-2), x) else
  (gR x 5 a0 1).bind fun v2 =>
  (gR x 5 a0 0).bind fun v3 =>
  (X0_become v2 v3 x).bind fun q4 =>
  X6_spent_L23 fu a0 a1 1 q4)
theorem rvX6_spent {a0 : Nat} {a1 : Int32} {x : Hs} {r : Int32 × Hs} (h : X6_spent a0 a1 x = some r) : ∃ fs, x.1 a0 = .inr (5, fs) := vO_bind h
theorem okX6_spent (G : JG) (x : Hs) (a0 : Nat) (a1 : Int32) : ∀ r, X6_spent a0 a1 x = some r → JC G yX6_spent cX6_spent 4 (some .int) (jR 6 0 0) 0 0 [.ref a0, .int a1] x ((some (.int r.1), r.2)) := by
  refine jc_of (own := RX6) (E := (fun r : Int32 × Hs => ((some (.int r.1), r.2) : JR))) (by decide) rfl rfl (Nat.le_of_ble_eq_true rfl) rfl ?_
  unfold X6_spent
  refine j_chk ?_
  refine j_iload_n 1 1 dX6_spent_0 rfl rfl rfl ?_
  refine j_callS_i (As := [.int a1]) (st := []) 4 (okX6_isBit G x a1) kc_X6_isBit kl_X6_134 ks_X6_isBit ⟨rfl, rfl, Nat.le_of_ble_eq_true rfl, Nat.le_of_ble_eq_true rfl⟩ (Nat.le_of_ble_eq_true rfl) ⟨Nat.le_of_ble_eq_true rfl, Nat.le_of_ble_eq_true rfl⟩ rfl dX6_spent_1 rfl rfl ?_
  intro v1
  refine j_if_ne 10 7 dX6_spent_4 (by decide) rfl ?_ ?_
  · refine j_aload_n 11 0 dX6_spent_10 rfl rfl rfl ?_
    refine j_gR 14 kf_X6_18 dX6_spent_11 rfl ?_
    intro v2
    refine j_aload_n 15 0 dX6_spent_14 rfl rfl rfl ?_
    refine j_gR 18 kf_X6_12 dX6_spent_15 rfl ?_
    intro v3
    refine j_callV_v (ci := 0) (As := [.ref v3]) (st := []) 21 (okX0_become G x v2 v3) kc_X0_become kl_X6_197 ki_X0_become kv_X0_become kh_X0 (by decide) (fun _ h => rvX0_become h) ⟨rfl, rfl, Nat.le_of_ble_eq_true rfl, Nat.le_of_ble_eq_true rfl⟩ (Nat.le_of_ble_eq_true rfl) ⟨Nat.le_of_ble_eq_true rfl, Nat.le_of_ble_eq_true rfl⟩ rfl dX6_spent_18 rfl rfl ?_
    intro q4
    refine j_iconst (v := 1) 22 dX6_spent_21 rfl ic_1 ?_
    refine j_istore_n 23 [(2, .int 1), (0, .ref a0), (1, .int a1)] dX6_spent_22 rfl rfl (by decide) rfl ?_
    refine j_sub [1, 2, 0] rfl ?_
    exact okX6_spent_L23 G fu a0 a1 1 q4
  · refine j_bipush (v := -2) 9 dX6_spent_7 rfl bc_m2 ?_
    exact j_iret dX6_spent_9 rfl
-- X6_rises: ('BarSteps', 'rises', '(I)I')
def X6_rises_L39 : Nat → Nat → Int32 → Int32 → Hs → Option (Int32 × Hs)
  | 0, _, _, _, _ => none
  | n + 1, l0, l1, l2, x => (if l1 < l2 then some ((-1), x) else
  (gR x 5 l0 1).bind fun v7 =>
  (X0_greatest v7 x).bind fun v8 =>
  (gR x 5 l0 1).bind fun v9 =>
  (gL x 0 v9 9).bind fun v10 =>
  (gR x 5 l0 1).bind fun v11 =>
  (X0_advance v11 x).bind fun q12 =>
  (if q12.1 = (-2) then (gR q12.2 5 l0 1).bind fun v13 =>
  (X0_isRisenFrom v13 v8 v10 q12.2).bind fun v14 =>
  (if v14 = 0 then X6_rises_L39 n l0 l1 (l2 + 1) q12.2 else
  some (l2, q12.2)) else
  some ((-1), q12.2)))
theorem okX6_rises_L39 (G : JG) : ∀ (n : Nat), ∀ (l0 : Nat) (l1 : Int32) (l2 : Int32) (x : Hs), JM G RX6 cX6_rises 7 (jZ G (some .int) "rises" (jR 6 0 0) 0 0) (fun r : Int32 × Hs => ((some (.int r.1), r.2) : JR)) 39 [(0, .ref l0), (1, .int l1), (2, .int l2)] [] x 0 0 (X6_rises_L39 n l0 l1 l2 x) := by
  intro n
  induction n with
  | zero => intro l0 l1 l2 x; exact j_none
  | succ n ih =>
    intro l0 l1 l2 x
    unfold X6_rises_L39
    refine j_iload_n 40 2 dX6_rises_39 rfl rfl rfl ?_
    refine j_iload_n 41 1 dX6_rises_40 rfl rfl rfl ?_
    refine j_icmp_gt 96 44 dX6_rises_41 (by decide) rfl ?_ ?_
    · refine j_iconst (v := -1) 97 dX6_rises_96 rfl ic_m1 ?_
      exact j_iret dX6_rises_97 rfl
    · refine j_aload_n 45 0 dX6_rises_44 rfl rfl rfl ?_
      refine j_gR 48 kf_X6_18 dX6_rises_45 rfl ?_
      intro v7
      refine j_callV_l (ci := 0) (As := []) (st := []) 51 (okX0_greatest G x v7) kc_X0_greatest kl_X6_204 ki_X0_greatest kv_X0_greatest kh_X0 (by decide) (fun _ h => rvX0_greatest h) ⟨rfl, rfl, Nat.le_of_ble_eq_true rfl, Nat.le_of_ble_eq_true rfl⟩ (Nat.le_of_ble_eq_true rfl) ⟨Nat.le_of_ble_eq_true rfl, Nat.le_of_ble_eq_true rfl⟩ rfl dX6_rises_48 rfl rfl ?_
      intro v8
      refine j_lstore_n 52 [(3, .long v8), (0, .ref l0), (1, .int l1), (2, .int l2)] dX6_rises_51 rfl rfl (by decide) rfl ?_
      refine j_aload_n 53 1 dX6_rises_52 rfl rfl rfl ?_
      refine j_gR 56 kf_X6_18 dX6_rises_53 rfl ?_
      intro v9
      refine j_gL 59 kf_X6_156 dX6_rises_56 rfl ?_
      intro v10
      refine j_lstore 61 [(5, .long v10), (3, .long v8), (0, .ref l0), (1, .int l1), (2, .int l2)] dX6_rises_59 rfl (by decide) rfl ?_
      refine j_aload_n 62 2 dX6_rises_61 rfl rfl rfl ?_
      refine j_gR 65 kf_X6_18 dX6_rises_62 rfl ?_
      intro v11
      refine j_callV_iw (ci := 0) (As := []) (st := []) 68 (okX0_advance G x v11) kc_X0_advance kl_X6_201 ki_X0_advance kv_X0_advance kh_X0 (by decide) (fun _ h => rvX0_advance h) ⟨rfl, rfl, Nat.le_of_ble_eq_true rfl, Nat.le_of_ble_eq_true rfl⟩ (Nat.le_of_ble_eq_true rfl) ⟨Nat.le_of_ble_eq_true rfl, Nat.le_of_ble_eq_true rfl⟩ rfl dX6_rises_65 rfl rfl ?_
      intro q12
      refine j_bipush (v := -2) 70 dX6_rises_68 rfl bc_m2 ?_
      refine j_icmp_eq 75 73 dX6_rises_70 (by decide) rfl ?_ ?_
      · refine j_aload_n 76 2 dX6_rises_75 rfl rfl rfl ?_
        refine j_gR 79 kf_X6_18 dX6_rises_76 rfl ?_
        intro v13
        refine j_lload_n 80 1 dX6_rises_79 rfl rfl rfl ?_
        refine j_lload 82 0 dX6_rises_80 rfl rfl ?_
        refine j_callV_i (ci := 0) (As := [.long v8, .long v10]) (st := []) 85 (okX0_isRisenFrom G q12.2 v13 v8 v10) kc_X0_isRisenFrom kl_X6_208 ki_X0_isRisenFrom kv_X0_isRisenFrom kh_X0 (by decide) (fun _ h => rvX0_isRisenFrom h) ⟨rfl, rfl, Nat.le_of_ble_eq_true rfl, Nat.le_of_ble_eq_true rfl⟩ (Nat.le_of_ble_eq_true rfl) ⟨Nat.le_of_ble_eq_true rfl, Nat.le_of_ble_eq_true rfl⟩ rfl dX6_rises_82 rfl rfl ?_
        intro v14
        refine j_if_eq 90 88 dX6_rises_85 (by decide) rfl ?_ ?_
        · refine j_iinc 93 4 [(2, .int (l2 + 1)), (5, .long v10), (3, .long v8), (0, .ref l0), (1, .int l1)] dX6_rises_90 rfl rfl (ii_1 _) (by decide) rfl ?_
          refine j_goto 39 dX6_rises_93 (by decide) ?_
          refine j_sub [3, 4, 0] rfl ?_
          exact ih l0 l1 (l2 + 1) q12.2
        · refine j_iload_n 89 4 dX6_rises_88 rfl rfl rfl ?_
          exact j_iret dX6_rises_89 rfl
      · refine j_iconst (v := -1) 74 dX6_rises_73 rfl ic_m1 ?_
        exact j_iret dX6_rises_74 rfl
def X6_rises (a0 : Nat) (a1 : Int32) (x : Hs) : Option (Int32 × Hs) := (vO x 5 a0).bind fun _ =>
  (X6_between a1 1 40).bind fun v1 =>
  (if v1 = 0 then some ((-2), x) else
  (gR x 5 a0 0).bind fun v2 =>
  (gI x 0 v2 0).bind fun v3 =>
  (if v3 = 0 then some ((-3), x) else
  (gR x 5 a0 1).bind fun v4 =>
  (gR x 5 a0 0).bind fun v5 =>
  (X0_become v4 v5 x).bind fun q6 =>
  X6_rises_L39 fu a0 a1 1 q6))
theorem rvX6_rises {a0 : Nat} {a1 : Int32} {x : Hs} {r : Int32 × Hs} (h : X6_rises a0 a1 x = some r) : ∃ fs, x.1 a0 = .inr (5, fs) := vO_bind h
theorem okX6_rises (G : JG) (x : Hs) (a0 : Nat) (a1 : Int32) : ∀ r, X6_rises a0 a1 x = some r → JC G yX6_rises cX6_rises 7 (some .int) (jR 6 0 0) 0 0 [.ref a0, .int a1] x ((some (.int r.1), r.2)) := by
  refine jc_of (own := RX6) (E := (fun r : Int32 × Hs => ((some (.int r.1), r.2) : JR))) (by decide) rfl rfl (Nat.le_of_ble_eq_true rfl) rfl ?_
  unfold X6_rises
  refine j_chk ?_
  refine j_iload_n 1 1 dX6_rises_0 rfl rfl rfl ?_
  refine j_iconst (v := 1) 2 dX6_rises_1 rfl ic_1 ?_
  refine j_bipush (v := 40) 4 dX6_rises_2 rfl bc_40 ?_
  refine j_callS_i (As := [.int a1, .int 1, .int 40]) (st := []) 7 (okX6_between G x a1 1 40) kc_X6_between kl_X6_137 ks_X6_between ⟨rfl, rfl, Nat.le_of_ble_eq_true rfl, Nat.le_of_ble_eq_true rfl⟩ (Nat.le_of_ble_eq_true rfl) ⟨Nat.le_of_ble_eq_true rfl, Nat.le_of_ble_eq_true rfl⟩ rfl dX6_rises_4 rfl rfl ?_
  intro v1
  refine j_if_ne 13 10 dX6_rises_7 (by decide) rfl ?_ ?_
  · refine j_aload_n 14 0 dX6_rises_13 rfl rfl rfl ?_
    refine j_gR 17 kf_X6_12 dX6_rises_14 rfl ?_
    intro v2
    refine j_gI 20 kf_X6_70 dX6_rises_17 rfl ?_
    intro v3
    refine j_if_ne 26 23 dX6_rises_20 (by decide) rfl ?_ ?_
    · refine j_aload_n 27 0 dX6_rises_26 rfl rfl rfl ?_
      refine j_gR 30 kf_X6_18 dX6_rises_27 rfl ?_
      intro v4
      refine j_aload_n 31 0 dX6_rises_30 rfl rfl rfl ?_
      refine j_gR 34 kf_X6_12 dX6_rises_31 rfl ?_
      intro v5
      refine j_callV_v (ci := 0) (As := [.ref v5]) (st := []) 37 (okX0_become G x v4 v5) kc_X0_become kl_X6_197 ki_X0_become kv_X0_become kh_X0 (by decide) (fun _ h => rvX0_become h) ⟨rfl, rfl, Nat.le_of_ble_eq_true rfl, Nat.le_of_ble_eq_true rfl⟩ (Nat.le_of_ble_eq_true rfl) ⟨Nat.le_of_ble_eq_true rfl, Nat.le_of_ble_eq_true rfl⟩ rfl dX6_rises_34 rfl rfl ?_
      intro q6
      refine j_iconst (v := 1) 38 dX6_rises_37 rfl ic_1 ?_
      refine j_istore_n 39 [(2, .int 1), (0, .ref a0), (1, .int a1)] dX6_rises_38 rfl rfl (by decide) rfl ?_
      refine j_sub [1, 2, 0] rfl ?_
      exact okX6_rises_L39 G fu a0 a1 1 q6
    · refine j_bipush (v := -3) 25 dX6_rises_23 rfl bc_m3 ?_
      exact j_iret dX6_rises_25 rfl
  · refine j_bipush (v := -2) 12 dX6_rises_10 rfl bc_m2 ?_
    exact j_iret dX6_rises_12 rfl
-- X6_calm: ('BarSteps', 'calm', '(I)I')
def X6_calm_L36 : Nat → Nat → Int32 → Int32 → Hs → Option (Int32 × Hs)
  | 0, _, _, _, _ => none
  | n + 1, l0, l1, l2, x => (if 40 < l2 then some ((-1), x) else
  (gR x 5 l0 1).bind fun v7 =>
  (X0_greatest v7 x).bind fun v8 =>
  (gR x 5 l0 1).bind fun v9 =>
  (X0_least v9 x).bind fun v10 =>
  (gR x 5 l0 1).bind fun v11 =>
  (gL x 0 v11 9).bind fun v12 =>
  (if ((Int32.toInt64 l1) * v12) < (v8 - v10) then (gR x 5 l0 1).bind fun v13 =>
  (X0_advance v13 x).bind fun q14 =>
  (if q14.1 = (-2) then X6_calm_L36 n l0 l1 (l2 + 1) q14.2 else
  some ((-1), q14.2)) else
  some (l2, x)))
theorem okX6_calm_L36 (G : JG) : ∀ (n : Nat), ∀ (l0 : Nat) (l1 : Int32) (l2 : Int32) (x : Hs), JM G RX6 cX6_calm 3 (jZ G (some .int) "calm" (jR 6 0 0) 0 0) (fun r : Int32 × Hs => ((some (.int r.1), r.2) : JR)) 36 [(0, .ref l0), (1, .int l1), (2, .int l2)] [] x 0 0 (X6_calm_L36 n l0 l1 l2 x) := by
  intro n
  induction n with
  | zero => intro l0 l1 l2 x; exact j_none
  | succ n ih =>
    intro l0 l1 l2 x
    unfold X6_calm_L36
    refine j_iload_n 37 2 dX6_calm_36 rfl rfl rfl ?_
    refine j_bipush (v := 40) 39 dX6_calm_37 rfl bc_40 ?_
    refine j_icmp_gt 93 42 dX6_calm_39 (by decide) rfl ?_ ?_
    · refine j_iconst (v := -1) 94 dX6_calm_93 rfl ic_m1 ?_
      exact j_iret dX6_calm_94 rfl
    · refine j_aload_n 43 0 dX6_calm_42 rfl rfl rfl ?_
      refine j_gR 46 kf_X6_18 dX6_calm_43 rfl ?_
      intro v7
      refine j_callV_l (ci := 0) (As := []) (st := []) 49 (okX0_greatest G x v7) kc_X0_greatest kl_X6_204 ki_X0_greatest kv_X0_greatest kh_X0 (by decide) (fun _ h => rvX0_greatest h) ⟨rfl, rfl, Nat.le_of_ble_eq_true rfl, Nat.le_of_ble_eq_true rfl⟩ (Nat.le_of_ble_eq_true rfl) ⟨Nat.le_of_ble_eq_true rfl, Nat.le_of_ble_eq_true rfl⟩ rfl dX6_calm_46 rfl rfl ?_
      intro v8
      refine j_aload_n 50 0 dX6_calm_49 rfl rfl rfl ?_
      refine j_gR 53 kf_X6_18 dX6_calm_50 rfl ?_
      intro v9
      refine j_callV_l (ci := 0) (As := []) (st := [.long v8]) 56 (okX0_least G x v9) kc_X0_least kl_X6_212 ki_X0_least kv_X0_least kh_X0 (by decide) (fun _ h => rvX0_least h) ⟨rfl, rfl, Nat.le_of_ble_eq_true rfl, Nat.le_of_ble_eq_true rfl⟩ (Nat.le_of_ble_eq_true rfl) ⟨Nat.le_of_ble_eq_true rfl, Nat.le_of_ble_eq_true rfl⟩ rfl dX6_calm_53 rfl rfl ?_
      intro v10
      refine j_lsub 57 dX6_calm_56 rfl ?_
      refine j_iload_n 58 1 dX6_calm_57 rfl rfl rfl ?_
      refine j_i2l 59 dX6_calm_58 rfl ?_
      refine j_aload_n 60 0 dX6_calm_59 rfl rfl rfl ?_
      refine j_gR 63 kf_X6_18 dX6_calm_60 rfl ?_
      intro v11
      refine j_gL 66 kf_X6_156 dX6_calm_63 rfl ?_
      intro v12
      refine j_lmul 67 dX6_calm_66 rfl ?_
      refine j_lcmp_gt 68 73 71 dX6_calm_67 rfl dX6_calm_68 (by decide) rfl ?_ ?_
      · refine j_aload_n 74 0 dX6_calm_73 rfl rfl rfl ?_
        refine j_gR 77 kf_X6_18 dX6_calm_74 rfl ?_
        intro v13
        refine j_callV_iw (ci := 0) (As := []) (st := []) 80 (okX0_advance G x v13) kc_X0_advance kl_X6_201 ki_X0_advance kv_X0_advance kh_X0 (by decide) (fun _ h => rvX0_advance h) ⟨rfl, rfl, Nat.le_of_ble_eq_true rfl, Nat.le_of_ble_eq_true rfl⟩ (Nat.le_of_ble_eq_true rfl) ⟨Nat.le_of_ble_eq_true rfl, Nat.le_of_ble_eq_true rfl⟩ rfl dX6_calm_77 rfl rfl ?_
        intro q14
        refine j_bipush (v := -2) 82 dX6_calm_80 rfl bc_m2 ?_
        refine j_icmp_eq 87 85 dX6_calm_82 (by decide) rfl ?_ ?_
        · refine j_iinc 90 2 [(2, .int (l2 + 1)), (0, .ref l0), (1, .int l1)] dX6_calm_87 rfl rfl (ii_1 _) (by decide) rfl ?_
          refine j_goto 36 dX6_calm_90 (by decide) ?_
          refine j_sub [1, 2, 0] rfl ?_
          exact ih l0 l1 (l2 + 1) q14.2
        · refine j_iconst (v := -1) 86 dX6_calm_85 rfl ic_m1 ?_
          exact j_iret dX6_calm_86 rfl
      · refine j_iload_n 72 2 dX6_calm_71 rfl rfl rfl ?_
        exact j_iret dX6_calm_72 rfl
def X6_calm (a0 : Nat) (a1 : Int32) (x : Hs) : Option (Int32 × Hs) := (vO x 5 a0).bind fun _ =>
  (X6_isHeat a1).bind fun v1 =>
  (if v1 = 0 then some ((-2), x) else
  (gR x 5 a0 0).bind fun v2 =>
  (gI x 0 v2 0).bind fun v3 =>
  (if v3 = 0 then some ((-3), x) else
  (gR x 5 a0 1).bind fun v4 =>
  (gR x 5 a0 0).bind fun v5 =>
  (X0_become v4 v5 x).bind fun q6 =>
  X6_calm_L36 fu a0 a1 0 q6))
theorem rvX6_calm {a0 : Nat} {a1 : Int32} {x : Hs} {r : Int32 × Hs} (h : X6_calm a0 a1 x = some r) : ∃ fs, x.1 a0 = .inr (5, fs) := vO_bind h
theorem okX6_calm (G : JG) (x : Hs) (a0 : Nat) (a1 : Int32) : ∀ r, X6_calm a0 a1 x = some r → JC G yX6_calm cX6_calm 3 (some .int) (jR 6 0 0) 0 0 [.ref a0, .int a1] x ((some (.int r.1), r.2)) := by
  refine jc_of (own := RX6) (E := (fun r : Int32 × Hs => ((some (.int r.1), r.2) : JR))) (by decide) rfl rfl (Nat.le_of_ble_eq_true rfl) rfl ?_
  unfold X6_calm
  refine j_chk ?_
  refine j_iload_n 1 1 dX6_calm_0 rfl rfl rfl ?_
  refine j_callS_i (As := [.int a1]) (st := []) 4 (okX6_isHeat G x a1) kc_X6_isHeat kl_X6_63 ks_X6_isHeat ⟨rfl, rfl, Nat.le_of_ble_eq_true rfl, Nat.le_of_ble_eq_true rfl⟩ (Nat.le_of_ble_eq_true rfl) ⟨Nat.le_of_ble_eq_true rfl, Nat.le_of_ble_eq_true rfl⟩ rfl dX6_calm_1 rfl rfl ?_
  intro v1
  refine j_if_ne 10 7 dX6_calm_4 (by decide) rfl ?_ ?_
  · refine j_aload_n 11 0 dX6_calm_10 rfl rfl rfl ?_
    refine j_gR 14 kf_X6_12 dX6_calm_11 rfl ?_
    intro v2
    refine j_gI 17 kf_X6_70 dX6_calm_14 rfl ?_
    intro v3
    refine j_if_ne 23 20 dX6_calm_17 (by decide) rfl ?_ ?_
    · refine j_aload_n 24 0 dX6_calm_23 rfl rfl rfl ?_
      refine j_gR 27 kf_X6_18 dX6_calm_24 rfl ?_
      intro v4
      refine j_aload_n 28 0 dX6_calm_27 rfl rfl rfl ?_
      refine j_gR 31 kf_X6_12 dX6_calm_28 rfl ?_
      intro v5
      refine j_callV_v (ci := 0) (As := [.ref v5]) (st := []) 34 (okX0_become G x v4 v5) kc_X0_become kl_X6_197 ki_X0_become kv_X0_become kh_X0 (by decide) (fun _ h => rvX0_become h) ⟨rfl, rfl, Nat.le_of_ble_eq_true rfl, Nat.le_of_ble_eq_true rfl⟩ (Nat.le_of_ble_eq_true rfl) ⟨Nat.le_of_ble_eq_true rfl, Nat.le_of_ble_eq_true rfl⟩ rfl dX6_calm_31 rfl rfl ?_
      intro q6
      refine j_iconst (v := 0) 35 dX6_calm_34 rfl ic_0 ?_
      refine j_istore_n 36 [(2, .int 0), (0, .ref a0), (1, .int a1)] dX6_calm_35 rfl rfl (by decide) rfl ?_
      refine j_sub [1, 2, 0] rfl ?_
      exact okX6_calm_L36 G fu a0 a1 0 q6
    · refine j_bipush (v := -3) 22 dX6_calm_20 rfl bc_m3 ?_
      exact j_iret dX6_calm_22 rfl
  · refine j_bipush (v := -2) 9 dX6_calm_7 rfl bc_m2 ?_
    exact j_iret dX6_calm_9 rfl
-- X6_pulse: ('BarSteps', 'pulse', '(III)I')
def X6_pulse_J37 (l0 : Nat) (l1 : Int32) (l2 : Int32) (l3 : Int32) (s0 : Int32) (x : Hs) : Option (Int32 × Hs) := (if s0 = 0 then some ((-2), x) else
  (gR x 5 l0 0).bind fun v3 =>
  (gR x 0 v3 13).bind fun v4 =>
  (X2_append v4 l1 l2 l3 x).bind fun q5 =>
  some (q5.1, q5.2))
theorem okX6_pulse_J37 (G : JG) : ∀ (l0 : Nat) (l1 : Int32) (l2 : Int32) (l3 : Int32) (s0 : Int32) (x : Hs), JM G RX6 cX6_pulse 5 (jZ G (some .int) "pulse" (jR 2 0 0) 0 0) (fun r : Int32 × Hs => ((some (.int r.1), r.2) : JR)) 37 [(0, .ref l0), (1, .int l1), (2, .int l2), (3, .int l3)] [.int s0] x 0 0 (X6_pulse_J37 l0 l1 l2 l3 s0 x) := by
  intro l0 l1 l2 l3 s0 x
  unfold X6_pulse_J37
  refine j_istore 39 [(4, .int s0), (0, .ref l0), (1, .int l1), (2, .int l2), (3, .int l3)] dX6_pulse_37 rfl (by decide) rfl ?_
  refine j_iload 41 0 dX6_pulse_39 rfl rfl ?_
  refine j_if_eq 60 44 dX6_pulse_41 (by decide) rfl ?_ ?_
  · refine j_bipush (v := -2) 62 dX6_pulse_60 rfl bc_m2 ?_
    exact j_iret dX6_pulse_62 rfl
  · refine j_aload_n 45 1 dX6_pulse_44 rfl rfl rfl ?_
    refine j_gR 48 kf_X6_12 dX6_pulse_45 rfl ?_
    intro v3
    refine j_gR 51 kf_X6_215 dX6_pulse_48 rfl ?_
    intro v4
    refine j_iload_n 52 2 dX6_pulse_51 rfl rfl rfl ?_
    refine j_iload_n 53 3 dX6_pulse_52 rfl rfl rfl ?_
    refine j_iload_n 54 4 dX6_pulse_53 rfl rfl rfl ?_
    refine j_callV_iw (ci := 1) (As := [.int l1, .int l2, .int l3]) (st := []) 57 (okX2_append G x v4 l1 l2 l3) kc_X2_append kl_X6_219 ki_X2_append kv_X2_append kh_X2 (by decide) (fun _ h => rvX2_append h) ⟨rfl, rfl, Nat.le_of_ble_eq_true rfl, Nat.le_of_ble_eq_true rfl⟩ (Nat.le_of_ble_eq_true rfl) ⟨Nat.le_of_ble_eq_true rfl, Nat.le_of_ble_eq_true rfl⟩ rfl dX6_pulse_54 rfl rfl ?_
    intro q5
    refine j_goto 62 dX6_pulse_57 (by decide) ?_
    exact j_iret dX6_pulse_62 rfl
def X6_pulse (a0 : Nat) (a1 : Int32) (a2 : Int32) (a3 : Int32) (x : Hs) : Option (Int32 × Hs) := (vO x 5 a0).bind fun _ =>
  (gR x 5 a0 0).bind fun v1 =>
  (X0_has v1 a1 x).bind fun v2 =>
  (if v2 = 0 then X6_pulse_J37 a0 a1 a2 a3 0 x else
  (X6_between a2 1 20).bind fun v6 =>
  (if v6 = 0 then X6_pulse_J37 a0 a1 a2 a3 0 x else
  (X6_between a3 (-99) 99).bind fun v7 =>
  (if v7 = 0 then X6_pulse_J37 a0 a1 a2 a3 0 x else
  X6_pulse_J37 a0 a1 a2 a3 1 x)))
theorem rvX6_pulse {a0 : Nat} {a1 : Int32} {a2 : Int32} {a3 : Int32} {x : Hs} {r : Int32 × Hs} (h : X6_pulse a0 a1 a2 a3 x = some r) : ∃ fs, x.1 a0 = .inr (5, fs) := vO_bind h
theorem okX6_pulse (G : JG) (x : Hs) (a0 : Nat) (a1 : Int32) (a2 : Int32) (a3 : Int32) : ∀ r, X6_pulse a0 a1 a2 a3 x = some r → JC G yX6_pulse cX6_pulse 5 (some .int) (jR 2 0 0) 0 0 [.ref a0, .int a1, .int a2, .int a3] x ((some (.int r.1), r.2)) := by
  refine jc_of (own := RX6) (E := (fun r : Int32 × Hs => ((some (.int r.1), r.2) : JR))) (by decide) rfl rfl (Nat.le_of_ble_eq_true rfl) rfl ?_
  unfold X6_pulse
  refine j_chk ?_
  refine j_aload_n 1 0 dX6_pulse_0 rfl rfl rfl ?_
  refine j_gR 4 kf_X6_12 dX6_pulse_1 rfl ?_
  intro v1
  refine j_iload_n 5 1 dX6_pulse_4 rfl rfl rfl ?_
  refine j_callV_i (ci := 0) (As := [.int a1]) (st := []) 8 (okX0_has G x v1 a1) kc_X0_has kl_X6_77 ki_X0_has kv_X0_has kh_X0 (by decide) (fun _ h => rvX0_has h) ⟨rfl, rfl, Nat.le_of_ble_eq_true rfl, Nat.le_of_ble_eq_true rfl⟩ (Nat.le_of_ble_eq_true rfl) ⟨Nat.le_of_ble_eq_true rfl, Nat.le_of_ble_eq_true rfl⟩ rfl dX6_pulse_5 rfl rfl ?_
  intro v2
  refine j_if_eq 36 11 dX6_pulse_8 (by decide) rfl ?_ ?_
  · refine j_iconst (v := 0) 37 dX6_pulse_36 rfl ic_0 ?_
    exact okX6_pulse_J37 G a0 a1 a2 a3 0 x
  · refine j_iload_n 12 2 dX6_pulse_11 rfl rfl rfl ?_
    refine j_iconst (v := 1) 13 dX6_pulse_12 rfl ic_1 ?_
    refine j_bipush (v := 20) 15 dX6_pulse_13 rfl bc_20 ?_
    refine j_callS_i (As := [.int a2, .int 1, .int 20]) (st := []) 18 (okX6_between G x a2 1 20) kc_X6_between kl_X6_137 ks_X6_between ⟨rfl, rfl, Nat.le_of_ble_eq_true rfl, Nat.le_of_ble_eq_true rfl⟩ (Nat.le_of_ble_eq_true rfl) ⟨Nat.le_of_ble_eq_true rfl, Nat.le_of_ble_eq_true rfl⟩ rfl dX6_pulse_15 rfl rfl ?_
    intro v6
    refine j_if_eq 36 21 dX6_pulse_18 (by decide) rfl ?_ ?_
    · refine j_iconst (v := 0) 37 dX6_pulse_36 rfl ic_0 ?_
      exact okX6_pulse_J37 G a0 a1 a2 a3 0 x
    · refine j_iload_n 22 3 dX6_pulse_21 rfl rfl rfl ?_
      refine j_bipush (v := -99) 24 dX6_pulse_22 rfl bc_m99 ?_
      refine j_bipush (v := 99) 26 dX6_pulse_24 rfl bc_99 ?_
      refine j_callS_i (As := [.int a3, .int (-99), .int 99]) (st := []) 29 (okX6_between G x a3 (-99) 99) kc_X6_between kl_X6_137 ks_X6_between ⟨rfl, rfl, Nat.le_of_ble_eq_true rfl, Nat.le_of_ble_eq_true rfl⟩ (Nat.le_of_ble_eq_true rfl) ⟨Nat.le_of_ble_eq_true rfl, Nat.le_of_ble_eq_true rfl⟩ rfl dX6_pulse_26 rfl rfl ?_
      intro v7
      refine j_if_eq 36 32 dX6_pulse_29 (by decide) rfl ?_ ?_
      · refine j_iconst (v := 0) 37 dX6_pulse_36 rfl ic_0 ?_
        exact okX6_pulse_J37 G a0 a1 a2 a3 0 x
      · refine j_iconst (v := 1) 33 dX6_pulse_32 rfl ic_1 ?_
        refine j_goto 37 dX6_pulse_33 (by decide) ?_
        exact okX6_pulse_J37 G a0 a1 a2 a3 1 x
-- X6_pulseOf: ('BarSteps', 'pulseOf', '(II)I')
def X6_pulseOf (a0 : Nat) (a1 : Int32) (a2 : Int32) (x : Hs) : Option (Int32) := (vO x 5 a0).bind fun _ =>
  (if a1 < 0 then some (-1000) else
  (gR x 5 a0 0).bind fun v1 =>
  (gR x 0 v1 13).bind fun v2 =>
  (gI x 1 v2 3).bind fun v3 =>
  (if a1 < v3 then (if a2 = 0 then (gR x 5 a0 0).bind fun v4 =>
  (gR x 0 v4 13).bind fun v5 =>
  (gR x 1 v5 0).bind fun v6 =>
  (aI x v6 a1).bind fun v7 =>
  some v7 else
  (if a2 = 1 then (gR x 5 a0 0).bind fun v9 =>
  (gR x 0 v9 13).bind fun v10 =>
  (gR x 1 v10 1).bind fun v11 =>
  (aI x v11 a1).bind fun v12 =>
  some v12 else
  (if a2 = 2 then (gR x 5 a0 0).bind fun v14 =>
  (gR x 0 v14 13).bind fun v15 =>
  (gR x 1 v15 2).bind fun v16 =>
  (aI x v16 a1).bind fun v17 =>
  some v17 else
  some (-1000)))) else
  some (-1000)))
theorem rvX6_pulseOf {a0 : Nat} {a1 : Int32} {a2 : Int32} {x : Hs} {r : Int32} (h : X6_pulseOf a0 a1 a2 x = some r) : ∃ fs, x.1 a0 = .inr (5, fs) := vO_bind h
theorem okX6_pulseOf (G : JG) (x : Hs) (a0 : Nat) (a1 : Int32) (a2 : Int32) : ∀ r, X6_pulseOf a0 a1 a2 x = some r → JC G yX6_pulseOf cX6_pulseOf 3 (some .int) (jR 1 0 0) 0 0 [.ref a0, .int a1, .int a2] x ((some (.int r), x)) := by
  refine jc_of (own := RX6) (E := (fun r : Int32 => ((some (.int r), x) : JR))) (by decide) rfl rfl (Nat.le_of_ble_eq_true rfl) rfl ?_
  unfold X6_pulseOf
  refine j_chk ?_
  refine j_iload_n 1 1 dX6_pulseOf_0 rfl rfl rfl ?_
  refine j_if_lt 18 4 dX6_pulseOf_1 (by decide) rfl ?_ ?_
  · refine j_sipush (v := -1000) 21 dX6_pulseOf_18 rfl sc_m1000 ?_
    exact j_iret dX6_pulseOf_21 rfl
  · refine j_iload_n 5 1 dX6_pulseOf_4 rfl rfl rfl ?_
    refine j_aload_n 6 0 dX6_pulseOf_5 rfl rfl rfl ?_
    refine j_gR 9 kf_X6_12 dX6_pulseOf_6 rfl ?_
    intro v1
    refine j_gR 12 kf_X6_215 dX6_pulseOf_9 rfl ?_
    intro v2
    refine j_gI 15 kf_X6_224 dX6_pulseOf_12 rfl ?_
    intro v3
    refine j_icmp_lt 22 18 dX6_pulseOf_15 (by decide) rfl ?_ ?_
    · refine j_iload_n 23 2 dX6_pulseOf_22 rfl rfl rfl ?_
      refine j_ite (fun h8 => ?_) (fun h8 => ?_)
      · refine j_tinE (w := 0) 48 dX6_pulseOf_23 h8 (by decide) (by decide) rfl (by decide) ?_
        refine j_aload_n 49 0 dX6_pulseOf_48 rfl rfl rfl ?_
        refine j_gR 52 kf_X6_12 dX6_pulseOf_49 rfl ?_
        intro v4
        refine j_gR 55 kf_X6_215 dX6_pulseOf_52 rfl ?_
        intro v5
        refine j_gR 58 kf_X6_227 dX6_pulseOf_55 rfl ?_
        intro v6
        refine j_iload_n 59 1 dX6_pulseOf_58 rfl rfl rfl ?_
        refine j_aI 60 dX6_pulseOf_59 rfl ?_
        intro v7
        exact j_iret dX6_pulseOf_60 rfl
      refine j_ite (fun h13 => ?_) (fun h13 => ?_)
      · refine j_tinE (w := 1) 61 dX6_pulseOf_23 h13 (by decide) (by decide) rfl (by decide) ?_
        refine j_aload_n 62 0 dX6_pulseOf_61 rfl rfl rfl ?_
        refine j_gR 65 kf_X6_12 dX6_pulseOf_62 rfl ?_
        intro v9
        refine j_gR 68 kf_X6_215 dX6_pulseOf_65 rfl ?_
        intro v10
        refine j_gR 71 kf_X6_230 dX6_pulseOf_68 rfl ?_
        intro v11
        refine j_iload_n 72 1 dX6_pulseOf_71 rfl rfl rfl ?_
        refine j_aI 73 dX6_pulseOf_72 rfl ?_
        intro v12
        exact j_iret dX6_pulseOf_73 rfl
      refine j_ite (fun h18 => ?_) (fun h18 => ?_)
      · refine j_tinE (w := 2) 74 dX6_pulseOf_23 h18 (by decide) (by decide) rfl (by decide) ?_
        refine j_aload_n 75 0 dX6_pulseOf_74 rfl rfl rfl ?_
        refine j_gR 78 kf_X6_12 dX6_pulseOf_75 rfl ?_
        intro v14
        refine j_gR 81 kf_X6_215 dX6_pulseOf_78 rfl ?_
        intro v15
        refine j_gR 84 kf_X6_233 dX6_pulseOf_81 rfl ?_
        intro v16
        refine j_iload_n 85 1 dX6_pulseOf_84 rfl rfl rfl ?_
        refine j_aI 86 dX6_pulseOf_85 rfl ?_
        intro v17
        exact j_iret dX6_pulseOf_86 rfl
      have h8n := sw_ne h8
      have h13n := sw_ne h13
      have h18n := sw_ne h18
      have h8m : (Int32.toInt 0) = 0 := by decide
      have h13m : (Int32.toInt 1) = 1 := by decide
      have h18m : (Int32.toInt 2) = 2 := by decide
      refine j_tout 87 dX6_pulseOf_23 (by omega) (by decide) ?_
      refine j_sipush (v := -1000) 90 dX6_pulseOf_87 rfl sc_m1000 ?_
      exact j_iret dX6_pulseOf_90 rfl
    · refine j_sipush (v := -1000) 21 dX6_pulseOf_18 rfl sc_m1000 ?_
      exact j_iret dX6_pulseOf_21 rfl
-- X6_hush: ('BarSteps', 'hush', '(I)I')
def X6_hush (a0 : Nat) (a1 : Int32) (x : Hs) : Option (Int32 × Hs) := (vO x 5 a0).bind fun _ =>
  (gR x 5 a0 0).bind fun v1 =>
  (X0_has v1 a1 x).bind fun v2 =>
  (if v2 = 0 then some ((-2), x) else
  (gR x 5 a0 0).bind fun v3 =>
  (gR x 0 v3 13).bind fun v4 =>
  (X2_removeOf v4 a1 x).bind fun q5 =>
  some (q5.1, q5.2))
theorem rvX6_hush {a0 : Nat} {a1 : Int32} {x : Hs} {r : Int32 × Hs} (h : X6_hush a0 a1 x = some r) : ∃ fs, x.1 a0 = .inr (5, fs) := vO_bind h
theorem okX6_hush (G : JG) (x : Hs) (a0 : Nat) (a1 : Int32) : ∀ r, X6_hush a0 a1 x = some r → JC G yX6_hush cX6_hush 2 (some .int) (jR 3 0 0) 0 0 [.ref a0, .int a1] x ((some (.int r.1), r.2)) := by
  refine jc_of (own := RX6) (E := (fun r : Int32 × Hs => ((some (.int r.1), r.2) : JR))) (by decide) rfl rfl (Nat.le_of_ble_eq_true rfl) rfl ?_
  unfold X6_hush
  refine j_chk ?_
  refine j_aload_n 1 0 dX6_hush_0 rfl rfl rfl ?_
  refine j_gR 4 kf_X6_12 dX6_hush_1 rfl ?_
  intro v1
  refine j_iload_n 5 1 dX6_hush_4 rfl rfl rfl ?_
  refine j_callV_i (ci := 0) (As := [.int a1]) (st := []) 8 (okX0_has G x v1 a1) kc_X0_has kl_X6_77 ki_X0_has kv_X0_has kh_X0 (by decide) (fun _ h => rvX0_has h) ⟨rfl, rfl, Nat.le_of_ble_eq_true rfl, Nat.le_of_ble_eq_true rfl⟩ (Nat.le_of_ble_eq_true rfl) ⟨Nat.le_of_ble_eq_true rfl, Nat.le_of_ble_eq_true rfl⟩ rfl dX6_hush_5 rfl rfl ?_
  intro v2
  refine j_if_eq 25 11 dX6_hush_8 (by decide) rfl ?_ ?_
  · refine j_bipush (v := -2) 27 dX6_hush_25 rfl bc_m2 ?_
    exact j_iret dX6_hush_27 rfl
  · refine j_aload_n 12 0 dX6_hush_11 rfl rfl rfl ?_
    refine j_gR 15 kf_X6_12 dX6_hush_12 rfl ?_
    intro v3
    refine j_gR 18 kf_X6_215 dX6_hush_15 rfl ?_
    intro v4
    refine j_iload_n 19 1 dX6_hush_18 rfl rfl rfl ?_
    refine j_callV_iw (ci := 1) (As := [.int a1]) (st := []) 22 (okX2_removeOf G x v4 a1) kc_X2_removeOf kl_X6_236 ki_X2_removeOf kv_X2_removeOf kh_X2 (by decide) (fun _ h => rvX2_removeOf h) ⟨rfl, rfl, Nat.le_of_ble_eq_true rfl, Nat.le_of_ble_eq_true rfl⟩ (Nat.le_of_ble_eq_true rfl) ⟨Nat.le_of_ble_eq_true rfl, Nat.le_of_ble_eq_true rfl⟩ rfl dX6_hush_19 rfl rfl ?_
    intro q5
    refine j_goto 27 dX6_hush_22 (by decide) ?_
    exact j_iret dX6_hush_27 rfl
-- X6_steady: ('BarSteps', 'steady', '(II)J')
def X6_steady (a0 : Nat) (a1 : Int32) (a2 : Int32) (x : Hs) : Option (Int64 × Hs) := (vO x 5 a0).bind fun _ =>
  (gR x 5 a0 0).bind fun v1 =>
  (X0_has v1 a1 x).bind fun v2 =>
  (if v2 = 0 then some ((-9223372036854775808), x) else
  (X6_isBit a2).bind fun v3 =>
  (if v3 = 0 then some ((-9223372036854775808), x) else
  (gR x 5 a0 0).bind fun v4 =>
  (X0_canRest v4 x).bind fun v5 =>
  (if v5 = 0 then some ((-9223372036854775808), x) else
  (gR x 5 a0 3).bind fun v6 =>
  (gR x 5 a0 0).bind fun v7 =>
  (X4_solve v6 v7 x).bind fun q8 =>
  (gR q8 5 a0 3).bind fun v9 =>
  (gR q8 3 v9 0).bind fun v10 =>
  (aL q8 v10 a1).bind fun v11 =>
  (gR q8 5 a0 3).bind fun v12 =>
  (gL q8 3 v12 1).bind fun v13 =>
  (X6_partOf v11 v13 a2).bind fun v14 =>
  some (v14, q8))))
theorem rvX6_steady {a0 : Nat} {a1 : Int32} {a2 : Int32} {x : Hs} {r : Int64 × Hs} (h : X6_steady a0 a1 a2 x = some r) : ∃ fs, x.1 a0 = .inr (5, fs) := vO_bind h
theorem okX6_steady (G : JG) (x : Hs) (a0 : Nat) (a1 : Int32) (a2 : Int32) : ∀ r, X6_steady a0 a1 a2 x = some r → JC G yX6_steady cX6_steady 3 (some .long) (jR 6 0 0) 0 0 [.ref a0, .int a1, .int a2] x ((some (.long r.1), r.2)) := by
  refine jc_of (own := RX6) (E := (fun r : Int64 × Hs => ((some (.long r.1), r.2) : JR))) (by decide) rfl rfl (Nat.le_of_ble_eq_true rfl) rfl ?_
  unfold X6_steady
  refine j_chk ?_
  refine j_aload_n 1 0 dX6_steady_0 rfl rfl rfl ?_
  refine j_gR 4 kf_X6_12 dX6_steady_1 rfl ?_
  intro v1
  refine j_iload_n 5 1 dX6_steady_4 rfl rfl rfl ?_
  refine j_callV_i (ci := 0) (As := [.int a1]) (st := []) 8 (okX0_has G x v1 a1) kc_X0_has kl_X6_77 ki_X0_has kv_X0_has kh_X0 (by decide) (fun _ h => rvX0_has h) ⟨rfl, rfl, Nat.le_of_ble_eq_true rfl, Nat.le_of_ble_eq_true rfl⟩ (Nat.le_of_ble_eq_true rfl) ⟨Nat.le_of_ble_eq_true rfl, Nat.le_of_ble_eq_true rfl⟩ rfl dX6_steady_5 rfl rfl ?_
  intro v2
  refine j_if_eq 28 11 dX6_steady_8 (by decide) rfl ?_ ?_
  · refine j_ldc2 31 kk_X6_150 dX6_steady_28 rfl ?_
    exact j_lret dX6_steady_31 rfl
  · refine j_iload_n 12 2 dX6_steady_11 rfl rfl rfl ?_
    refine j_callS_i (As := [.int a2]) (st := []) 15 (okX6_isBit G x a2) kc_X6_isBit kl_X6_134 ks_X6_isBit ⟨rfl, rfl, Nat.le_of_ble_eq_true rfl, Nat.le_of_ble_eq_true rfl⟩ (Nat.le_of_ble_eq_true rfl) ⟨Nat.le_of_ble_eq_true rfl, Nat.le_of_ble_eq_true rfl⟩ rfl dX6_steady_12 rfl rfl ?_
    intro v3
    refine j_if_eq 28 18 dX6_steady_15 (by decide) rfl ?_ ?_
    · refine j_ldc2 31 kk_X6_150 dX6_steady_28 rfl ?_
      exact j_lret dX6_steady_31 rfl
    · refine j_aload_n 19 0 dX6_steady_18 rfl rfl rfl ?_
      refine j_gR 22 kf_X6_12 dX6_steady_19 rfl ?_
      intro v4
      refine j_callV_i (ci := 0) (As := []) (st := []) 25 (okX0_canRest G x v4) kc_X0_canRest kl_X6_239 ki_X0_canRest kv_X0_canRest kh_X0 (by decide) (fun _ h => rvX0_canRest h) ⟨rfl, rfl, Nat.le_of_ble_eq_true rfl, Nat.le_of_ble_eq_true rfl⟩ (Nat.le_of_ble_eq_true rfl) ⟨Nat.le_of_ble_eq_true rfl, Nat.le_of_ble_eq_true rfl⟩ rfl dX6_steady_22 rfl rfl ?_
      intro v5
      refine j_if_ne 32 28 dX6_steady_25 (by decide) rfl ?_ ?_
      · refine j_aload_n 33 0 dX6_steady_32 rfl rfl rfl ?_
        refine j_gR 36 kf_X6_27 dX6_steady_33 rfl ?_
        intro v6
        refine j_aload_n 37 0 dX6_steady_36 rfl rfl rfl ?_
        refine j_gR 40 kf_X6_12 dX6_steady_37 rfl ?_
        intro v7
        refine j_callV_v (ci := 3) (As := [.ref v7]) (st := []) 43 (okX4_solve G x v6 v7) kc_X4_solve kl_X6_243 ki_X4_solve kv_X4_solve kh_X4 (by decide) (fun _ h => rvX4_solve h) ⟨rfl, rfl, Nat.le_of_ble_eq_true rfl, Nat.le_of_ble_eq_true rfl⟩ (Nat.le_of_ble_eq_true rfl) ⟨Nat.le_of_ble_eq_true rfl, Nat.le_of_ble_eq_true rfl⟩ rfl dX6_steady_40 rfl rfl ?_
        intro q8
        refine j_aload_n 44 0 dX6_steady_43 rfl rfl rfl ?_
        refine j_gR 47 kf_X6_27 dX6_steady_44 rfl ?_
        intro v9
        refine j_gR 50 kf_X6_246 dX6_steady_47 rfl ?_
        intro v10
        refine j_iload_n 51 1 dX6_steady_50 rfl rfl rfl ?_
        refine j_aL 52 dX6_steady_51 rfl ?_
        intro v11
        refine j_aload_n 53 0 dX6_steady_52 rfl rfl rfl ?_
        refine j_gR 56 kf_X6_27 dX6_steady_53 rfl ?_
        intro v12
        refine j_gL 59 kf_X6_247 dX6_steady_56 rfl ?_
        intro v13
        refine j_iload_n 60 2 dX6_steady_59 rfl rfl rfl ?_
        refine j_callS_l (As := [.long v11, .long v13, .int a2]) (st := []) 63 (okX6_partOf G q8 v11 v13 a2) kc_X6_partOf kl_X6_160 ks_X6_partOf ⟨rfl, rfl, Nat.le_of_ble_eq_true rfl, Nat.le_of_ble_eq_true rfl⟩ (Nat.le_of_ble_eq_true rfl) ⟨Nat.le_of_ble_eq_true rfl, Nat.le_of_ble_eq_true rfl⟩ rfl dX6_steady_60 rfl rfl ?_
        intro v14
        exact j_lret dX6_steady_63 rfl
      · refine j_ldc2 31 kk_X6_150 dX6_steady_28 rfl ?_
        exact j_lret dX6_steady_31 rfl
-- X6_steadyFlow: ('BarSteps', 'steadyFlow', '(II)J')
def X6_steadyFlow (a0 : Nat) (a1 : Int32) (a2 : Int32) (x : Hs) : Option (Int64 × Hs) := (vO x 5 a0).bind fun _ =>
  (gR x 5 a0 0).bind fun v1 =>
  (X0_hasJoint v1 a1 x).bind fun v2 =>
  (if v2 = 0 then some ((-9223372036854775808), x) else
  (X6_isBit a2).bind fun v3 =>
  (if v3 = 0 then some ((-9223372036854775808), x) else
  (gR x 5 a0 0).bind fun v4 =>
  (X0_canRest v4 x).bind fun v5 =>
  (if v5 = 0 then some ((-9223372036854775808), x) else
  (gR x 5 a0 3).bind fun v6 =>
  (gR x 5 a0 0).bind fun v7 =>
  (X4_solve v6 v7 x).bind fun q8 =>
  (gR q8 5 a0 0).bind fun v9 =>
  (gR q8 5 a0 3).bind fun v10 =>
  (gR q8 3 v10 0).bind fun v11 =>
  (gR q8 5 a0 3).bind fun v12 =>
  (gL q8 3 v12 1).bind fun v13 =>
  (X0_flowAbove v9 a1 v11 v13 q8).bind fun v14 =>
  (gR q8 5 a0 3).bind fun v15 =>
  (gL q8 3 v15 1).bind fun v16 =>
  (X6_partOf v14 v16 a2).bind fun v17 =>
  some (v17, q8))))
theorem rvX6_steadyFlow {a0 : Nat} {a1 : Int32} {a2 : Int32} {x : Hs} {r : Int64 × Hs} (h : X6_steadyFlow a0 a1 a2 x = some r) : ∃ fs, x.1 a0 = .inr (5, fs) := vO_bind h
theorem okX6_steadyFlow (G : JG) (x : Hs) (a0 : Nat) (a1 : Int32) (a2 : Int32) : ∀ r, X6_steadyFlow a0 a1 a2 x = some r → JC G yX6_steadyFlow cX6_steadyFlow 3 (some .long) (jR 6 0 0) 0 0 [.ref a0, .int a1, .int a2] x ((some (.long r.1), r.2)) := by
  refine jc_of (own := RX6) (E := (fun r : Int64 × Hs => ((some (.long r.1), r.2) : JR))) (by decide) rfl rfl (Nat.le_of_ble_eq_true rfl) rfl ?_
  unfold X6_steadyFlow
  refine j_chk ?_
  refine j_aload_n 1 0 dX6_steadyFlow_0 rfl rfl rfl ?_
  refine j_gR 4 kf_X6_12 dX6_steadyFlow_1 rfl ?_
  intro v1
  refine j_iload_n 5 1 dX6_steadyFlow_4 rfl rfl rfl ?_
  refine j_callV_i (ci := 0) (As := [.int a1]) (st := []) 8 (okX0_hasJoint G x v1 a1) kc_X0_hasJoint kl_X6_167 ki_X0_hasJoint kv_X0_hasJoint kh_X0 (by decide) (fun _ h => rvX0_hasJoint h) ⟨rfl, rfl, Nat.le_of_ble_eq_true rfl, Nat.le_of_ble_eq_true rfl⟩ (Nat.le_of_ble_eq_true rfl) ⟨Nat.le_of_ble_eq_true rfl, Nat.le_of_ble_eq_true rfl⟩ rfl dX6_steadyFlow_5 rfl rfl ?_
  intro v2
  refine j_if_eq 28 11 dX6_steadyFlow_8 (by decide) rfl ?_ ?_
  · refine j_ldc2 31 kk_X6_150 dX6_steadyFlow_28 rfl ?_
    exact j_lret dX6_steadyFlow_31 rfl
  · refine j_iload_n 12 2 dX6_steadyFlow_11 rfl rfl rfl ?_
    refine j_callS_i (As := [.int a2]) (st := []) 15 (okX6_isBit G x a2) kc_X6_isBit kl_X6_134 ks_X6_isBit ⟨rfl, rfl, Nat.le_of_ble_eq_true rfl, Nat.le_of_ble_eq_true rfl⟩ (Nat.le_of_ble_eq_true rfl) ⟨Nat.le_of_ble_eq_true rfl, Nat.le_of_ble_eq_true rfl⟩ rfl dX6_steadyFlow_12 rfl rfl ?_
    intro v3
    refine j_if_eq 28 18 dX6_steadyFlow_15 (by decide) rfl ?_ ?_
    · refine j_ldc2 31 kk_X6_150 dX6_steadyFlow_28 rfl ?_
      exact j_lret dX6_steadyFlow_31 rfl
    · refine j_aload_n 19 0 dX6_steadyFlow_18 rfl rfl rfl ?_
      refine j_gR 22 kf_X6_12 dX6_steadyFlow_19 rfl ?_
      intro v4
      refine j_callV_i (ci := 0) (As := []) (st := []) 25 (okX0_canRest G x v4) kc_X0_canRest kl_X6_239 ki_X0_canRest kv_X0_canRest kh_X0 (by decide) (fun _ h => rvX0_canRest h) ⟨rfl, rfl, Nat.le_of_ble_eq_true rfl, Nat.le_of_ble_eq_true rfl⟩ (Nat.le_of_ble_eq_true rfl) ⟨Nat.le_of_ble_eq_true rfl, Nat.le_of_ble_eq_true rfl⟩ rfl dX6_steadyFlow_22 rfl rfl ?_
      intro v5
      refine j_if_ne 32 28 dX6_steadyFlow_25 (by decide) rfl ?_ ?_
      · refine j_aload_n 33 0 dX6_steadyFlow_32 rfl rfl rfl ?_
        refine j_gR 36 kf_X6_27 dX6_steadyFlow_33 rfl ?_
        intro v6
        refine j_aload_n 37 0 dX6_steadyFlow_36 rfl rfl rfl ?_
        refine j_gR 40 kf_X6_12 dX6_steadyFlow_37 rfl ?_
        intro v7
        refine j_callV_v (ci := 3) (As := [.ref v7]) (st := []) 43 (okX4_solve G x v6 v7) kc_X4_solve kl_X6_243 ki_X4_solve kv_X4_solve kh_X4 (by decide) (fun _ h => rvX4_solve h) ⟨rfl, rfl, Nat.le_of_ble_eq_true rfl, Nat.le_of_ble_eq_true rfl⟩ (Nat.le_of_ble_eq_true rfl) ⟨Nat.le_of_ble_eq_true rfl, Nat.le_of_ble_eq_true rfl⟩ rfl dX6_steadyFlow_40 rfl rfl ?_
        intro q8
        refine j_aload_n 44 0 dX6_steadyFlow_43 rfl rfl rfl ?_
        refine j_gR 47 kf_X6_12 dX6_steadyFlow_44 rfl ?_
        intro v9
        refine j_iload_n 48 1 dX6_steadyFlow_47 rfl rfl rfl ?_
        refine j_aload_n 49 0 dX6_steadyFlow_48 rfl rfl rfl ?_
        refine j_gR 52 kf_X6_27 dX6_steadyFlow_49 rfl ?_
        intro v10
        refine j_gR 55 kf_X6_246 dX6_steadyFlow_52 rfl ?_
        intro v11
        refine j_aload_n 56 0 dX6_steadyFlow_55 rfl rfl rfl ?_
        refine j_gR 59 kf_X6_27 dX6_steadyFlow_56 rfl ?_
        intro v12
        refine j_gL 62 kf_X6_247 dX6_steadyFlow_59 rfl ?_
        intro v13
        refine j_callV_l (ci := 0) (As := [.int a1, .ref v11, .long v13]) (st := []) 65 (okX0_flowAbove G q8 v9 a1 v11 v13) kc_X0_flowAbove kl_X6_170 ki_X0_flowAbove kv_X0_flowAbove kh_X0 (by decide) (fun _ h => rvX0_flowAbove h) ⟨rfl, rfl, Nat.le_of_ble_eq_true rfl, Nat.le_of_ble_eq_true rfl⟩ (Nat.le_of_ble_eq_true rfl) ⟨Nat.le_of_ble_eq_true rfl, Nat.le_of_ble_eq_true rfl⟩ rfl dX6_steadyFlow_62 rfl rfl ?_
        intro v14
        refine j_aload_n 66 0 dX6_steadyFlow_65 rfl rfl rfl ?_
        refine j_gR 69 kf_X6_27 dX6_steadyFlow_66 rfl ?_
        intro v15
        refine j_gL 72 kf_X6_247 dX6_steadyFlow_69 rfl ?_
        intro v16
        refine j_iload_n 73 2 dX6_steadyFlow_72 rfl rfl rfl ?_
        refine j_callS_l (As := [.long v14, .long v16, .int a2]) (st := []) 76 (okX6_partOf G q8 v14 v16 a2) kc_X6_partOf kl_X6_160 ks_X6_partOf ⟨rfl, rfl, Nat.le_of_ble_eq_true rfl, Nat.le_of_ble_eq_true rfl⟩ (Nat.le_of_ble_eq_true rfl) ⟨Nat.le_of_ble_eq_true rfl, Nat.le_of_ble_eq_true rfl⟩ rfl dX6_steadyFlow_73 rfl rfl ?_
        intro v17
        exact j_lret dX6_steadyFlow_76 rfl
      · refine j_ldc2 31 kk_X6_150 dX6_steadyFlow_28 rfl ?_
        exact j_lret dX6_steadyFlow_31 rfl
