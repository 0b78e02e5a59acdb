/-! Each method as a pure term, and the machine's rows. Written by wip/whole/decomp.py. -/
-- X6_count: ('BarSteps', 'count', '(I)I')
def X6_count (a0 : Nat) (a1 : Int32) (x : Hs) : Option (Int32) := (vO x 5 a0).bind fun _ =>
  (if a1 = 0 then (gR x 5 a0 0).bind fun v1 =>
  (gI x 0 v1 0).bind fun v2 =>
  some v2 else
  (if a1 = 1 then (gR x 5 a0 0).bind fun v4 =>
  (gR x 0 v4 13).bind fun v5 =>
  (gI x 1 v5 3).bind fun v6 =>
  some v6 else
  (if a1 = 2 then (gR x 5 a0 5).bind fun v8 =>
  (gI x 4 v8 1).bind fun v9 =>
  some v9 else
  (if a1 = 3 then (gR x 5 a0 0).bind fun v11 =>
  (gR x 0 v11 13).bind fun v12 =>
  (gR x 1 v12 2).bind fun v13 =>
  (gR x 5 a0 0).bind fun v14 =>
  (gR x 0 v14 13).bind fun v15 =>
  (gI x 1 v15 3).bind fun v16 =>
  (X6_total v13 v16 x).bind fun v17 =>
  some v17 else
  (if a1 = 4 then (gR x 5 a0 0).bind fun v19 =>
  (gR x 0 v19 7).bind fun v20 =>
  (gR x 5 a0 0).bind fun v21 =>
  (gI x 0 v21 0).bind fun v22 =>
  (X6_total v20 v22 x).bind fun v23 =>
  some v23 else
  (if a1 = 5 then (gR x 5 a0 0).bind fun v25 =>
  (gR x 0 v25 4).bind fun v26 =>
  (gR x 5 a0 0).bind fun v27 =>
  (gI x 0 v27 0).bind fun v28 =>
  (X6_total v26 v28 x).bind fun v29 =>
  some v29 else
  some (-1000)))))))
theorem rvX6_count {a0 : Nat} {a1 : Int32} {x : Hs} {r : Int32} (h : X6_count a0 a1 x = some r) : ∃ fs, x.1 a0 = .inr (5, fs) := vO_bind h
theorem okX6_count (G : JG) (x : Hs) (a0 : Nat) (a1 : Int32) : ∀ r, X6_count a0 a1 x = some r → JC G yX6_count cX6_count 2 (some .int) (jR 2 0 0) 0 0 [.ref a0, .int a1] x ((some (.int r), x)) := by
  refine jc_of (own := RX6) (E := (fun r : Int32 => ((some (.int r), x) : JR))) (by decide) rfl rfl (Nat.le_of_ble_eq_true rfl) rfl ?_
  unfold X6_count
  refine j_chk ?_
  refine j_iload_n 1 1 dX6_count_0 rfl rfl rfl ?_
  refine j_ite (fun h3 => ?_) (fun h3 => ?_)
  · refine j_tinE (w := 0) 40 dX6_count_1 h3 (by decide) (by decide) rfl (by decide) ?_
    refine j_aload_n 41 0 dX6_count_40 rfl rfl rfl ?_
    refine j_gR 44 kf_X6_12 dX6_count_41 rfl ?_
    intro v1
    refine j_gI 47 kf_X6_70 dX6_count_44 rfl ?_
    intro v2
    exact j_iret dX6_count_47 rfl
  refine j_ite (fun h7 => ?_) (fun h7 => ?_)
  · refine j_tinE (w := 1) 48 dX6_count_1 h7 (by decide) (by decide) rfl (by decide) ?_
    refine j_aload_n 49 0 dX6_count_48 rfl rfl rfl ?_
    refine j_gR 52 kf_X6_12 dX6_count_49 rfl ?_
    intro v4
    refine j_gR 55 kf_X6_215 dX6_count_52 rfl ?_
    intro v5
    refine j_gI 58 kf_X6_224 dX6_count_55 rfl ?_
    intro v6
    exact j_iret dX6_count_58 rfl
  refine j_ite (fun h10 => ?_) (fun h10 => ?_)
  · refine j_tinE (w := 2) 59 dX6_count_1 h10 (by decide) (by decide) rfl (by decide) ?_
    refine j_aload_n 60 0 dX6_count_59 rfl rfl rfl ?_
    refine j_gR 63 kf_X6_41 dX6_count_60 rfl ?_
    intro v8
    refine j_gI 66 kf_X6_316 dX6_count_63 rfl ?_
    intro v9
    exact j_iret dX6_count_66 rfl
  refine j_ite (fun h18 => ?_) (fun h18 => ?_)
  · refine j_tinE (w := 3) 67 dX6_count_1 h18 (by decide) (by decide) rfl (by decide) ?_
    refine j_aload_n 68 0 dX6_count_67 rfl rfl rfl ?_
    refine j_gR 71 kf_X6_12 dX6_count_68 rfl ?_
    intro v11
    refine j_gR 74 kf_X6_215 dX6_count_71 rfl ?_
    intro v12
    refine j_gR 77 kf_X6_233 dX6_count_74 rfl ?_
    intro v13
    refine j_aload_n 78 0 dX6_count_77 rfl rfl rfl ?_
    refine j_gR 81 kf_X6_12 dX6_count_78 rfl ?_
    intro v14
    refine j_gR 84 kf_X6_215 dX6_count_81 rfl ?_
    intro v15
    refine j_gI 87 kf_X6_224 dX6_count_84 rfl ?_
    intro v16
    refine j_callS_i (As := [.ref v13, .int v16]) (st := []) 90 (okX6_total G x v13 v16) kc_X6_total kl_X6_361 ks_X6_total ⟨rfl, rfl, Nat.le_of_ble_eq_true rfl, Nat.le_of_ble_eq_true rfl⟩ (Nat.le_of_ble_eq_true rfl) ⟨Nat.le_of_ble_eq_true rfl, Nat.le_of_ble_eq_true rfl⟩ rfl dX6_count_87 rfl rfl ?_
    intro v17
    exact j_iret dX6_count_90 rfl
  refine j_ite (fun h24 => ?_) (fun h24 => ?_)
  · refine j_tinE (w := 4) 91 dX6_count_1 h24 (by decide) (by decide) rfl (by decide) ?_
    refine j_aload_n 92 0 dX6_count_91 rfl rfl rfl ?_
    refine j_gR 95 kf_X6_12 dX6_count_92 rfl ?_
    intro v19
    refine j_gR 98 kf_X6_118 dX6_count_95 rfl ?_
    intro v20
    refine j_aload_n 99 0 dX6_count_98 rfl rfl rfl ?_
    refine j_gR 102 kf_X6_12 dX6_count_99 rfl ?_
    intro v21
    refine j_gI 105 kf_X6_70 dX6_count_102 rfl ?_
    intro v22
    refine j_callS_i (As := [.ref v20, .int v22]) (st := []) 108 (okX6_total G x v20 v22) kc_X6_total kl_X6_361 ks_X6_total ⟨rfl, rfl, Nat.le_of_ble_eq_true rfl, Nat.le_of_ble_eq_true rfl⟩ (Nat.le_of_ble_eq_true rfl) ⟨Nat.le_of_ble_eq_true rfl, Nat.le_of_ble_eq_true rfl⟩ rfl dX6_count_105 rfl rfl ?_
    intro v23
    exact j_iret dX6_count_108 rfl
  refine j_ite (fun h30 => ?_) (fun h30 => ?_)
  · refine j_tinE (w := 5) 109 dX6_count_1 h30 (by decide) (by decide) rfl (by decide) ?_
    refine j_aload_n 110 0 dX6_count_109 rfl rfl rfl ?_
    refine j_gR 113 kf_X6_12 dX6_count_110 rfl ?_
    intro v25
    refine j_gR 116 kf_X6_109 dX6_count_113 rfl ?_
    intro v26
    refine j_aload_n 117 0 dX6_count_116 rfl rfl rfl ?_
    refine j_gR 120 kf_X6_12 dX6_count_117 rfl ?_
    intro v27
    refine j_gI 123 kf_X6_70 dX6_count_120 rfl ?_
    intro v28
    refine j_callS_i (As := [.ref v26, .int v28]) (st := []) 126 (okX6_total G x v26 v28) kc_X6_total kl_X6_361 ks_X6_total ⟨rfl, rfl, Nat.le_of_ble_eq_true rfl, Nat.le_of_ble_eq_true rfl⟩ (Nat.le_of_ble_eq_true rfl) ⟨Nat.le_of_ble_eq_true rfl, Nat.le_of_ble_eq_true rfl⟩ rfl dX6_count_123 rfl rfl ?_
    intro v29
    exact j_iret dX6_count_126 rfl
  have h3n := sw_ne h3
  have h7n := sw_ne h7
  have h10n := sw_ne h10
  have h18n := sw_ne h18
  have h24n := sw_ne h24
  have h30n := sw_ne h30
  have h3m : (Int32.toInt 0) = 0 := by decide
  have h7m : (Int32.toInt 1) = 1 := by decide
  have h10m : (Int32.toInt 2) = 2 := by decide
  have h18m : (Int32.toInt 3) = 3 := by decide
  have h24m : (Int32.toInt 4) = 4 := by decide
  have h30m : (Int32.toInt 5) = 5 := by decide
  refine j_tout 127 dX6_count_1 (by omega) (by decide) ?_
  refine j_sipush (v := -1000) 130 dX6_count_127 rfl sc_m1000 ?_
  exact j_iret dX6_count_130 rfl
-- X6_sheet: ('BarSteps', 'sheet', '(III)I')
def X6_sheet (a0 : Nat) (a1 : Int32) (a2 : Int32) (a3 : Int32) (x : Hs) : Option (Int32 × Hs) := (vO x 5 a0).bind fun _ =>
  (X6_isSheet a1).bind fun v1 =>
  (if v1 = 0 then some ((-2), x) else
  (X6_between a2 (-1) 1).bind fun v2 =>
  (if v2 = 0 then some ((-2), x) else
  (if a2 = (-1) then (gR x 5 a0 4).bind fun v5 =>
  (X3_renew v5 a1 (-1) 0 x).bind fun q6 =>
  some (1, q6) else
  (if a3 ≤ 40 then (if 0 ≤ a3 then (gR x 5 a0 4).bind fun v3 =>
  (X3_renew v3 a1 a2 a3 x).bind fun q4 =>
  some (1, q4) else
  some ((-14), x)) else
  some ((-2), x)))))
theorem rvX6_sheet {a0 : Nat} {a1 : Int32} {a2 : Int32} {a3 : Int32} {x : Hs} {r : Int32 × Hs} (h : X6_sheet a0 a1 a2 a3 x = some r) : ∃ fs, x.1 a0 = .inr (5, fs) := vO_bind h
theorem okX6_sheet (G : JG) (x : Hs) (a0 : Nat) (a1 : Int32) (a2 : Int32) (a3 : Int32) : ∀ r, X6_sheet a0 a1 a2 a3 x = some r → JC G yX6_sheet cX6_sheet 4 (some .int) (jR 3 0 0) 0 0 [.ref a0, .int a1, .int a2, .int a3] x ((some (.int r.1), r.2)) := by
  refine jc_of (own := RX6) (E := (fun r : Int32 × Hs => ((some (.int r.1), r.2) : JR))) (by decide) rfl rfl (Nat.le_of_ble_eq_true rfl) rfl ?_
  unfold X6_sheet
  refine j_chk ?_
  refine j_iload_n 1 1 dX6_sheet_0 rfl rfl rfl ?_
  refine j_callS_i (As := [.int a1]) (st := []) 4 (okX6_isSheet G x a1) kc_X6_isSheet kl_X6_260 ks_X6_isSheet ⟨rfl, rfl, Nat.le_of_ble_eq_true rfl, Nat.le_of_ble_eq_true rfl⟩ (Nat.le_of_ble_eq_true rfl) ⟨Nat.le_of_ble_eq_true rfl, Nat.le_of_ble_eq_true rfl⟩ rfl dX6_sheet_1 rfl rfl ?_
  intro v1
  refine j_if_eq 16 7 dX6_sheet_4 (by decide) rfl ?_ ?_
  · refine j_bipush (v := -2) 18 dX6_sheet_16 rfl bc_m2 ?_
    exact j_iret dX6_sheet_18 rfl
  · refine j_iload_n 8 2 dX6_sheet_7 rfl rfl rfl ?_
    refine j_iconst (v := -1) 9 dX6_sheet_8 rfl ic_m1 ?_
    refine j_iconst (v := 1) 10 dX6_sheet_9 rfl ic_1 ?_
    refine j_callS_i (As := [.int a2, .int (-1), .int 1]) (st := []) 13 (okX6_between G x a2 (-1) 1) kc_X6_between kl_X6_137 ks_X6_between ⟨rfl, rfl, Nat.le_of_ble_eq_true rfl, Nat.le_of_ble_eq_true rfl⟩ (Nat.le_of_ble_eq_true rfl) ⟨Nat.le_of_ble_eq_true rfl, Nat.le_of_ble_eq_true rfl⟩ rfl dX6_sheet_10 rfl rfl ?_
    intro v2
    refine j_if_ne 19 16 dX6_sheet_13 (by decide) rfl ?_ ?_
    · refine j_iload_n 20 2 dX6_sheet_19 rfl rfl rfl ?_
      refine j_iconst (v := -1) 21 dX6_sheet_20 rfl ic_m1 ?_
      refine j_icmp_ne 36 24 dX6_sheet_21 (by decide) rfl ?_ ?_
      · refine j_iload_n 37 3 dX6_sheet_36 rfl rfl rfl ?_
        refine j_bipush (v := 40) 39 dX6_sheet_37 rfl bc_40 ?_
        refine j_icmp_le 45 42 dX6_sheet_39 (by decide) rfl ?_ ?_
        · refine j_iload_n 46 3 dX6_sheet_45 rfl rfl rfl ?_
          refine j_if_ge 52 49 dX6_sheet_46 (by decide) rfl ?_ ?_
          · refine j_aload_n 53 0 dX6_sheet_52 rfl rfl rfl ?_
            refine j_gR 56 kf_X6_34 dX6_sheet_53 rfl ?_
            intro v3
            refine j_iload_n 57 1 dX6_sheet_56 rfl rfl rfl ?_
            refine j_iload_n 58 2 dX6_sheet_57 rfl rfl rfl ?_
            refine j_iload_n 59 3 dX6_sheet_58 rfl rfl rfl ?_
            refine j_callV_v (ci := 2) (As := [.int a1, .int a2, .int a3]) (st := []) 62 (okX3_renew G x v3 a1 a2 a3) kc_X3_renew kl_X6_296 ki_X3_renew kv_X3_renew kh_X3 (by decide) (fun _ h => rvX3_renew h) ⟨rfl, rfl, Nat.le_of_ble_eq_true rfl, Nat.le_of_ble_eq_true rfl⟩ (Nat.le_of_ble_eq_true rfl) ⟨Nat.le_of_ble_eq_true rfl, Nat.le_of_ble_eq_true rfl⟩ rfl dX6_sheet_59 rfl rfl ?_
            intro q4
            refine j_iconst (v := 1) 63 dX6_sheet_62 rfl ic_1 ?_
            exact j_iret dX6_sheet_63 rfl
          · refine j_bipush (v := -14) 51 dX6_sheet_49 rfl bc_m14 ?_
            exact j_iret dX6_sheet_51 rfl
        · refine j_bipush (v := -2) 44 dX6_sheet_42 rfl bc_m2 ?_
          exact j_iret dX6_sheet_44 rfl
      · refine j_aload_n 25 0 dX6_sheet_24 rfl rfl rfl ?_
        refine j_gR 28 kf_X6_34 dX6_sheet_25 rfl ?_
        intro v5
        refine j_iload_n 29 1 dX6_sheet_28 rfl rfl rfl ?_
        refine j_iconst (v := -1) 30 dX6_sheet_29 rfl ic_m1 ?_
        refine j_iconst (v := 0) 31 dX6_sheet_30 rfl ic_0 ?_
        refine j_callV_v (ci := 2) (As := [.int a1, .int (-1), .int 0]) (st := []) 34 (okX3_renew G x v5 a1 (-1) 0) kc_X3_renew kl_X6_296 ki_X3_renew kv_X3_renew kh_X3 (by decide) (fun _ h => rvX3_renew h) ⟨rfl, rfl, Nat.le_of_ble_eq_true rfl, Nat.le_of_ble_eq_true rfl⟩ (Nat.le_of_ble_eq_true rfl) ⟨Nat.le_of_ble_eq_true rfl, Nat.le_of_ble_eq_true rfl⟩ rfl dX6_sheet_31 rfl rfl ?_
        intro q6
        refine j_iconst (v := 1) 35 dX6_sheet_34 rfl ic_1 ?_
        exact j_iret dX6_sheet_35 rfl
    · refine j_bipush (v := -2) 18 dX6_sheet_16 rfl bc_m2 ?_
      exact j_iret dX6_sheet_18 rfl
-- X6_put: ('BarSteps', 'put', '(III)I')
def X6_put (a0 : Nat) (a1 : Int32) (a2 : Int32) (a3 : Int32) (x : Hs) : Option (Int32 × Hs) := (vO x 5 a0).bind fun _ =>
  (X6_isSheet a1).bind fun v1 =>
  (if v1 = 0 then some ((-2), x) else
  (gR x 5 a0 4).bind fun v2 =>
  (X3_isMissing v2 a1 x).bind fun v3 =>
  (if v3 = 0 then (gR x 5 a0 4).bind fun v4 =>
  (X3_has v4 a1 a2 x).bind fun v5 =>
  (if v5 = 0 then some ((-12), x) else
  (gR x 5 a0 4).bind fun v6 =>
  (gR x 2 v6 2).bind fun v7 =>
  (aR x v7 a1).bind fun v8 =>
  (gR x 5 a0 4).bind fun v9 =>
  (gR x 2 v9 0).bind fun v10 =>
  (aI x v10 a1).bind fun v11 =>
  (if v11 = 0 then (wI x v8 a2 ((Int32.toInt16 a3).toInt32)).bind fun y13 =>
  some (1, y13) else
  (wI x v8 a2 a3).bind fun y12 =>
  some (1, y12))) else
  some ((-11), x)))
theorem rvX6_put {a0 : Nat} {a1 : Int32} {a2 : Int32} {a3 : Int32} {x : Hs} {r : Int32 × Hs} (h : X6_put a0 a1 a2 a3 x = some r) : ∃ fs, x.1 a0 = .inr (5, fs) := vO_bind h
theorem okX6_put (G : JG) (x : Hs) (a0 : Nat) (a1 : Int32) (a2 : Int32) (a3 : Int32) : ∀ r, X6_put a0 a1 a2 a3 x = some r → JC G yX6_put cX6_put 4 (some .int) (jR 3 0 0) 0 0 [.ref a0, .int a1, .int a2, .int a3] x ((some (.int r.1), r.2)) := by
  refine jc_of (own := RX6) (E := (fun r : Int32 × Hs => ((some (.int r.1), r.2) : JR))) (by decide) rfl rfl (Nat.le_of_ble_eq_true rfl) rfl ?_
  unfold X6_put
  refine j_chk ?_
  refine j_iload_n 1 1 dX6_put_0 rfl rfl rfl ?_
  refine j_callS_i (As := [.int a1]) (st := []) 4 (okX6_isSheet G x a1) kc_X6_isSheet kl_X6_260 ks_X6_isSheet ⟨rfl, rfl, Nat.le_of_ble_eq_true rfl, Nat.le_of_ble_eq_true rfl⟩ (Nat.le_of_ble_eq_true rfl) ⟨Nat.le_of_ble_eq_true rfl, Nat.le_of_ble_eq_true rfl⟩ rfl dX6_put_1 rfl rfl ?_
  intro v1
  refine j_if_ne 10 7 dX6_put_4 (by decide) rfl ?_ ?_
  · refine j_aload_n 11 0 dX6_put_10 rfl rfl rfl ?_
    refine j_gR 14 kf_X6_34 dX6_put_11 rfl ?_
    intro v2
    refine j_iload_n 15 1 dX6_put_14 rfl rfl rfl ?_
    refine j_callV_i (ci := 2) (As := [.int a1]) (st := []) 18 (okX3_isMissing G x v2 a1) kc_X3_isMissing kl_X6_263 ki_X3_isMissing kv_X3_isMissing kh_X3 (by decide) (fun _ h => rvX3_isMissing h) ⟨rfl, rfl, Nat.le_of_ble_eq_true rfl, Nat.le_of_ble_eq_true rfl⟩ (Nat.le_of_ble_eq_true rfl) ⟨Nat.le_of_ble_eq_true rfl, Nat.le_of_ble_eq_true rfl⟩ rfl dX6_put_15 rfl rfl ?_
    intro v3
    refine j_if_eq 24 21 dX6_put_18 (by decide) rfl ?_ ?_
    · refine j_aload_n 25 0 dX6_put_24 rfl rfl rfl ?_
      refine j_gR 28 kf_X6_34 dX6_put_25 rfl ?_
      intro v4
      refine j_iload_n 29 1 dX6_put_28 rfl rfl rfl ?_
      refine j_iload_n 30 2 dX6_put_29 rfl rfl rfl ?_
      refine j_callV_i (ci := 2) (As := [.int a1, .int a2]) (st := []) 33 (okX3_has G x v4 a1 a2) kc_X3_has kl_X6_359 ki_X3_has kv_X3_has kh_X3 (by decide) (fun _ h => rvX3_has h) ⟨rfl, rfl, Nat.le_of_ble_eq_true rfl, Nat.le_of_ble_eq_true rfl⟩ (Nat.le_of_ble_eq_true rfl) ⟨Nat.le_of_ble_eq_true rfl, Nat.le_of_ble_eq_true rfl⟩ rfl dX6_put_30 rfl rfl ?_
      intro v5
      refine j_if_ne 39 36 dX6_put_33 (by decide) rfl ?_ ?_
      · refine j_aload_n 40 0 dX6_put_39 rfl rfl rfl ?_
        refine j_gR 43 kf_X6_34 dX6_put_40 rfl ?_
        intro v6
        refine j_gR 46 kf_X6_280 dX6_put_43 rfl ?_
        intro v7
        refine j_iload_n 47 1 dX6_put_46 rfl rfl rfl ?_
        refine j_aR 48 dX6_put_47 rfl ?_
        intro v8
        refine j_iload_n 49 2 dX6_put_48 rfl rfl rfl ?_
        refine j_aload_n 50 0 dX6_put_49 rfl rfl rfl ?_
        refine j_gR 53 kf_X6_34 dX6_put_50 rfl ?_
        intro v9
        refine j_gR 56 kf_X6_356 dX6_put_53 rfl ?_
        intro v10
        refine j_iload_n 57 1 dX6_put_56 rfl rfl rfl ?_
        refine j_aI 58 dX6_put_57 rfl ?_
        intro v11
        refine j_if_ne 66 61 dX6_put_58 (by decide) rfl ?_ ?_
        · refine j_iload_n 67 3 dX6_put_66 rfl rfl rfl ?_
          refine j_wI 68 dX6_put_67 rfl ?_
          intro y12
          refine j_iconst (v := 1) 69 dX6_put_68 rfl ic_1 ?_
          exact j_iret dX6_put_69 rfl
        · refine j_iload_n 62 3 dX6_put_61 rfl rfl rfl ?_
          refine j_i2s 63 dX6_put_62 rfl ?_
          refine j_goto 67 dX6_put_63 (by decide) ?_
          refine j_wI 68 dX6_put_67 rfl ?_
          intro y13
          refine j_iconst (v := 1) 69 dX6_put_68 rfl ic_1 ?_
          exact j_iret dX6_put_69 rfl
      · refine j_bipush (v := -12) 38 dX6_put_36 rfl bc_m12 ?_
        exact j_iret dX6_put_38 rfl
    · refine j_bipush (v := -11) 23 dX6_put_21 rfl bc_m11 ?_
      exact j_iret dX6_put_23 rfl
  · refine j_bipush (v := -2) 9 dX6_put_7 rfl bc_m2 ?_
    exact j_iret dX6_put_9 rfl
-- X6_copy: ('BarSteps', 'copy', '(IIIII)I')
def X6_copy (a0 : Nat) (a1 : Int32) (a2 : Int32) (a3 : Int32) (a4 : Int32) (a5 : Int32) (x : Hs) : Option (Int32 × Hs) := (vO x 5 a0).bind fun _ =>
  (X6_isSheet a1).bind fun v1 =>
  (if v1 = 0 then some ((-2), x) else
  (X6_isSheet a3).bind fun v2 =>
  (if v2 = 0 then some ((-2), x) else
  (gR x 5 a0 4).bind fun v3 =>
  (X3_isMissing v3 a1 x).bind fun v4 =>
  (if v4 = 0 then (gR x 5 a0 4).bind fun v5 =>
  (X3_isMissing v5 a3 x).bind fun v6 =>
  (if v6 = 0 then (gR x 5 a0 4).bind fun v7 =>
  (gR x 2 v7 0).bind fun v8 =>
  (aI x v8 a1).bind fun v9 =>
  (gR x 5 a0 4).bind fun v10 =>
  (gR x 2 v10 0).bind fun v11 =>
  (aI x v11 a3).bind fun v12 =>
  (if v9 = v12 then (gR x 5 a0 4).bind fun v13 =>
  (X3_hasRun v13 a1 a2 a5 x).bind fun v14 =>
  (if v14 = 0 then some ((-12), x) else
  (gR x 5 a0 4).bind fun v15 =>
  (X3_hasRun v15 a3 a4 a5 x).bind fun v16 =>
  (if v16 = 0 then some ((-12), x) else
  (gR x 5 a0 4).bind fun v17 =>
  (gR x 2 v17 2).bind fun v18 =>
  (aR x v18 a1).bind fun v19 =>
  (gR x 5 a0 4).bind fun v20 =>
  (gR x 2 v20 2).bind fun v21 =>
  (aR x v21 a3).bind fun v22 =>
  (cpI x v19 a2 v22 a4 a5).bind fun y23 =>
  some (a5, y23))) else
  some ((-13), x)) else
  some ((-11), x)) else
  some ((-11), x))))
theorem rvX6_copy {a0 : Nat} {a1 : Int32} {a2 : Int32} {a3 : Int32} {a4 : Int32} {a5 : Int32} {x : Hs} {r : Int32 × Hs} (h : X6_copy a0 a1 a2 a3 a4 a5 x = some r) : ∃ fs, x.1 a0 = .inr (5, fs) := vO_bind h
theorem okX6_copy (G : JG) (x : Hs) (a0 : Nat) (a1 : Int32) (a2 : Int32) (a3 : Int32) (a4 : Int32) (a5 : Int32) : ∀ r, X6_copy a0 a1 a2 a3 a4 a5 x = some r → JC G yX6_copy cX6_copy 6 (some .int) (jR 3 0 0) 0 0 [.ref a0, .int a1, .int a2, .int a3, .int a4, .int a5] x ((some (.int r.1), r.2)) := by
  refine jc_of (own := RX6) (E := (fun r : Int32 × Hs => ((some (.int r.1), r.2) : JR))) (by decide) rfl rfl (Nat.le_of_ble_eq_true rfl) rfl ?_
  unfold X6_copy
  refine j_chk ?_
  refine j_iload_n 1 1 dX6_copy_0 rfl rfl rfl ?_
  refine j_callS_i (As := [.int a1]) (st := []) 4 (okX6_isSheet G x a1) kc_X6_isSheet kl_X6_260 ks_X6_isSheet ⟨rfl, rfl, Nat.le_of_ble_eq_true rfl, Nat.le_of_ble_eq_true rfl⟩ (Nat.le_of_ble_eq_true rfl) ⟨Nat.le_of_ble_eq_true rfl, Nat.le_of_ble_eq_true rfl⟩ rfl dX6_copy_1 rfl rfl ?_
  intro v1
  refine j_if_eq 14 7 dX6_copy_4 (by decide) rfl ?_ ?_
  · refine j_bipush (v := -2) 16 dX6_copy_14 rfl bc_m2 ?_
    exact j_iret dX6_copy_16 rfl
  · refine j_iload_n 8 3 dX6_copy_7 rfl rfl rfl ?_
    refine j_callS_i (As := [.int a3]) (st := []) 11 (okX6_isSheet G x a3) kc_X6_isSheet kl_X6_260 ks_X6_isSheet ⟨rfl, rfl, Nat.le_of_ble_eq_true rfl, Nat.le_of_ble_eq_true rfl⟩ (Nat.le_of_ble_eq_true rfl) ⟨Nat.le_of_ble_eq_true rfl, Nat.le_of_ble_eq_true rfl⟩ rfl dX6_copy_8 rfl rfl ?_
    intro v2
    refine j_if_ne 17 14 dX6_copy_11 (by decide) rfl ?_ ?_
    · refine j_aload_n 18 0 dX6_copy_17 rfl rfl rfl ?_
      refine j_gR 21 kf_X6_34 dX6_copy_18 rfl ?_
      intro v3
      refine j_iload_n 22 1 dX6_copy_21 rfl rfl rfl ?_
      refine j_callV_i (ci := 2) (As := [.int a1]) (st := []) 25 (okX3_isMissing G x v3 a1) kc_X3_isMissing kl_X6_263 ki_X3_isMissing kv_X3_isMissing kh_X3 (by decide) (fun _ h => rvX3_isMissing h) ⟨rfl, rfl, Nat.le_of_ble_eq_true rfl, Nat.le_of_ble_eq_true rfl⟩ (Nat.le_of_ble_eq_true rfl) ⟨Nat.le_of_ble_eq_true rfl, Nat.le_of_ble_eq_true rfl⟩ rfl dX6_copy_22 rfl rfl ?_
      intro v4
      refine j_if_ne 39 28 dX6_copy_25 (by decide) rfl ?_ ?_
      · refine j_bipush (v := -11) 41 dX6_copy_39 rfl bc_m11 ?_
        exact j_iret dX6_copy_41 rfl
      · refine j_aload_n 29 0 dX6_copy_28 rfl rfl rfl ?_
        refine j_gR 32 kf_X6_34 dX6_copy_29 rfl ?_
        intro v5
        refine j_iload_n 33 3 dX6_copy_32 rfl rfl rfl ?_
        refine j_callV_i (ci := 2) (As := [.int a3]) (st := []) 36 (okX3_isMissing G x v5 a3) kc_X3_isMissing kl_X6_263 ki_X3_isMissing kv_X3_isMissing kh_X3 (by decide) (fun _ h => rvX3_isMissing h) ⟨rfl, rfl, Nat.le_of_ble_eq_true rfl, Nat.le_of_ble_eq_true rfl⟩ (Nat.le_of_ble_eq_true rfl) ⟨Nat.le_of_ble_eq_true rfl, Nat.le_of_ble_eq_true rfl⟩ rfl dX6_copy_33 rfl rfl ?_
        intro v6
        refine j_if_eq 42 39 dX6_copy_36 (by decide) rfl ?_ ?_
        · refine j_aload_n 43 0 dX6_copy_42 rfl rfl rfl ?_
          refine j_gR 46 kf_X6_34 dX6_copy_43 rfl ?_
          intro v7
          refine j_gR 49 kf_X6_356 dX6_copy_46 rfl ?_
          intro v8
          refine j_iload_n 50 1 dX6_copy_49 rfl rfl rfl ?_
          refine j_aI 51 dX6_copy_50 rfl ?_
          intro v9
          refine j_aload_n 52 0 dX6_copy_51 rfl rfl rfl ?_
          refine j_gR 55 kf_X6_34 dX6_copy_52 rfl ?_
          intro v10
          refine j_gR 58 kf_X6_356 dX6_copy_55 rfl ?_
          intro v11
          refine j_iload_n 59 3 dX6_copy_58 rfl rfl rfl ?_
          refine j_aI 60 dX6_copy_59 rfl ?_
          intro v12
          refine j_icmp_eq 66 63 dX6_copy_60 (by decide) rfl ?_ ?_
          · refine j_aload_n 67 0 dX6_copy_66 rfl rfl rfl ?_
            refine j_gR 70 kf_X6_34 dX6_copy_67 rfl ?_
            intro v13
            refine j_iload_n 71 1 dX6_copy_70 rfl rfl rfl ?_
            refine j_iload_n 72 2 dX6_copy_71 rfl rfl rfl ?_
            refine j_iload 74 5 dX6_copy_72 rfl rfl ?_
            refine j_callV_i (ci := 2) (As := [.int a1, .int a2, .int a5]) (st := []) 77 (okX3_hasRun G x v13 a1 a2 a5) kc_X3_hasRun kl_X6_365 ki_X3_hasRun kv_X3_hasRun kh_X3 (by decide) (fun _ h => rvX3_hasRun h) ⟨rfl, rfl, Nat.le_of_ble_eq_true rfl, Nat.le_of_ble_eq_true rfl⟩ (Nat.le_of_ble_eq_true rfl) ⟨Nat.le_of_ble_eq_true rfl, Nat.le_of_ble_eq_true rfl⟩ rfl dX6_copy_74 rfl rfl ?_
            intro v14
            refine j_if_eq 95 80 dX6_copy_77 (by decide) rfl ?_ ?_
            · refine j_bipush (v := -12) 97 dX6_copy_95 rfl bc_m12 ?_
              exact j_iret dX6_copy_97 rfl
            · refine j_aload_n 81 0 dX6_copy_80 rfl rfl rfl ?_
              refine j_gR 84 kf_X6_34 dX6_copy_81 rfl ?_
              intro v15
              refine j_iload_n 85 3 dX6_copy_84 rfl rfl rfl ?_
              refine j_iload 87 4 dX6_copy_85 rfl rfl ?_
              refine j_iload 89 5 dX6_copy_87 rfl rfl ?_
              refine j_callV_i (ci := 2) (As := [.int a3, .int a4, .int a5]) (st := []) 92 (okX3_hasRun G x v15 a3 a4 a5) kc_X3_hasRun kl_X6_365 ki_X3_hasRun kv_X3_hasRun kh_X3 (by decide) (fun _ h => rvX3_hasRun h) ⟨rfl, rfl, Nat.le_of_ble_eq_true rfl, Nat.le_of_ble_eq_true rfl⟩ (Nat.le_of_ble_eq_true rfl) ⟨Nat.le_of_ble_eq_true rfl, Nat.le_of_ble_eq_true rfl⟩ rfl dX6_copy_89 rfl rfl ?_
              intro v16
              refine j_if_ne 98 95 dX6_copy_92 (by decide) rfl ?_ ?_
              · refine j_aload_n 99 0 dX6_copy_98 rfl rfl rfl ?_
                refine j_gR 102 kf_X6_34 dX6_copy_99 rfl ?_
                intro v17
                refine j_gR 105 kf_X6_280 dX6_copy_102 rfl ?_
                intro v18
                refine j_iload_n 106 1 dX6_copy_105 rfl rfl rfl ?_
                refine j_aR 107 dX6_copy_106 rfl ?_
                intro v19
                refine j_iload_n 108 2 dX6_copy_107 rfl rfl rfl ?_
                refine j_aload_n 109 0 dX6_copy_108 rfl rfl rfl ?_
                refine j_gR 112 kf_X6_34 dX6_copy_109 rfl ?_
                intro v20
                refine j_gR 115 kf_X6_280 dX6_copy_112 rfl ?_
                intro v21
                refine j_iload_n 116 3 dX6_copy_115 rfl rfl rfl ?_
                refine j_aR 117 dX6_copy_116 rfl ?_
                intro v22
                refine j_iload 119 4 dX6_copy_117 rfl rfl ?_
                refine j_iload 121 5 dX6_copy_119 rfl rfl ?_
                refine j_cpI 124 kl_X6_300 kac_n kac_s kac_i (Nat.le_of_ble_eq_true rfl) (Nat.le_of_ble_eq_true rfl) dX6_copy_121 rfl ?_
                intro y23
                refine j_iload 126 5 dX6_copy_124 rfl rfl ?_
                exact j_iret dX6_copy_126 rfl
              · refine j_bipush (v := -12) 97 dX6_copy_95 rfl bc_m12 ?_
                exact j_iret dX6_copy_97 rfl
          · refine j_bipush (v := -13) 65 dX6_copy_63 rfl bc_m13 ?_
            exact j_iret dX6_copy_65 rfl
        · refine j_bipush (v := -11) 41 dX6_copy_39 rfl bc_m11 ?_
          exact j_iret dX6_copy_41 rfl
    · refine j_bipush (v := -2) 16 dX6_copy_14 rfl bc_m2 ?_
      exact j_iret dX6_copy_16 rfl
-- X7_init: ('BarStepsModel', '<init>', '()V')
def X7_init (a0 : Nat) (x : Hs) : Option (Hs) := (nC x (.inl (x.2.2 0, 8, .inl (fun _ => 0)))).bind fun q1 =>
  (pV q1.2 6 a0 1 (.ref q1.1)).bind fun y2 =>
  (nC y2 (.inl (y2.2.2 0, 8, .inl (fun _ => 0)))).bind fun q3 =>
  (pV q3.2 6 a0 2 (.ref q3.1)).bind fun y4 =>
  (nC y4 (.inl (y4.2.2 0, 8, .inl (fun _ => 0)))).bind fun q5 =>
  (pV q5.2 6 a0 3 (.ref q5.1)).bind fun y6 =>
  (nC y6 (.inl (y6.2.2 0, 8, .inl (fun _ => 0)))).bind fun q7 =>
  (pV q7.2 6 a0 4 (.ref q7.1)).bind fun y8 =>
  (nC y8 (.inl (y8.2.2 1, 8, .inr (.inl (fun _ => 0))))).bind fun q9 =>
  (pV q9.2 6 a0 5 (.ref q9.1)).bind fun y10 =>
  (pV y10 6 a0 6 (.long 1)).bind fun y11 =>
  (nC y11 (.inl (y11.2.2 0, 2, .inl (fun _ => 0)))).bind fun q12 =>
  (wI q12.2 q12.1 0 (-1)).bind fun y13 =>
  (wI y13 q12.1 1 (-1)).bind fun y14 =>
  (pV y14 6 a0 7 (.ref q12.1)).bind fun y15 =>
  (nC y15 (.inl (y15.2.2 0, 2, .inl (fun _ => 0)))).bind fun q16 =>
  (wI q16.2 q16.1 0 4).bind fun y17 =>
  (wI y17 q16.1 1 0).bind fun y18 =>
  (pV y18 6 a0 8 (.ref q16.1)).bind fun y19 =>
  (nC y19 (.inl (y19.2.2 0, 12, .inl (fun _ => 0)))).bind fun q20 =>
  (pV q20.2 6 a0 10 (.ref q20.1)).bind fun y21 =>
  (nC y21 (.inl (y21.2.2 0, 12, .inl (fun _ => 0)))).bind fun q22 =>
  (pV q22.2 6 a0 11 (.ref q22.1)).bind fun y23 =>
  (nC y23 (.inl (y23.2.2 0, 12, .inl (fun _ => 0)))).bind fun q24 =>
  (pV q24.2 6 a0 12 (.ref q24.1)).bind fun y25 =>
  (nC y25 (.inl (y25.2.2 1, 8, .inr (.inl (fun _ => 0))))).bind fun q26 =>
  (pV q26.2 6 a0 13 (.ref q26.1)).bind fun y27 =>
  (nC y27 (.inl (y27.2.2 0, 12, .inl (fun _ => 0)))).bind fun q28 =>
  (pV q28.2 6 a0 16 (.ref q28.1)).bind fun y29 =>
  (nC y29 (.inl (y29.2.2 0, 12, .inl (fun _ => 0)))).bind fun q30 =>
  (pV q30.2 6 a0 17 (.ref q30.1)).bind fun y31 =>
  (nC y31 (.inl (y31.2.2 0, 12, .inl (fun _ => 0)))).bind fun q32 =>
  (pV q32.2 6 a0 18 (.ref q32.1)).bind fun y33 =>
  (nC y33 (.inl (y33.2.2 1, 8, .inr (.inl (fun _ => 0))))).bind fun q34 =>
  (pV q34.2 6 a0 19 (.ref q34.1)).bind fun y35 =>
  (nC y35 (.inl (y35.2.2 1, 9, .inr (.inl (fun _ => 0))))).bind fun q36 =>
  (pV q36.2 6 a0 21 (.ref q36.1)).bind fun y37 =>
  (nC y37 (.inl (y37.2.2 1, 10, .inr (.inl (fun _ => 0))))).bind fun q38 =>
  (pV q38.2 6 a0 22 (.ref q38.1)).bind fun y39 =>
  (nC y39 (.inl (y39.2.2 1, 8, .inr (.inl (fun _ => 0))))).bind fun q40 =>
  (pV q40.2 6 a0 23 (.ref q40.1)).bind fun y41 =>
  (nC y41 (.inl (y41.2.2 0, 10, .inl (fun _ => 0)))).bind fun q42 =>
  (pV q42.2 6 a0 25 (.ref q42.1)).bind fun y43 =>
  (nC y43 (.inl (y43.2.2 2, 44, .inl (fun _ => 0)))).bind fun q44 =>
  (wC q44.2 q44.1 0 99).bind fun y45 =>
  (wC y45 q44.1 1 101).bind fun y46 =>
  (wC y46 q44.1 2 108).bind fun y47 =>
  (wC y47 q44.1 3 108).bind fun y48 =>
  (wC y48 q44.1 4 32).bind fun y49 =>
  (wC y49 q44.1 5 104).bind fun y50 =>
  (wC y50 q44.1 6 101).bind fun y51 =>
  (wC y51 q44.1 7 97).bind fun y52 =>
  (wC y52 q44.1 8 116).bind fun y53 =>
  (wC y53 q44.1 9 32).bind fun y54 =>
  (wC y54 q44.1 10 115).bind fun y55 =>
  (wC y55 q44.1 11 111).bind fun y56 =>
  (wC y56 q44.1 12 117).bind fun y57 =>
  (wC y57 q44.1 13 114).bind fun y58 =>
  (wC y58 q44.1 14 99).bind fun y59 =>
  (wC y59 q44.1 15 101).bind fun y60 =>
  (wC y60 q44.1 16 32).bind fun y61 =>
  (wC y61 q44.1 17 108).bind fun y62 =>
  (wC y62 q44.1 18 101).bind fun y63 =>
  (wC y63 q44.1 19 102).bind fun y64 =>
  (wC y64 q44.1 20 116).bind fun y65 =>
  (wC y65 q44.1 21 32).bind fun y66 =>
  (wC y66 q44.1 22 114).bind fun y67 =>
  (wC y67 q44.1 23 105).bind fun y68 =>
  (wC y68 q44.1 24 103).bind fun y69 =>
  (wC y69 q44.1 25 104).bind fun y70 =>
  (wC y70 q44.1 26 116).bind fun y71 =>
  (wC y71 q44.1 27 32).bind fun y72 =>
  (wC y72 q44.1 28 102).bind fun y73 =>
  (wC y73 q44.1 29 105).bind fun y74 =>
  (wC y74 q44.1 30 110).bind fun y75 =>
  (wC y75 q44.1 31 101).bind fun y76 =>
  (wC y76 q44.1 32 32).bind fun y77 =>
  (wC y77 q44.1 33 112).bind fun y78 =>
  (wC y78 q44.1 34 117).bind fun y79 =>
  (wC y79 q44.1 35 108).bind fun y80 =>
  (wC y80 q44.1 36 115).bind fun y81 =>
  (wC y81 q44.1 37 101).bind fun y82 =>
  (wC y82 q44.1 38 32).bind fun y83 =>
  (wC y83 q44.1 39 100).bind fun y84 =>
  (wC y84 q44.1 40 114).bind fun y85 =>
  (wC y85 q44.1 41 111).bind fun y86 =>
  (wC y86 q44.1 42 112).bind fun y87 =>
  (wC y87 q44.1 43 32).bind fun y88 =>
  (pV y88 6 a0 26 (.ref q44.1)).bind fun y89 =>
  (nC y89 (.inl (y89.2.2 0, 8, .inl (fun _ => 0)))).bind fun q90 =>
  (wI q90.2 q90.1 0 4).bind fun y91 =>
  (wI y91 q90.1 1 2).bind fun y92 =>
  (wI y92 q90.1 2 2).bind fun y93 =>
  (wI y93 q90.1 3 1).bind fun y94 =>
  (wI y94 q90.1 4 1).bind fun y95 =>
  (wI y95 q90.1 5 1).bind fun y96 =>
  (wI y96 q90.1 6 3).bind fun y97 =>
  (wI y97 q90.1 7 0).bind fun y98 =>
  (pV y98 6 a0 27 (.ref q90.1)).bind fun y99 =>
  (nC y99 (.inl (y99.2.2 0, 60, .inl (fun _ => 0)))).bind fun q100 =>
  (pV q100.2 6 a0 28 (.ref q100.1)).bind fun y101 =>
  (nC y101 (.inl (y101.2.2 0, 4, .inl (fun _ => 0)))).bind fun q102 =>
  (pV q102.2 6 a0 35 (.ref q102.1)).bind fun y103 =>
  (nC y103 (.inl (y103.2.2 0, 8, .inl (fun _ => 0)))).bind fun q104 =>
  (pV q104.2 6 a0 39 (.ref q104.1)).bind fun y105 =>
  (nC y105 (.inl (y105.2.2 0, 8, .inl (fun _ => 0)))).bind fun q106 =>
  (pV q106.2 6 a0 40 (.ref q106.1)).bind fun y107 =>
  (nC y107 (.inl (y107.2.2 0, 8, .inl (fun _ => 0)))).bind fun q108 =>
  (pV q108.2 6 a0 41 (.ref q108.1)).bind fun y109 =>
  (nC y109 (.inl (y109.2.2 0, 8, .inl (fun _ => 0)))).bind fun q110 =>
  (pV q110.2 6 a0 42 (.ref q110.1)).bind fun y111 =>
  (nC y111 (.inl (y111.2.2 1, 8, .inr (.inl (fun _ => 0))))).bind fun q112 =>
  (pV q112.2 6 a0 43 (.ref q112.1)).bind fun y113 =>
  (nC y113 (.inl (y113.2.2 0, 2, .inl (fun _ => 0)))).bind fun q114 =>
  (pV q114.2 6 a0 45 (.ref q114.1)).bind fun y115 =>
  (nC y115 (.inl (y115.2.2 0, 2, .inl (fun _ => 0)))).bind fun q116 =>
  (pV q116.2 6 a0 46 (.ref q116.1)).bind fun y117 =>
  (nC y117 (.inl (y117.2.2 0, 12, .inl (fun _ => 0)))).bind fun q118 =>
  (pV q118.2 6 a0 48 (.ref q118.1)).bind fun y119 =>
  (nC y119 (.inl (y119.2.2 0, 12, .inl (fun _ => 0)))).bind fun q120 =>
  (pV q120.2 6 a0 49 (.ref q120.1)).bind fun y121 =>
  (nC y121 (.inl (y121.2.2 0, 12, .inl (fun _ => 0)))).bind fun q122 =>
  (pV q122.2 6 a0 50 (.ref q122.1)).bind fun y123 =>
  (nC y123 (.inl (y123.2.2 0, 4, .inl (fun _ => 0)))).bind fun q124 =>
  (wI q124.2 q124.1 0 (-1)).bind fun y125 =>
  (wI y125 q124.1 1 (-1)).bind fun y126 =>
  (wI y126 q124.1 2 (-1)).bind fun y127 =>
  (wI y127 q124.1 3 (-1)).bind fun y128 =>
  (pV y128 6 a0 51 (.ref q124.1)).bind fun y129 =>
  (nC y129 (.inl (y129.2.2 0, 4, .inl (fun _ => 0)))).bind fun q130 =>
  (pV q130.2 6 a0 52 (.ref q130.1)).bind fun y131 =>
  (nC y131 (.inl (y131.2.2 0, 160, .inl (fun _ => 0)))).bind fun q132 =>
  (pV q132.2 6 a0 53 (.ref q132.1)).bind fun y133 =>
  (nC y133 (.inl (y133.2.2 0, 40, .inl (fun _ => 0)))).bind fun q134 =>
  (pV q134.2 6 a0 54 (.ref q134.1)).bind fun y135 =>
  some y135
theorem okX7_init (G : JG) (x : Hs) (a0 : Nat) : ∀ r, X7_init a0 x = some r → JC G yX7_init cX7_init 1 (none) (jR 1 37 573) 37 573 [.ref a0] x ((none, r)) := by
  refine jc_of (own := RX7) (E := (fun r : Hs => ((none, r) : JR))) (by decide) rfl rfl (Nat.le_of_ble_eq_true rfl) rfl ?_
  unfold X7_init
  refine j_aload_n 1 0 dX7_init_0 rfl rfl rfl ?_
  refine j_objInit 4 kl_X7_3 koi_i koi_c (Nat.le_of_ble_eq_true rfl) (Nat.le_of_ble_eq_true rfl) dX7_init_1 rfl ?_
  refine j_aload_n 5 0 dX7_init_4 rfl rfl rfl ?_
  refine j_bipush (v := 8) 7 dX7_init_5 rfl bc_8 ?_
  refine j_newI (N := 8) 9 kar_int (by decide) (by decide) (Nat.le_of_ble_eq_true rfl) (Nat.le_of_ble_eq_true rfl) (Nat.le_of_ble_eq_true rfl) dX7_init_7 rfl ?_
  intro q1
  refine j_putF 12 kf_X7_11 rfl (fun _ _ _ h => by cases h; rfl) dX7_init_9 rfl rfl rfl ?_
  intro y2
  refine j_aload_n 13 0 dX7_init_12 rfl rfl rfl ?_
  refine j_bipush (v := 8) 15 dX7_init_13 rfl bc_8 ?_
  refine j_newI (N := 8) 17 kar_int (by decide) (by decide) (Nat.le_of_ble_eq_true rfl) (Nat.le_of_ble_eq_true rfl) (Nat.le_of_ble_eq_true rfl) dX7_init_15 rfl ?_
  intro q3
  refine j_putF 20 kf_X7_15 rfl (fun _ _ _ h => by cases h; rfl) dX7_init_17 rfl rfl rfl ?_
  intro y4
  refine j_aload_n 21 0 dX7_init_20 rfl rfl rfl ?_
  refine j_bipush (v := 8) 23 dX7_init_21 rfl bc_8 ?_
  refine j_newI (N := 8) 25 kar_int (by decide) (by decide) (Nat.le_of_ble_eq_true rfl) (Nat.le_of_ble_eq_true rfl) (Nat.le_of_ble_eq_true rfl) dX7_init_23 rfl ?_
  intro q5
  refine j_putF 28 kf_X7_18 rfl (fun _ _ _ h => by cases h; rfl) dX7_init_25 rfl rfl rfl ?_
  intro y6
  refine j_aload_n 29 0 dX7_init_28 rfl rfl rfl ?_
  refine j_bipush (v := 8) 31 dX7_init_29 rfl bc_8 ?_
  refine j_newI (N := 8) 33 kar_int (by decide) (by decide) (Nat.le_of_ble_eq_true rfl) (Nat.le_of_ble_eq_true rfl) (Nat.le_of_ble_eq_true rfl) dX7_init_31 rfl ?_
  intro q7
  refine j_putF 36 kf_X7_21 rfl (fun _ _ _ h => by cases h; rfl) dX7_init_33 rfl rfl rfl ?_
  intro y8
  refine j_aload_n 37 0 dX7_init_36 rfl rfl rfl ?_
  refine j_bipush (v := 8) 39 dX7_init_37 rfl bc_8 ?_
  refine j_newL (N := 8) 41 kar_long (by decide) (by decide) (Nat.le_of_ble_eq_true rfl) (Nat.le_of_ble_eq_true rfl) (Nat.le_of_ble_eq_true rfl) dX7_init_39 rfl ?_
  intro q9
  refine j_putF 44 kf_X7_24 rfl (fun _ _ _ h => by cases h; rfl) dX7_init_41 rfl rfl rfl ?_
  intro y10
  refine j_aload_n 45 0 dX7_init_44 rfl rfl rfl ?_
  refine j_lconst (v := 1) 46 dX7_init_45 rfl lc_1 ?_
  refine j_put 49 kf_X7_28 dX7_init_46 rfl rfl rfl ?_
  intro y11
  refine j_aload_n 50 0 dX7_init_49 rfl rfl rfl ?_
  refine j_iconst (v := 2) 51 dX7_init_50 rfl ic_2 ?_
  refine j_newI (N := 2) 53 kar_int (by decide) (by decide) (Nat.le_of_ble_eq_true rfl) (Nat.le_of_ble_eq_true rfl) (Nat.le_of_ble_eq_true rfl) dX7_init_51 rfl ?_
  intro q12
  refine j_dup 54 dX7_init_53 rfl rfl ?_
  refine j_iconst (v := 0) 55 dX7_init_54 rfl ic_0 ?_
  refine j_iconst (v := -1) 56 dX7_init_55 rfl ic_m1 ?_
  refine j_wI 57 dX7_init_56 rfl ?_
  intro y13
  refine j_dup 58 dX7_init_57 rfl rfl ?_
  refine j_iconst (v := 1) 59 dX7_init_58 rfl ic_1 ?_
  refine j_iconst (v := -1) 60 dX7_init_59 rfl ic_m1 ?_
  refine j_wI 61 dX7_init_60 rfl ?_
  intro y14
  refine j_putF 64 kf_X7_32 rfl (fun _ _ _ h => by cases h; rfl) dX7_init_61 rfl rfl rfl ?_
  intro y15
  refine j_aload_n 65 0 dX7_init_64 rfl rfl rfl ?_
  refine j_iconst (v := 2) 66 dX7_init_65 rfl ic_2 ?_
  refine j_newI (N := 2) 68 kar_int (by decide) (by decide) (Nat.le_of_ble_eq_true rfl) (Nat.le_of_ble_eq_true rfl) (Nat.le_of_ble_eq_true rfl) dX7_init_66 rfl ?_
  intro q16
  refine j_dup 69 dX7_init_68 rfl rfl ?_
  refine j_iconst (v := 0) 70 dX7_init_69 rfl ic_0 ?_
  refine j_iconst (v := 4) 71 dX7_init_70 rfl ic_4 ?_
  refine j_wI 72 dX7_init_71 rfl ?_
  intro y17
  refine j_dup 73 dX7_init_72 rfl rfl ?_
  refine j_iconst (v := 1) 74 dX7_init_73 rfl ic_1 ?_
  refine j_iconst (v := 0) 75 dX7_init_74 rfl ic_0 ?_
  refine j_wI 76 dX7_init_75 rfl ?_
  intro y18
  refine j_putF 79 kf_X7_35 rfl (fun _ _ _ h => by cases h; rfl) dX7_init_76 rfl rfl rfl ?_
  intro y19
  refine j_aload_n 80 0 dX7_init_79 rfl rfl rfl ?_
  refine j_bipush (v := 12) 82 dX7_init_80 rfl bc_12 ?_
  refine j_newI (N := 12) 84 kar_int (by decide) (by decide) (Nat.le_of_ble_eq_true rfl) (Nat.le_of_ble_eq_true rfl) (Nat.le_of_ble_eq_true rfl) dX7_init_82 rfl ?_
  intro q20
  refine j_putF 87 kf_X7_38 rfl (fun _ _ _ h => by cases h; rfl) dX7_init_84 rfl rfl rfl ?_
  intro y21
  refine j_aload_n 88 0 dX7_init_87 rfl rfl rfl ?_
  refine j_bipush (v := 12) 90 dX7_init_88 rfl bc_12 ?_
  refine j_newI (N := 12) 92 kar_int (by decide) (by decide) (Nat.le_of_ble_eq_true rfl) (Nat.le_of_ble_eq_true rfl) (Nat.le_of_ble_eq_true rfl) dX7_init_90 rfl ?_
  intro q22
  refine j_putF 95 kf_X7_41 rfl (fun _ _ _ h => by cases h; rfl) dX7_init_92 rfl rfl rfl ?_
  intro y23
  refine j_aload_n 96 0 dX7_init_95 rfl rfl rfl ?_
  refine j_bipush (v := 12) 98 dX7_init_96 rfl bc_12 ?_
  refine j_newI (N := 12) 100 kar_int (by decide) (by decide) (Nat.le_of_ble_eq_true rfl) (Nat.le_of_ble_eq_true rfl) (Nat.le_of_ble_eq_true rfl) dX7_init_98 rfl ?_
  intro q24
  refine j_putF 103 kf_X7_44 rfl (fun _ _ _ h => by cases h; rfl) dX7_init_100 rfl rfl rfl ?_
  intro y25
  refine j_aload_n 104 0 dX7_init_103 rfl rfl rfl ?_
  refine j_bipush (v := 8) 106 dX7_init_104 rfl bc_8 ?_
  refine j_newL (N := 8) 108 kar_long (by decide) (by decide) (Nat.le_of_ble_eq_true rfl) (Nat.le_of_ble_eq_true rfl) (Nat.le_of_ble_eq_true rfl) dX7_init_106 rfl ?_
  intro q26
  refine j_putF 111 kf_X7_47 rfl (fun _ _ _ h => by cases h; rfl) dX7_init_108 rfl rfl rfl ?_
  intro y27
  refine j_aload_n 112 0 dX7_init_111 rfl rfl rfl ?_
  refine j_bipush (v := 12) 114 dX7_init_112 rfl bc_12 ?_
  refine j_newI (N := 12) 116 kar_int (by decide) (by decide) (Nat.le_of_ble_eq_true rfl) (Nat.le_of_ble_eq_true rfl) (Nat.le_of_ble_eq_true rfl) dX7_init_114 rfl ?_
  intro q28
  refine j_putF 119 kf_X7_50 rfl (fun _ _ _ h => by cases h; rfl) dX7_init_116 rfl rfl rfl ?_
  intro y29
  refine j_aload_n 120 0 dX7_init_119 rfl rfl rfl ?_
  refine j_bipush (v := 12) 122 dX7_init_120 rfl bc_12 ?_
  refine j_newI (N := 12) 124 kar_int (by decide) (by decide) (Nat.le_of_ble_eq_true rfl) (Nat.le_of_ble_eq_true rfl) (Nat.le_of_ble_eq_true rfl) dX7_init_122 rfl ?_
  intro q30
  refine j_putF 127 kf_X7_53 rfl (fun _ _ _ h => by cases h; rfl) dX7_init_124 rfl rfl rfl ?_
  intro y31
  refine j_aload_n 128 0 dX7_init_127 rfl rfl rfl ?_
  refine j_bipush (v := 12) 130 dX7_init_128 rfl bc_12 ?_
  refine j_newI (N := 12) 132 kar_int (by decide) (by decide) (Nat.le_of_ble_eq_true rfl) (Nat.le_of_ble_eq_true rfl) (Nat.le_of_ble_eq_true rfl) dX7_init_130 rfl ?_
  intro q32
  refine j_putF 135 kf_X7_56 rfl (fun _ _ _ h => by cases h; rfl) dX7_init_132 rfl rfl rfl ?_
  intro y33
  refine j_aload_n 136 0 dX7_init_135 rfl rfl rfl ?_
  refine j_bipush (v := 8) 138 dX7_init_136 rfl bc_8 ?_
  refine j_newL (N := 8) 140 kar_long (by decide) (by decide) (Nat.le_of_ble_eq_true rfl) (Nat.le_of_ble_eq_true rfl) (Nat.le_of_ble_eq_true rfl) dX7_init_138 rfl ?_
  intro q34
  refine j_putF 143 kf_X7_59 rfl (fun _ _ _ h => by cases h; rfl) dX7_init_140 rfl rfl rfl ?_
  intro y35
  refine j_aload_n 144 0 dX7_init_143 rfl rfl rfl ?_
  refine j_bipush (v := 9) 146 dX7_init_144 rfl bc_9 ?_
  refine j_newL (N := 9) 148 kar_long (by decide) (by decide) (Nat.le_of_ble_eq_true rfl) (Nat.le_of_ble_eq_true rfl) (Nat.le_of_ble_eq_true rfl) dX7_init_146 rfl ?_
  intro q36
  refine j_putF 151 kf_X7_62 rfl (fun _ _ _ h => by cases h; rfl) dX7_init_148 rfl rfl rfl ?_
  intro y37
  refine j_aload_n 152 0 dX7_init_151 rfl rfl rfl ?_
  refine j_bipush (v := 10) 154 dX7_init_152 rfl bc_10 ?_
  refine j_newL (N := 10) 156 kar_long (by decide) (by decide) (Nat.le_of_ble_eq_true rfl) (Nat.le_of_ble_eq_true rfl) (Nat.le_of_ble_eq_true rfl) dX7_init_154 rfl ?_
  intro q38
  refine j_putF 159 kf_X7_65 rfl (fun _ _ _ h => by cases h; rfl) dX7_init_156 rfl rfl rfl ?_
  intro y39
  refine j_aload_n 160 0 dX7_init_159 rfl rfl rfl ?_
  refine j_bipush (v := 8) 162 dX7_init_160 rfl bc_8 ?_
  refine j_newL (N := 8) 164 kar_long (by decide) (by decide) (Nat.le_of_ble_eq_true rfl) (Nat.le_of_ble_eq_true rfl) (Nat.le_of_ble_eq_true rfl) dX7_init_162 rfl ?_
  intro q40
  refine j_putF 167 kf_X7_68 rfl (fun _ _ _ h => by cases h; rfl) dX7_init_164 rfl rfl rfl ?_
  intro y41
  refine j_aload_n 168 0 dX7_init_167 rfl rfl rfl ?_
  refine j_bipush (v := 10) 170 dX7_init_168 rfl bc_10 ?_
  refine j_newI (N := 10) 172 kar_int (by decide) (by decide) (Nat.le_of_ble_eq_true rfl) (Nat.le_of_ble_eq_true rfl) (Nat.le_of_ble_eq_true rfl) dX7_init_170 rfl ?_
  intro q42
  refine j_putF 175 kf_X7_71 rfl (fun _ _ _ h => by cases h; rfl) dX7_init_172 rfl rfl rfl ?_
  intro y43
  refine j_aload_n 176 0 dX7_init_175 rfl rfl rfl ?_
  refine j_bipush (v := 44) 178 dX7_init_176 rfl bc_44 ?_
  refine j_newC (N := 44) 180 kar_char (by decide) (by decide) (Nat.le_of_ble_eq_true rfl) (Nat.le_of_ble_eq_true rfl) (Nat.le_of_ble_eq_true rfl) dX7_init_178 rfl ?_
  intro q44
  refine j_dup 181 dX7_init_180 rfl rfl ?_
  refine j_iconst (v := 0) 182 dX7_init_181 rfl ic_0 ?_
  refine j_bipush (v := 99) 184 dX7_init_182 rfl bc_99 ?_
  refine j_wC 185 dX7_init_184 rfl ?_
  intro y45
  refine j_dup 186 dX7_init_185 rfl rfl ?_
  refine j_iconst (v := 1) 187 dX7_init_186 rfl ic_1 ?_
  refine j_bipush (v := 101) 189 dX7_init_187 rfl bc_101 ?_
  refine j_wC 190 dX7_init_189 rfl ?_
  intro y46
  refine j_dup 191 dX7_init_190 rfl rfl ?_
  refine j_iconst (v := 2) 192 dX7_init_191 rfl ic_2 ?_
  refine j_bipush (v := 108) 194 dX7_init_192 rfl bc_108 ?_
  refine j_wC 195 dX7_init_194 rfl ?_
  intro y47
  refine j_dup 196 dX7_init_195 rfl rfl ?_
  refine j_iconst (v := 3) 197 dX7_init_196 rfl ic_3 ?_
  refine j_bipush (v := 108) 199 dX7_init_197 rfl bc_108 ?_
  refine j_wC 200 dX7_init_199 rfl ?_
  intro y48
  refine j_dup 201 dX7_init_200 rfl rfl ?_
  refine j_iconst (v := 4) 202 dX7_init_201 rfl ic_4 ?_
  refine j_bipush (v := 32) 204 dX7_init_202 rfl bc_32 ?_
  refine j_wC 205 dX7_init_204 rfl ?_
  intro y49
  refine j_dup 206 dX7_init_205 rfl rfl ?_
  refine j_iconst (v := 5) 207 dX7_init_206 rfl ic_5 ?_
  refine j_bipush (v := 104) 209 dX7_init_207 rfl bc_104 ?_
  refine j_wC 210 dX7_init_209 rfl ?_
  intro y50
  refine j_dup 211 dX7_init_210 rfl rfl ?_
  refine j_bipush (v := 6) 213 dX7_init_211 rfl bc_6 ?_
  refine j_bipush (v := 101) 215 dX7_init_213 rfl bc_101 ?_
  refine j_wC 216 dX7_init_215 rfl ?_
  intro y51
  refine j_dup 217 dX7_init_216 rfl rfl ?_
  refine j_bipush (v := 7) 219 dX7_init_217 rfl bc_7 ?_
  refine j_bipush (v := 97) 221 dX7_init_219 rfl bc_97 ?_
  refine j_wC 222 dX7_init_221 rfl ?_
  intro y52
  refine j_dup 223 dX7_init_222 rfl rfl ?_
  refine j_bipush (v := 8) 225 dX7_init_223 rfl bc_8 ?_
  refine j_bipush (v := 116) 227 dX7_init_225 rfl bc_116 ?_
  refine j_wC 228 dX7_init_227 rfl ?_
  intro y53
  refine j_dup 229 dX7_init_228 rfl rfl ?_
  refine j_bipush (v := 9) 231 dX7_init_229 rfl bc_9 ?_
  refine j_bipush (v := 32) 233 dX7_init_231 rfl bc_32 ?_
  refine j_wC 234 dX7_init_233 rfl ?_
  intro y54
  refine j_dup 235 dX7_init_234 rfl rfl ?_
  refine j_bipush (v := 10) 237 dX7_init_235 rfl bc_10 ?_
  refine j_bipush (v := 115) 239 dX7_init_237 rfl bc_115 ?_
  refine j_wC 240 dX7_init_239 rfl ?_
  intro y55
  refine j_dup 241 dX7_init_240 rfl rfl ?_
  refine j_bipush (v := 11) 243 dX7_init_241 rfl bc_11 ?_
  refine j_bipush (v := 111) 245 dX7_init_243 rfl bc_111 ?_
  refine j_wC 246 dX7_init_245 rfl ?_
  intro y56
  refine j_dup 247 dX7_init_246 rfl rfl ?_
  refine j_bipush (v := 12) 249 dX7_init_247 rfl bc_12 ?_
  refine j_bipush (v := 117) 251 dX7_init_249 rfl bc_117 ?_
  refine j_wC 252 dX7_init_251 rfl ?_
  intro y57
  refine j_dup 253 dX7_init_252 rfl rfl ?_
  refine j_bipush (v := 13) 255 dX7_init_253 rfl bc_13 ?_
  refine j_bipush (v := 114) 257 dX7_init_255 rfl bc_114 ?_
  refine j_wC 258 dX7_init_257 rfl ?_
  intro y58
  refine j_dup 259 dX7_init_258 rfl rfl ?_
  refine j_bipush (v := 14) 261 dX7_init_259 rfl bc_14 ?_
  refine j_bipush (v := 99) 263 dX7_init_261 rfl bc_99 ?_
  refine j_wC 264 dX7_init_263 rfl ?_
  intro y59
  refine j_dup 265 dX7_init_264 rfl rfl ?_
  refine j_bipush (v := 15) 267 dX7_init_265 rfl bc_15 ?_
  refine j_bipush (v := 101) 269 dX7_init_267 rfl bc_101 ?_
  refine j_wC 270 dX7_init_269 rfl ?_
  intro y60
  refine j_dup 271 dX7_init_270 rfl rfl ?_
  refine j_bipush (v := 16) 273 dX7_init_271 rfl bc_16 ?_
  refine j_bipush (v := 32) 275 dX7_init_273 rfl bc_32 ?_
  refine j_wC 276 dX7_init_275 rfl ?_
  intro y61
  refine j_dup 277 dX7_init_276 rfl rfl ?_
  refine j_bipush (v := 17) 279 dX7_init_277 rfl bc_17 ?_
  refine j_bipush (v := 108) 281 dX7_init_279 rfl bc_108 ?_
  refine j_wC 282 dX7_init_281 rfl ?_
  intro y62
  refine j_dup 283 dX7_init_282 rfl rfl ?_
  refine j_bipush (v := 18) 285 dX7_init_283 rfl bc_18 ?_
  refine j_bipush (v := 101) 287 dX7_init_285 rfl bc_101 ?_
  refine j_wC 288 dX7_init_287 rfl ?_
  intro y63
  refine j_dup 289 dX7_init_288 rfl rfl ?_
  refine j_bipush (v := 19) 291 dX7_init_289 rfl bc_19 ?_
  refine j_bipush (v := 102) 293 dX7_init_291 rfl bc_102 ?_
  refine j_wC 294 dX7_init_293 rfl ?_
  intro y64
  refine j_dup 295 dX7_init_294 rfl rfl ?_
  refine j_bipush (v := 20) 297 dX7_init_295 rfl bc_20 ?_
  refine j_bipush (v := 116) 299 dX7_init_297 rfl bc_116 ?_
  refine j_wC 300 dX7_init_299 rfl ?_
  intro y65
  refine j_dup 301 dX7_init_300 rfl rfl ?_
  refine j_bipush (v := 21) 303 dX7_init_301 rfl bc_21 ?_
  refine j_bipush (v := 32) 305 dX7_init_303 rfl bc_32 ?_
  refine j_wC 306 dX7_init_305 rfl ?_
  intro y66
  refine j_dup 307 dX7_init_306 rfl rfl ?_
  refine j_bipush (v := 22) 309 dX7_init_307 rfl bc_22 ?_
  refine j_bipush (v := 114) 311 dX7_init_309 rfl bc_114 ?_
  refine j_wC 312 dX7_init_311 rfl ?_
  intro y67
  refine j_dup 313 dX7_init_312 rfl rfl ?_
  refine j_bipush (v := 23) 315 dX7_init_313 rfl bc_23 ?_
  refine j_bipush (v := 105) 317 dX7_init_315 rfl bc_105 ?_
  refine j_wC 318 dX7_init_317 rfl ?_
  intro y68
  refine j_dup 319 dX7_init_318 rfl rfl ?_
  refine j_bipush (v := 24) 321 dX7_init_319 rfl bc_24 ?_
  refine j_bipush (v := 103) 323 dX7_init_321 rfl bc_103 ?_
  refine j_wC 324 dX7_init_323 rfl ?_
  intro y69
  refine j_dup 325 dX7_init_324 rfl rfl ?_
  refine j_bipush (v := 25) 327 dX7_init_325 rfl bc_25 ?_
  refine j_bipush (v := 104) 329 dX7_init_327 rfl bc_104 ?_
  refine j_wC 330 dX7_init_329 rfl ?_
  intro y70
  refine j_dup 331 dX7_init_330 rfl rfl ?_
  refine j_bipush (v := 26) 333 dX7_init_331 rfl bc_26 ?_
  refine j_bipush (v := 116) 335 dX7_init_333 rfl bc_116 ?_
  refine j_wC 336 dX7_init_335 rfl ?_
  intro y71
  refine j_dup 337 dX7_init_336 rfl rfl ?_
  refine j_bipush (v := 27) 339 dX7_init_337 rfl bc_27 ?_
  refine j_bipush (v := 32) 341 dX7_init_339 rfl bc_32 ?_
  refine j_wC 342 dX7_init_341 rfl ?_
  intro y72
  refine j_dup 343 dX7_init_342 rfl rfl ?_
  refine j_bipush (v := 28) 345 dX7_init_343 rfl bc_28 ?_
  refine j_bipush (v := 102) 347 dX7_init_345 rfl bc_102 ?_
  refine j_wC 348 dX7_init_347 rfl ?_
  intro y73
  refine j_dup 349 dX7_init_348 rfl rfl ?_
  refine j_bipush (v := 29) 351 dX7_init_349 rfl bc_29 ?_
  refine j_bipush (v := 105) 353 dX7_init_351 rfl bc_105 ?_
  refine j_wC 354 dX7_init_353 rfl ?_
  intro y74
  refine j_dup 355 dX7_init_354 rfl rfl ?_
  refine j_bipush (v := 30) 357 dX7_init_355 rfl bc_30 ?_
  refine j_bipush (v := 110) 359 dX7_init_357 rfl bc_110 ?_
  refine j_wC 360 dX7_init_359 rfl ?_
  intro y75
  refine j_dup 361 dX7_init_360 rfl rfl ?_
  refine j_bipush (v := 31) 363 dX7_init_361 rfl bc_31 ?_
  refine j_bipush (v := 101) 365 dX7_init_363 rfl bc_101 ?_
  refine j_wC 366 dX7_init_365 rfl ?_
  intro y76
  refine j_dup 367 dX7_init_366 rfl rfl ?_
  refine j_bipush (v := 32) 369 dX7_init_367 rfl bc_32 ?_
  refine j_bipush (v := 32) 371 dX7_init_369 rfl bc_32 ?_
  refine j_wC 372 dX7_init_371 rfl ?_
  intro y77
  refine j_dup 373 dX7_init_372 rfl rfl ?_
  refine j_bipush (v := 33) 375 dX7_init_373 rfl bc_33 ?_
  refine j_bipush (v := 112) 377 dX7_init_375 rfl bc_112 ?_
  refine j_wC 378 dX7_init_377 rfl ?_
  intro y78
  refine j_dup 379 dX7_init_378 rfl rfl ?_
  refine j_bipush (v := 34) 381 dX7_init_379 rfl bc_34 ?_
  refine j_bipush (v := 117) 383 dX7_init_381 rfl bc_117 ?_
  refine j_wC 384 dX7_init_383 rfl ?_
  intro y79
  refine j_dup 385 dX7_init_384 rfl rfl ?_
  refine j_bipush (v := 35) 387 dX7_init_385 rfl bc_35 ?_
  refine j_bipush (v := 108) 389 dX7_init_387 rfl bc_108 ?_
  refine j_wC 390 dX7_init_389 rfl ?_
  intro y80
  refine j_dup 391 dX7_init_390 rfl rfl ?_
  refine j_bipush (v := 36) 393 dX7_init_391 rfl bc_36 ?_
  refine j_bipush (v := 115) 395 dX7_init_393 rfl bc_115 ?_
  refine j_wC 396 dX7_init_395 rfl ?_
  intro y81
  refine j_dup 397 dX7_init_396 rfl rfl ?_
  refine j_bipush (v := 37) 399 dX7_init_397 rfl bc_37 ?_
  refine j_bipush (v := 101) 401 dX7_init_399 rfl bc_101 ?_
  refine j_wC 402 dX7_init_401 rfl ?_
  intro y82
  refine j_dup 403 dX7_init_402 rfl rfl ?_
  refine j_bipush (v := 38) 405 dX7_init_403 rfl bc_38 ?_
  refine j_bipush (v := 32) 407 dX7_init_405 rfl bc_32 ?_
  refine j_wC 408 dX7_init_407 rfl ?_
  intro y83
  refine j_dup 409 dX7_init_408 rfl rfl ?_
  refine j_bipush (v := 39) 411 dX7_init_409 rfl bc_39 ?_
  refine j_bipush (v := 100) 413 dX7_init_411 rfl bc_100 ?_
  refine j_wC 414 dX7_init_413 rfl ?_
  intro y84
  refine j_dup 415 dX7_init_414 rfl rfl ?_
  refine j_bipush (v := 40) 417 dX7_init_415 rfl bc_40 ?_
  refine j_bipush (v := 114) 419 dX7_init_417 rfl bc_114 ?_
  refine j_wC 420 dX7_init_419 rfl ?_
  intro y85
  refine j_dup 421 dX7_init_420 rfl rfl ?_
  refine j_bipush (v := 41) 423 dX7_init_421 rfl bc_41 ?_
  refine j_bipush (v := 111) 425 dX7_init_423 rfl bc_111 ?_
  refine j_wC 426 dX7_init_425 rfl ?_
  intro y86
  refine j_dup 427 dX7_init_426 rfl rfl ?_
  refine j_bipush (v := 42) 429 dX7_init_427 rfl bc_42 ?_
  refine j_bipush (v := 112) 431 dX7_init_429 rfl bc_112 ?_
  refine j_wC 432 dX7_init_431 rfl ?_
  intro y87
  refine j_dup 433 dX7_init_432 rfl rfl ?_
  refine j_bipush (v := 43) 435 dX7_init_433 rfl bc_43 ?_
  refine j_bipush (v := 32) 437 dX7_init_435 rfl bc_32 ?_
  refine j_wC 438 dX7_init_437 rfl ?_
  intro y88
  refine j_putF 441 kf_X7_74 rfl (fun _ _ _ h => by cases h; rfl) dX7_init_438 rfl rfl rfl ?_
  intro y89
  refine j_aload_n 442 0 dX7_init_441 rfl rfl rfl ?_
  refine j_bipush (v := 8) 444 dX7_init_442 rfl bc_8 ?_
  refine j_newI (N := 8) 446 kar_int (by decide) (by decide) (Nat.le_of_ble_eq_true rfl) (Nat.le_of_ble_eq_true rfl) (Nat.le_of_ble_eq_true rfl) dX7_init_444 rfl ?_
  intro q90
  refine j_dup 447 dX7_init_446 rfl rfl ?_
  refine j_iconst (v := 0) 448 dX7_init_447 rfl ic_0 ?_
  refine j_iconst (v := 4) 449 dX7_init_448 rfl ic_4 ?_
  refine j_wI 450 dX7_init_449 rfl ?_
  intro y91
  refine j_dup 451 dX7_init_450 rfl rfl ?_
  refine j_iconst (v := 1) 452 dX7_init_451 rfl ic_1 ?_
  refine j_iconst (v := 2) 453 dX7_init_452 rfl ic_2 ?_
  refine j_wI 454 dX7_init_453 rfl ?_
  intro y92
  refine j_dup 455 dX7_init_454 rfl rfl ?_
  refine j_iconst (v := 2) 456 dX7_init_455 rfl ic_2 ?_
  refine j_iconst (v := 2) 457 dX7_init_456 rfl ic_2 ?_
  refine j_wI 458 dX7_init_457 rfl ?_
  intro y93
  refine j_dup 459 dX7_init_458 rfl rfl ?_
  refine j_iconst (v := 3) 460 dX7_init_459 rfl ic_3 ?_
  refine j_iconst (v := 1) 461 dX7_init_460 rfl ic_1 ?_
  refine j_wI 462 dX7_init_461 rfl ?_
  intro y94
  refine j_dup 463 dX7_init_462 rfl rfl ?_
  refine j_iconst (v := 4) 464 dX7_init_463 rfl ic_4 ?_
  refine j_iconst (v := 1) 465 dX7_init_464 rfl ic_1 ?_
  refine j_wI 466 dX7_init_465 rfl ?_
  intro y95
  refine j_dup 467 dX7_init_466 rfl rfl ?_
  refine j_iconst (v := 5) 468 dX7_init_467 rfl ic_5 ?_
  refine j_iconst (v := 1) 469 dX7_init_468 rfl ic_1 ?_
  refine j_wI 470 dX7_init_469 rfl ?_
  intro y96
  refine j_dup 471 dX7_init_470 rfl rfl ?_
  refine j_bipush (v := 6) 473 dX7_init_471 rfl bc_6 ?_
  refine j_iconst (v := 3) 474 dX7_init_473 rfl ic_3 ?_
  refine j_wI 475 dX7_init_474 rfl ?_
  intro y97
  refine j_dup 476 dX7_init_475 rfl rfl ?_
  refine j_bipush (v := 7) 478 dX7_init_476 rfl bc_7 ?_
  refine j_iconst (v := 0) 479 dX7_init_478 rfl ic_0 ?_
  refine j_wI 480 dX7_init_479 rfl ?_
  intro y98
  refine j_putF 483 kf_X7_78 rfl (fun _ _ _ h => by cases h; rfl) dX7_init_480 rfl rfl rfl ?_
  intro y99
  refine j_aload_n 484 0 dX7_init_483 rfl rfl rfl ?_
  refine j_bipush (v := 60) 486 dX7_init_484 rfl bc_60 ?_
  refine j_newI (N := 60) 488 kar_int (by decide) (by decide) (Nat.le_of_ble_eq_true rfl) (Nat.le_of_ble_eq_true rfl) (Nat.le_of_ble_eq_true rfl) dX7_init_486 rfl ?_
  intro q100
  refine j_putF 491 kf_X7_81 rfl (fun _ _ _ h => by cases h; rfl) dX7_init_488 rfl rfl rfl ?_
  intro y101
  refine j_aload_n 492 0 dX7_init_491 rfl rfl rfl ?_
  refine j_iconst (v := 4) 493 dX7_init_492 rfl ic_4 ?_
  refine j_newI (N := 4) 495 kar_int (by decide) (by decide) (Nat.le_of_ble_eq_true rfl) (Nat.le_of_ble_eq_true rfl) (Nat.le_of_ble_eq_true rfl) dX7_init_493 rfl ?_
  intro q102
  refine j_putF 498 kf_X7_84 rfl (fun _ _ _ h => by cases h; rfl) dX7_init_495 rfl rfl rfl ?_
  intro y103
  refine j_aload_n 499 0 dX7_init_498 rfl rfl rfl ?_
  refine j_bipush (v := 8) 501 dX7_init_499 rfl bc_8 ?_
  refine j_newI (N := 8) 503 kar_int (by decide) (by decide) (Nat.le_of_ble_eq_true rfl) (Nat.le_of_ble_eq_true rfl) (Nat.le_of_ble_eq_true rfl) dX7_init_501 rfl ?_
  intro q104
  refine j_putF 506 kf_X7_87 rfl (fun _ _ _ h => by cases h; rfl) dX7_init_503 rfl rfl rfl ?_
  intro y105
  refine j_aload_n 507 0 dX7_init_506 rfl rfl rfl ?_
  refine j_bipush (v := 8) 509 dX7_init_507 rfl bc_8 ?_
  refine j_newI (N := 8) 511 kar_int (by decide) (by decide) (Nat.le_of_ble_eq_true rfl) (Nat.le_of_ble_eq_true rfl) (Nat.le_of_ble_eq_true rfl) dX7_init_509 rfl ?_
  intro q106
  refine j_putF 514 kf_X7_90 rfl (fun _ _ _ h => by cases h; rfl) dX7_init_511 rfl rfl rfl ?_
  intro y107
  refine j_aload_n 515 0 dX7_init_514 rfl rfl rfl ?_
  refine j_bipush (v := 8) 517 dX7_init_515 rfl bc_8 ?_
  refine j_newI (N := 8) 519 kar_int (by decide) (by decide) (Nat.le_of_ble_eq_true rfl) (Nat.le_of_ble_eq_true rfl) (Nat.le_of_ble_eq_true rfl) dX7_init_517 rfl ?_
  intro q108
  refine j_putF 522 kf_X7_93 rfl (fun _ _ _ h => by cases h; rfl) dX7_init_519 rfl rfl rfl ?_
  intro y109
  refine j_aload_n 523 0 dX7_init_522 rfl rfl rfl ?_
  refine j_bipush (v := 8) 525 dX7_init_523 rfl bc_8 ?_
  refine j_newI (N := 8) 527 kar_int (by decide) (by decide) (Nat.le_of_ble_eq_true rfl) (Nat.le_of_ble_eq_true rfl) (Nat.le_of_ble_eq_true rfl) dX7_init_525 rfl ?_
  intro q110
  refine j_putF 530 kf_X7_96 rfl (fun _ _ _ h => by cases h; rfl) dX7_init_527 rfl rfl rfl ?_
  intro y111
  refine j_aload_n 531 0 dX7_init_530 rfl rfl rfl ?_
  refine j_bipush (v := 8) 533 dX7_init_531 rfl bc_8 ?_
  refine j_newL (N := 8) 535 kar_long (by decide) (by decide) (Nat.le_of_ble_eq_true rfl) (Nat.le_of_ble_eq_true rfl) (Nat.le_of_ble_eq_true rfl) dX7_init_533 rfl ?_
  intro q112
  refine j_putF 538 kf_X7_99 rfl (fun _ _ _ h => by cases h; rfl) dX7_init_535 rfl rfl rfl ?_
  intro y113
  refine j_aload_n 539 0 dX7_init_538 rfl rfl rfl ?_
  refine j_iconst (v := 2) 540 dX7_init_539 rfl ic_2 ?_
  refine j_newI (N := 2) 542 kar_int (by decide) (by decide) (Nat.le_of_ble_eq_true rfl) (Nat.le_of_ble_eq_true rfl) (Nat.le_of_ble_eq_true rfl) dX7_init_540 rfl ?_
  intro q114
  refine j_putF 545 kf_X7_102 rfl (fun _ _ _ h => by cases h; rfl) dX7_init_542 rfl rfl rfl ?_
  intro y115
  refine j_aload_n 546 0 dX7_init_545 rfl rfl rfl ?_
  refine j_iconst (v := 2) 547 dX7_init_546 rfl ic_2 ?_
  refine j_newI (N := 2) 549 kar_int (by decide) (by decide) (Nat.le_of_ble_eq_true rfl) (Nat.le_of_ble_eq_true rfl) (Nat.le_of_ble_eq_true rfl) dX7_init_547 rfl ?_
  intro q116
  refine j_putF 552 kf_X7_105 rfl (fun _ _ _ h => by cases h; rfl) dX7_init_549 rfl rfl rfl ?_
  intro y117
  refine j_aload_n 553 0 dX7_init_552 rfl rfl rfl ?_
  refine j_bipush (v := 12) 555 dX7_init_553 rfl bc_12 ?_
  refine j_newI (N := 12) 557 kar_int (by decide) (by decide) (Nat.le_of_ble_eq_true rfl) (Nat.le_of_ble_eq_true rfl) (Nat.le_of_ble_eq_true rfl) dX7_init_555 rfl ?_
  intro q118
  refine j_putF 560 kf_X7_108 rfl (fun _ _ _ h => by cases h; rfl) dX7_init_557 rfl rfl rfl ?_
  intro y119
  refine j_aload_n 561 0 dX7_init_560 rfl rfl rfl ?_
  refine j_bipush (v := 12) 563 dX7_init_561 rfl bc_12 ?_
  refine j_newI (N := 12) 565 kar_int (by decide) (by decide) (Nat.le_of_ble_eq_true rfl) (Nat.le_of_ble_eq_true rfl) (Nat.le_of_ble_eq_true rfl) dX7_init_563 rfl ?_
  intro q120
  refine j_putF 568 kf_X7_111 rfl (fun _ _ _ h => by cases h; rfl) dX7_init_565 rfl rfl rfl ?_
  intro y121
  refine j_aload_n 569 0 dX7_init_568 rfl rfl rfl ?_
  refine j_bipush (v := 12) 571 dX7_init_569 rfl bc_12 ?_
  refine j_newI (N := 12) 573 kar_int (by decide) (by decide) (Nat.le_of_ble_eq_true rfl) (Nat.le_of_ble_eq_true rfl) (Nat.le_of_ble_eq_true rfl) dX7_init_571 rfl ?_
  intro q122
  refine j_putF 576 kf_X7_114 rfl (fun _ _ _ h => by cases h; rfl) dX7_init_573 rfl rfl rfl ?_
  intro y123
  refine j_aload_n 577 0 dX7_init_576 rfl rfl rfl ?_
  refine j_iconst (v := 4) 578 dX7_init_577 rfl ic_4 ?_
  refine j_newI (N := 4) 580 kar_int (by decide) (by decide) (Nat.le_of_ble_eq_true rfl) (Nat.le_of_ble_eq_true rfl) (Nat.le_of_ble_eq_true rfl) dX7_init_578 rfl ?_
  intro q124
  refine j_dup 581 dX7_init_580 rfl rfl ?_
  refine j_iconst (v := 0) 582 dX7_init_581 rfl ic_0 ?_
  refine j_iconst (v := -1) 583 dX7_init_582 rfl ic_m1 ?_
  refine j_wI 584 dX7_init_583 rfl ?_
  intro y125
  refine j_dup 585 dX7_init_584 rfl rfl ?_
  refine j_iconst (v := 1) 586 dX7_init_585 rfl ic_1 ?_
  refine j_iconst (v := -1) 587 dX7_init_586 rfl ic_m1 ?_
  refine j_wI 588 dX7_init_587 rfl ?_
  intro y126
  refine j_dup 589 dX7_init_588 rfl rfl ?_
  refine j_iconst (v := 2) 590 dX7_init_589 rfl ic_2 ?_
  refine j_iconst (v := -1) 591 dX7_init_590 rfl ic_m1 ?_
  refine j_wI 592 dX7_init_591 rfl ?_
  intro y127
  refine j_dup 593 dX7_init_592 rfl rfl ?_
  refine j_iconst (v := 3) 594 dX7_init_593 rfl ic_3 ?_
  refine j_iconst (v := -1) 595 dX7_init_594 rfl ic_m1 ?_
  refine j_wI 596 dX7_init_595 rfl ?_
  intro y128
  refine j_putF 599 kf_X7_117 rfl (fun _ _ _ h => by cases h; rfl) dX7_init_596 rfl rfl rfl ?_
  intro y129
  refine j_aload_n 600 0 dX7_init_599 rfl rfl rfl ?_
  refine j_iconst (v := 4) 601 dX7_init_600 rfl ic_4 ?_
  refine j_newI (N := 4) 603 kar_int (by decide) (by decide) (Nat.le_of_ble_eq_true rfl) (Nat.le_of_ble_eq_true rfl) (Nat.le_of_ble_eq_true rfl) dX7_init_601 rfl ?_
  intro q130
  refine j_putF 606 kf_X7_120 rfl (fun _ _ _ h => by cases h; rfl) dX7_init_603 rfl rfl rfl ?_
  intro y131
  refine j_aload_n 607 0 dX7_init_606 rfl rfl rfl ?_
  refine j_sipush (v := 160) 610 dX7_init_607 rfl sc_160 ?_
  refine j_newI (N := 160) 612 kar_int (by decide) (by decide) (Nat.le_of_ble_eq_true rfl) (Nat.le_of_ble_eq_true rfl) (Nat.le_of_ble_eq_true rfl) dX7_init_610 rfl ?_
  intro q132
  refine j_putF 615 kf_X7_123 rfl (fun _ _ _ h => by cases h; rfl) dX7_init_612 rfl rfl rfl ?_
  intro y133
  refine j_aload_n 616 0 dX7_init_615 rfl rfl rfl ?_
  refine j_bipush (v := 40) 618 dX7_init_616 rfl bc_40 ?_
  refine j_newI (N := 40) 620 kar_int (by decide) (by decide) (Nat.le_of_ble_eq_true rfl) (Nat.le_of_ble_eq_true rfl) (Nat.le_of_ble_eq_true rfl) dX7_init_618 rfl ?_
  intro q134
  refine j_putF 623 kf_X7_126 rfl (fun _ _ _ h => by cases h; rfl) dX7_init_620 rfl rfl rfl ?_
  intro y135
  exact j_vret dX7_init_623 rfl
-- X7_isIn: ('BarStepsModel', 'isIn', '(JJJ)Z')
def X7_isIn (a0 : Int64) (a1 : Int64) (a2 : Int64) : Option (Int32) := (if a0 < a1 then (zb 0).bind fun v1 => some v1 else
  (if a2 < a0 then (zb 0).bind fun v2 => some v2 else
  (zb 1).bind fun v3 => some v3))
theorem okX7_isIn (G : JG) (x : Hs) (a0 : Int64) (a1 : Int64) (a2 : Int64) : ∀ r, X7_isIn a0 a1 a2 = some r → JC G yX7_isIn cX7_isIn 6 (some .boolean) (jR 1 0 0) 0 0 [.long a0, .long a1, .long a2] x ((some (.int r), x)) := by
  refine jc_of (own := RX7) (E := (fun r : Int32 => ((some (.int r), x) : JR))) (by decide) rfl rfl (Nat.le_of_ble_eq_true rfl) rfl ?_
  unfold X7_isIn
  refine j_lload_n 1 0 dX7_isIn_0 rfl rfl rfl ?_
  refine j_lload_n 2 1 dX7_isIn_1 rfl rfl rfl ?_
  refine j_lcmp_lt 3 17 6 dX7_isIn_2 rfl dX7_isIn_3 (by decide) rfl ?_ ?_
  · refine j_iconst (v := 0) 18 dX7_isIn_17 rfl ic_0 ?_
    exact j_zret dX7_isIn_18 (fun _ => rfl)
  · refine j_lload_n 7 0 dX7_isIn_6 rfl rfl rfl ?_
    refine j_lload 9 2 dX7_isIn_7 rfl rfl ?_
    refine j_lcmp_gt 10 17 13 dX7_isIn_9 rfl dX7_isIn_10 (by decide) rfl ?_ ?_
    · refine j_iconst (v := 0) 18 dX7_isIn_17 rfl ic_0 ?_
      exact j_zret dX7_isIn_18 (fun _ => rfl)
    · refine j_iconst (v := 1) 14 dX7_isIn_13 rfl ic_1 ?_
      refine j_goto 18 dX7_isIn_14 (by decide) ?_
      exact j_zret dX7_isIn_18 (fun _ => rfl)
-- X7_isCell: ('BarStepsModel', 'isCell', '(I)Z')
def X7_isCell (a0 : Nat) (a1 : Int32) (x : Hs) : Option (Int32) := (vO x 6 a0).bind fun _ =>
  (gI x 6 a0 0).bind fun v1 =>
  (X7_isIn (Int32.toInt64 a1) 0 (Int32.toInt64 (v1 - 1))).bind fun v2 =>
  (zb v2).bind fun v3 => some v3
theorem rvX7_isCell {a0 : Nat} {a1 : Int32} {x : Hs} {r : Int32} (h : X7_isCell a0 a1 x = some r) : ∃ fs, x.1 a0 = .inr (6, fs) := vO_bind h
theorem okX7_isCell (G : JG) (x : Hs) (a0 : Nat) (a1 : Int32) : ∀ r, X7_isCell a0 a1 x = some r → JC G yX7_isCell cX7_isCell 2 (some .boolean) (jR 2 0 0) 0 0 [.ref a0, .int a1] x ((some (.int r), x)) := by
  refine jc_of (own := RX7) (E := (fun r : Int32 => ((some (.int r), x) : JR))) (by decide) rfl rfl (Nat.le_of_ble_eq_true rfl) rfl ?_
  unfold X7_isCell
  refine j_chk ?_
  refine j_iload_n 1 1 dX7_isCell_0 rfl rfl rfl ?_
  refine j_i2l 2 dX7_isCell_1 rfl ?_
  refine j_lconst (v := 0) 3 dX7_isCell_2 rfl lc_0 ?_
  refine j_aload_n 4 0 dX7_isCell_3 rfl rfl rfl ?_
  refine j_gI 7 kf_X7_129 dX7_isCell_4 rfl ?_
  intro v1
  refine j_iconst (v := 1) 8 dX7_isCell_7 rfl ic_1 ?_
  refine j_isub 9 dX7_isCell_8 rfl ?_
  refine j_i2l 10 dX7_isCell_9 rfl ?_
  refine j_callS_i (As := [.long (Int32.toInt64 a1), .long 0, .long (Int32.toInt64 (v1 - 1))]) (st := []) 13 (okX7_isIn G x (Int32.toInt64 a1) 0 (Int32.toInt64 (v1 - 1))) kc_X7_isIn kl_X7_133 ks_X7_isIn ⟨rfl, rfl, Nat.le_of_ble_eq_true rfl, Nat.le_of_ble_eq_true rfl⟩ (Nat.le_of_ble_eq_true rfl) ⟨Nat.le_of_ble_eq_true rfl, Nat.le_of_ble_eq_true rfl⟩ rfl dX7_isCell_10 rfl rfl ?_
  intro v2
  exact j_zret dX7_isCell_13 (fun _ => rfl)
-- X7_divisor: ('BarStepsModel', 'divisor', '(JJ)J')
def X7_divisor_L12 : Nat → Int64 → Int64 → Option (Int64)
  | 0, _, _ => none
  | n + 1, l4, l6 => (if l6 = 0 then some l4 else
  (o_lrem l4 l6).bind fun v3 =>
  X7_divisor_L12 n l6 v3)
theorem okX7_divisor_L12 (G : JG) (x : Hs) : ∀ (n : Nat), ∀ (l4 : Int64) (l6 : Int64), JM G RX7 cX7_divisor 10 (jZ G (some .long) "divisor" (jR 2 0 0) 0 0) (fun r : Int64 => ((some (.long r), x) : JR)) 12 [(4, .long l4), (6, .long l6)] [] x 0 0 (X7_divisor_L12 n l4 l6) := by
  intro n
  induction n with
  | zero => intro l4 l6; exact j_none
  | succ n ih =>
    intro l4 l6
    unfold X7_divisor_L12
    refine j_lload 14 1 dX7_divisor_12 rfl rfl ?_
    refine j_lconst (v := 0) 15 dX7_divisor_14 rfl lc_0 ?_
    refine j_lcmp_eq 16 37 19 dX7_divisor_15 rfl dX7_divisor_16 (by decide) rfl ?_ ?_
    · refine j_lload 39 0 dX7_divisor_37 rfl rfl ?_
      exact j_lret dX7_divisor_39 rfl
    · refine j_lload 21 0 dX7_divisor_19 rfl rfl ?_
      refine j_lload 23 1 dX7_divisor_21 rfl rfl ?_
      refine j_lrem 24 dX7_divisor_23 rfl ?_
      intro v3
      refine j_lstore 26 [(8, .long v3), (4, .long l4), (6, .long l6)] dX7_divisor_24 rfl (by decide) rfl ?_
      refine j_lload 28 2 dX7_divisor_26 rfl rfl ?_
      refine j_lstore 30 [(4, .long l6), (8, .long v3), (6, .long l6)] dX7_divisor_28 rfl (by decide) rfl ?_
      refine j_lload 32 1 dX7_divisor_30 rfl rfl ?_
      refine j_lstore 34 [(6, .long v3), (4, .long l6), (8, .long v3)] dX7_divisor_32 rfl (by decide) rfl ?_
      refine j_goto 12 dX7_divisor_34 (by decide) ?_
      refine j_sub [1, 0] rfl ?_
      exact ih l6 v3
def X7_divisor (a0 : Int64) (a1 : Int64) : Option (Int64) := (J9_abs_067f4 a0).bind fun v1 =>
  (J9_abs_067f4 a1).bind fun v2 =>
  X7_divisor_L12 fu v1 v2
theorem okX7_divisor (G : JG) (x : Hs) (a0 : Int64) (a1 : Int64) : ∀ r, X7_divisor a0 a1 = some r → JC G yX7_divisor cX7_divisor 10 (some .long) (jR 2 0 0) 0 0 [.long a0, .long a1] x ((some (.long r), x)) := by
  refine jc_of (own := RX7) (E := (fun r : Int64 => ((some (.long r), x) : JR))) (by decide) rfl rfl (Nat.le_of_ble_eq_true rfl) rfl ?_
  unfold X7_divisor
  refine j_lload_n 1 0 dX7_divisor_0 rfl rfl rfl ?_
  refine j_callS_l (As := [.long a0]) (st := []) 4 (okJ9_abs_067f4 G x a0) kc_J9_abs_067f4 kl_X7_137 ks_J9_abs_067f4 ⟨rfl, rfl, Nat.le_of_ble_eq_true rfl, Nat.le_of_ble_eq_true rfl⟩ (Nat.le_of_ble_eq_true rfl) ⟨Nat.le_of_ble_eq_true rfl, Nat.le_of_ble_eq_true rfl⟩ rfl dX7_divisor_1 rfl rfl ?_
  intro v1
  refine j_lstore 6 [(4, .long v1), (0, .long a0), (2, .long a1)] dX7_divisor_4 rfl (by decide) rfl ?_
  refine j_lload_n 7 2 dX7_divisor_6 rfl rfl rfl ?_
  refine j_callS_l (As := [.long a1]) (st := []) 10 (okJ9_abs_067f4 G x a1) kc_J9_abs_067f4 kl_X7_137 ks_J9_abs_067f4 ⟨rfl, rfl, Nat.le_of_ble_eq_true rfl, Nat.le_of_ble_eq_true rfl⟩ (Nat.le_of_ble_eq_true rfl) ⟨Nat.le_of_ble_eq_true rfl, Nat.le_of_ble_eq_true rfl⟩ rfl dX7_divisor_7 rfl rfl ?_
  intro v2
  refine j_lstore 12 [(6, .long v2), (4, .long v1), (0, .long a0), (2, .long a1)] dX7_divisor_10 rfl (by decide) rfl ?_
  refine j_sub [1, 0] rfl ?_
  exact okX7_divisor_L12 G x fu v1 v2
-- X7_part: ('BarStepsModel', 'part', '(JJI)J')
def X7_part (a0 : Int64) (a1 : Int64) (a2 : Int32) : Option (Int64) := (X7_divisor a0 a1).bind fun v1 =>
  (if a2 = 0 then (o_ldiv a0 v1).bind fun v3 =>
  some v3 else
  (o_ldiv a1 v1).bind fun v2 =>
  some v2)
theorem okX7_part (G : JG) (x : Hs) (a0 : Int64) (a1 : Int64) (a2 : Int32) : ∀ r, X7_part a0 a1 a2 = some r → JC G yX7_part cX7_part 7 (some .long) (jR 3 0 0) 0 0 [.long a0, .long a1, .int a2] x ((some (.long r), x)) := by
  refine jc_of (own := RX7) (E := (fun r : Int64 => ((some (.long r), x) : JR))) (by decide) rfl rfl (Nat.le_of_ble_eq_true rfl) rfl ?_
  unfold X7_part
  refine j_lload_n 1 0 dX7_part_0 rfl rfl rfl ?_
  refine j_lload_n 2 1 dX7_part_1 rfl rfl rfl ?_
  refine j_callS_l (As := [.long a0, .long a1]) (st := []) 5 (okX7_divisor G x a0 a1) kc_X7_divisor kl_X7_143 ks_X7_divisor ⟨rfl, rfl, Nat.le_of_ble_eq_true rfl, Nat.le_of_ble_eq_true rfl⟩ (Nat.le_of_ble_eq_true rfl) ⟨Nat.le_of_ble_eq_true rfl, Nat.le_of_ble_eq_true rfl⟩ rfl dX7_part_2 rfl rfl ?_
  intro v1
  refine j_lstore 7 [(5, .long v1), (0, .long a0), (2, .long a1), (4, .int a2)] dX7_part_5 rfl (by decide) rfl ?_
  refine j_iload 9 3 dX7_part_7 rfl rfl ?_
  refine j_if_ne 19 12 dX7_part_9 (by decide) rfl ?_ ?_
  · refine j_lload_n 20 2 dX7_part_19 rfl rfl rfl ?_
    refine j_lload 22 0 dX7_part_20 rfl rfl ?_
    refine j_ldiv 23 dX7_part_22 rfl ?_
    intro v2
    exact j_lret dX7_part_23 rfl
  · refine j_lload_n 13 1 dX7_part_12 rfl rfl rfl ?_
    refine j_lload 15 0 dX7_part_13 rfl rfl ?_
    refine j_ldiv 16 dX7_part_15 rfl ?_
    intro v3
    refine j_goto 23 dX7_part_16 (by decide) ?_
    exact j_lret dX7_part_23 rfl
-- X7_lesser: ('BarStepsModel', 'lesser', '(JJ)J')
def X7_lesser (a0 : Int64) (a1 : Int64) : Option (Int64) := (if a1 ≤ a0 then some a1 else
  some a0)
theorem okX7_lesser (G : JG) (x : Hs) (a0 : Int64) (a1 : Int64) : ∀ r, X7_lesser a0 a1 = some r → JC G yX7_lesser cX7_lesser 4 (some .long) (jR 1 0 0) 0 0 [.long a0, .long a1] x ((some (.long r), x)) := by
  refine jc_of (own := RX7) (E := (fun r : Int64 => ((some (.long r), x) : JR))) (by decide) rfl rfl (Nat.le_of_ble_eq_true rfl) rfl ?_
  unfold X7_lesser
  refine j_lload_n 1 0 dX7_lesser_0 rfl rfl rfl ?_
  refine j_lload_n 2 1 dX7_lesser_1 rfl rfl rfl ?_
  refine j_lcmp_ge 3 10 6 dX7_lesser_2 rfl dX7_lesser_3 (by decide) rfl ?_ ?_
  · refine j_lload_n 11 1 dX7_lesser_10 rfl rfl rfl ?_
    exact j_lret dX7_lesser_11 rfl
  · refine j_lload_n 7 0 dX7_lesser_6 rfl rfl rfl ?_
    refine j_goto 11 dX7_lesser_7 (by decide) ?_
    exact j_lret dX7_lesser_11 rfl
-- X7_above: ('BarStepsModel', 'above', '(I)I')
def X7_above (a0 : Int32) : Option (Int32) := (if a0 = 0 then some (-1) else
  (if 3 ≤ a0 then (if a0 = 4 then some 2 else
  some 1) else
  some 0))
theorem okX7_above (G : JG) (x : Hs) (a0 : Int32) : ∀ r, X7_above a0 = some r → JC G yX7_above cX7_above 1 (some .int) (jR 1 0 0) 0 0 [.int a0] x ((some (.int r), x)) := by
  refine jc_of (own := RX7) (E := (fun r : Int32 => ((some (.int r), x) : JR))) (by decide) rfl rfl (Nat.le_of_ble_eq_true rfl) rfl ?_
  unfold X7_above
  refine j_iload_n 1 0 dX7_above_0 rfl rfl rfl ?_
  refine j_if_ne 8 4 dX7_above_1 (by decide) rfl ?_ ?_
  · refine j_iload_n 9 0 dX7_above_8 rfl rfl rfl ?_
    refine j_iconst (v := 3) 10 dX7_above_9 rfl ic_3 ?_
    refine j_icmp_ge 17 13 dX7_above_10 (by decide) rfl ?_ ?_
    · refine j_iload_n 18 0 dX7_above_17 rfl rfl rfl ?_
      refine j_iconst (v := 4) 19 dX7_above_18 rfl ic_4 ?_
      refine j_icmp_ne 26 22 dX7_above_19 (by decide) rfl ?_ ?_
      · refine j_iconst (v := 1) 27 dX7_above_26 rfl ic_1 ?_
        exact j_iret dX7_above_27 rfl
      · refine j_iconst (v := 2) 23 dX7_above_22 rfl ic_2 ?_
        refine j_goto 27 dX7_above_23 (by decide) ?_
        exact j_iret dX7_above_27 rfl
    · refine j_iconst (v := 0) 14 dX7_above_13 rfl ic_0 ?_
      refine j_goto 27 dX7_above_14 (by decide) ?_
      exact j_iret dX7_above_27 rfl
  · refine j_iconst (v := -1) 5 dX7_above_4 rfl ic_m1 ?_
    refine j_goto 27 dX7_above_5 (by decide) ?_
    exact j_iret dX7_above_27 rfl
-- X7_isUnder: ('BarStepsModel', 'isUnder', '(II)Z')
def X7_isUnder_J20 (l1 : Int32) (l2 : Int32) : Option (Int32) := (if l2 = l1 then (zb 1).bind fun v2 => some v2 else
  (zb 0).bind fun v1 => some v1)
theorem okX7_isUnder_J20 (G : JG) (x : Hs) : ∀ (l1 : Int32) (l2 : Int32), JM G RX7 cX7_isUnder 3 (jZ G (some .boolean) "isUnder" (jR 2 0 0) 0 0) (fun r : Int32 => ((some (.int r), x) : JR)) 20 [(1, .int l1), (2, .int l2)] [] x 0 0 (X7_isUnder_J20 l1 l2) := by
  intro l1 l2
  unfold X7_isUnder_J20
  refine j_iload_n 21 1 dX7_isUnder_20 rfl rfl rfl ?_
  refine j_iload_n 22 0 dX7_isUnder_21 rfl rfl rfl ?_
  refine j_icmp_ne 29 25 dX7_isUnder_22 (by decide) rfl ?_ ?_
  · refine j_iconst (v := 0) 30 dX7_isUnder_29 rfl ic_0 ?_
    exact j_zret dX7_isUnder_30 (fun _ => rfl)
  · refine j_iconst (v := 1) 26 dX7_isUnder_25 rfl ic_1 ?_
    refine j_goto 30 dX7_isUnder_26 (by decide) ?_
    exact j_zret dX7_isUnder_30 (fun _ => rfl)
def X7_isUnder_L2 : Nat → Int32 → Int32 → Option (Int32)
  | 0, _, _ => none
  | n + 1, l1, l2 => (if l2 = (-1) then X7_isUnder_J20 l1 l2 else
  (if l2 = l1 then X7_isUnder_J20 l1 l2 else
  (X7_above l2).bind fun v3 =>
  X7_isUnder_L2 n l1 v3))
theorem okX7_isUnder_L2 (G : JG) (x : Hs) : ∀ (n : Nat), ∀ (l1 : Int32) (l2 : Int32), JM G RX7 cX7_isUnder 3 (jZ G (some .boolean) "isUnder" (jR 2 0 0) 0 0) (fun r : Int32 => ((some (.int r), x) : JR)) 2 [(1, .int l1), (2, .int l2)] [] x 0 0 (X7_isUnder_L2 n l1 l2) := by
  intro n
  induction n with
  | zero => intro l1 l2; exact j_none
  | succ n ih =>
    intro l1 l2
    unfold X7_isUnder_L2
    refine j_iload_n 3 1 dX7_isUnder_2 rfl rfl rfl ?_
    refine j_iconst (v := -1) 4 dX7_isUnder_3 rfl ic_m1 ?_
    refine j_icmp_eq 20 7 dX7_isUnder_4 (by decide) rfl ?_ ?_
    · exact okX7_isUnder_J20 G x l1 l2
    · refine j_iload_n 8 1 dX7_isUnder_7 rfl rfl rfl ?_
      refine j_iload_n 9 0 dX7_isUnder_8 rfl rfl rfl ?_
      refine j_icmp_eq 20 12 dX7_isUnder_9 (by decide) rfl ?_ ?_
      · exact okX7_isUnder_J20 G x l1 l2
      · refine j_iload_n 13 1 dX7_isUnder_12 rfl rfl rfl ?_
        refine j_callS_i (As := [.int l2]) (st := []) 16 (okX7_above G x l2) kc_X7_above kl_X7_147 ks_X7_above ⟨rfl, rfl, Nat.le_of_ble_eq_true rfl, Nat.le_of_ble_eq_true rfl⟩ (Nat.le_of_ble_eq_true rfl) ⟨Nat.le_of_ble_eq_true rfl, Nat.le_of_ble_eq_true rfl⟩ rfl dX7_isUnder_13 rfl rfl ?_
        intro v3
        refine j_istore_n 17 [(2, .int v3), (1, .int l1)] dX7_isUnder_16 rfl rfl (by decide) rfl ?_
        refine j_goto 2 dX7_isUnder_17 (by decide) ?_
        refine j_sub [1, 0] rfl ?_
        exact ih l1 v3
def X7_isUnder (a0 : Int32) (a1 : Int32) : Option (Int32) := X7_isUnder_L2 fu a1 a0
theorem okX7_isUnder (G : JG) (x : Hs) (a0 : Int32) (a1 : Int32) : ∀ r, X7_isUnder a0 a1 = some r → JC G yX7_isUnder cX7_isUnder 3 (some .boolean) (jR 2 0 0) 0 0 [.int a0, .int a1] x ((some (.int r), x)) := by
  refine jc_of (own := RX7) (E := (fun r : Int32 => ((some (.int r), x) : JR))) (by decide) rfl rfl (Nat.le_of_ble_eq_true rfl) rfl ?_
  unfold X7_isUnder
  refine j_iload_n 1 0 dX7_isUnder_0 rfl rfl rfl ?_
  refine j_istore_n 2 [(2, .int a0), (0, .int a0), (1, .int a1)] dX7_isUnder_1 rfl rfl (by decide) rfl ?_
  refine j_sub [2, 0] rfl ?_
  exact okX7_isUnder_L2 G x fu a1 a0
-- X7_side: ('BarStepsModel', 'side', '(I)I')
def X7_side (a0 : Nat) (a1 : Int32) (x : Hs) : Option (Int32) := (vO x 6 a0).bind fun _ =>
  (gR x 6 a0 2).bind fun v1 =>
  (aI x v1 a1).bind fun v2 =>
  (gR x 6 a0 1).bind fun v3 =>
  (aI x v3 a1).bind fun v4 =>
  (if v4 = 1 then (o_idiv (v2 + 1) 2).bind fun v5 =>
  some v5 else
  (if v4 = 2 then some v2 else
  (if v4 = 3 then (o_idiv (v2 + 1) 2).bind fun v8 =>
  some v8 else
  (if v4 = 4 then some (10 - v2) else
  (if v4 = 5 then (o_idiv (v2 + 1) 2).bind fun v11 =>
  (J9_min_7cf53 2 v11).bind fun v12 =>
  some v12 else
  some v2)))))
theorem rvX7_side {a0 : Nat} {a1 : Int32} {x : Hs} {r : Int32} (h : X7_side a0 a1 x = some r) : ∃ fs, x.1 a0 = .inr (6, fs) := vO_bind h
theorem okX7_side (G : JG) (x : Hs) (a0 : Nat) (a1 : Int32) : ∀ r, X7_side a0 a1 x = some r → JC G yX7_side cX7_side 3 (some .int) (jR 2 0 0) 0 0 [.ref a0, .int a1] x ((some (.int r), x)) := by
  refine jc_of (own := RX7) (E := (fun r : Int32 => ((some (.int r), x) : JR))) (by decide) rfl rfl (Nat.le_of_ble_eq_true rfl) rfl ?_
  unfold X7_side
  refine j_chk ?_
  refine j_aload_n 1 0 dX7_side_0 rfl rfl rfl ?_
  refine j_gR 4 kf_X7_15 dX7_side_1 rfl ?_
  intro v1
  refine j_iload_n 5 1 dX7_side_4 rfl rfl rfl ?_
  refine j_aI 6 dX7_side_5 rfl ?_
  intro v2
  refine j_istore_n 7 [(2, .int v2), (0, .ref a0), (1, .int a1)] dX7_side_6 rfl rfl (by decide) rfl ?_
  refine j_aload_n 8 1 dX7_side_7 rfl rfl rfl ?_
  refine j_gR 11 kf_X7_11 dX7_side_8 rfl ?_
  intro v3
  refine j_iload_n 12 2 dX7_side_11 rfl rfl rfl ?_
  refine j_aI 13 dX7_side_12 rfl ?_
  intro v4
  refine j_ite (fun h6 => ?_) (fun h6 => ?_)
  · refine j_tinE (w := 1) 48 dX7_side_13 h6 (by decide) (by decide) rfl (by decide) ?_
    refine j_iload_n 49 0 dX7_side_48 rfl rfl rfl ?_
    refine j_iconst (v := 1) 50 dX7_side_49 rfl ic_1 ?_
    refine j_iadd 51 dX7_side_50 rfl ?_
    refine j_iconst (v := 2) 52 dX7_side_51 rfl ic_2 ?_
    refine j_idiv 53 dX7_side_52 rfl ?_
    intro v5
    exact j_iret dX7_side_53 rfl
  refine j_ite (fun h7 => ?_) (fun h7 => ?_)
  · refine j_tinE (w := 2) 69 dX7_side_13 h7 (by decide) (by decide) rfl (by decide) ?_
    refine j_iload_n 70 0 dX7_side_69 rfl rfl rfl ?_
    exact j_iret dX7_side_70 rfl
  refine j_ite (fun h9 => ?_) (fun h9 => ?_)
  · refine j_tinE (w := 3) 48 dX7_side_13 h9 (by decide) (by decide) rfl (by decide) ?_
    refine j_iload_n 49 0 dX7_side_48 rfl rfl rfl ?_
    refine j_iconst (v := 1) 50 dX7_side_49 rfl ic_1 ?_
    refine j_iadd 51 dX7_side_50 rfl ?_
    refine j_iconst (v := 2) 52 dX7_side_51 rfl ic_2 ?_
    refine j_idiv 53 dX7_side_52 rfl ?_
    intro v8
    exact j_iret dX7_side_53 rfl
  refine j_ite (fun h10 => ?_) (fun h10 => ?_)
  · refine j_tinE (w := 4) 54 dX7_side_13 h10 (by decide) (by decide) rfl (by decide) ?_
    refine j_bipush (v := 10) 56 dX7_side_54 rfl bc_10 ?_
    refine j_iload_n 57 0 dX7_side_56 rfl rfl rfl ?_
    refine j_isub 58 dX7_side_57 rfl ?_
    exact j_iret dX7_side_58 rfl
  refine j_ite (fun h13 => ?_) (fun h13 => ?_)
  · refine j_tinE (w := 5) 59 dX7_side_13 h13 (by decide) (by decide) rfl (by decide) ?_
    refine j_iconst (v := 2) 60 dX7_side_59 rfl ic_2 ?_
    refine j_iload_n 61 0 dX7_side_60 rfl rfl rfl ?_
    refine j_iconst (v := 1) 62 dX7_side_61 rfl ic_1 ?_
    refine j_iadd 63 dX7_side_62 rfl ?_
    refine j_iconst (v := 2) 64 dX7_side_63 rfl ic_2 ?_
    refine j_idiv 65 dX7_side_64 rfl ?_
    intro v11
    refine j_callS_i (As := [.int 2, .int v11]) (st := []) 68 (okJ9_min_7cf53 G x 2 v11) kc_J9_min_7cf53 kl_X7_151 ks_J9_min_7cf53 ⟨rfl, rfl, Nat.le_of_ble_eq_true rfl, Nat.le_of_ble_eq_true rfl⟩ (Nat.le_of_ble_eq_true rfl) ⟨Nat.le_of_ble_eq_true rfl, Nat.le_of_ble_eq_true rfl⟩ rfl dX7_side_65 rfl rfl ?_
    intro v12
    exact j_iret dX7_side_68 rfl
  have h6n := sw_ne h6
  have h7n := sw_ne h7
  have h9n := sw_ne h9
  have h10n := sw_ne h10
  have h13n := sw_ne h13
  have h6m : (Int32.toInt 1) = 1 := by decide
  have h7m : (Int32.toInt 2) = 2 := by decide
  have h9m : (Int32.toInt 3) = 3 := by decide
  have h10m : (Int32.toInt 4) = 4 := by decide
  have h13m : (Int32.toInt 5) = 5 := by decide
  refine j_tout 69 dX7_side_13 (by omega) (by decide) ?_
  refine j_iload_n 70 0 dX7_side_69 rfl rfl rfl ?_
  exact j_iret dX7_side_70 rfl
