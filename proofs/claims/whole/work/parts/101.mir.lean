/-! Each method as a pure term, and the machine's rows. Written by wip/whole/decomp.py. -/
-- X0_hasJoint: ('BarSteps$Bar', 'hasJoint', '(I)Z')
def X0_hasJoint (a0 : Nat) (a1 : Int32) (x : Hs) : Option (Int32) := (vO x 0 a0).bind fun _ =>
  (gI x 0 a0 0).bind fun v1 =>
  (if v1 ≤ 0 then (zb 0).bind fun v2 => some v2 else
  (if a1 < (-1) then (zb 0).bind fun v3 => some v3 else
  (gI x 0 a0 0).bind fun v4 =>
  (if v4 ≤ a1 then (zb 0).bind fun v5 => some v5 else
  (zb 1).bind fun v6 => some v6)))
theorem rvX0_hasJoint {a0 : Nat} {a1 : Int32} {x : Hs} {r : Int32} (h : X0_hasJoint a0 a1 x = some r) : ∃ fs, x.1 a0 = .inr (0, fs) := vO_bind h
theorem okX0_hasJoint (G : JG) (x : Hs) (a0 : Nat) (a1 : Int32) : ∀ r, X0_hasJoint a0 a1 x = some r → JC G yX0_hasJoint cX0_hasJoint 2 (some .boolean) (jR 1 0 0) 0 0 [.ref a0, .int a1] x ((some (.int r), x)) := by
  refine jc_of (own := RX0) (E := (fun r : Int32 => ((some (.int r), x) : JR))) (by decide) rfl rfl (Nat.le_of_ble_eq_true rfl) rfl ?_
  unfold X0_hasJoint
  refine j_chk ?_
  refine j_aload_n 1 0 dX0_hasJoint_0 rfl rfl rfl ?_
  refine j_gI 4 kf_X0_9 dX0_hasJoint_1 rfl ?_
  intro v1
  refine j_if_le 24 7 dX0_hasJoint_4 (by decide) rfl ?_ ?_
  · refine j_iconst (v := 0) 25 dX0_hasJoint_24 rfl ic_0 ?_
    exact j_zret dX0_hasJoint_25 (fun _ => rfl)
  · refine j_iload_n 8 1 dX0_hasJoint_7 rfl rfl rfl ?_
    refine j_iconst (v := -1) 9 dX0_hasJoint_8 rfl ic_m1 ?_
    refine j_icmp_lt 24 12 dX0_hasJoint_9 (by decide) rfl ?_ ?_
    · refine j_iconst (v := 0) 25 dX0_hasJoint_24 rfl ic_0 ?_
      exact j_zret dX0_hasJoint_25 (fun _ => rfl)
    · refine j_iload_n 13 1 dX0_hasJoint_12 rfl rfl rfl ?_
      refine j_aload_n 14 0 dX0_hasJoint_13 rfl rfl rfl ?_
      refine j_gI 17 kf_X0_9 dX0_hasJoint_14 rfl ?_
      intro v4
      refine j_icmp_ge 24 20 dX0_hasJoint_17 (by decide) rfl ?_ ?_
      · refine j_iconst (v := 0) 25 dX0_hasJoint_24 rfl ic_0 ?_
        exact j_zret dX0_hasJoint_25 (fun _ => rfl)
      · refine j_iconst (v := 1) 21 dX0_hasJoint_20 rfl ic_1 ?_
        refine j_goto 25 dX0_hasJoint_21 (by decide) ?_
        exact j_zret dX0_hasJoint_25 (fun _ => rfl)
-- X0_leads: ('BarSteps$Bar', 'leads', '(I)I')
def X0_leads (a0 : Nat) (a1 : Int32) (x : Hs) : Option (Int32) := (vO x 0 a0).bind fun _ =>
  (X0_hasJoint a0 a1 x).bind fun v1 =>
  (if v1 = 0 then some (-2) else
  (if 0 ≤ a1 then (gI x 0 a0 0).bind fun v2 =>
  (if a1 = (v2 - 1) then (gR x 0 a0 10).bind fun v8 =>
  (aI x v8 1).bind fun v9 =>
  (if v9 = (-1) then some 0 else
  (gR x 0 a0 5).bind fun v10 =>
  (aI x v10 a1).bind fun v11 =>
  some v11) else
  (gR x 0 a0 5).bind fun v3 =>
  (aI x v3 a1).bind fun v4 =>
  (gR x 0 a0 5).bind fun v5 =>
  (aI x v5 (a1 + 1)).bind fun v6 =>
  (J9_min_7cf53 v4 v6).bind fun v7 =>
  some v7) else
  (gR x 0 a0 10).bind fun v12 =>
  (aI x v12 0).bind fun v13 =>
  (if v13 = (-1) then some 0 else
  (gR x 0 a0 5).bind fun v14 =>
  (aI x v14 0).bind fun v15 =>
  some v15)))
theorem rvX0_leads {a0 : Nat} {a1 : Int32} {x : Hs} {r : Int32} (h : X0_leads a0 a1 x = some r) : ∃ fs, x.1 a0 = .inr (0, fs) := vO_bind h
theorem okX0_leads (G : JG) (x : Hs) (a0 : Nat) (a1 : Int32) : ∀ r, X0_leads a0 a1 x = some r → JC G yX0_leads cX0_leads 2 (some .int) (jR 2 0 0) 0 0 [.ref a0, .int a1] x ((some (.int r), x)) := by
  refine jc_of (own := RX0) (E := (fun r : Int32 => ((some (.int r), x) : JR))) (by decide) rfl rfl (Nat.le_of_ble_eq_true rfl) rfl ?_
  unfold X0_leads
  refine j_chk ?_
  refine j_aload_n 1 0 dX0_leads_0 rfl rfl rfl ?_
  refine j_iload_n 2 1 dX0_leads_1 rfl rfl rfl ?_
  refine j_callV_i (ci := 0) (As := [.int a1]) (st := []) 5 (okX0_hasJoint G x a0 a1) kc_X0_hasJoint kl_X0_109 ki_X0_hasJoint kv_X0_hasJoint kh_X0 (by decide) (fun _ h => rvX0_hasJoint h) ⟨rfl, rfl, Nat.le_of_ble_eq_true rfl, Nat.le_of_ble_eq_true rfl⟩ (Nat.le_of_ble_eq_true rfl) ⟨Nat.le_of_ble_eq_true rfl, Nat.le_of_ble_eq_true rfl⟩ rfl dX0_leads_2 rfl rfl ?_
  intro v1
  refine j_if_ne 11 8 dX0_leads_5 (by decide) rfl ?_ ?_
  · refine j_iload_n 12 1 dX0_leads_11 rfl rfl rfl ?_
    refine j_if_ge 36 15 dX0_leads_12 (by decide) rfl ?_ ?_
    · refine j_iload_n 37 1 dX0_leads_36 rfl rfl rfl ?_
      refine j_aload_n 38 0 dX0_leads_37 rfl rfl rfl ?_
      refine j_gI 41 kf_X0_9 dX0_leads_38 rfl ?_
      intro v2
      refine j_iconst (v := 1) 42 dX0_leads_41 rfl ic_1 ?_
      refine j_isub 43 dX0_leads_42 rfl ?_
      refine j_icmp_ne 67 46 dX0_leads_43 (by decide) rfl ?_ ?_
      · refine j_aload_n 68 0 dX0_leads_67 rfl rfl rfl ?_
        refine j_gR 71 kf_X0_28 dX0_leads_68 rfl ?_
        intro v3
        refine j_iload_n 72 1 dX0_leads_71 rfl rfl rfl ?_
        refine j_aI 73 dX0_leads_72 rfl ?_
        intro v4
        refine j_aload_n 74 0 dX0_leads_73 rfl rfl rfl ?_
        refine j_gR 77 kf_X0_28 dX0_leads_74 rfl ?_
        intro v5
        refine j_iload_n 78 1 dX0_leads_77 rfl rfl rfl ?_
        refine j_iconst (v := 1) 79 dX0_leads_78 rfl ic_1 ?_
        refine j_iadd 80 dX0_leads_79 rfl ?_
        refine j_aI 81 dX0_leads_80 rfl ?_
        intro v6
        refine j_callS_i (As := [.int v4, .int v6]) (st := []) 84 (okJ9_min_7cf53 G x v4 v6) kc_J9_min_7cf53 kl_X0_113 ks_J9_min_7cf53 ⟨rfl, rfl, Nat.le_of_ble_eq_true rfl, Nat.le_of_ble_eq_true rfl⟩ (Nat.le_of_ble_eq_true rfl) ⟨Nat.le_of_ble_eq_true rfl, Nat.le_of_ble_eq_true rfl⟩ rfl dX0_leads_81 rfl rfl ?_
        intro v7
        exact j_iret dX0_leads_84 rfl
      · refine j_aload_n 47 0 dX0_leads_46 rfl rfl rfl ?_
        refine j_gR 50 kf_X0_45 dX0_leads_47 rfl ?_
        intro v8
        refine j_iconst (v := 1) 51 dX0_leads_50 rfl ic_1 ?_
        refine j_aI 52 dX0_leads_51 rfl ?_
        intro v9
        refine j_iconst (v := -1) 53 dX0_leads_52 rfl ic_m1 ?_
        refine j_icmp_ne 60 56 dX0_leads_53 (by decide) rfl ?_ ?_
        · refine j_aload_n 61 0 dX0_leads_60 rfl rfl rfl ?_
          refine j_gR 64 kf_X0_28 dX0_leads_61 rfl ?_
          intro v10
          refine j_iload_n 65 1 dX0_leads_64 rfl rfl rfl ?_
          refine j_aI 66 dX0_leads_65 rfl ?_
          intro v11
          exact j_iret dX0_leads_66 rfl
        · refine j_iconst (v := 0) 57 dX0_leads_56 rfl ic_0 ?_
          refine j_goto 66 dX0_leads_57 (by decide) ?_
          exact j_iret dX0_leads_66 rfl
    · refine j_aload_n 16 0 dX0_leads_15 rfl rfl rfl ?_
      refine j_gR 19 kf_X0_45 dX0_leads_16 rfl ?_
      intro v12
      refine j_iconst (v := 0) 20 dX0_leads_19 rfl ic_0 ?_
      refine j_aI 21 dX0_leads_20 rfl ?_
      intro v13
      refine j_iconst (v := -1) 22 dX0_leads_21 rfl ic_m1 ?_
      refine j_icmp_ne 29 25 dX0_leads_22 (by decide) rfl ?_ ?_
      · refine j_aload_n 30 0 dX0_leads_29 rfl rfl rfl ?_
        refine j_gR 33 kf_X0_28 dX0_leads_30 rfl ?_
        intro v14
        refine j_iconst (v := 0) 34 dX0_leads_33 rfl ic_0 ?_
        refine j_aI 35 dX0_leads_34 rfl ?_
        intro v15
        exact j_iret dX0_leads_35 rfl
      · refine j_iconst (v := 0) 26 dX0_leads_25 rfl ic_0 ?_
        refine j_goto 35 dX0_leads_26 (by decide) ?_
        exact j_iret dX0_leads_35 rfl
  · refine j_bipush (v := -2) 10 dX0_leads_8 rfl bc_m2 ?_
    exact j_iret dX0_leads_10 rfl
-- X0_flowAbove: ('BarSteps$Bar', 'flowAbove', '(I[JJ)J')
def X0_flowAbove_J48 (x : Hs) (l0 : Nat) (l1 : Int32) (l5 : Int64) (s0 : Int64) : Option (Int64) := (X0_leads l0 l1 x).bind fun v4 =>
  some ((Int32.toInt64 v4) * (l5 - s0))
theorem okX0_flowAbove_J48 (G : JG) (x : Hs) : ∀ (l0 : Nat) (l1 : Int32) (l5 : Int64) (s0 : Int64), JM G RX0 cX0_flowAbove 9 (jZ G (some .long) "flowAbove" (jR 3 0 0) 0 0) (fun r : Int64 => ((some (.long r), x) : JR)) 48 [(0, .ref l0), (1, .int l1), (5, .long l5)] [.long s0] x 0 0 (X0_flowAbove_J48 x l0 l1 l5 s0) := by
  intro l0 l1 l5 s0
  unfold X0_flowAbove_J48
  refine j_lstore 50 [(7, .long s0), (0, .ref l0), (1, .int l1), (5, .long l5)] dX0_flowAbove_48 rfl (by decide) rfl ?_
  refine j_aload_n 51 1 dX0_flowAbove_50 rfl rfl rfl ?_
  refine j_iload_n 52 2 dX0_flowAbove_51 rfl rfl rfl ?_
  refine j_callV_i (ci := 0) (As := [.int l1]) (st := []) 55 (okX0_leads G x l0 l1) kc_X0_leads kl_X0_118 ki_X0_leads kv_X0_leads kh_X0 (by decide) (fun _ h => rvX0_leads h) ⟨rfl, rfl, Nat.le_of_ble_eq_true rfl, Nat.le_of_ble_eq_true rfl⟩ (Nat.le_of_ble_eq_true rfl) ⟨Nat.le_of_ble_eq_true rfl, Nat.le_of_ble_eq_true rfl⟩ rfl dX0_flowAbove_52 rfl rfl ?_
  intro v4
  refine j_i2l 56 dX0_flowAbove_55 rfl ?_
  refine j_lload 58 3 dX0_flowAbove_56 rfl rfl ?_
  refine j_lload 60 0 dX0_flowAbove_58 rfl rfl ?_
  refine j_lsub 61 dX0_flowAbove_60 rfl ?_
  refine j_lmul 62 dX0_flowAbove_61 rfl ?_
  exact j_lret dX0_flowAbove_62 rfl
def X0_flowAbove_J19 (x : Hs) (l0 : Nat) (l1 : Int32) (l2 : Nat) (l3 : Int64) (s0 : Int64) : Option (Int64) := (gI x 0 l0 0).bind fun v2 =>
  (if l1 < (v2 - 1) then (aL x l2 (l1 + 1)).bind fun v3 =>
  X0_flowAbove_J48 x l0 l1 s0 v3 else
  (gR x 0 l0 10).bind fun v5 =>
  (aI x v5 1).bind fun v6 =>
  X0_flowAbove_J48 x l0 l1 s0 ((Int32.toInt64 v6) * l3))
theorem okX0_flowAbove_J19 (G : JG) (x : Hs) : ∀ (l0 : Nat) (l1 : Int32) (l2 : Nat) (l3 : Int64) (s0 : Int64), JM G RX0 cX0_flowAbove 9 (jZ G (some .long) "flowAbove" (jR 3 0 0) 0 0) (fun r : Int64 => ((some (.long r), x) : JR)) 19 [(0, .ref l0), (1, .int l1), (2, .ref l2), (3, .long l3)] [.long s0] x 0 0 (X0_flowAbove_J19 x l0 l1 l2 l3 s0) := by
  intro l0 l1 l2 l3 s0
  unfold X0_flowAbove_J19
  refine j_lstore 21 [(5, .long s0), (0, .ref l0), (1, .int l1), (2, .ref l2), (3, .long l3)] dX0_flowAbove_19 rfl (by decide) rfl ?_
  refine j_iload_n 22 2 dX0_flowAbove_21 rfl rfl rfl ?_
  refine j_aload_n 23 1 dX0_flowAbove_22 rfl rfl rfl ?_
  refine j_gI 26 kf_X0_9 dX0_flowAbove_23 rfl ?_
  intro v2
  refine j_iconst (v := 1) 27 dX0_flowAbove_26 rfl ic_1 ?_
  refine j_isub 28 dX0_flowAbove_27 rfl ?_
  refine j_icmp_lt 43 31 dX0_flowAbove_28 (by decide) rfl ?_ ?_
  · refine j_aload_n 44 3 dX0_flowAbove_43 rfl rfl rfl ?_
    refine j_iload_n 45 2 dX0_flowAbove_44 rfl rfl rfl ?_
    refine j_iconst (v := 1) 46 dX0_flowAbove_45 rfl ic_1 ?_
    refine j_iadd 47 dX0_flowAbove_46 rfl ?_
    refine j_aL 48 dX0_flowAbove_47 rfl ?_
    intro v3
    refine j_sub [1, 2, 0] rfl ?_
    exact okX0_flowAbove_J48 G x l0 l1 s0 v3
  · refine j_aload_n 32 1 dX0_flowAbove_31 rfl rfl rfl ?_
    refine j_gR 35 kf_X0_45 dX0_flowAbove_32 rfl ?_
    intro v5
    refine j_iconst (v := 1) 36 dX0_flowAbove_35 rfl ic_1 ?_
    refine j_aI 37 dX0_flowAbove_36 rfl ?_
    intro v6
    refine j_i2l 38 dX0_flowAbove_37 rfl ?_
    refine j_lload_n 39 4 dX0_flowAbove_38 rfl rfl rfl ?_
    refine j_lmul 40 dX0_flowAbove_39 rfl ?_
    refine j_goto 48 dX0_flowAbove_40 (by decide) ?_
    refine j_sub [1, 2, 0] rfl ?_
    exact okX0_flowAbove_J48 G x l0 l1 s0 ((Int32.toInt64 v6) * l3)
def X0_flowAbove (a0 : Nat) (a1 : Int32) (a2 : Nat) (a3 : Int64) (x : Hs) : Option (Int64) := (vO x 0 a0).bind fun _ =>
  (if 0 ≤ a1 then (aL x a2 a1).bind fun v1 =>
  X0_flowAbove_J19 x a0 a1 a2 a3 v1 else
  (gR x 0 a0 10).bind fun v7 =>
  (aI x v7 0).bind fun v8 =>
  X0_flowAbove_J19 x a0 a1 a2 a3 ((Int32.toInt64 v8) * a3))
theorem rvX0_flowAbove {a0 : Nat} {a1 : Int32} {a2 : Nat} {a3 : Int64} {x : Hs} {r : Int64} (h : X0_flowAbove a0 a1 a2 a3 x = some r) : ∃ fs, x.1 a0 = .inr (0, fs) := vO_bind h
theorem okX0_flowAbove (G : JG) (x : Hs) (a0 : Nat) (a1 : Int32) (a2 : Nat) (a3 : Int64) : ∀ r, X0_flowAbove a0 a1 a2 a3 x = some r → JC G yX0_flowAbove cX0_flowAbove 9 (some .long) (jR 3 0 0) 0 0 [.ref a0, .int a1, .ref a2, .long a3] x ((some (.long r), x)) := by
  refine jc_of (own := RX0) (E := (fun r : Int64 => ((some (.long r), x) : JR))) (by decide) rfl rfl (Nat.le_of_ble_eq_true rfl) rfl ?_
  unfold X0_flowAbove
  refine j_chk ?_
  refine j_iload_n 1 1 dX0_flowAbove_0 rfl rfl rfl ?_
  refine j_if_ge 16 4 dX0_flowAbove_1 (by decide) rfl ?_ ?_
  · refine j_aload_n 17 2 dX0_flowAbove_16 rfl rfl rfl ?_
    refine j_iload_n 18 1 dX0_flowAbove_17 rfl rfl rfl ?_
    refine j_aL 19 dX0_flowAbove_18 rfl ?_
    intro v1
    exact okX0_flowAbove_J19 G x a0 a1 a2 a3 v1
  · refine j_aload_n 5 0 dX0_flowAbove_4 rfl rfl rfl ?_
    refine j_gR 8 kf_X0_45 dX0_flowAbove_5 rfl ?_
    intro v7
    refine j_iconst (v := 0) 9 dX0_flowAbove_8 rfl ic_0 ?_
    refine j_aI 10 dX0_flowAbove_9 rfl ?_
    intro v8
    refine j_i2l 11 dX0_flowAbove_10 rfl ?_
    refine j_lload_n 12 3 dX0_flowAbove_11 rfl rfl rfl ?_
    refine j_lmul 13 dX0_flowAbove_12 rfl ?_
    refine j_goto 19 dX0_flowAbove_13 (by decide) ?_
    exact okX0_flowAbove_J19 G x a0 a1 a2 a3 ((Int32.toInt64 v8) * a3)
-- X0_loss: ('BarSteps$Bar', 'loss', '(I)I')
def X0_loss (a0 : Nat) (a1 : Int32) (x : Hs) : Option (Int32) := (vO x 0 a0).bind fun _ =>
  (X0_leads a0 (a1 - 1) x).bind fun v1 =>
  (X0_leads a0 a1 x).bind fun v2 =>
  (gR x 0 a0 7).bind fun v3 =>
  (aI x v3 a1).bind fun v4 =>
  some ((v1 + v2) + v4)
theorem rvX0_loss {a0 : Nat} {a1 : Int32} {x : Hs} {r : Int32} (h : X0_loss a0 a1 x = some r) : ∃ fs, x.1 a0 = .inr (0, fs) := vO_bind h
theorem okX0_loss (G : JG) (x : Hs) (a0 : Nat) (a1 : Int32) : ∀ r, X0_loss a0 a1 x = some r → JC G yX0_loss cX0_loss 2 (some .int) (jR 3 0 0) 0 0 [.ref a0, .int a1] x ((some (.int r), x)) := by
  refine jc_of (own := RX0) (E := (fun r : Int32 => ((some (.int r), x) : JR))) (by decide) rfl rfl (Nat.le_of_ble_eq_true rfl) rfl ?_
  unfold X0_loss
  refine j_chk ?_
  refine j_aload_n 1 0 dX0_loss_0 rfl rfl rfl ?_
  refine j_iload_n 2 1 dX0_loss_1 rfl rfl rfl ?_
  refine j_iconst (v := 1) 3 dX0_loss_2 rfl ic_1 ?_
  refine j_isub 4 dX0_loss_3 rfl ?_
  refine j_callV_i (ci := 0) (As := [.int (a1 - 1)]) (st := []) 7 (okX0_leads G x a0 (a1 - 1)) kc_X0_leads kl_X0_118 ki_X0_leads kv_X0_leads kh_X0 (by decide) (fun _ h => rvX0_leads h) ⟨rfl, rfl, Nat.le_of_ble_eq_true rfl, Nat.le_of_ble_eq_true rfl⟩ (Nat.le_of_ble_eq_true rfl) ⟨Nat.le_of_ble_eq_true rfl, Nat.le_of_ble_eq_true rfl⟩ rfl dX0_loss_4 rfl rfl ?_
  intro v1
  refine j_aload_n 8 0 dX0_loss_7 rfl rfl rfl ?_
  refine j_iload_n 9 1 dX0_loss_8 rfl rfl rfl ?_
  refine j_callV_i (ci := 0) (As := [.int a1]) (st := [.int v1]) 12 (okX0_leads G x a0 a1) kc_X0_leads kl_X0_118 ki_X0_leads kv_X0_leads kh_X0 (by decide) (fun _ h => rvX0_leads h) ⟨rfl, rfl, Nat.le_of_ble_eq_true rfl, Nat.le_of_ble_eq_true rfl⟩ (Nat.le_of_ble_eq_true rfl) ⟨Nat.le_of_ble_eq_true rfl, Nat.le_of_ble_eq_true rfl⟩ rfl dX0_loss_9 rfl rfl ?_
  intro v2
  refine j_iadd 13 dX0_loss_12 rfl ?_
  refine j_aload_n 14 0 dX0_loss_13 rfl rfl rfl ?_
  refine j_gR 17 kf_X0_34 dX0_loss_14 rfl ?_
  intro v3
  refine j_iload_n 18 1 dX0_loss_17 rfl rfl rfl ?_
  refine j_aI 19 dX0_loss_18 rfl ?_
  intro v4
  refine j_iadd 20 dX0_loss_19 rfl ?_
  exact j_iret dX0_loss_20 rfl
-- X0_supply: ('BarSteps$Bar', 'supply', '(I)I')
def X0_supply_J47 (x : Hs) (l0 : Nat) (l1 : Int32) (l2 : Int32) (s0 : Int32) : Option (Int32) := (gR x 0 l0 4).bind fun v2 =>
  (aI x v2 l1).bind fun v3 =>
  (gR x 0 l0 7).bind fun v4 =>
  (aI x v4 l1).bind fun v5 =>
  (gI x 0 l0 12).bind fun v6 =>
  some (((v3 + (v5 * v6)) + l2) + s0)
theorem okX0_supply_J47 (G : JG) (x : Hs) : ∀ (l0 : Nat) (l1 : Int32) (l2 : Int32) (s0 : Int32), JM G RX0 cX0_supply 4 (jZ G (some .int) "supply" (jR 3 0 0) 0 0) (fun r : Int32 => ((some (.int r), x) : JR)) 47 [(0, .ref l0), (1, .int l1), (2, .int l2)] [.int s0] x 0 0 (X0_supply_J47 x l0 l1 l2 s0) := by
  intro l0 l1 l2 s0
  unfold X0_supply_J47
  refine j_istore_n 48 [(3, .int s0), (0, .ref l0), (1, .int l1), (2, .int l2)] dX0_supply_47 rfl rfl (by decide) rfl ?_
  refine j_aload_n 49 1 dX0_supply_48 rfl rfl rfl ?_
  refine j_gR 52 kf_X0_25 dX0_supply_49 rfl ?_
  intro v2
  refine j_iload_n 53 2 dX0_supply_52 rfl rfl rfl ?_
  refine j_aI 54 dX0_supply_53 rfl ?_
  intro v3
  refine j_aload_n 55 1 dX0_supply_54 rfl rfl rfl ?_
  refine j_gR 58 kf_X0_34 dX0_supply_55 rfl ?_
  intro v4
  refine j_iload_n 59 2 dX0_supply_58 rfl rfl rfl ?_
  refine j_aI 60 dX0_supply_59 rfl ?_
  intro v5
  refine j_aload_n 61 1 dX0_supply_60 rfl rfl rfl ?_
  refine j_gI 64 kf_X0_51 dX0_supply_61 rfl ?_
  intro v6
  refine j_imul 65 dX0_supply_64 rfl ?_
  refine j_iadd 66 dX0_supply_65 rfl ?_
  refine j_iload_n 67 3 dX0_supply_66 rfl rfl rfl ?_
  refine j_iadd 68 dX0_supply_67 rfl ?_
  refine j_iload_n 69 0 dX0_supply_68 rfl rfl rfl ?_
  refine j_iadd 70 dX0_supply_69 rfl ?_
  exact j_iret dX0_supply_70 rfl
def X0_supply_J20 (x : Hs) (l0 : Nat) (l1 : Int32) (s0 : Int32) : Option (Int32) := (gI x 0 l0 0).bind fun v1 =>
  (if l1 = (v1 - 1) then (X0_leads l0 l1 x).bind fun v7 =>
  (gR x 0 l0 10).bind fun v8 =>
  (aI x v8 1).bind fun v9 =>
  X0_supply_J47 x l0 l1 s0 (v7 * v9) else
  X0_supply_J47 x l0 l1 s0 0)
theorem okX0_supply_J20 (G : JG) (x : Hs) : ∀ (l0 : Nat) (l1 : Int32) (s0 : Int32), JM G RX0 cX0_supply 4 (jZ G (some .int) "supply" (jR 3 0 0) 0 0) (fun r : Int32 => ((some (.int r), x) : JR)) 20 [(0, .ref l0), (1, .int l1)] [.int s0] x 0 0 (X0_supply_J20 x l0 l1 s0) := by
  intro l0 l1 s0
  unfold X0_supply_J20
  refine j_istore_n 21 [(2, .int s0), (0, .ref l0), (1, .int l1)] dX0_supply_20 rfl rfl (by decide) rfl ?_
  refine j_iload_n 22 2 dX0_supply_21 rfl rfl rfl ?_
  refine j_aload_n 23 1 dX0_supply_22 rfl rfl rfl ?_
  refine j_gI 26 kf_X0_9 dX0_supply_23 rfl ?_
  intro v1
  refine j_iconst (v := 1) 27 dX0_supply_26 rfl ic_1 ?_
  refine j_isub 28 dX0_supply_27 rfl ?_
  refine j_icmp_ne 46 31 dX0_supply_28 (by decide) rfl ?_ ?_
  · refine j_iconst (v := 0) 47 dX0_supply_46 rfl ic_0 ?_
    refine j_sub [1, 2, 0] rfl ?_
    exact okX0_supply_J47 G x l0 l1 s0 0
  · refine j_aload_n 32 1 dX0_supply_31 rfl rfl rfl ?_
    refine j_iload_n 33 2 dX0_supply_32 rfl rfl rfl ?_
    refine j_callV_i (ci := 0) (As := [.int l1]) (st := []) 36 (okX0_leads G x l0 l1) kc_X0_leads kl_X0_118 ki_X0_leads kv_X0_leads kh_X0 (by decide) (fun _ h => rvX0_leads h) ⟨rfl, rfl, Nat.le_of_ble_eq_true rfl, Nat.le_of_ble_eq_true rfl⟩ (Nat.le_of_ble_eq_true rfl) ⟨Nat.le_of_ble_eq_true rfl, Nat.le_of_ble_eq_true rfl⟩ rfl dX0_supply_33 rfl rfl ?_
    intro v7
    refine j_aload_n 37 1 dX0_supply_36 rfl rfl rfl ?_
    refine j_gR 40 kf_X0_45 dX0_supply_37 rfl ?_
    intro v8
    refine j_iconst (v := 1) 41 dX0_supply_40 rfl ic_1 ?_
    refine j_aI 42 dX0_supply_41 rfl ?_
    intro v9
    refine j_imul 43 dX0_supply_42 rfl ?_
    refine j_goto 47 dX0_supply_43 (by decide) ?_
    refine j_sub [1, 2, 0] rfl ?_
    exact okX0_supply_J47 G x l0 l1 s0 (v7 * v9)
def X0_supply (a0 : Nat) (a1 : Int32) (x : Hs) : Option (Int32) := (vO x 0 a0).bind fun _ =>
  (if a1 = 0 then (X0_leads a0 (-1) x).bind fun v10 =>
  (gR x 0 a0 10).bind fun v11 =>
  (aI x v11 0).bind fun v12 =>
  X0_supply_J20 x a0 a1 (v10 * v12) else
  X0_supply_J20 x a0 a1 0)
theorem rvX0_supply {a0 : Nat} {a1 : Int32} {x : Hs} {r : Int32} (h : X0_supply a0 a1 x = some r) : ∃ fs, x.1 a0 = .inr (0, fs) := vO_bind h
theorem okX0_supply (G : JG) (x : Hs) (a0 : Nat) (a1 : Int32) : ∀ r, X0_supply a0 a1 x = some r → JC G yX0_supply cX0_supply 4 (some .int) (jR 3 0 0) 0 0 [.ref a0, .int a1] x ((some (.int r), x)) := by
  refine jc_of (own := RX0) (E := (fun r : Int32 => ((some (.int r), x) : JR))) (by decide) rfl rfl (Nat.le_of_ble_eq_true rfl) rfl ?_
  unfold X0_supply
  refine j_chk ?_
  refine j_iload_n 1 1 dX0_supply_0 rfl rfl rfl ?_
  refine j_if_ne 19 4 dX0_supply_1 (by decide) rfl ?_ ?_
  · refine j_iconst (v := 0) 20 dX0_supply_19 rfl ic_0 ?_
    exact okX0_supply_J20 G x a0 a1 0
  · refine j_aload_n 5 0 dX0_supply_4 rfl rfl rfl ?_
    refine j_iconst (v := -1) 6 dX0_supply_5 rfl ic_m1 ?_
    refine j_callV_i (ci := 0) (As := [.int (-1)]) (st := []) 9 (okX0_leads G x a0 (-1)) kc_X0_leads kl_X0_118 ki_X0_leads kv_X0_leads kh_X0 (by decide) (fun _ h => rvX0_leads h) ⟨rfl, rfl, Nat.le_of_ble_eq_true rfl, Nat.le_of_ble_eq_true rfl⟩ (Nat.le_of_ble_eq_true rfl) ⟨Nat.le_of_ble_eq_true rfl, Nat.le_of_ble_eq_true rfl⟩ rfl dX0_supply_6 rfl rfl ?_
    intro v10
    refine j_aload_n 10 0 dX0_supply_9 rfl rfl rfl ?_
    refine j_gR 13 kf_X0_45 dX0_supply_10 rfl ?_
    intro v11
    refine j_iconst (v := 0) 14 dX0_supply_13 rfl ic_0 ?_
    refine j_aI 15 dX0_supply_14 rfl ?_
    intro v12
    refine j_imul 16 dX0_supply_15 rfl ?_
    refine j_goto 20 dX0_supply_16 (by decide) ?_
    exact okX0_supply_J20 G x a0 a1 (v10 * v12)
-- X0_gain: ('BarSteps$Bar', 'gain', '(I)J')
def X0_gain (a0 : Nat) (a1 : Int32) (x : Hs) : Option (Int64) := (vO x 0 a0).bind fun _ =>
  (gR x 0 a0 8).bind fun v1 =>
  (gL x 0 a0 9).bind fun v2 =>
  (X0_flowAbove a0 (a1 - 1) v1 v2 x).bind fun v3 =>
  (gR x 0 a0 8).bind fun v4 =>
  (gL x 0 a0 9).bind fun v5 =>
  (X0_flowAbove a0 a1 v4 v5 x).bind fun v6 =>
  (gR x 0 a0 7).bind fun v7 =>
  (aI x v7 a1).bind fun v8 =>
  (gI x 0 a0 12).bind fun v9 =>
  (gL x 0 a0 9).bind fun v10 =>
  (gR x 0 a0 8).bind fun v11 =>
  (aL x v11 a1).bind fun v12 =>
  (gR x 0 a0 4).bind fun v13 =>
  (aI x v13 a1).bind fun v14 =>
  (gL x 0 a0 9).bind fun v15 =>
  some (((v3 - v6) + ((Int32.toInt64 v8) * (((Int32.toInt64 v9) * v10) - v12))) + ((Int32.toInt64 v14) * v15))
theorem rvX0_gain {a0 : Nat} {a1 : Int32} {x : Hs} {r : Int64} (h : X0_gain a0 a1 x = some r) : ∃ fs, x.1 a0 = .inr (0, fs) := vO_bind h
theorem okX0_gain (G : JG) (x : Hs) (a0 : Nat) (a1 : Int32) : ∀ r, X0_gain a0 a1 x = some r → JC G yX0_gain cX0_gain 4 (some .long) (jR 4 0 0) 0 0 [.ref a0, .int a1] x ((some (.long r), x)) := by
  refine jc_of (own := RX0) (E := (fun r : Int64 => ((some (.long r), x) : JR))) (by decide) rfl rfl (Nat.le_of_ble_eq_true rfl) rfl ?_
  unfold X0_gain
  refine j_chk ?_
  refine j_aload_n 1 0 dX0_gain_0 rfl rfl rfl ?_
  refine j_iload_n 2 1 dX0_gain_1 rfl rfl rfl ?_
  refine j_iconst (v := 1) 3 dX0_gain_2 rfl ic_1 ?_
  refine j_isub 4 dX0_gain_3 rfl ?_
  refine j_aload_n 5 0 dX0_gain_4 rfl rfl rfl ?_
  refine j_gR 8 kf_X0_37 dX0_gain_5 rfl ?_
  intro v1
  refine j_aload_n 9 0 dX0_gain_8 rfl rfl rfl ?_
  refine j_gL 12 kf_X0_41 dX0_gain_9 rfl ?_
  intro v2
  refine j_callV_l (ci := 0) (As := [.int (a1 - 1), .ref v1, .long v2]) (st := []) 15 (okX0_flowAbove G x a0 (a1 - 1) v1 v2) kc_X0_flowAbove kl_X0_121 ki_X0_flowAbove kv_X0_flowAbove kh_X0 (by decide) (fun _ h => rvX0_flowAbove h) ⟨rfl, rfl, Nat.le_of_ble_eq_true rfl, Nat.le_of_ble_eq_true rfl⟩ (Nat.le_of_ble_eq_true rfl) ⟨Nat.le_of_ble_eq_true rfl, Nat.le_of_ble_eq_true rfl⟩ rfl dX0_gain_12 rfl rfl ?_
  intro v3
  refine j_aload_n 16 0 dX0_gain_15 rfl rfl rfl ?_
  refine j_iload_n 17 1 dX0_gain_16 rfl rfl rfl ?_
  refine j_aload_n 18 0 dX0_gain_17 rfl rfl rfl ?_
  refine j_gR 21 kf_X0_37 dX0_gain_18 rfl ?_
  intro v4
  refine j_aload_n 22 0 dX0_gain_21 rfl rfl rfl ?_
  refine j_gL 25 kf_X0_41 dX0_gain_22 rfl ?_
  intro v5
  refine j_callV_l (ci := 0) (As := [.int a1, .ref v4, .long v5]) (st := [.long v3]) 28 (okX0_flowAbove G x a0 a1 v4 v5) kc_X0_flowAbove kl_X0_121 ki_X0_flowAbove kv_X0_flowAbove kh_X0 (by decide) (fun _ h => rvX0_flowAbove h) ⟨rfl, rfl, Nat.le_of_ble_eq_true rfl, Nat.le_of_ble_eq_true rfl⟩ (Nat.le_of_ble_eq_true rfl) ⟨Nat.le_of_ble_eq_true rfl, Nat.le_of_ble_eq_true rfl⟩ rfl dX0_gain_25 rfl rfl ?_
  intro v6
  refine j_lsub 29 dX0_gain_28 rfl ?_
  refine j_lstore_n 30 [(2, .long (v3 - v6)), (0, .ref a0), (1, .int a1)] dX0_gain_29 rfl rfl (by decide) rfl ?_
  refine j_lload_n 31 0 dX0_gain_30 rfl rfl rfl ?_
  refine j_aload_n 32 1 dX0_gain_31 rfl rfl rfl ?_
  refine j_gR 35 kf_X0_34 dX0_gain_32 rfl ?_
  intro v7
  refine j_iload_n 36 2 dX0_gain_35 rfl rfl rfl ?_
  refine j_aI 37 dX0_gain_36 rfl ?_
  intro v8
  refine j_i2l 38 dX0_gain_37 rfl ?_
  refine j_aload_n 39 1 dX0_gain_38 rfl rfl rfl ?_
  refine j_gI 42 kf_X0_51 dX0_gain_39 rfl ?_
  intro v9
  refine j_i2l 43 dX0_gain_42 rfl ?_
  refine j_aload_n 44 1 dX0_gain_43 rfl rfl rfl ?_
  refine j_gL 47 kf_X0_41 dX0_gain_44 rfl ?_
  intro v10
  refine j_lmul 48 dX0_gain_47 rfl ?_
  refine j_aload_n 49 1 dX0_gain_48 rfl rfl rfl ?_
  refine j_gR 52 kf_X0_37 dX0_gain_49 rfl ?_
  intro v11
  refine j_iload_n 53 2 dX0_gain_52 rfl rfl rfl ?_
  refine j_aL 54 dX0_gain_53 rfl ?_
  intro v12
  refine j_lsub 55 dX0_gain_54 rfl ?_
  refine j_lmul 56 dX0_gain_55 rfl ?_
  refine j_ladd 57 dX0_gain_56 rfl ?_
  refine j_aload_n 58 1 dX0_gain_57 rfl rfl rfl ?_
  refine j_gR 61 kf_X0_25 dX0_gain_58 rfl ?_
  intro v13
  refine j_iload_n 62 2 dX0_gain_61 rfl rfl rfl ?_
  refine j_aI 63 dX0_gain_62 rfl ?_
  intro v14
  refine j_i2l 64 dX0_gain_63 rfl ?_
  refine j_aload_n 65 1 dX0_gain_64 rfl rfl rfl ?_
  refine j_gL 68 kf_X0_41 dX0_gain_65 rfl ?_
  intro v15
  refine j_lmul 69 dX0_gain_68 rfl ?_
  refine j_ladd 70 dX0_gain_69 rfl ?_
  exact j_lret dX0_gain_70 rfl
-- X2_warmNext: ('BarSteps$Pulses', 'warmNext', '([JJ)V')
def X2_warmNext_L3 : Nat → Nat → Nat → Int64 → Int32 → Hs → Option (Hs)
  | 0, _, _, _, _, _ => none
  | n + 1, l0, l1, l2, l4, x => (gI x 1 l0 3).bind fun v1 =>
  (if v1 ≤ l4 then some x else
  (gR x 1 l0 0).bind fun v2 =>
  (aI x v2 l4).bind fun v3 =>
  (gR x 1 l0 1).bind fun v4 =>
  (aI x v4 l4).bind fun v5 =>
  (if v5 = 1 then (if v3 < 0 then X2_warmNext_L3 n l0 l1 l2 (l4 + 1) x else
  (aM x l1).bind fun v6 =>
  (if v6 ≤ v3 then X2_warmNext_L3 n l0 l1 l2 (l4 + 1) x else
  (aL x l1 v3).bind fun v7 =>
  (gR x 1 l0 2).bind fun v8 =>
  (aI x v8 l4).bind fun v9 =>
  (wL x l1 v3 (v7 + ((Int32.toInt64 v9) * l2))).bind fun y10 =>
  X2_warmNext_L3 n l0 l1 l2 (l4 + 1) y10)) else
  X2_warmNext_L3 n l0 l1 l2 (l4 + 1) x))
theorem okX2_warmNext_L3 (G : JG) : ∀ (n : Nat), ∀ (l0 : Nat) (l1 : Nat) (l2 : Int64) (l4 : Int32) (x : Hs), JM G RX2 cX2_warmNext 6 (jZ G (none) "warmNext" (jR 1 0 0) 0 0) (fun r : Hs => ((none, r) : JR)) 3 [(0, .ref l0), (1, .ref l1), (2, .long l2), (4, .int l4)] [] x 0 0 (X2_warmNext_L3 n l0 l1 l2 l4 x) := by
  intro n
  induction n with
  | zero => intro l0 l1 l2 l4 x; exact j_none
  | succ n ih =>
    intro l0 l1 l2 l4 x
    unfold X2_warmNext_L3
    refine j_iload 5 3 dX2_warmNext_3 rfl rfl ?_
    refine j_aload_n 6 0 dX2_warmNext_5 rfl rfl rfl ?_
    refine j_gI 9 kf_X2_21 dX2_warmNext_6 rfl ?_
    intro v1
    refine j_icmp_ge 67 12 dX2_warmNext_9 (by decide) rfl ?_ ?_
    · exact j_vret dX2_warmNext_67 rfl
    · refine j_aload_n 13 0 dX2_warmNext_12 rfl rfl rfl ?_
      refine j_gR 16 kf_X2_9 dX2_warmNext_13 rfl ?_
      intro v2
      refine j_iload 18 3 dX2_warmNext_16 rfl rfl ?_
      refine j_aI 19 dX2_warmNext_18 rfl ?_
      intro v3
      refine j_istore 21 [(5, .int v3), (0, .ref l0), (1, .ref l1), (2, .long l2), (4, .int l4)] dX2_warmNext_19 rfl (by decide) rfl ?_
      refine j_aload_n 22 1 dX2_warmNext_21 rfl rfl rfl ?_
      refine j_gR 25 kf_X2_15 dX2_warmNext_22 rfl ?_
      intro v4
      refine j_iload 27 4 dX2_warmNext_25 rfl rfl ?_
      refine j_aI 28 dX2_warmNext_27 rfl ?_
      intro v5
      refine j_iconst (v := 1) 29 dX2_warmNext_28 rfl ic_1 ?_
      refine j_icmp_ne 61 32 dX2_warmNext_29 (by decide) rfl ?_ ?_
      · refine j_iinc 64 4 [(4, .int (l4 + 1)), (5, .int v3), (0, .ref l0), (1, .ref l1), (2, .long l2)] dX2_warmNext_61 rfl rfl (ii_1 _) (by decide) rfl ?_
        refine j_goto 3 dX2_warmNext_64 (by decide) ?_
        refine j_sub [2, 3, 4, 0] rfl ?_
        exact ih l0 l1 l2 (l4 + 1) x
      · refine j_iload 34 0 dX2_warmNext_32 rfl rfl ?_
        refine j_if_lt 61 37 dX2_warmNext_34 (by decide) rfl ?_ ?_
        · refine j_iinc 64 4 [(4, .int (l4 + 1)), (5, .int v3), (0, .ref l0), (1, .ref l1), (2, .long l2)] dX2_warmNext_61 rfl rfl (ii_1 _) (by decide) rfl ?_
          refine j_goto 3 dX2_warmNext_64 (by decide) ?_
          refine j_sub [2, 3, 4, 0] rfl ?_
          exact ih l0 l1 l2 (l4 + 1) x
        · refine j_iload 39 0 dX2_warmNext_37 rfl rfl ?_
          refine j_aload_n 40 2 dX2_warmNext_39 rfl rfl rfl ?_
          refine j_aM 41 dX2_warmNext_40 rfl ?_
          intro v6
          refine j_icmp_ge 61 44 dX2_warmNext_41 (by decide) rfl ?_ ?_
          · refine j_iinc 64 4 [(4, .int (l4 + 1)), (5, .int v3), (0, .ref l0), (1, .ref l1), (2, .long l2)] dX2_warmNext_61 rfl rfl (ii_1 _) (by decide) rfl ?_
            refine j_goto 3 dX2_warmNext_64 (by decide) ?_
            refine j_sub [2, 3, 4, 0] rfl ?_
            exact ih l0 l1 l2 (l4 + 1) x
          · refine j_aload_n 45 2 dX2_warmNext_44 rfl rfl rfl ?_
            refine j_iload 47 0 dX2_warmNext_45 rfl rfl ?_
            refine j_dup2_11 48 dX2_warmNext_47 rfl rfl rfl ?_
            refine j_aL 49 dX2_warmNext_48 rfl ?_
            intro v7
            refine j_aload_n 50 1 dX2_warmNext_49 rfl rfl rfl ?_
            refine j_gR 53 kf_X2_18 dX2_warmNext_50 rfl ?_
            intro v8
            refine j_iload 55 4 dX2_warmNext_53 rfl rfl ?_
            refine j_aI 56 dX2_warmNext_55 rfl ?_
            intro v9
            refine j_i2l 57 dX2_warmNext_56 rfl ?_
            refine j_lload_n 58 3 dX2_warmNext_57 rfl rfl rfl ?_
            refine j_lmul 59 dX2_warmNext_58 rfl ?_
            refine j_ladd 60 dX2_warmNext_59 rfl ?_
            refine j_wL 61 dX2_warmNext_60 rfl ?_
            intro y10
            refine j_iinc 64 4 [(4, .int (l4 + 1)), (5, .int v3), (0, .ref l0), (1, .ref l1), (2, .long l2)] dX2_warmNext_61 rfl rfl (ii_1 _) (by decide) rfl ?_
            refine j_goto 3 dX2_warmNext_64 (by decide) ?_
            refine j_sub [2, 3, 4, 0] rfl ?_
            exact ih l0 l1 l2 (l4 + 1) y10
def X2_warmNext (a0 : Nat) (a1 : Nat) (a2 : Int64) (x : Hs) : Option (Hs) := (vO x 1 a0).bind fun _ =>
  X2_warmNext_L3 fu a0 a1 a2 0 x
theorem rvX2_warmNext {a0 : Nat} {a1 : Nat} {a2 : Int64} {x : Hs} {r : Hs} (h : X2_warmNext a0 a1 a2 x = some r) : ∃ fs, x.1 a0 = .inr (1, fs) := vO_bind h
theorem okX2_warmNext (G : JG) (x : Hs) (a0 : Nat) (a1 : Nat) (a2 : Int64) : ∀ r, X2_warmNext a0 a1 a2 x = some r → JC G yX2_warmNext cX2_warmNext 6 (none) (jR 1 0 0) 0 0 [.ref a0, .ref a1, .long a2] x ((none, r)) := by
  refine jc_of (own := RX2) (E := (fun r : Hs => ((none, r) : JR))) (by decide) rfl rfl (Nat.le_of_ble_eq_true rfl) rfl ?_
  unfold X2_warmNext
  refine j_chk ?_
  refine j_iconst (v := 0) 1 dX2_warmNext_0 rfl ic_0 ?_
  refine j_istore 3 [(4, .int 0), (0, .ref a0), (1, .ref a1), (2, .long a2)] dX2_warmNext_1 rfl (by decide) rfl ?_
  refine j_sub [1, 2, 3, 0] rfl ?_
  exact okX2_warmNext_L3 G fu a0 a1 a2 0 x
-- X0_takeHeats: ('BarSteps$Bar', 'takeHeats', '([JJ)I')
def X0_takeHeats_L22 : Nat → Nat → Nat → Int64 → Int32 → Hs → Option (Int32 × Hs)
  | 0, _, _, _, _, _ => none
  | n + 1, l0, l1, l4, l6, x => (gI x 0 l0 0).bind fun v2 =>
  (if v2 ≤ l6 then (gR x 0 l0 8).bind fun v3 =>
  (cpL x l1 0 v3 0 8).bind fun y4 =>
  (pV y4 0 l0 9 (.long l4)).bind fun y5 =>
  some ((-2), y5) else
  (aL x l1 l6).bind fun v6 =>
  (J9_abs_067f4 v6).bind fun v7 =>
  (if v7 ≤ 1000000000000 then X0_takeHeats_L22 n l0 l1 l4 (l6 + 1) x else
  some (l6, x)))
theorem okX0_takeHeats_L22 (G : JG) : ∀ (n : Nat), ∀ (l0 : Nat) (l1 : Nat) (l4 : Int64) (l6 : Int32) (x : Hs), JM G RX0 cX0_takeHeats 7 (jZ G (some .int) "takeHeats" (jR 4 0 0) 0 0) (fun r : Int32 × Hs => ((some (.int r.1), r.2) : JR)) 22 [(0, .ref l0), (1, .ref l1), (4, .long l4), (6, .int l6)] [] x 0 0 (X0_takeHeats_L22 n l0 l1 l4 l6 x) := by
  intro n
  induction n with
  | zero => intro l0 l1 l4 l6 x; exact j_none
  | succ n ih =>
    intro l0 l1 l4 l6 x
    unfold X0_takeHeats_L22
    refine j_iload 24 3 dX0_takeHeats_22 rfl rfl ?_
    refine j_aload_n 25 0 dX0_takeHeats_24 rfl rfl rfl ?_
    refine j_gI 28 kf_X0_9 dX0_takeHeats_25 rfl ?_
    intro v2
    refine j_icmp_ge 54 31 dX0_takeHeats_28 (by decide) rfl ?_ ?_
    · refine j_aload_n 55 1 dX0_takeHeats_54 rfl rfl rfl ?_
      refine j_iconst (v := 0) 56 dX0_takeHeats_55 rfl ic_0 ?_
      refine j_aload_n 57 0 dX0_takeHeats_56 rfl rfl rfl ?_
      refine j_gR 60 kf_X0_37 dX0_takeHeats_57 rfl ?_
      intro v3
      refine j_iconst (v := 0) 61 dX0_takeHeats_60 rfl ic_0 ?_
      refine j_bipush (v := 8) 63 dX0_takeHeats_61 rfl bc_8 ?_
      refine j_cpL 66 kl_X0_64 kac_n kac_s kac_i (Nat.le_of_ble_eq_true rfl) (Nat.le_of_ble_eq_true rfl) dX0_takeHeats_63 rfl ?_
      intro y4
      refine j_aload_n 67 0 dX0_takeHeats_66 rfl rfl rfl ?_
      refine j_lload 69 2 dX0_takeHeats_67 rfl rfl ?_
      refine j_put 72 kf_X0_41 dX0_takeHeats_69 rfl rfl rfl ?_
      intro y5
      refine j_bipush (v := -2) 74 dX0_takeHeats_72 rfl bc_m2 ?_
      exact j_iret dX0_takeHeats_74 rfl
    · refine j_aload_n 32 1 dX0_takeHeats_31 rfl rfl rfl ?_
      refine j_iload 34 3 dX0_takeHeats_32 rfl rfl ?_
      refine j_aL 35 dX0_takeHeats_34 rfl ?_
      intro v6
      refine j_callS_l (As := [.long v6]) (st := []) 38 (okJ9_abs_067f4 G x v6) kc_J9_abs_067f4 kl_X0_148 ks_J9_abs_067f4 ⟨rfl, rfl, Nat.le_of_ble_eq_true rfl, Nat.le_of_ble_eq_true rfl⟩ (Nat.le_of_ble_eq_true rfl) ⟨Nat.le_of_ble_eq_true rfl, Nat.le_of_ble_eq_true rfl⟩ rfl dX0_takeHeats_35 rfl rfl ?_
      intro v7
      refine j_ldc2 41 kk_X0_146 dX0_takeHeats_38 rfl ?_
      refine j_lcmp_le 42 48 45 dX0_takeHeats_41 rfl dX0_takeHeats_42 (by decide) rfl ?_ ?_
      · refine j_iinc 51 3 [(6, .int (l6 + 1)), (0, .ref l0), (1, .ref l1), (4, .long l4)] dX0_takeHeats_48 rfl rfl (ii_1 _) (by decide) rfl ?_
        refine j_goto 22 dX0_takeHeats_51 (by decide) ?_
        refine j_sub [1, 2, 3, 0] rfl ?_
        exact ih l0 l1 l4 (l6 + 1) x
      · refine j_iload 47 3 dX0_takeHeats_45 rfl rfl ?_
        exact j_iret dX0_takeHeats_47 rfl
def X0_takeHeats (a0 : Nat) (a1 : Nat) (a2 : Int64) (x : Hs) : Option (Int32 × Hs) := (vO x 0 a0).bind fun _ =>
  (X0_reduce a0 a1 a2 x).bind fun q1 =>
  (if q1.1 ≤ 1000000000000 then X0_takeHeats_L22 fu a0 a1 q1.1 0 q1.2 else
  some ((-1), q1.2))
theorem rvX0_takeHeats {a0 : Nat} {a1 : Nat} {a2 : Int64} {x : Hs} {r : Int32 × Hs} (h : X0_takeHeats a0 a1 a2 x = some r) : ∃ fs, x.1 a0 = .inr (0, fs) := vO_bind h
theorem okX0_takeHeats (G : JG) (x : Hs) (a0 : Nat) (a1 : Nat) (a2 : Int64) : ∀ r, X0_takeHeats a0 a1 a2 x = some r → JC G yX0_takeHeats cX0_takeHeats 7 (some .int) (jR 4 0 0) 0 0 [.ref a0, .ref a1, .long a2] x ((some (.int r.1), r.2)) := by
  refine jc_of (own := RX0) (E := (fun r : Int32 × Hs => ((some (.int r.1), r.2) : JR))) (by decide) rfl rfl (Nat.le_of_ble_eq_true rfl) rfl ?_
  unfold X0_takeHeats
  refine j_chk ?_
  refine j_aload_n 1 0 dX0_takeHeats_0 rfl rfl rfl ?_
  refine j_aload_n 2 1 dX0_takeHeats_1 rfl rfl rfl ?_
  refine j_lload_n 3 2 dX0_takeHeats_2 rfl rfl rfl ?_
  refine j_callV_lw (ci := 0) (As := [.ref a1, .long a2]) (st := []) 6 (okX0_reduce G x a0 a1 a2) kc_X0_reduce kl_X0_94 ki_X0_reduce kv_X0_reduce kh_X0 (by decide) (fun _ h => rvX0_reduce h) ⟨rfl, rfl, Nat.le_of_ble_eq_true rfl, Nat.le_of_ble_eq_true rfl⟩ (Nat.le_of_ble_eq_true rfl) ⟨Nat.le_of_ble_eq_true rfl, Nat.le_of_ble_eq_true rfl⟩ rfl dX0_takeHeats_3 rfl rfl ?_
  intro q1
  refine j_lstore 8 [(4, .long q1.1), (0, .ref a0), (1, .ref a1), (2, .long a2)] dX0_takeHeats_6 rfl (by decide) rfl ?_
  refine j_lload 10 0 dX0_takeHeats_8 rfl rfl ?_
  refine j_ldc2 13 kk_X0_146 dX0_takeHeats_10 rfl ?_
  refine j_lcmp_le 14 19 17 dX0_takeHeats_13 rfl dX0_takeHeats_14 (by decide) rfl ?_ ?_
  · refine j_iconst (v := 0) 20 dX0_takeHeats_19 rfl ic_0 ?_
    refine j_istore 22 [(6, .int 0), (4, .long q1.1), (0, .ref a0), (1, .ref a1), (2, .long a2)] dX0_takeHeats_20 rfl (by decide) rfl ?_
    refine j_sub [2, 3, 1, 0] rfl ?_
    exact okX0_takeHeats_L22 G fu a0 a1 q1.1 0 q1.2
  · refine j_iconst (v := -1) 18 dX0_takeHeats_17 rfl ic_m1 ?_
    exact j_iret dX0_takeHeats_18 rfl
-- X2_passOne: ('BarSteps$Pulses', 'passOne', '()V')
def X2_passOne_L12 : Nat → Nat → Int32 → Int32 → Hs → Option (Hs)
  | 0, _, _, _, _ => none
  | n + 1, l0, l1, l2, x => (if l1 ≤ l2 then some x else
  (gR x 1 l0 1).bind fun v3 =>
  (aI x v3 l2).bind fun v4 =>
  (if v4 ≤ 1 then X2_passOne_L12 n l0 l1 (l2 + 1) x else
  (gR x 1 l0 0).bind fun v5 =>
  (aI x v5 l2).bind fun v6 =>
  (gR x 1 l0 1).bind fun v7 =>
  (aI x v7 l2).bind fun v8 =>
  (gR x 1 l0 2).bind fun v9 =>
  (aI x v9 l2).bind fun v10 =>
  (X2_append l0 v6 (v8 - 1) v10 x).bind fun q11 =>
  X2_passOne_L12 n l0 l1 (l2 + 1) q11.2))
theorem okX2_passOne_L12 (G : JG) : ∀ (n : Nat), ∀ (l0 : Nat) (l1 : Int32) (l2 : Int32) (x : Hs), JM G RX2 cX2_passOne 3 (jZ G (none) "passOne" (jR 2 0 0) 0 0) (fun r : Hs => ((none, r) : JR)) 12 [(0, .ref l0), (1, .int l1), (2, .int l2)] [] x 0 0 (X2_passOne_L12 n l0 l1 l2 x) := by
  intro n
  induction n with
  | zero => intro l0 l1 l2 x; exact j_none
  | succ n ih =>
    intro l0 l1 l2 x
    unfold X2_passOne_L12
    refine j_iload_n 13 2 dX2_passOne_12 rfl rfl rfl ?_
    refine j_iload_n 14 1 dX2_passOne_13 rfl rfl rfl ?_
    refine j_icmp_ge 58 17 dX2_passOne_14 (by decide) rfl ?_ ?_
    · exact j_vret dX2_passOne_58 rfl
    · refine j_aload_n 18 0 dX2_passOne_17 rfl rfl rfl ?_
      refine j_gR 21 kf_X2_15 dX2_passOne_18 rfl ?_
      intro v3
      refine j_iload_n 22 2 dX2_passOne_21 rfl rfl rfl ?_
      refine j_aI 23 dX2_passOne_22 rfl ?_
      intro v4
      refine j_iconst (v := 1) 24 dX2_passOne_23 rfl ic_1 ?_
      refine j_icmp_le 52 27 dX2_passOne_24 (by decide) rfl ?_ ?_
      · refine j_iinc 55 2 [(2, .int (l2 + 1)), (0, .ref l0), (1, .int l1)] dX2_passOne_52 rfl rfl (ii_1 _) (by decide) rfl ?_
        refine j_goto 12 dX2_passOne_55 (by decide) ?_
        refine j_sub [1, 2, 0] rfl ?_
        exact ih l0 l1 (l2 + 1) x
      · refine j_aload_n 28 0 dX2_passOne_27 rfl rfl rfl ?_
        refine j_aload_n 29 0 dX2_passOne_28 rfl rfl rfl ?_
        refine j_gR 32 kf_X2_9 dX2_passOne_29 rfl ?_
        intro v5
        refine j_iload_n 33 2 dX2_passOne_32 rfl rfl rfl ?_
        refine j_aI 34 dX2_passOne_33 rfl ?_
        intro v6
        refine j_aload_n 35 0 dX2_passOne_34 rfl rfl rfl ?_
        refine j_gR 38 kf_X2_15 dX2_passOne_35 rfl ?_
        intro v7
        refine j_iload_n 39 2 dX2_passOne_38 rfl rfl rfl ?_
        refine j_aI 40 dX2_passOne_39 rfl ?_
        intro v8
        refine j_iconst (v := 1) 41 dX2_passOne_40 rfl ic_1 ?_
        refine j_isub 42 dX2_passOne_41 rfl ?_
        refine j_aload_n 43 0 dX2_passOne_42 rfl rfl rfl ?_
        refine j_gR 46 kf_X2_18 dX2_passOne_43 rfl ?_
        intro v9
        refine j_iload_n 47 2 dX2_passOne_46 rfl rfl rfl ?_
        refine j_aI 48 dX2_passOne_47 rfl ?_
        intro v10
        refine j_callV_iw (ci := 1) (As := [.int v6, .int (v8 - 1), .int v10]) (st := []) 51 (okX2_append G x l0 v6 (v8 - 1) v10) kc_X2_append kl_X2_31 ki_X2_append kv_X2_append kh_X2 (by decide) (fun _ h => rvX2_append h) ⟨rfl, rfl, Nat.le_of_ble_eq_true rfl, Nat.le_of_ble_eq_true rfl⟩ (Nat.le_of_ble_eq_true rfl) ⟨Nat.le_of_ble_eq_true rfl, Nat.le_of_ble_eq_true rfl⟩ rfl dX2_passOne_48 rfl rfl ?_
        intro q11
        refine j_pop 52 dX2_passOne_51 rfl rfl ?_
        refine j_iinc 55 2 [(2, .int (l2 + 1)), (0, .ref l0), (1, .int l1)] dX2_passOne_52 rfl rfl (ii_1 _) (by decide) rfl ?_
        refine j_goto 12 dX2_passOne_55 (by decide) ?_
        refine j_sub [1, 2, 0] rfl ?_
        exact ih l0 l1 (l2 + 1) q11.2
def X2_passOne (a0 : Nat) (x : Hs) : Option (Hs) := (vO x 1 a0).bind fun _ =>
  (gI x 1 a0 3).bind fun v1 =>
  (pV x 1 a0 3 (.int 0)).bind fun y2 =>
  X2_passOne_L12 fu a0 v1 0 y2
theorem rvX2_passOne {a0 : Nat} {x : Hs} {r : Hs} (h : X2_passOne a0 x = some r) : ∃ fs, x.1 a0 = .inr (1, fs) := vO_bind h
theorem okX2_passOne (G : JG) (x : Hs) (a0 : Nat) : ∀ r, X2_passOne a0 x = some r → JC G yX2_passOne cX2_passOne 3 (none) (jR 2 0 0) 0 0 [.ref a0] x ((none, r)) := by
  refine jc_of (own := RX2) (E := (fun r : Hs => ((none, r) : JR))) (by decide) rfl rfl (Nat.le_of_ble_eq_true rfl) rfl ?_
  unfold X2_passOne
  refine j_chk ?_
  refine j_aload_n 1 0 dX2_passOne_0 rfl rfl rfl ?_
  refine j_gI 4 kf_X2_21 dX2_passOne_1 rfl ?_
  intro v1
  refine j_istore_n 5 [(1, .int v1), (0, .ref a0)] dX2_passOne_4 rfl rfl (by decide) rfl ?_
  refine j_aload_n 6 1 dX2_passOne_5 rfl rfl rfl ?_
  refine j_iconst (v := 0) 7 dX2_passOne_6 rfl ic_0 ?_
  refine j_put 10 kf_X2_21 dX2_passOne_7 rfl rfl rfl ?_
  intro y2
  refine j_iconst (v := 0) 11 dX2_passOne_10 rfl ic_0 ?_
  refine j_istore_n 12 [(2, .int 0), (1, .int v1), (0, .ref a0)] dX2_passOne_11 rfl rfl (by decide) rfl ?_
  refine j_sub [2, 1, 0] rfl ?_
  exact okX2_passOne_L12 G fu a0 v1 0 y2
-- X0_advance: ('BarSteps$Bar', 'advance', '()I')
def X0_advance_L11 : Nat → Nat → Int64 → Int32 → Hs → Option (Int32 × Hs)
  | 0, _, _, _, _ => none
  | n + 1, l0, l1, l3, x => (gI x 0 l0 0).bind fun v2 =>
  (if v2 ≤ l3 then (gR x 0 l0 13).bind fun v3 =>
  (gR x 0 l0 14).bind fun v4 =>
  (gL x 0 l0 9).bind fun v5 =>
  (X2_warmNext v3 v4 (v5 * l1) x).bind fun q6 =>
  (gR q6 0 l0 14).bind fun v7 =>
  (gL q6 0 l0 9).bind fun v8 =>
  (X0_takeHeats l0 v7 (v8 * l1) q6).bind fun q9 =>
  (if q9.1 = (-2) then (gR q9.2 0 l0 13).bind fun v10 =>
  (X2_passOne v10 q9.2).bind fun q11 =>
  some (q9.1, q11) else
  some (q9.1, q9.2)) else
  (gR x 0 l0 14).bind fun v12 =>
  (gR x 0 l0 8).bind fun v13 =>
  (aL x v13 l3).bind fun v14 =>
  (X0_gain l0 l3 x).bind fun v15 =>
  (gR x 0 l0 6).bind fun v16 =>
  (aI x v16 l3).bind fun v17 =>
  (X6_quotient 24 (Int32.toInt64 v17)).bind fun v18 =>
  (wL x v12 l3 ((v14 * l1) + (v15 * v18))).bind fun y19 =>
  X0_advance_L11 n l0 l1 (l3 + 1) y19)
theorem okX0_advance_L11 (G : JG) : ∀ (n : Nat), ∀ (l0 : Nat) (l1 : Int64) (l3 : Int32) (x : Hs), JM G RX0 cX0_advance 4 (jZ G (some .int) "advance" (jR 5 0 0) 0 0) (fun r : Int32 × Hs => ((some (.int r.1), r.2) : JR)) 11 [(0, .ref l0), (1, .long l1), (3, .int l3)] [] x 0 0 (X0_advance_L11 n l0 l1 l3 x) := by
  intro n
  induction n with
  | zero => intro l0 l1 l3 x; exact j_none
  | succ n ih =>
    intro l0 l1 l3 x
    unfold X0_advance_L11
    refine j_iload_n 12 2 dX0_advance_11 rfl rfl rfl ?_
    refine j_aload_n 13 0 dX0_advance_12 rfl rfl rfl ?_
    refine j_gI 16 kf_X0_9 dX0_advance_13 rfl ?_
    intro v2
    refine j_icmp_ge 59 19 dX0_advance_16 (by decide) rfl ?_ ?_
    · refine j_aload_n 60 0 dX0_advance_59 rfl rfl rfl ?_
      refine j_gR 63 kf_X0_57 dX0_advance_60 rfl ?_
      intro v3
      refine j_aload_n 64 0 dX0_advance_63 rfl rfl rfl ?_
      refine j_gR 67 kf_X0_61 dX0_advance_64 rfl ?_
      intro v4
      refine j_aload_n 68 0 dX0_advance_67 rfl rfl rfl ?_
      refine j_gL 71 kf_X0_41 dX0_advance_68 rfl ?_
      intro v5
      refine j_lload_n 72 1 dX0_advance_71 rfl rfl rfl ?_
      refine j_lmul 73 dX0_advance_72 rfl ?_
      refine j_callV_v (ci := 1) (As := [.ref v4, .long (v5 * l1)]) (st := []) 76 (okX2_warmNext G x v3 v4 (v5 * l1)) kc_X2_warmNext kl_X0_135 ki_X2_warmNext kv_X2_warmNext kh_X2 (by decide) (fun _ h => rvX2_warmNext h) ⟨rfl, rfl, Nat.le_of_ble_eq_true rfl, Nat.le_of_ble_eq_true rfl⟩ (Nat.le_of_ble_eq_true rfl) ⟨Nat.le_of_ble_eq_true rfl, Nat.le_of_ble_eq_true rfl⟩ rfl dX0_advance_73 rfl rfl ?_
      intro q6
      refine j_aload_n 77 0 dX0_advance_76 rfl rfl rfl ?_
      refine j_aload_n 78 0 dX0_advance_77 rfl rfl rfl ?_
      refine j_gR 81 kf_X0_61 dX0_advance_78 rfl ?_
      intro v7
      refine j_aload_n 82 0 dX0_advance_81 rfl rfl rfl ?_
      refine j_gL 85 kf_X0_41 dX0_advance_82 rfl ?_
      intro v8
      refine j_lload_n 86 1 dX0_advance_85 rfl rfl rfl ?_
      refine j_lmul 87 dX0_advance_86 rfl ?_
      refine j_callV_iw (ci := 0) (As := [.ref v7, .long (v8 * l1)]) (st := []) 90 (okX0_takeHeats G q6 l0 v7 (v8 * l1)) kc_X0_takeHeats kl_X0_139 ki_X0_takeHeats kv_X0_takeHeats kh_X0 (by decide) (fun _ h => rvX0_takeHeats h) ⟨rfl, rfl, Nat.le_of_ble_eq_true rfl, Nat.le_of_ble_eq_true rfl⟩ (Nat.le_of_ble_eq_true rfl) ⟨Nat.le_of_ble_eq_true rfl, Nat.le_of_ble_eq_true rfl⟩ rfl dX0_advance_87 rfl rfl ?_
      intro q9
      refine j_istore_n 91 [(3, .int q9.1), (0, .ref l0), (1, .long l1)] dX0_advance_90 rfl rfl (by decide) rfl ?_
      refine j_iload_n 92 0 dX0_advance_91 rfl rfl rfl ?_
      refine j_bipush (v := -2) 94 dX0_advance_92 rfl bc_m2 ?_
      refine j_icmp_ne 104 97 dX0_advance_94 (by decide) rfl ?_ ?_
      · refine j_iload_n 105 0 dX0_advance_104 rfl rfl rfl ?_
        exact j_iret dX0_advance_105 rfl
      · refine j_aload_n 98 1 dX0_advance_97 rfl rfl rfl ?_
        refine j_gR 101 kf_X0_57 dX0_advance_98 rfl ?_
        intro v10
        refine j_callV_v (ci := 1) (As := []) (st := []) 104 (okX2_passOne G q9.2 v10) kc_X2_passOne kl_X0_143 ki_X2_passOne kv_X2_passOne kh_X2 (by decide) (fun _ h => rvX2_passOne h) ⟨rfl, rfl, Nat.le_of_ble_eq_true rfl, Nat.le_of_ble_eq_true rfl⟩ (Nat.le_of_ble_eq_true rfl) ⟨Nat.le_of_ble_eq_true rfl, Nat.le_of_ble_eq_true rfl⟩ rfl dX0_advance_101 rfl rfl ?_
        intro q11
        refine j_iload_n 105 0 dX0_advance_104 rfl rfl rfl ?_
        exact j_iret dX0_advance_105 rfl
    · refine j_aload_n 20 0 dX0_advance_19 rfl rfl rfl ?_
      refine j_gR 23 kf_X0_61 dX0_advance_20 rfl ?_
      intro v12
      refine j_iload_n 24 2 dX0_advance_23 rfl rfl rfl ?_
      refine j_aload_n 25 0 dX0_advance_24 rfl rfl rfl ?_
      refine j_gR 28 kf_X0_37 dX0_advance_25 rfl ?_
      intro v13
      refine j_iload_n 29 2 dX0_advance_28 rfl rfl rfl ?_
      refine j_aL 30 dX0_advance_29 rfl ?_
      intro v14
      refine j_lload_n 31 1 dX0_advance_30 rfl rfl rfl ?_
      refine j_lmul 32 dX0_advance_31 rfl ?_
      refine j_aload_n 33 0 dX0_advance_32 rfl rfl rfl ?_
      refine j_iload_n 34 2 dX0_advance_33 rfl rfl rfl ?_
      refine j_callV_l (ci := 0) (As := [.int l3]) (st := [.long (v14 * l1), .int l3, .ref v12]) 37 (okX0_gain G x l0 l3) kc_X0_gain kl_X0_125 ki_X0_gain kv_X0_gain kh_X0 (by decide) (fun _ h => rvX0_gain h) ⟨rfl, rfl, Nat.le_of_ble_eq_true rfl, Nat.le_of_ble_eq_true rfl⟩ (Nat.le_of_ble_eq_true rfl) ⟨Nat.le_of_ble_eq_true rfl, Nat.le_of_ble_eq_true rfl⟩ rfl dX0_advance_34 rfl rfl ?_
      intro v15
      refine j_ldc2 40 kk_X0_129 dX0_advance_37 rfl ?_
      refine j_aload_n 41 0 dX0_advance_40 rfl rfl rfl ?_
      refine j_gR 44 kf_X0_31 dX0_advance_41 rfl ?_
      intro v16
      refine j_iload_n 45 2 dX0_advance_44 rfl rfl rfl ?_
      refine j_aI 46 dX0_advance_45 rfl ?_
      intro v17
      refine j_i2l 47 dX0_advance_46 rfl ?_
      refine j_callSN_l (As := [.long 24, .long (Int32.toInt64 v17)]) (st := [.long v15, .long (v14 * l1), .int l3, .ref v12]) 50 (okX6_quotient G x 24 (Int32.toInt64 v17)) kc_X6_quotient kl_X0_131 ks_X6_quotient ⟨rfl, rfl, Nat.le_of_ble_eq_true rfl, Nat.le_of_ble_eq_true rfl⟩ (Nat.le_of_ble_eq_true rfl) ⟨Nat.le_of_ble_eq_true rfl, Nat.le_of_ble_eq_true rfl⟩ rfl dX0_advance_47 rfl rfl ?_
      intro v18
      refine j_lmul 51 dX0_advance_50 rfl ?_
      refine j_ladd 52 dX0_advance_51 rfl ?_
      refine j_wL 53 dX0_advance_52 rfl ?_
      intro y19
      refine j_iinc 56 2 [(3, .int (l3 + 1)), (0, .ref l0), (1, .long l1)] dX0_advance_53 rfl rfl (ii_1 _) (by decide) rfl ?_
      refine j_goto 11 dX0_advance_56 (by decide) ?_
      refine j_sub [1, 2, 0] rfl ?_
      exact ih l0 l1 (l3 + 1) y19
def X0_advance (a0 : Nat) (x : Hs) : Option (Int32 × Hs) := (vO x 0 a0).bind fun _ =>
  (gI x 0 a0 11).bind fun v1 =>
  X0_advance_L11 fu a0 (Int32.toInt64 (24 * v1)) 0 x
theorem rvX0_advance {a0 : Nat} {x : Hs} {r : Int32 × Hs} (h : X0_advance a0 x = some r) : ∃ fs, x.1 a0 = .inr (0, fs) := vO_bind h
theorem okX0_advance (G : JG) (x : Hs) (a0 : Nat) : ∀ r, X0_advance a0 x = some r → JC G yX0_advance cX0_advance 4 (some .int) (jR 5 0 0) 0 0 [.ref a0] x ((some (.int r.1), r.2)) := by
  refine jc_of (own := RX0) (E := (fun r : Int32 × Hs => ((some (.int r.1), r.2) : JR))) (by decide) rfl rfl (Nat.le_of_ble_eq_true rfl) rfl ?_
  unfold X0_advance
  refine j_chk ?_
  refine j_bipush (v := 24) 2 dX0_advance_0 rfl bc_24 ?_
  refine j_aload_n 3 0 dX0_advance_2 rfl rfl rfl ?_
  refine j_gI 6 kf_X0_48 dX0_advance_3 rfl ?_
  intro v1
  refine j_imul 7 dX0_advance_6 rfl ?_
  refine j_i2l 8 dX0_advance_7 rfl ?_
  refine j_lstore_n 9 [(1, .long (Int32.toInt64 (24 * v1))), (0, .ref a0)] dX0_advance_8 rfl rfl (by decide) rfl ?_
  refine j_iconst (v := 0) 10 dX0_advance_9 rfl ic_0 ?_
  refine j_istore_n 11 [(3, .int 0), (1, .long (Int32.toInt64 (24 * v1))), (0, .ref a0)] dX0_advance_10 rfl rfl (by decide) rfl ?_
  refine j_sub [2, 1, 0] rfl ?_
  exact okX0_advance_L11 G fu a0 (Int32.toInt64 (24 * v1)) 0 x
-- X0_isRisenFrom: ('BarSteps$Bar', 'isRisenFrom', '(JJ)Z')
def X0_isRisenFrom (a0 : Nat) (a1 : Int64) (a2 : Int64) (x : Hs) : Option (Int32) := (vO x 0 a0).bind fun _ =>
  (gI x 0 a0 11).bind fun v1 =>
  (X0_greatest a0 x).bind fun v2 =>
  (gL x 0 a0 9).bind fun v3 =>
  (X6_quotient (a2 * (Int32.toInt64 (24 * v1))) v3).bind fun v4 =>
  (if (v2 * v4) ≤ (a1 * (Int32.toInt64 (24 * v1))) then (zb 0).bind fun v5 => some v5 else
  (zb 1).bind fun v6 => some v6)
theorem rvX0_isRisenFrom {a0 : Nat} {a1 : Int64} {a2 : Int64} {x : Hs} {r : Int32} (h : X0_isRisenFrom a0 a1 a2 x = some r) : ∃ fs, x.1 a0 = .inr (0, fs) := vO_bind h
theorem okX0_isRisenFrom (G : JG) (x : Hs) (a0 : Nat) (a1 : Int64) (a2 : Int64) : ∀ r, X0_isRisenFrom a0 a1 a2 x = some r → JC G yX0_isRisenFrom cX0_isRisenFrom 7 (some .boolean) (jR 4 0 0) 0 0 [.ref a0, .long a1, .long a2] x ((some (.int r), x)) := by
  refine jc_of (own := RX0) (E := (fun r : Int32 => ((some (.int r), x) : JR))) (by decide) rfl rfl (Nat.le_of_ble_eq_true rfl) rfl ?_
  unfold X0_isRisenFrom
  refine j_chk ?_
  refine j_bipush (v := 24) 2 dX0_isRisenFrom_0 rfl bc_24 ?_
  refine j_aload_n 3 0 dX0_isRisenFrom_2 rfl rfl rfl ?_
  refine j_gI 6 kf_X0_48 dX0_isRisenFrom_3 rfl ?_
  intro v1
  refine j_imul 7 dX0_isRisenFrom_6 rfl ?_
  refine j_i2l 8 dX0_isRisenFrom_7 rfl ?_
  refine j_lstore 10 [(5, .long (Int32.toInt64 (24 * v1))), (0, .ref a0), (1, .long a1), (3, .long a2)] dX0_isRisenFrom_8 rfl (by decide) rfl ?_
  refine j_aload_n 11 1 dX0_isRisenFrom_10 rfl rfl rfl ?_
  refine j_callV_l (ci := 0) (As := []) (st := []) 14 (okX0_greatest G x a0) kc_X0_greatest kl_X0_155 ki_X0_greatest kv_X0_greatest kh_X0 (by decide) (fun _ h => rvX0_greatest h) ⟨rfl, rfl, Nat.le_of_ble_eq_true rfl, Nat.le_of_ble_eq_true rfl⟩ (Nat.le_of_ble_eq_true rfl) ⟨Nat.le_of_ble_eq_true rfl, Nat.le_of_ble_eq_true rfl⟩ rfl dX0_isRisenFrom_11 rfl rfl ?_
  intro v2
  refine j_lload_n 15 3 dX0_isRisenFrom_14 rfl rfl rfl ?_
  refine j_lload 17 0 dX0_isRisenFrom_15 rfl rfl ?_
  refine j_lmul 18 dX0_isRisenFrom_17 rfl ?_
  refine j_aload_n 19 1 dX0_isRisenFrom_18 rfl rfl rfl ?_
  refine j_gL 22 kf_X0_41 dX0_isRisenFrom_19 rfl ?_
  intro v3
  refine j_callSN_l (As := [.long (a2 * (Int32.toInt64 (24 * v1))), .long v3]) (st := [.long v2]) 25 (okX6_quotient G x (a2 * (Int32.toInt64 (24 * v1))) v3) kc_X6_quotient kl_X0_131 ks_X6_quotient ⟨rfl, rfl, Nat.le_of_ble_eq_true rfl, Nat.le_of_ble_eq_true rfl⟩ (Nat.le_of_ble_eq_true rfl) ⟨Nat.le_of_ble_eq_true rfl, Nat.le_of_ble_eq_true rfl⟩ rfl dX0_isRisenFrom_22 rfl rfl ?_
  intro v4
  refine j_lmul 26 dX0_isRisenFrom_25 rfl ?_
  refine j_lload_n 27 2 dX0_isRisenFrom_26 rfl rfl rfl ?_
  refine j_lload 29 0 dX0_isRisenFrom_27 rfl rfl ?_
  refine j_lmul 30 dX0_isRisenFrom_29 rfl ?_
  refine j_lcmp_le 31 38 34 dX0_isRisenFrom_30 rfl dX0_isRisenFrom_31 (by decide) rfl ?_ ?_
  · refine j_iconst (v := 0) 39 dX0_isRisenFrom_38 rfl ic_0 ?_
    exact j_zret dX0_isRisenFrom_39 (fun _ => rfl)
  · refine j_iconst (v := 1) 35 dX0_isRisenFrom_34 rfl ic_1 ?_
    refine j_goto 39 dX0_isRisenFrom_35 (by decide) ?_
    exact j_zret dX0_isRisenFrom_39 (fun _ => rfl)
-- X6_total: ('BarSteps', 'total', '([II)I')
def X6_total_L4 (x : Hs) : Nat → Nat → Int32 → Int32 → Int32 → Option (Int32)
  | 0, _, _, _, _ => none
  | n + 1, l0, l1, l2, l3 => (if l1 ≤ l3 then some l2 else
  (aI x l0 l3).bind fun v1 =>
  X6_total_L4 x n l0 l1 (l2 + v1) (l3 + 1))
theorem okX6_total_L4 (G : JG) (x : Hs) : ∀ (n : Nat), ∀ (l0 : Nat) (l1 : Int32) (l2 : Int32) (l3 : Int32), JM G RX6 cX6_total 4 (jZ G (some .int) "total" (jR 1 0 0) 0 0) (fun r : Int32 => ((some (.int r), x) : JR)) 4 [(0, .ref l0), (1, .int l1), (2, .int l2), (3, .int l3)] [] x 0 0 (X6_total_L4 x n l0 l1 l2 l3) := by
  intro n
  induction n with
  | zero => intro l0 l1 l2 l3; exact j_none
  | succ n ih =>
    intro l0 l1 l2 l3
    unfold X6_total_L4
    refine j_iload_n 5 3 dX6_total_4 rfl rfl rfl ?_
    refine j_iload_n 6 1 dX6_total_5 rfl rfl rfl ?_
    refine j_icmp_ge 21 9 dX6_total_6 (by decide) rfl ?_ ?_
    · refine j_iload_n 22 2 dX6_total_21 rfl rfl rfl ?_
      exact j_iret dX6_total_22 rfl
    · refine j_iload_n 10 2 dX6_total_9 rfl rfl rfl ?_
      refine j_aload_n 11 0 dX6_total_10 rfl rfl rfl ?_
      refine j_iload_n 12 3 dX6_total_11 rfl rfl rfl ?_
      refine j_aI 13 dX6_total_12 rfl ?_
      intro v1
      refine j_iadd 14 dX6_total_13 rfl ?_
      refine j_istore_n 15 [(2, .int (l2 + v1)), (0, .ref l0), (1, .int l1), (3, .int l3)] dX6_total_14 rfl rfl (by decide) rfl ?_
      refine j_iinc 18 3 [(3, .int (l3 + 1)), (2, .int (l2 + v1)), (0, .ref l0), (1, .int l1)] dX6_total_15 rfl rfl (ii_1 _) (by decide) rfl ?_
      refine j_goto 4 dX6_total_18 (by decide) ?_
      refine j_sub [2, 3, 1, 0] rfl ?_
      exact ih l0 l1 (l2 + v1) (l3 + 1)
def X6_total (a0 : Nat) (a1 : Int32) (x : Hs) : Option (Int32) := X6_total_L4 x fu a0 a1 0 0
theorem okX6_total (G : JG) (x : Hs) (a0 : Nat) (a1 : Int32) : ∀ r, X6_total a0 a1 x = some r → JC G yX6_total cX6_total 4 (some .int) (jR 1 0 0) 0 0 [.ref a0, .int a1] x ((some (.int r), x)) := by
  refine jc_of (own := RX6) (E := (fun r : Int32 => ((some (.int r), x) : JR))) (by decide) rfl rfl (Nat.le_of_ble_eq_true rfl) rfl ?_
  unfold X6_total
  refine j_iconst (v := 0) 1 dX6_total_0 rfl ic_0 ?_
  refine j_istore_n 2 [(2, .int 0), (0, .ref a0), (1, .int a1)] dX6_total_1 rfl rfl (by decide) rfl ?_
  refine j_iconst (v := 0) 3 dX6_total_2 rfl ic_0 ?_
  refine j_istore_n 4 [(3, .int 0), (2, .int 0), (0, .ref a0), (1, .int a1)] dX6_total_3 rfl rfl (by decide) rfl ?_
  refine j_sub [2, 3, 1, 0] rfl ?_
  exact okX6_total_L4 G x fu a0 a1 0 0
-- X0_canRest: ('BarSteps$Bar', 'canRest', '()Z')
def X0_canRest_J25 (x : Hs) (l0 : Nat) (s0 : Int32) : Option (Int32) := (gI x 0 l0 0).bind fun v3 =>
  (if v3 ≤ 0 then (zb 0).bind fun v4 => some v4 else
  (if s0 = 0 then (gR x 0 l0 7).bind fun v6 =>
  (gI x 0 l0 0).bind fun v7 =>
  (X6_total v6 v7 x).bind fun v8 =>
  (if v8 ≤ 0 then (zb 0).bind fun v9 => some v9 else
  (zb 1).bind fun v10 => some v10) else
  (zb 1).bind fun v5 => some v5))
theorem okX0_canRest_J25 (G : JG) (x : Hs) : ∀ (l0 : Nat) (s0 : Int32), JM G RX0 cX0_canRest 2 (jZ G (some .boolean) "canRest" (jR 2 0 0) 0 0) (fun r : Int32 => ((some (.int r), x) : JR)) 25 [(0, .ref l0)] [.int s0] x 0 0 (X0_canRest_J25 x l0 s0) := by
  intro l0 s0
  unfold X0_canRest_J25
  refine j_istore_n 26 [(1, .int s0), (0, .ref l0)] dX0_canRest_25 rfl rfl (by decide) rfl ?_
  refine j_aload_n 27 1 dX0_canRest_26 rfl rfl rfl ?_
  refine j_gI 30 kf_X0_9 dX0_canRest_27 rfl ?_
  intro v3
  refine j_if_le 55 33 dX0_canRest_30 (by decide) rfl ?_ ?_
  · refine j_iconst (v := 0) 56 dX0_canRest_55 rfl ic_0 ?_
    exact j_zret dX0_canRest_56 (fun _ => rfl)
  · refine j_iload_n 34 0 dX0_canRest_33 rfl rfl rfl ?_
    refine j_if_ne 51 37 dX0_canRest_34 (by decide) rfl ?_ ?_
    · refine j_iconst (v := 1) 52 dX0_canRest_51 rfl ic_1 ?_
      refine j_goto 56 dX0_canRest_52 (by decide) ?_
      exact j_zret dX0_canRest_56 (fun _ => rfl)
    · refine j_aload_n 38 1 dX0_canRest_37 rfl rfl rfl ?_
      refine j_gR 41 kf_X0_34 dX0_canRest_38 rfl ?_
      intro v6
      refine j_aload_n 42 1 dX0_canRest_41 rfl rfl rfl ?_
      refine j_gI 45 kf_X0_9 dX0_canRest_42 rfl ?_
      intro v7
      refine j_callSN_i (As := [.ref v6, .int v7]) (st := []) 48 (okX6_total G x v6 v7) kc_X6_total kl_X0_159 ks_X6_total ⟨rfl, rfl, Nat.le_of_ble_eq_true rfl, Nat.le_of_ble_eq_true rfl⟩ (Nat.le_of_ble_eq_true rfl) ⟨Nat.le_of_ble_eq_true rfl, Nat.le_of_ble_eq_true rfl⟩ rfl dX0_canRest_45 rfl rfl ?_
      intro v8
      refine j_if_le 55 51 dX0_canRest_48 (by decide) rfl ?_ ?_
      · refine j_iconst (v := 0) 56 dX0_canRest_55 rfl ic_0 ?_
        exact j_zret dX0_canRest_56 (fun _ => rfl)
      · refine j_iconst (v := 1) 52 dX0_canRest_51 rfl ic_1 ?_
        refine j_goto 56 dX0_canRest_52 (by decide) ?_
        exact j_zret dX0_canRest_56 (fun _ => rfl)
def X0_canRest (a0 : Nat) (x : Hs) : Option (Int32) := (vO x 0 a0).bind fun _ =>
  (gR x 0 a0 10).bind fun v1 =>
  (aI x v1 0).bind fun v2 =>
  (if v2 = (-1) then (gR x 0 a0 10).bind fun v11 =>
  (aI x v11 1).bind fun v12 =>
  (if v12 = (-1) then X0_canRest_J25 x a0 0 else
  X0_canRest_J25 x a0 1) else
  X0_canRest_J25 x a0 1)
theorem rvX0_canRest {a0 : Nat} {x : Hs} {r : Int32} (h : X0_canRest a0 x = some r) : ∃ fs, x.1 a0 = .inr (0, fs) := vO_bind h
theorem okX0_canRest (G : JG) (x : Hs) (a0 : Nat) : ∀ r, X0_canRest a0 x = some r → JC G yX0_canRest cX0_canRest 2 (some .boolean) (jR 2 0 0) 0 0 [.ref a0] x ((some (.int r), x)) := by
  refine jc_of (own := RX0) (E := (fun r : Int32 => ((some (.int r), x) : JR))) (by decide) rfl rfl (Nat.le_of_ble_eq_true rfl) rfl ?_
  unfold X0_canRest
  refine j_chk ?_
  refine j_aload_n 1 0 dX0_canRest_0 rfl rfl rfl ?_
  refine j_gR 4 kf_X0_45 dX0_canRest_1 rfl ?_
  intro v1
  refine j_iconst (v := 0) 5 dX0_canRest_4 rfl ic_0 ?_
  refine j_aI 6 dX0_canRest_5 rfl ?_
  intro v2
  refine j_iconst (v := -1) 7 dX0_canRest_6 rfl ic_m1 ?_
  refine j_icmp_ne 20 10 dX0_canRest_7 (by decide) rfl ?_ ?_
  · refine j_iconst (v := 1) 21 dX0_canRest_20 rfl ic_1 ?_
    refine j_goto 25 dX0_canRest_21 (by decide) ?_
    exact okX0_canRest_J25 G x a0 1
  · refine j_aload_n 11 0 dX0_canRest_10 rfl rfl rfl ?_
    refine j_gR 14 kf_X0_45 dX0_canRest_11 rfl ?_
    intro v11
    refine j_iconst (v := 1) 15 dX0_canRest_14 rfl ic_1 ?_
    refine j_aI 16 dX0_canRest_15 rfl ?_
    intro v12
    refine j_iconst (v := -1) 17 dX0_canRest_16 rfl ic_m1 ?_
    refine j_icmp_eq 24 20 dX0_canRest_17 (by decide) rfl ?_ ?_
    · refine j_iconst (v := 0) 25 dX0_canRest_24 rfl ic_0 ?_
      exact okX0_canRest_J25 G x a0 0
    · refine j_iconst (v := 1) 21 dX0_canRest_20 rfl ic_1 ?_
      refine j_goto 25 dX0_canRest_21 (by decide) ?_
      exact okX0_canRest_J25 G x a0 1
-- X1_lineOf: ('BarSteps$Kinds', 'lineOf', '(I)I')
def X1_lineOf (a0 : Int32) : Option (Int32) := (if a0 = 1 then some 3 else
  (if a0 = 2 then some 5 else
  (if a0 = 3 then some 11 else
  (if a0 = 4 then some 21 else
  (if a0 = 5 then some 35 else
  some 1)))))
theorem okX1_lineOf (G : JG) (x : Hs) (a0 : Int32) : ∀ r, X1_lineOf a0 = some r → JC G yX1_lineOf cX1_lineOf 1 (some .int) (jR 1 0 0) 0 0 [.int a0] x ((some (.int r), x)) := by
  refine jc_of (own := RX1) (E := (fun r : Int32 => ((some (.int r), x) : JR))) (by decide) rfl rfl (Nat.le_of_ble_eq_true rfl) rfl ?_
  unfold X1_lineOf
  refine j_iload_n 1 0 dX1_lineOf_0 rfl rfl rfl ?_
  refine j_ite (fun h1 => ?_) (fun h1 => ?_)
  · refine j_tinE (w := 1) 36 dX1_lineOf_1 h1 (by decide) (by decide) rfl (by decide) ?_
    refine j_iconst (v := 3) 37 dX1_lineOf_36 rfl ic_3 ?_
    exact j_iret dX1_lineOf_37 rfl
  refine j_ite (fun h2 => ?_) (fun h2 => ?_)
  · refine j_tinE (w := 2) 38 dX1_lineOf_1 h2 (by decide) (by decide) rfl (by decide) ?_
    refine j_iconst (v := 5) 39 dX1_lineOf_38 rfl ic_5 ?_
    exact j_iret dX1_lineOf_39 rfl
  refine j_ite (fun h3 => ?_) (fun h3 => ?_)
  · refine j_tinE (w := 3) 40 dX1_lineOf_1 h3 (by decide) (by decide) rfl (by decide) ?_
    refine j_bipush (v := 11) 42 dX1_lineOf_40 rfl bc_11 ?_
    exact j_iret dX1_lineOf_42 rfl
  refine j_ite (fun h4 => ?_) (fun h4 => ?_)
  · refine j_tinE (w := 4) 43 dX1_lineOf_1 h4 (by decide) (by decide) rfl (by decide) ?_
    refine j_bipush (v := 21) 45 dX1_lineOf_43 rfl bc_21 ?_
    exact j_iret dX1_lineOf_45 rfl
  refine j_ite (fun h5 => ?_) (fun h5 => ?_)
  · refine j_tinE (w := 5) 46 dX1_lineOf_1 h5 (by decide) (by decide) rfl (by decide) ?_
    refine j_bipush (v := 35) 48 dX1_lineOf_46 rfl bc_35 ?_
    exact j_iret dX1_lineOf_48 rfl
  have h1n := sw_ne h1
  have h2n := sw_ne h2
  have h3n := sw_ne h3
  have h4n := sw_ne h4
  have h5n := sw_ne h5
  have h1m : (Int32.toInt 1) = 1 := by decide
  have h2m : (Int32.toInt 2) = 2 := by decide
  have h3m : (Int32.toInt 3) = 3 := by decide
  have h4m : (Int32.toInt 4) = 4 := by decide
  have h5m : (Int32.toInt 5) = 5 := by decide
  refine j_tout 49 dX1_lineOf_1 (by omega) (by decide) ?_
  refine j_iconst (v := 1) 50 dX1_lineOf_49 rfl ic_1 ?_
  exact j_iret dX1_lineOf_50 rfl
-- X1_isUnder: ('BarSteps$Kinds', 'isUnder', '(II)Z')
def X1_isUnder (a0 : Int32) (a1 : Int32) : Option (Int32) := (X1_lineOf a0).bind fun v1 =>
  (if ((v1 >>> (a1 &&& 31)) &&& 1) = 1 then (zb 1).bind fun v3 => some v3 else
  (zb 0).bind fun v2 => some v2)
theorem okX1_isUnder (G : JG) (x : Hs) (a0 : Int32) (a1 : Int32) : ∀ r, X1_isUnder a0 a1 = some r → JC G yX1_isUnder cX1_isUnder 2 (some .boolean) (jR 2 0 0) 0 0 [.int a0, .int a1] x ((some (.int r), x)) := by
  refine jc_of (own := RX1) (E := (fun r : Int32 => ((some (.int r), x) : JR))) (by decide) rfl rfl (Nat.le_of_ble_eq_true rfl) rfl ?_
  unfold X1_isUnder
  refine j_iload_n 1 0 dX1_isUnder_0 rfl rfl rfl ?_
  refine j_callS_i (As := [.int a0]) (st := []) 4 (okX1_lineOf G x a0) kc_X1_lineOf kl_X1_9 ks_X1_lineOf ⟨rfl, rfl, Nat.le_of_ble_eq_true rfl, Nat.le_of_ble_eq_true rfl⟩ (Nat.le_of_ble_eq_true rfl) ⟨Nat.le_of_ble_eq_true rfl, Nat.le_of_ble_eq_true rfl⟩ rfl dX1_isUnder_1 rfl rfl ?_
  intro v1
  refine j_iload_n 5 1 dX1_isUnder_4 rfl rfl rfl ?_
  refine j_ishr 6 dX1_isUnder_5 rfl ?_
  refine j_iconst (v := 1) 7 dX1_isUnder_6 rfl ic_1 ?_
  refine j_iand 8 dX1_isUnder_7 rfl ?_
  refine j_iconst (v := 1) 9 dX1_isUnder_8 rfl ic_1 ?_
  refine j_icmp_ne 16 12 dX1_isUnder_9 (by decide) rfl ?_ ?_
  · refine j_iconst (v := 0) 17 dX1_isUnder_16 rfl ic_0 ?_
    exact j_zret dX1_isUnder_17 (fun _ => rfl)
  · refine j_iconst (v := 1) 13 dX1_isUnder_12 rfl ic_1 ?_
    refine j_goto 17 dX1_isUnder_13 (by decide) ?_
    exact j_zret dX1_isUnder_17 (fun _ => rfl)
-- X1_madeOf: ('BarSteps$Kinds', 'madeOf', '(II)I')
def X1_madeOf_J59 (l0 : Int32) (l2 : Int32) : Option (Int32) := some (((l2 * 10) + 3) + l0)
theorem okX1_madeOf_J59 (G : JG) (x : Hs) : ∀ (l0 : Int32) (l2 : Int32), JM G RX1 cX1_madeOf 3 (jZ G (some .int) "madeOf" (jR 3 0 0) 0 0) (fun r : Int32 => ((some (.int r), x) : JR)) 59 [(0, .int l0), (2, .int l2)] [] x 0 0 (X1_madeOf_J59 l0 l2) := by
  intro l0 l2
  unfold X1_madeOf_J59
  refine j_iload_n 60 1 dX1_madeOf_59 rfl rfl rfl ?_
  refine j_bipush (v := 10) 62 dX1_madeOf_60 rfl bc_10 ?_
  refine j_imul 63 dX1_madeOf_62 rfl ?_
  refine j_iconst (v := 3) 64 dX1_madeOf_63 rfl ic_3 ?_
  refine j_iadd 65 dX1_madeOf_64 rfl ?_
  refine j_iload_n 66 0 dX1_madeOf_65 rfl rfl rfl ?_
  refine j_iadd 67 dX1_madeOf_66 rfl ?_
  refine j_istore_n 68 [(2, .int (((l2 * 10) + 3) + l0)), (0, .int l0)] dX1_madeOf_67 rfl rfl (by decide) rfl ?_
  refine j_iload_n 69 0 dX1_madeOf_68 rfl rfl rfl ?_
  exact j_iret dX1_madeOf_69 rfl
def X1_madeOf_J44 (l0 : Int32) (l2 : Int32) : Option (Int32) := (if l0 = 3 then X1_madeOf_J59 l0 l2 else
  (if l0 = 4 then X1_madeOf_J59 l0 l2 else
  (if l0 = 5 then X1_madeOf_J59 l0 l2 else
  some l2)))
theorem okX1_madeOf_J44 (G : JG) (x : Hs) : ∀ (l0 : Int32) (l2 : Int32), JM G RX1 cX1_madeOf 3 (jZ G (some .int) "madeOf" (jR 3 0 0) 0 0) (fun r : Int32 => ((some (.int r), x) : JR)) 44 [(0, .int l0), (2, .int l2)] [] x 0 0 (X1_madeOf_J44 l0 l2) := by
  intro l0 l2
  unfold X1_madeOf_J44
  refine j_iload_n 45 0 dX1_madeOf_44 rfl rfl rfl ?_
  refine j_iconst (v := 3) 46 dX1_madeOf_45 rfl ic_3 ?_
  refine j_icmp_eq 59 49 dX1_madeOf_46 (by decide) rfl ?_ ?_
  · exact okX1_madeOf_J59 G x l0 l2
  · refine j_iload_n 50 0 dX1_madeOf_49 rfl rfl rfl ?_
    refine j_iconst (v := 4) 51 dX1_madeOf_50 rfl ic_4 ?_
    refine j_icmp_eq 59 54 dX1_madeOf_51 (by decide) rfl ?_ ?_
    · exact okX1_madeOf_J59 G x l0 l2
    · refine j_iload_n 55 0 dX1_madeOf_54 rfl rfl rfl ?_
      refine j_iconst (v := 5) 56 dX1_madeOf_55 rfl ic_5 ?_
      refine j_icmp_ne 68 59 dX1_madeOf_56 (by decide) rfl ?_ ?_
      · refine j_iload_n 69 1 dX1_madeOf_68 rfl rfl rfl ?_
        exact j_iret dX1_madeOf_69 rfl
      · exact okX1_madeOf_J59 G x l0 l2
def X1_madeOf_J29 (l0 : Int32) (l2 : Int32) : Option (Int32) := (X1_isUnder l0 2).bind fun v2 =>
  (if v2 = 0 then X1_madeOf_J44 l0 l2 else
  X1_madeOf_J44 l0 ((l2 * 10) + 5))
theorem okX1_madeOf_J29 (G : JG) (x : Hs) : ∀ (l0 : Int32) (l2 : Int32), JM G RX1 cX1_madeOf 3 (jZ G (some .int) "madeOf" (jR 3 0 0) 0 0) (fun r : Int32 => ((some (.int r), x) : JR)) 29 [(0, .int l0), (2, .int l2)] [] x 0 0 (X1_madeOf_J29 l0 l2) := by
  intro l0 l2
  unfold X1_madeOf_J29
  refine j_iload_n 30 0 dX1_madeOf_29 rfl rfl rfl ?_
  refine j_iconst (v := 2) 31 dX1_madeOf_30 rfl ic_2 ?_
  refine j_callS_i (As := [.int l0, .int 2]) (st := []) 34 (okX1_isUnder G x l0 2) kc_X1_isUnder kl_X1_19 ks_X1_isUnder ⟨rfl, rfl, Nat.le_of_ble_eq_true rfl, Nat.le_of_ble_eq_true rfl⟩ (Nat.le_of_ble_eq_true rfl) ⟨Nat.le_of_ble_eq_true rfl, Nat.le_of_ble_eq_true rfl⟩ rfl dX1_madeOf_31 rfl rfl ?_
  intro v2
  refine j_if_eq 44 37 dX1_madeOf_34 (by decide) rfl ?_ ?_
  · exact okX1_madeOf_J44 G x l0 l2
  · refine j_iload_n 38 1 dX1_madeOf_37 rfl rfl rfl ?_
    refine j_bipush (v := 10) 40 dX1_madeOf_38 rfl bc_10 ?_
    refine j_imul 41 dX1_madeOf_40 rfl ?_
    refine j_iconst (v := 5) 42 dX1_madeOf_41 rfl ic_5 ?_
    refine j_iadd 43 dX1_madeOf_42 rfl ?_
    refine j_istore_n 44 [(2, .int ((l2 * 10) + 5)), (0, .int l0)] dX1_madeOf_43 rfl rfl (by decide) rfl ?_
    refine j_sub [1, 0] rfl ?_
    exact okX1_madeOf_J44 G x l0 ((l2 * 10) + 5)
def X1_madeOf_J13 (l0 : Int32) (s0 : Int32) : Option (Int32) := (X1_isUnder l0 1).bind fun v1 =>
  (if v1 = 0 then X1_madeOf_J29 l0 s0 else
  X1_madeOf_J29 l0 ((s0 * 10) + 4))
theorem okX1_madeOf_J13 (G : JG) (x : Hs) : ∀ (l0 : Int32) (s0 : Int32), JM G RX1 cX1_madeOf 3 (jZ G (some .int) "madeOf" (jR 3 0 0) 0 0) (fun r : Int32 => ((some (.int r), x) : JR)) 13 [(0, .int l0)] [.int s0] x 0 0 (X1_madeOf_J13 l0 s0) := by
  intro l0 s0
  unfold X1_madeOf_J13
  refine j_istore_n 14 [(2, .int s0), (0, .int l0)] dX1_madeOf_13 rfl rfl (by decide) rfl ?_
  refine j_iload_n 15 1 dX1_madeOf_14 rfl rfl rfl ?_
  refine j_iconst (v := 1) 16 dX1_madeOf_15 rfl ic_1 ?_
  refine j_callS_i (As := [.int l0, .int 1]) (st := []) 19 (okX1_isUnder G x l0 1) kc_X1_isUnder kl_X1_19 ks_X1_isUnder ⟨rfl, rfl, Nat.le_of_ble_eq_true rfl, Nat.le_of_ble_eq_true rfl⟩ (Nat.le_of_ble_eq_true rfl) ⟨Nat.le_of_ble_eq_true rfl, Nat.le_of_ble_eq_true rfl⟩ rfl dX1_madeOf_16 rfl rfl ?_
  intro v1
  refine j_if_eq 29 22 dX1_madeOf_19 (by decide) rfl ?_ ?_
  · refine j_sub [1, 0] rfl ?_
    exact okX1_madeOf_J29 G x l0 s0
  · refine j_iload_n 23 0 dX1_madeOf_22 rfl rfl rfl ?_
    refine j_bipush (v := 10) 25 dX1_madeOf_23 rfl bc_10 ?_
    refine j_imul 26 dX1_madeOf_25 rfl ?_
    refine j_iconst (v := 4) 27 dX1_madeOf_26 rfl ic_4 ?_
    refine j_iadd 28 dX1_madeOf_27 rfl ?_
    refine j_istore_n 29 [(2, .int ((s0 * 10) + 4)), (0, .int l0)] dX1_madeOf_28 rfl rfl (by decide) rfl ?_
    refine j_sub [1, 0] rfl ?_
    exact okX1_madeOf_J29 G x l0 ((s0 * 10) + 4)
def X1_madeOf (a0 : Int32) (a1 : Int32) : Option (Int32) := (if a1 = 1 then X1_madeOf_J13 a0 132 else
  X1_madeOf_J13 a0 13)
theorem okX1_madeOf (G : JG) (x : Hs) (a0 : Int32) (a1 : Int32) : ∀ r, X1_madeOf a0 a1 = some r → JC G yX1_madeOf cX1_madeOf 3 (some .int) (jR 3 0 0) 0 0 [.int a0, .int a1] x ((some (.int r), x)) := by
  refine jc_of (own := RX1) (E := (fun r : Int32 => ((some (.int r), x) : JR))) (by decide) rfl rfl (Nat.le_of_ble_eq_true rfl) rfl ?_
  unfold X1_madeOf
  refine j_iload_n 1 1 dX1_madeOf_0 rfl rfl rfl ?_
  refine j_iconst (v := 1) 2 dX1_madeOf_1 rfl ic_1 ?_
  refine j_icmp_ne 11 5 dX1_madeOf_2 (by decide) rfl ?_ ?_
  · refine j_bipush (v := 13) 13 dX1_madeOf_11 rfl bc_13 ?_
    refine j_sub [0] rfl ?_
    exact okX1_madeOf_J13 G x a0 13
  · refine j_sipush (v := 132) 8 dX1_madeOf_5 rfl sc_132 ?_
    refine j_goto 13 dX1_madeOf_8 (by decide) ?_
    refine j_sub [0] rfl ?_
    exact okX1_madeOf_J13 G x a0 132
-- X3_init: ('BarSteps$Sheets', '<init>', '()V')
def X3_init (a0 : Nat) (x : Hs) : Option (Hs) := (nC x (.inl (x.2.2 0, 4, .inl (fun _ => 0)))).bind fun q1 =>
  (wI q1.2 q1.1 0 (-1)).bind fun y2 =>
  (wI y2 q1.1 1 (-1)).bind fun y3 =>
  (wI y3 q1.1 2 (-1)).bind fun y4 =>
  (wI y4 q1.1 3 (-1)).bind fun y5 =>
  (pV y5 2 a0 0 (.ref q1.1)).bind fun y6 =>
  (nC y6 (.inl (y6.2.2 0, 4, .inl (fun _ => 0)))).bind fun q7 =>
  (pV q7.2 2 a0 1 (.ref q7.1)).bind fun y8 =>
  (nM y8 4 40).bind fun q9 =>
  (pV q9.2 2 a0 2 (.ref q9.1)).bind fun y10 =>
  some y10
theorem okX3_init (G : JG) (x : Hs) (a0 : Nat) : ∀ r, X3_init a0 x = some r → JC G yX3_init cX3_init 1 (none) (jR 1 7 172) 7 172 [.ref a0] x ((none, r)) := by
  refine jc_of (own := RX3) (E := (fun r : Hs => ((none, r) : JR))) (by decide) rfl rfl (Nat.le_of_ble_eq_true rfl) rfl ?_
  unfold X3_init
  refine j_aload_n 1 0 dX3_init_0 rfl rfl rfl ?_
  refine j_objInit 4 kl_X3_3 koi_i koi_c (Nat.le_of_ble_eq_true rfl) (Nat.le_of_ble_eq_true rfl) dX3_init_1 rfl ?_
  refine j_aload_n 5 0 dX3_init_4 rfl rfl rfl ?_
  refine j_iconst (v := 4) 6 dX3_init_5 rfl ic_4 ?_
  refine j_newI (N := 4) 8 kar_int (by decide) (by decide) (Nat.le_of_ble_eq_true rfl) (Nat.le_of_ble_eq_true rfl) (Nat.le_of_ble_eq_true rfl) dX3_init_6 rfl ?_
  intro q1
  refine j_dup 9 dX3_init_8 rfl rfl ?_
  refine j_iconst (v := 0) 10 dX3_init_9 rfl ic_0 ?_
  refine j_iconst (v := -1) 11 dX3_init_10 rfl ic_m1 ?_
  refine j_wI 12 dX3_init_11 rfl ?_
  intro y2
  refine j_dup 13 dX3_init_12 rfl rfl ?_
  refine j_iconst (v := 1) 14 dX3_init_13 rfl ic_1 ?_
  refine j_iconst (v := -1) 15 dX3_init_14 rfl ic_m1 ?_
  refine j_wI 16 dX3_init_15 rfl ?_
  intro y3
  refine j_dup 17 dX3_init_16 rfl rfl ?_
  refine j_iconst (v := 2) 18 dX3_init_17 rfl ic_2 ?_
  refine j_iconst (v := -1) 19 dX3_init_18 rfl ic_m1 ?_
  refine j_wI 20 dX3_init_19 rfl ?_
  intro y4
  refine j_dup 21 dX3_init_20 rfl rfl ?_
  refine j_iconst (v := 3) 22 dX3_init_21 rfl ic_3 ?_
  refine j_iconst (v := -1) 23 dX3_init_22 rfl ic_m1 ?_
  refine j_wI 24 dX3_init_23 rfl ?_
  intro y5
  refine j_putF 27 kf_X3_9 rfl (fun _ _ _ h => by cases h; rfl) dX3_init_24 rfl rfl rfl ?_
  intro y6
  refine j_aload_n 28 0 dX3_init_27 rfl rfl rfl ?_
  refine j_iconst (v := 4) 29 dX3_init_28 rfl ic_4 ?_
  refine j_newI (N := 4) 31 kar_int (by decide) (by decide) (Nat.le_of_ble_eq_true rfl) (Nat.le_of_ble_eq_true rfl) (Nat.le_of_ble_eq_true rfl) dX3_init_29 rfl ?_
  intro q7
  refine j_putF 34 kf_X3_15 rfl (fun _ _ _ h => by cases h; rfl) dX3_init_31 rfl rfl rfl ?_
  intro y8
  refine j_aload_n 35 0 dX3_init_34 rfl rfl rfl ?_
  refine j_iconst (v := 4) 36 dX3_init_35 rfl ic_4 ?_
  refine j_bipush (v := 40) 38 dX3_init_36 rfl bc_40 ?_
  refine j_mna (N := 4) (K := 40) 42 kcl_X3_18 kar_int (by decide) (by decide) (by decide) (by decide) (Nat.le_of_ble_eq_true rfl) (Nat.le_of_ble_eq_true rfl) (Nat.le_of_ble_eq_true rfl) (Nat.le_of_ble_eq_true rfl) (Nat.le_of_ble_eq_true rfl) dX3_init_38 rfl ?_
  intro q9
  refine j_putF 45 kf_X3_20 rfl (fun _ _ _ h => by cases h; rfl) dX3_init_42 rfl rfl rfl ?_
  intro y10
  exact j_vret dX3_init_45 rfl
-- X3_isMissing: ('BarSteps$Sheets', 'isMissing', '(I)Z')
def X3_isMissing (a0 : Nat) (a1 : Int32) (x : Hs) : Option (Int32) := (vO x 2 a0).bind fun _ =>
  (gR x 2 a0 0).bind fun v1 =>
  (aI x v1 a1).bind fun v2 =>
  (if v2 = (-1) then (zb 1).bind fun v4 => some v4 else
  (zb 0).bind fun v3 => some v3)
theorem rvX3_isMissing {a0 : Nat} {a1 : Int32} {x : Hs} {r : Int32} (h : X3_isMissing a0 a1 x = some r) : ∃ fs, x.1 a0 = .inr (2, fs) := vO_bind h
theorem okX3_isMissing (G : JG) (x : Hs) (a0 : Nat) (a1 : Int32) : ∀ r, X3_isMissing a0 a1 x = some r → JC G yX3_isMissing cX3_isMissing 2 (some .boolean) (jR 1 0 0) 0 0 [.ref a0, .int a1] x ((some (.int r), x)) := by
  refine jc_of (own := RX3) (E := (fun r : Int32 => ((some (.int r), x) : JR))) (by decide) rfl rfl (Nat.le_of_ble_eq_true rfl) rfl ?_
  unfold X3_isMissing
  refine j_chk ?_
  refine j_aload_n 1 0 dX3_isMissing_0 rfl rfl rfl ?_
  refine j_gR 4 kf_X3_9 dX3_isMissing_1 rfl ?_
  intro v1
  refine j_iload_n 5 1 dX3_isMissing_4 rfl rfl rfl ?_
  refine j_aI 6 dX3_isMissing_5 rfl ?_
  intro v2
  refine j_iconst (v := -1) 7 dX3_isMissing_6 rfl ic_m1 ?_
  refine j_icmp_ne 14 10 dX3_isMissing_7 (by decide) rfl ?_ ?_
  · refine j_iconst (v := 0) 15 dX3_isMissing_14 rfl ic_0 ?_
    exact j_zret dX3_isMissing_15 (fun _ => rfl)
  · refine j_iconst (v := 1) 11 dX3_isMissing_10 rfl ic_1 ?_
    refine j_goto 15 dX3_isMissing_11 (by decide) ?_
    exact j_zret dX3_isMissing_15 (fun _ => rfl)
-- X3_has: ('BarSteps$Sheets', 'has', '(II)Z')
def X3_has (a0 : Nat) (a1 : Int32) (a2 : Int32) (x : Hs) : Option (Int32) := (vO x 2 a0).bind fun _ =>
  (if a2 < 0 then (zb 0).bind fun v1 => some v1 else
  (gR x 2 a0 1).bind fun v2 =>
  (aI x v2 a1).bind fun v3 =>
  (if v3 ≤ a2 then (zb 0).bind fun v4 => some v4 else
  (zb 1).bind fun v5 => some v5))
theorem rvX3_has {a0 : Nat} {a1 : Int32} {a2 : Int32} {x : Hs} {r : Int32} (h : X3_has a0 a1 a2 x = some r) : ∃ fs, x.1 a0 = .inr (2, fs) := vO_bind h
theorem okX3_has (G : JG) (x : Hs) (a0 : Nat) (a1 : Int32) (a2 : Int32) : ∀ r, X3_has a0 a1 a2 x = some r → JC G yX3_has cX3_has 3 (some .boolean) (jR 1 0 0) 0 0 [.ref a0, .int a1, .int a2] x ((some (.int r), x)) := by
  refine jc_of (own := RX3) (E := (fun r : Int32 => ((some (.int r), x) : JR))) (by decide) rfl rfl (Nat.le_of_ble_eq_true rfl) rfl ?_
  unfold X3_has
  refine j_chk ?_
  refine j_iload_n 1 2 dX3_has_0 rfl rfl rfl ?_
  refine j_if_lt 18 4 dX3_has_1 (by decide) rfl ?_ ?_
  · refine j_iconst (v := 0) 19 dX3_has_18 rfl ic_0 ?_
    exact j_zret dX3_has_19 (fun _ => rfl)
  · refine j_iload_n 5 2 dX3_has_4 rfl rfl rfl ?_
    refine j_aload_n 6 0 dX3_has_5 rfl rfl rfl ?_
    refine j_gR 9 kf_X3_15 dX3_has_6 rfl ?_
    intro v2
    refine j_iload_n 10 1 dX3_has_9 rfl rfl rfl ?_
    refine j_aI 11 dX3_has_10 rfl ?_
    intro v3
    refine j_icmp_ge 18 14 dX3_has_11 (by decide) rfl ?_ ?_
    · refine j_iconst (v := 0) 19 dX3_has_18 rfl ic_0 ?_
      exact j_zret dX3_has_19 (fun _ => rfl)
    · refine j_iconst (v := 1) 15 dX3_has_14 rfl ic_1 ?_
      refine j_goto 19 dX3_has_15 (by decide) ?_
      exact j_zret dX3_has_19 (fun _ => rfl)
-- X3_hasRun: ('BarSteps$Sheets', 'hasRun', '(III)Z')
def X3_hasRun (a0 : Nat) (a1 : Int32) (a2 : Int32) (a3 : Int32) (x : Hs) : Option (Int32) := (vO x 2 a0).bind fun _ =>
  (if a2 < 0 then (zb 0).bind fun v1 => some v1 else
  (if a3 < 0 then (zb 0).bind fun v2 => some v2 else
  (gR x 2 a0 1).bind fun v3 =>
  (aI x v3 a1).bind fun v4 =>
  (if (v4 - a3) < a2 then (zb 0).bind fun v5 => some v5 else
  (zb 1).bind fun v6 => some v6)))
theorem rvX3_hasRun {a0 : Nat} {a1 : Int32} {a2 : Int32} {a3 : Int32} {x : Hs} {r : Int32} (h : X3_hasRun a0 a1 a2 a3 x = some r) : ∃ fs, x.1 a0 = .inr (2, fs) := vO_bind h
theorem okX3_hasRun (G : JG) (x : Hs) (a0 : Nat) (a1 : Int32) (a2 : Int32) (a3 : Int32) : ∀ r, X3_hasRun a0 a1 a2 a3 x = some r → JC G yX3_hasRun cX3_hasRun 4 (some .boolean) (jR 1 0 0) 0 0 [.ref a0, .int a1, .int a2, .int a3] x ((some (.int r), x)) := by
  refine jc_of (own := RX3) (E := (fun r : Int32 => ((some (.int r), x) : JR))) (by decide) rfl rfl (Nat.le_of_ble_eq_true rfl) rfl ?_
  unfold X3_hasRun
  refine j_chk ?_
  refine j_iload_n 1 2 dX3_hasRun_0 rfl rfl rfl ?_
  refine j_if_lt 24 4 dX3_hasRun_1 (by decide) rfl ?_ ?_
  · refine j_iconst (v := 0) 25 dX3_hasRun_24 rfl ic_0 ?_
    exact j_zret dX3_hasRun_25 (fun _ => rfl)
  · refine j_iload_n 5 3 dX3_hasRun_4 rfl rfl rfl ?_
    refine j_if_lt 24 8 dX3_hasRun_5 (by decide) rfl ?_ ?_
    · refine j_iconst (v := 0) 25 dX3_hasRun_24 rfl ic_0 ?_
      exact j_zret dX3_hasRun_25 (fun _ => rfl)
    · refine j_iload_n 9 2 dX3_hasRun_8 rfl rfl rfl ?_
      refine j_aload_n 10 0 dX3_hasRun_9 rfl rfl rfl ?_
      refine j_gR 13 kf_X3_15 dX3_hasRun_10 rfl ?_
      intro v3
      refine j_iload_n 14 1 dX3_hasRun_13 rfl rfl rfl ?_
      refine j_aI 15 dX3_hasRun_14 rfl ?_
      intro v4
      refine j_iload_n 16 3 dX3_hasRun_15 rfl rfl rfl ?_
      refine j_isub 17 dX3_hasRun_16 rfl ?_
      refine j_icmp_gt 24 20 dX3_hasRun_17 (by decide) rfl ?_ ?_
      · refine j_iconst (v := 0) 25 dX3_hasRun_24 rfl ic_0 ?_
        exact j_zret dX3_hasRun_25 (fun _ => rfl)
      · refine j_iconst (v := 1) 21 dX3_hasRun_20 rfl ic_1 ?_
        refine j_goto 25 dX3_hasRun_21 (by decide) ?_
        exact j_zret dX3_hasRun_25 (fun _ => rfl)
-- X3_renew: ('BarSteps$Sheets', 'renew', '(III)V')
def X3_renew_L17 : Nat → Nat → Int32 → Int32 → Hs → Option (Hs)
  | 0, _, _, _, _ => none
  | n + 1, l0, l1, l4, x => (if 40 ≤ l4 then some x else
  (gR x 2 l0 2).bind fun v5 =>
  (aR x v5 l1).bind fun v6 =>
  (wI x v6 l4 0).bind fun y7 =>
  X3_renew_L17 n l0 l1 (l4 + 1) y7)
theorem okX3_renew_L17 (G : JG) : ∀ (n : Nat), ∀ (l0 : Nat) (l1 : Int32) (l4 : Int32) (x : Hs), JM G RX3 cX3_renew 5 (jZ G (none) "renew" (jR 1 0 0) 0 0) (fun r : Hs => ((none, r) : JR)) 17 [(0, .ref l0), (1, .int l1), (4, .int l4)] [] x 0 0 (X3_renew_L17 n l0 l1 l4 x) := by
  intro n
  induction n with
  | zero => intro l0 l1 l4 x; exact j_none
  | succ n ih =>
    intro l0 l1 l4 x
    unfold X3_renew_L17
    refine j_iload 19 2 dX3_renew_17 rfl rfl ?_
    refine j_bipush (v := 40) 21 dX3_renew_19 rfl bc_40 ?_
    refine j_icmp_ge 40 24 dX3_renew_21 (by decide) rfl ?_ ?_
    · exact j_vret dX3_renew_40 rfl
    · refine j_aload_n 25 0 dX3_renew_24 rfl rfl rfl ?_
      refine j_gR 28 kf_X3_20 dX3_renew_25 rfl ?_
      intro v5
      refine j_iload_n 29 1 dX3_renew_28 rfl rfl rfl ?_
      refine j_aR 30 dX3_renew_29 rfl ?_
      intro v6
      refine j_iload 32 2 dX3_renew_30 rfl rfl ?_
      refine j_iconst (v := 0) 33 dX3_renew_32 rfl ic_0 ?_
      refine j_wI 34 dX3_renew_33 rfl ?_
      intro y7
      refine j_iinc 37 2 [(4, .int (l4 + 1)), (0, .ref l0), (1, .int l1)] dX3_renew_34 rfl rfl (ii_1 _) (by decide) rfl ?_
      refine j_goto 17 dX3_renew_37 (by decide) ?_
      refine j_sub [1, 2, 0] rfl ?_
      exact ih l0 l1 (l4 + 1) y7
def X3_renew (a0 : Nat) (a1 : Int32) (a2 : Int32) (a3 : Int32) (x : Hs) : Option (Hs) := (vO x 2 a0).bind fun _ =>
  (gR x 2 a0 0).bind fun v1 =>
  (wI x v1 a1 a2).bind fun y2 =>
  (gR y2 2 a0 1).bind fun v3 =>
  (wI y2 v3 a1 a3).bind fun y4 =>
  X3_renew_L17 fu a0 a1 0 y4
theorem rvX3_renew {a0 : Nat} {a1 : Int32} {a2 : Int32} {a3 : Int32} {x : Hs} {r : Hs} (h : X3_renew a0 a1 a2 a3 x = some r) : ∃ fs, x.1 a0 = .inr (2, fs) := vO_bind h
theorem okX3_renew (G : JG) (x : Hs) (a0 : Nat) (a1 : Int32) (a2 : Int32) (a3 : Int32) : ∀ r, X3_renew a0 a1 a2 a3 x = some r → JC G yX3_renew cX3_renew 5 (none) (jR 1 0 0) 0 0 [.ref a0, .int a1, .int a2, .int a3] x ((none, r)) := by
  refine jc_of (own := RX3) (E := (fun r : Hs => ((none, r) : JR))) (by decide) rfl rfl (Nat.le_of_ble_eq_true rfl) rfl ?_
  unfold X3_renew
  refine j_chk ?_
  refine j_aload_n 1 0 dX3_renew_0 rfl rfl rfl ?_
  refine j_gR 4 kf_X3_9 dX3_renew_1 rfl ?_
  intro v1
  refine j_iload_n 5 1 dX3_renew_4 rfl rfl rfl ?_
  refine j_iload_n 6 2 dX3_renew_5 rfl rfl rfl ?_
  refine j_wI 7 dX3_renew_6 rfl ?_
  intro y2
  refine j_aload_n 8 0 dX3_renew_7 rfl rfl rfl ?_
  refine j_gR 11 kf_X3_15 dX3_renew_8 rfl ?_
  intro v3
  refine j_iload_n 12 1 dX3_renew_11 rfl rfl rfl ?_
  refine j_iload_n 13 3 dX3_renew_12 rfl rfl rfl ?_
  refine j_wI 14 dX3_renew_13 rfl ?_
  intro y4
  refine j_iconst (v := 0) 15 dX3_renew_14 rfl ic_0 ?_
  refine j_istore 17 [(4, .int 0), (0, .ref a0), (1, .int a1), (2, .int a2), (3, .int a3)] dX3_renew_15 rfl (by decide) rfl ?_
  refine j_sub [1, 2, 0] rfl ?_
  exact okX3_renew_L17 G fu a0 a1 0 y4
-- X4_init: ('BarSteps$Steady', '<init>', '()V')
def X4_init (a0 : Nat) (x : Hs) : Option (Hs) := (nC x (.inl (x.2.2 1, 8, .inr (.inl (fun _ => 0))))).bind fun q1 =>
  (pV q1.2 3 a0 0 (.ref q1.1)).bind fun y2 =>
  (pV y2 3 a0 1 (.long 1)).bind fun y3 =>
  (nC y3 (.inl (y3.2.2 1, 9, .inr (.inl (fun _ => 0))))).bind fun q4 =>
  (pV q4.2 3 a0 2 (.ref q4.1)).bind fun y5 =>
  (nC y5 (.inl (y5.2.2 1, 10, .inr (.inl (fun _ => 0))))).bind fun q6 =>
  (pV q6.2 3 a0 3 (.ref q6.1)).bind fun y7 =>
  (nC y7 (.inl (y7.2.2 1, 9, .inr (.inl (fun _ => 0))))).bind fun q8 =>
  (pV q8.2 3 a0 4 (.ref q8.1)).bind fun y9 =>
  (nC y9 (.inl (y9.2.2 1, 9, .inr (.inl (fun _ => 0))))).bind fun q10 =>
  (pV q10.2 3 a0 5 (.ref q10.1)).bind fun y11 =>
  some y11
theorem okX4_init (G : JG) (x : Hs) (a0 : Nat) : ∀ r, X4_init a0 x = some r → JC G yX4_init cX4_init 1 (none) (jR 1 5 45) 5 45 [.ref a0] x ((none, r)) := by
  refine jc_of (own := RX4) (E := (fun r : Hs => ((none, r) : JR))) (by decide) rfl rfl (Nat.le_of_ble_eq_true rfl) rfl ?_
  unfold X4_init
  refine j_aload_n 1 0 dX4_init_0 rfl rfl rfl ?_
  refine j_objInit 4 kl_X4_3 koi_i koi_c (Nat.le_of_ble_eq_true rfl) (Nat.le_of_ble_eq_true rfl) dX4_init_1 rfl ?_
  refine j_aload_n 5 0 dX4_init_4 rfl rfl rfl ?_
  refine j_bipush (v := 8) 7 dX4_init_5 rfl bc_8 ?_
  refine j_newL (N := 8) 9 kar_long (by decide) (by decide) (Nat.le_of_ble_eq_true rfl) (Nat.le_of_ble_eq_true rfl) (Nat.le_of_ble_eq_true rfl) dX4_init_7 rfl ?_
  intro q1
  refine j_putF 12 kf_X4_9 rfl (fun _ _ _ h => by cases h; rfl) dX4_init_9 rfl rfl rfl ?_
  intro y2
  refine j_aload_n 13 0 dX4_init_12 rfl rfl rfl ?_
  refine j_lconst (v := 1) 14 dX4_init_13 rfl lc_1 ?_
  refine j_put 17 kf_X4_15 dX4_init_14 rfl rfl rfl ?_
  intro y3
  refine j_aload_n 18 0 dX4_init_17 rfl rfl rfl ?_
  refine j_bipush (v := 9) 20 dX4_init_18 rfl bc_9 ?_
  refine j_newL (N := 9) 22 kar_long (by decide) (by decide) (Nat.le_of_ble_eq_true rfl) (Nat.le_of_ble_eq_true rfl) (Nat.le_of_ble_eq_true rfl) dX4_init_20 rfl ?_
  intro q4
  refine j_putF 25 kf_X4_19 rfl (fun _ _ _ h => by cases h; rfl) dX4_init_22 rfl rfl rfl ?_
  intro y5
  refine j_aload_n 26 0 dX4_init_25 rfl rfl rfl ?_
  refine j_bipush (v := 10) 28 dX4_init_26 rfl bc_10 ?_
  refine j_newL (N := 10) 30 kar_long (by decide) (by decide) (Nat.le_of_ble_eq_true rfl) (Nat.le_of_ble_eq_true rfl) (Nat.le_of_ble_eq_true rfl) dX4_init_28 rfl ?_
  intro q6
  refine j_putF 33 kf_X4_22 rfl (fun _ _ _ h => by cases h; rfl) dX4_init_30 rfl rfl rfl ?_
  intro y7
  refine j_aload_n 34 0 dX4_init_33 rfl rfl rfl ?_
  refine j_bipush (v := 9) 36 dX4_init_34 rfl bc_9 ?_
  refine j_newL (N := 9) 38 kar_long (by decide) (by decide) (Nat.le_of_ble_eq_true rfl) (Nat.le_of_ble_eq_true rfl) (Nat.le_of_ble_eq_true rfl) dX4_init_36 rfl ?_
  intro q8
  refine j_putF 41 kf_X4_25 rfl (fun _ _ _ h => by cases h; rfl) dX4_init_38 rfl rfl rfl ?_
  intro y9
  refine j_aload_n 42 0 dX4_init_41 rfl rfl rfl ?_
  refine j_bipush (v := 9) 44 dX4_init_42 rfl bc_9 ?_
  refine j_newL (N := 9) 46 kar_long (by decide) (by decide) (Nat.le_of_ble_eq_true rfl) (Nat.le_of_ble_eq_true rfl) (Nat.le_of_ble_eq_true rfl) dX4_init_44 rfl ?_
  intro q10
  refine j_putF 49 kf_X4_28 rfl (fun _ _ _ h => by cases h; rfl) dX4_init_46 rfl rfl rfl ?_
  intro y11
  exact j_vret dX4_init_49 rfl
-- X4_sweepRight: ('BarSteps$Steady', 'sweepRight', '(LBarSteps$Bar;I)V')
def X4_sweepRight_J47 (r16 : Nat → Nat → Int32 → Int32 → Hs → Option (Hs)) (l0 : Nat) (l1 : Nat) (l2 : Int32) (l3 : Int32) (l4 : Int64) (s0 : Int64) (x : Hs) : Option (Hs) := (gR x 3 l0 2).bind fun v6 =>
  (X0_loss l1 l3 x).bind fun v7 =>
  (gR x 3 l0 2).bind fun v8 =>
  (aL x v8 l3).bind fun v9 =>
  (wL x v6 (l3 + 1) (((Int32.toInt64 v7) * v9) - ((l4 * l4) * s0))).bind fun y10 =>
  (gR y10 3 l0 4).bind fun v11 =>
  (X0_supply l1 l3 y10).bind fun v12 =>
  (gR y10 3 l0 2).bind fun v13 =>
  (aL y10 v13 l3).bind fun v14 =>
  (gR y10 3 l0 4).bind fun v15 =>
  (aL y10 v15 l3).bind fun v16 =>
  (wL y10 v11 (l3 + 1) (((Int32.toInt64 v12) * v14) + (l4 * v16))).bind fun y17 =>
  r16 l0 l1 l2 (l3 + 1) y17
theorem okX4_sweepRight_J47 (G : JG) (r16 : Nat → Nat → Int32 → Int32 → Hs → Option (Hs)) (hr16 : ∀ (l0 : Nat) (l1 : Nat) (l2 : Int32) (l3 : Int32) (x : Hs), JM G RX4 cX4_sweepRight 8 (jZ G (none) "sweepRight" (jR 4 0 0) 0 0) (fun r : Hs => ((none, r) : JR)) 16 [(0, .ref l0), (1, .ref l1), (2, .int l2), (3, .int l3)] [] x 0 0 (r16 l0 l1 l2 l3 x)) : ∀ (l0 : Nat) (l1 : Nat) (l2 : Int32) (l3 : Int32) (l4 : Int64) (s0 : Int64) (x : Hs), JM G RX4 cX4_sweepRight 8 (jZ G (none) "sweepRight" (jR 4 0 0) 0 0) (fun r : Hs => ((none, r) : JR)) 47 [(0, .ref l0), (1, .ref l1), (2, .int l2), (3, .int l3), (4, .long l4)] [.long s0] x 0 0 (X4_sweepRight_J47 r16 l0 l1 l2 l3 l4 s0 x) := by
  intro l0 l1 l2 l3 l4 s0 x
  unfold X4_sweepRight_J47
  refine j_lstore 49 [(6, .long s0), (0, .ref l0), (1, .ref l1), (2, .int l2), (3, .int l3), (4, .long l4)] dX4_sweepRight_47 rfl (by decide) rfl ?_
  refine j_aload_n 50 1 dX4_sweepRight_49 rfl rfl rfl ?_
  refine j_gR 53 kf_X4_19 dX4_sweepRight_50 rfl ?_
  intro v6
  refine j_iload_n 54 4 dX4_sweepRight_53 rfl rfl rfl ?_
  refine j_iconst (v := 1) 55 dX4_sweepRight_54 rfl ic_1 ?_
  refine j_iadd 56 dX4_sweepRight_55 rfl ?_
  refine j_aload_n 57 2 dX4_sweepRight_56 rfl rfl rfl ?_
  refine j_iload_n 58 4 dX4_sweepRight_57 rfl rfl rfl ?_
  refine j_callV_i (ci := 0) (As := [.int l3]) (st := [.int (l3 + 1), .ref v6]) 61 (okX0_loss G x l1 l3) kc_X0_loss kl_X4_48 ki_X0_loss kv_X0_loss kh_X0 (by decide) (fun _ h => rvX0_loss h) ⟨rfl, rfl, Nat.le_of_ble_eq_true rfl, Nat.le_of_ble_eq_true rfl⟩ (Nat.le_of_ble_eq_true rfl) ⟨Nat.le_of_ble_eq_true rfl, Nat.le_of_ble_eq_true rfl⟩ rfl dX4_sweepRight_58 rfl rfl ?_
  intro v7
  refine j_i2l 62 dX4_sweepRight_61 rfl ?_
  refine j_aload_n 63 1 dX4_sweepRight_62 rfl rfl rfl ?_
  refine j_gR 66 kf_X4_19 dX4_sweepRight_63 rfl ?_
  intro v8
  refine j_iload_n 67 4 dX4_sweepRight_66 rfl rfl rfl ?_
  refine j_aL 68 dX4_sweepRight_67 rfl ?_
  intro v9
  refine j_lmul 69 dX4_sweepRight_68 rfl ?_
  refine j_lload 71 5 dX4_sweepRight_69 rfl rfl ?_
  refine j_lload 73 5 dX4_sweepRight_71 rfl rfl ?_
  refine j_lmul 74 dX4_sweepRight_73 rfl ?_
  refine j_lload 76 0 dX4_sweepRight_74 rfl rfl ?_
  refine j_lmul 77 dX4_sweepRight_76 rfl ?_
  refine j_lsub 78 dX4_sweepRight_77 rfl ?_
  refine j_wL 79 dX4_sweepRight_78 rfl ?_
  intro y10
  refine j_aload_n 80 1 dX4_sweepRight_79 rfl rfl rfl ?_
  refine j_gR 83 kf_X4_25 dX4_sweepRight_80 rfl ?_
  intro v11
  refine j_iload_n 84 4 dX4_sweepRight_83 rfl rfl rfl ?_
  refine j_iconst (v := 1) 85 dX4_sweepRight_84 rfl ic_1 ?_
  refine j_iadd 86 dX4_sweepRight_85 rfl ?_
  refine j_aload_n 87 2 dX4_sweepRight_86 rfl rfl rfl ?_
  refine j_iload_n 88 4 dX4_sweepRight_87 rfl rfl rfl ?_
  refine j_callV_i (ci := 0) (As := [.int l3]) (st := [.int (l3 + 1), .ref v11]) 91 (okX0_supply G y10 l1 l3) kc_X0_supply kl_X4_51 ki_X0_supply kv_X0_supply kh_X0 (by decide) (fun _ h => rvX0_supply h) ⟨rfl, rfl, Nat.le_of_ble_eq_true rfl, Nat.le_of_ble_eq_true rfl⟩ (Nat.le_of_ble_eq_true rfl) ⟨Nat.le_of_ble_eq_true rfl, Nat.le_of_ble_eq_true rfl⟩ rfl dX4_sweepRight_88 rfl rfl ?_
  intro v12
  refine j_i2l 92 dX4_sweepRight_91 rfl ?_
  refine j_aload_n 93 1 dX4_sweepRight_92 rfl rfl rfl ?_
  refine j_gR 96 kf_X4_19 dX4_sweepRight_93 rfl ?_
  intro v13
  refine j_iload_n 97 4 dX4_sweepRight_96 rfl rfl rfl ?_
  refine j_aL 98 dX4_sweepRight_97 rfl ?_
  intro v14
  refine j_lmul 99 dX4_sweepRight_98 rfl ?_
  refine j_lload 101 5 dX4_sweepRight_99 rfl rfl ?_
  refine j_aload_n 102 1 dX4_sweepRight_101 rfl rfl rfl ?_
  refine j_gR 105 kf_X4_25 dX4_sweepRight_102 rfl ?_
  intro v15
  refine j_iload_n 106 4 dX4_sweepRight_105 rfl rfl rfl ?_
  refine j_aL 107 dX4_sweepRight_106 rfl ?_
  intro v16
  refine j_lmul 108 dX4_sweepRight_107 rfl ?_
  refine j_ladd 109 dX4_sweepRight_108 rfl ?_
  refine j_wL 110 dX4_sweepRight_109 rfl ?_
  intro y17
  refine j_iinc 113 4 [(3, .int (l3 + 1)), (6, .long s0), (0, .ref l0), (1, .ref l1), (2, .int l2), (4, .long l4)] dX4_sweepRight_110 rfl rfl (ii_1 _) (by decide) rfl ?_
  refine j_goto 16 dX4_sweepRight_113 (by decide) ?_
  refine j_sub [2, 3, 4, 0] rfl ?_
  exact hr16 l0 l1 l2 (l3 + 1) y17
def X4_sweepRight_L16 : Nat → Nat → Nat → Int32 → Int32 → Hs → Option (Hs)
  | 0, _, _, _, _, _ => none
  | n + 1, l0, l1, l2, l3, x => (if l2 ≤ l3 then some x else
  (X0_leads l1 (l3 - 1) x).bind fun v5 =>
  (if l3 ≤ 0 then X4_sweepRight_J47 (fun l0 l1 l2 l3 x => X4_sweepRight_L16 n l0 l1 l2 l3 x) l0 l1 l2 l3 (Int32.toInt64 v5) 0 x else
  (gR x 3 l0 2).bind fun v18 =>
  (aL x v18 (l3 - 1)).bind fun v19 =>
  X4_sweepRight_J47 (fun l0 l1 l2 l3 x => X4_sweepRight_L16 n l0 l1 l2 l3 x) l0 l1 l2 l3 (Int32.toInt64 v5) v19 x))
theorem okX4_sweepRight_L16 (G : JG) : ∀ (n : Nat), ∀ (l0 : Nat) (l1 : Nat) (l2 : Int32) (l3 : Int32) (x : Hs), JM G RX4 cX4_sweepRight 8 (jZ G (none) "sweepRight" (jR 4 0 0) 0 0) (fun r : Hs => ((none, r) : JR)) 16 [(0, .ref l0), (1, .ref l1), (2, .int l2), (3, .int l3)] [] x 0 0 (X4_sweepRight_L16 n l0 l1 l2 l3 x) := by
  intro n
  induction n with
  | zero => intro l0 l1 l2 l3 x; exact j_none
  | succ n ih =>
    intro l0 l1 l2 l3 x
    unfold X4_sweepRight_L16
    refine j_iload_n 17 3 dX4_sweepRight_16 rfl rfl rfl ?_
    refine j_iload_n 18 2 dX4_sweepRight_17 rfl rfl rfl ?_
    refine j_icmp_ge 116 21 dX4_sweepRight_18 (by decide) rfl ?_ ?_
    · exact j_vret dX4_sweepRight_116 rfl
    · refine j_aload_n 22 1 dX4_sweepRight_21 rfl rfl rfl ?_
      refine j_iload_n 23 3 dX4_sweepRight_22 rfl rfl rfl ?_
      refine j_iconst (v := 1) 24 dX4_sweepRight_23 rfl ic_1 ?_
      refine j_isub 25 dX4_sweepRight_24 rfl ?_
      refine j_callV_i (ci := 0) (As := [.int (l3 - 1)]) (st := []) 28 (okX0_leads G x l1 (l3 - 1)) kc_X0_leads kl_X4_44 ki_X0_leads kv_X0_leads kh_X0 (by decide) (fun _ h => rvX0_leads h) ⟨rfl, rfl, Nat.le_of_ble_eq_true rfl, Nat.le_of_ble_eq_true rfl⟩ (Nat.le_of_ble_eq_true rfl) ⟨Nat.le_of_ble_eq_true rfl, Nat.le_of_ble_eq_true rfl⟩ rfl dX4_sweepRight_25 rfl rfl ?_
      intro v5
      refine j_i2l 29 dX4_sweepRight_28 rfl ?_
      refine j_lstore 31 [(4, .long (Int32.toInt64 v5)), (0, .ref l0), (1, .ref l1), (2, .int l2), (3, .int l3)] dX4_sweepRight_29 rfl (by decide) rfl ?_
      refine j_iload_n 32 4 dX4_sweepRight_31 rfl rfl rfl ?_
      refine j_if_le 46 35 dX4_sweepRight_32 (by decide) rfl ?_ ?_
      · refine j_lconst (v := 0) 47 dX4_sweepRight_46 rfl lc_0 ?_
        refine j_sub [1, 2, 3, 4, 0] rfl ?_
        exact okX4_sweepRight_J47 G (fun l0 l1 l2 l3 x => X4_sweepRight_L16 n l0 l1 l2 l3 x) ih l0 l1 l2 l3 (Int32.toInt64 v5) 0 x
      · refine j_aload_n 36 1 dX4_sweepRight_35 rfl rfl rfl ?_
        refine j_gR 39 kf_X4_19 dX4_sweepRight_36 rfl ?_
        intro v18
        refine j_iload_n 40 4 dX4_sweepRight_39 rfl rfl rfl ?_
        refine j_iconst (v := 1) 41 dX4_sweepRight_40 rfl ic_1 ?_
        refine j_isub 42 dX4_sweepRight_41 rfl ?_
        refine j_aL 43 dX4_sweepRight_42 rfl ?_
        intro v19
        refine j_goto 47 dX4_sweepRight_43 (by decide) ?_
        refine j_sub [1, 2, 3, 4, 0] rfl ?_
        exact okX4_sweepRight_J47 G (fun l0 l1 l2 l3 x => X4_sweepRight_L16 n l0 l1 l2 l3 x) ih l0 l1 l2 l3 (Int32.toInt64 v5) v19 x
def X4_sweepRight (a0 : Nat) (a1 : Nat) (a2 : Int32) (x : Hs) : Option (Hs) := (vO x 3 a0).bind fun _ =>
  (gR x 3 a0 2).bind fun v1 =>
  (wL x v1 0 1).bind fun y2 =>
  (gR y2 3 a0 4).bind fun v3 =>
  (wL y2 v3 0 0).bind fun y4 =>
  X4_sweepRight_L16 fu a0 a1 a2 0 y4
theorem rvX4_sweepRight {a0 : Nat} {a1 : Nat} {a2 : Int32} {x : Hs} {r : Hs} (h : X4_sweepRight a0 a1 a2 x = some r) : ∃ fs, x.1 a0 = .inr (3, fs) := vO_bind h
theorem okX4_sweepRight (G : JG) (x : Hs) (a0 : Nat) (a1 : Nat) (a2 : Int32) : ∀ r, X4_sweepRight a0 a1 a2 x = some r → JC G yX4_sweepRight cX4_sweepRight 8 (none) (jR 4 0 0) 0 0 [.ref a0, .ref a1, .int a2] x ((none, r)) := by
  refine jc_of (own := RX4) (E := (fun r : Hs => ((none, r) : JR))) (by decide) rfl rfl (Nat.le_of_ble_eq_true rfl) rfl ?_
  unfold X4_sweepRight
  refine j_chk ?_
  refine j_aload_n 1 0 dX4_sweepRight_0 rfl rfl rfl ?_
  refine j_gR 4 kf_X4_19 dX4_sweepRight_1 rfl ?_
  intro v1
  refine j_iconst (v := 0) 5 dX4_sweepRight_4 rfl ic_0 ?_
  refine j_lconst (v := 1) 6 dX4_sweepRight_5 rfl lc_1 ?_
  refine j_wL 7 dX4_sweepRight_6 rfl ?_
  intro y2
  refine j_aload_n 8 0 dX4_sweepRight_7 rfl rfl rfl ?_
  refine j_gR 11 kf_X4_25 dX4_sweepRight_8 rfl ?_
  intro v3
  refine j_iconst (v := 0) 12 dX4_sweepRight_11 rfl ic_0 ?_
  refine j_lconst (v := 0) 13 dX4_sweepRight_12 rfl lc_0 ?_
  refine j_wL 14 dX4_sweepRight_13 rfl ?_
  intro y4
  refine j_iconst (v := 0) 15 dX4_sweepRight_14 rfl ic_0 ?_
  refine j_istore_n 16 [(3, .int 0), (0, .ref a0), (1, .ref a1), (2, .int a2)] dX4_sweepRight_15 rfl rfl (by decide) rfl ?_
  refine j_sub [1, 2, 3, 0] rfl ?_
  exact okX4_sweepRight_L16 G fu a0 a1 a2 0 y4
