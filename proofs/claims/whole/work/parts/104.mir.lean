/-! Each method as a pure term, and the machine's rows. Written by wip/whole/decomp.py. -/
-- X6_hottest: ('BarSteps', 'hottest', '()I')
def X6_hottest (a0 : Nat) (x : Hs) : Option (Int32 × Hs) := (vO x 5 a0).bind fun _ =>
  (gR x 5 a0 0).bind fun v1 =>
  (X0_canRest v1 x).bind fun v2 =>
  (if v2 = 0 then some ((-1), x) else
  (gR x 5 a0 3).bind fun v3 =>
  (gR x 5 a0 0).bind fun v4 =>
  (X4_solve v3 v4 x).bind fun q5 =>
  (gR q5 5 a0 3).bind fun v6 =>
  (gR q5 3 v6 0).bind fun v7 =>
  (gR q5 5 a0 0).bind fun v8 =>
  (gI q5 0 v8 0).bind fun v9 =>
  (X6_firstGreatest v7 v9 q5).bind fun v10 =>
  some (v10, q5))
theorem rvX6_hottest {a0 : Nat} {x : Hs} {r : Int32 × Hs} (h : X6_hottest a0 x = some r) : ∃ fs, x.1 a0 = .inr (5, fs) := vO_bind h
theorem okX6_hottest (G : JG) (x : Hs) (a0 : Nat) : ∀ r, X6_hottest a0 x = some r → JC G yX6_hottest cX6_hottest 1 (some .int) (jR 6 0 0) 0 0 [.ref a0] x ((some (.int r.1), r.2)) := by
  refine jc_of (own := RX6) (E := (fun r : Int32 × Hs => ((some (.int r.1), r.2) : JR))) (by decide) rfl rfl (Nat.le_of_ble_eq_true rfl) rfl ?_
  unfold X6_hottest
  refine j_chk ?_
  refine j_aload_n 1 0 dX6_hottest_0 rfl rfl rfl ?_
  refine j_gR 4 kf_X6_12 dX6_hottest_1 rfl ?_
  intro v1
  refine j_callV_i (ci := 0) (As := []) (st := []) 7 (okX0_canRest G x v1) kc_X0_canRest kl_X6_239 ki_X0_canRest kv_X0_canRest kh_X0 (by decide) (fun _ h => rvX0_canRest h) ⟨rfl, rfl, Nat.le_of_ble_eq_true rfl, Nat.le_of_ble_eq_true rfl⟩ (Nat.le_of_ble_eq_true rfl) ⟨Nat.le_of_ble_eq_true rfl, Nat.le_of_ble_eq_true rfl⟩ rfl dX6_hottest_4 rfl rfl ?_
  intro v2
  refine j_if_ne 12 10 dX6_hottest_7 (by decide) rfl ?_ ?_
  · refine j_aload_n 13 0 dX6_hottest_12 rfl rfl rfl ?_
    refine j_gR 16 kf_X6_27 dX6_hottest_13 rfl ?_
    intro v3
    refine j_aload_n 17 0 dX6_hottest_16 rfl rfl rfl ?_
    refine j_gR 20 kf_X6_12 dX6_hottest_17 rfl ?_
    intro v4
    refine j_callV_v (ci := 3) (As := [.ref v4]) (st := []) 23 (okX4_solve G x v3 v4) kc_X4_solve kl_X6_243 ki_X4_solve kv_X4_solve kh_X4 (by decide) (fun _ h => rvX4_solve h) ⟨rfl, rfl, Nat.le_of_ble_eq_true rfl, Nat.le_of_ble_eq_true rfl⟩ (Nat.le_of_ble_eq_true rfl) ⟨Nat.le_of_ble_eq_true rfl, Nat.le_of_ble_eq_true rfl⟩ rfl dX6_hottest_20 rfl rfl ?_
    intro q5
    refine j_aload_n 24 0 dX6_hottest_23 rfl rfl rfl ?_
    refine j_gR 27 kf_X6_27 dX6_hottest_24 rfl ?_
    intro v6
    refine j_gR 30 kf_X6_246 dX6_hottest_27 rfl ?_
    intro v7
    refine j_aload_n 31 0 dX6_hottest_30 rfl rfl rfl ?_
    refine j_gR 34 kf_X6_12 dX6_hottest_31 rfl ?_
    intro v8
    refine j_gI 37 kf_X6_70 dX6_hottest_34 rfl ?_
    intro v9
    refine j_callS_i (As := [.ref v7, .int v9]) (st := []) 40 (okX6_firstGreatest G q5 v7 v9) kc_X6_firstGreatest kl_X6_248 ks_X6_firstGreatest ⟨rfl, rfl, Nat.le_of_ble_eq_true rfl, Nat.le_of_ble_eq_true rfl⟩ (Nat.le_of_ble_eq_true rfl) ⟨Nat.le_of_ble_eq_true rfl, Nat.le_of_ble_eq_true rfl⟩ rfl dX6_hottest_37 rfl rfl ?_
    intro v10
    exact j_iret dX6_hottest_40 rfl
  · refine j_iconst (v := -1) 11 dX6_hottest_10 rfl ic_m1 ?_
    exact j_iret dX6_hottest_11 rfl
-- X6_lay: ('BarSteps', 'lay', '()I')
def X6_lay (a0 : Nat) (x : Hs) : Option (Int32 × Hs) := (vO x 5 a0).bind fun _ =>
  (gR x 5 a0 0).bind fun v1 =>
  (X0_canRest v1 x).bind fun v2 =>
  (if v2 = 0 then some ((-3), x) else
  (gR x 5 a0 3).bind fun v3 =>
  (gR x 5 a0 0).bind fun v4 =>
  (X4_solve v3 v4 x).bind fun q5 =>
  (gR q5 5 a0 0).bind fun v6 =>
  (gR q5 5 a0 3).bind fun v7 =>
  (gR q5 3 v7 0).bind fun v8 =>
  (gR q5 5 a0 3).bind fun v9 =>
  (gL q5 3 v9 1).bind fun v10 =>
  (X0_takeHeats v6 v8 v10 q5).bind fun q11 =>
  (if q11.1 = (-2) then some (1, q11.2) else
  some ((-4), q11.2)))
theorem rvX6_lay {a0 : Nat} {x : Hs} {r : Int32 × Hs} (h : X6_lay a0 x = some r) : ∃ fs, x.1 a0 = .inr (5, fs) := vO_bind h
theorem okX6_lay (G : JG) (x : Hs) (a0 : Nat) : ∀ r, X6_lay a0 x = some r → JC G yX6_lay cX6_lay 1 (some .int) (jR 6 0 0) 0 0 [.ref a0] x ((some (.int r.1), r.2)) := by
  refine jc_of (own := RX6) (E := (fun r : Int32 × Hs => ((some (.int r.1), r.2) : JR))) (by decide) rfl rfl (Nat.le_of_ble_eq_true rfl) rfl ?_
  unfold X6_lay
  refine j_chk ?_
  refine j_aload_n 1 0 dX6_lay_0 rfl rfl rfl ?_
  refine j_gR 4 kf_X6_12 dX6_lay_1 rfl ?_
  intro v1
  refine j_callV_i (ci := 0) (As := []) (st := []) 7 (okX0_canRest G x v1) kc_X0_canRest kl_X6_239 ki_X0_canRest kv_X0_canRest kh_X0 (by decide) (fun _ h => rvX0_canRest h) ⟨rfl, rfl, Nat.le_of_ble_eq_true rfl, Nat.le_of_ble_eq_true rfl⟩ (Nat.le_of_ble_eq_true rfl) ⟨Nat.le_of_ble_eq_true rfl, Nat.le_of_ble_eq_true rfl⟩ rfl dX6_lay_4 rfl rfl ?_
  intro v2
  refine j_if_ne 13 10 dX6_lay_7 (by decide) rfl ?_ ?_
  · refine j_aload_n 14 0 dX6_lay_13 rfl rfl rfl ?_
    refine j_gR 17 kf_X6_27 dX6_lay_14 rfl ?_
    intro v3
    refine j_aload_n 18 0 dX6_lay_17 rfl rfl rfl ?_
    refine j_gR 21 kf_X6_12 dX6_lay_18 rfl ?_
    intro v4
    refine j_callV_v (ci := 3) (As := [.ref v4]) (st := []) 24 (okX4_solve G x v3 v4) kc_X4_solve kl_X6_243 ki_X4_solve kv_X4_solve kh_X4 (by decide) (fun _ h => rvX4_solve h) ⟨rfl, rfl, Nat.le_of_ble_eq_true rfl, Nat.le_of_ble_eq_true rfl⟩ (Nat.le_of_ble_eq_true rfl) ⟨Nat.le_of_ble_eq_true rfl, Nat.le_of_ble_eq_true rfl⟩ rfl dX6_lay_21 rfl rfl ?_
    intro q5
    refine j_aload_n 25 0 dX6_lay_24 rfl rfl rfl ?_
    refine j_gR 28 kf_X6_12 dX6_lay_25 rfl ?_
    intro v6
    refine j_aload_n 29 0 dX6_lay_28 rfl rfl rfl ?_
    refine j_gR 32 kf_X6_27 dX6_lay_29 rfl ?_
    intro v7
    refine j_gR 35 kf_X6_246 dX6_lay_32 rfl ?_
    intro v8
    refine j_aload_n 36 0 dX6_lay_35 rfl rfl rfl ?_
    refine j_gR 39 kf_X6_27 dX6_lay_36 rfl ?_
    intro v9
    refine j_gL 42 kf_X6_247 dX6_lay_39 rfl ?_
    intro v10
    refine j_callV_iw (ci := 0) (As := [.ref v8, .long v10]) (st := []) 45 (okX0_takeHeats G q5 v6 v8 v10) kc_X0_takeHeats kl_X6_252 ki_X0_takeHeats kv_X0_takeHeats kh_X0 (by decide) (fun _ h => rvX0_takeHeats h) ⟨rfl, rfl, Nat.le_of_ble_eq_true rfl, Nat.le_of_ble_eq_true rfl⟩ (Nat.le_of_ble_eq_true rfl) ⟨Nat.le_of_ble_eq_true rfl, Nat.le_of_ble_eq_true rfl⟩ rfl dX6_lay_42 rfl rfl ?_
    intro q11
    refine j_bipush (v := -2) 47 dX6_lay_45 rfl bc_m2 ?_
    refine j_icmp_ne 54 50 dX6_lay_47 (by decide) rfl ?_ ?_
    · refine j_bipush (v := -4) 56 dX6_lay_54 rfl bc_m4 ?_
      exact j_iret dX6_lay_56 rfl
    · refine j_iconst (v := 1) 51 dX6_lay_50 rfl ic_1 ?_
      refine j_goto 56 dX6_lay_51 (by decide) ?_
      exact j_iret dX6_lay_56 rfl
  · refine j_bipush (v := -3) 12 dX6_lay_10 rfl bc_m3 ?_
    exact j_iret dX6_lay_12 rfl
-- X6_isSteady: ('BarSteps', 'isSteady', '()I')
def X6_isSteady_L2 (x : Hs) : Nat → Nat → Int32 → Option (Int32)
  | 0, _, _ => none
  | n + 1, l0, l1 => (gR x 5 l0 0).bind fun v1 =>
  (gI x 0 v1 0).bind fun v2 =>
  (if v2 ≤ l1 then some 1 else
  (gR x 5 l0 0).bind fun v3 =>
  (X0_gain v3 l1 x).bind fun v4 =>
  (if v4 = 0 then X6_isSteady_L2 x n l0 (l1 + 1) else
  some 0))
theorem okX6_isSteady_L2 (G : JG) (x : Hs) : ∀ (n : Nat), ∀ (l0 : Nat) (l1 : Int32), JM G RX6 cX6_isSteady 2 (jZ G (some .int) "isSteady" (jR 5 0 0) 0 0) (fun r : Int32 => ((some (.int r), x) : JR)) 2 [(0, .ref l0), (1, .int l1)] [] x 0 0 (X6_isSteady_L2 x n l0 l1) := by
  intro n
  induction n with
  | zero => intro l0 l1; exact j_none
  | succ n ih =>
    intro l0 l1
    unfold X6_isSteady_L2
    refine j_iload_n 3 1 dX6_isSteady_2 rfl rfl rfl ?_
    refine j_aload_n 4 0 dX6_isSteady_3 rfl rfl rfl ?_
    refine j_gR 7 kf_X6_12 dX6_isSteady_4 rfl ?_
    intro v1
    refine j_gI 10 kf_X6_70 dX6_isSteady_7 rfl ?_
    intro v2
    refine j_icmp_ge 34 13 dX6_isSteady_10 (by decide) rfl ?_ ?_
    · refine j_iconst (v := 1) 35 dX6_isSteady_34 rfl ic_1 ?_
      exact j_iret dX6_isSteady_35 rfl
    · refine j_aload_n 14 0 dX6_isSteady_13 rfl rfl rfl ?_
      refine j_gR 17 kf_X6_12 dX6_isSteady_14 rfl ?_
      intro v3
      refine j_iload_n 18 1 dX6_isSteady_17 rfl rfl rfl ?_
      refine j_callV_l (ci := 0) (As := [.int l1]) (st := []) 21 (okX0_gain G x v3 l1) kc_X0_gain kl_X6_256 ki_X0_gain kv_X0_gain kh_X0 (by decide) (fun _ h => rvX0_gain h) ⟨rfl, rfl, Nat.le_of_ble_eq_true rfl, Nat.le_of_ble_eq_true rfl⟩ (Nat.le_of_ble_eq_true rfl) ⟨Nat.le_of_ble_eq_true rfl, Nat.le_of_ble_eq_true rfl⟩ rfl dX6_isSteady_18 rfl rfl ?_
      intro v4
      refine j_lconst (v := 0) 22 dX6_isSteady_21 rfl lc_0 ?_
      refine j_lcmp_eq 23 28 26 dX6_isSteady_22 rfl dX6_isSteady_23 (by decide) rfl ?_ ?_
      · refine j_iinc 31 1 [(1, .int (l1 + 1)), (0, .ref l0)] dX6_isSteady_28 rfl rfl (ii_1 _) (by decide) rfl ?_
        refine j_goto 2 dX6_isSteady_31 (by decide) ?_
        refine j_sub [1, 0] rfl ?_
        exact ih l0 (l1 + 1)
      · refine j_iconst (v := 0) 27 dX6_isSteady_26 rfl ic_0 ?_
        exact j_iret dX6_isSteady_27 rfl
def X6_isSteady (a0 : Nat) (x : Hs) : Option (Int32) := (vO x 5 a0).bind fun _ =>
  X6_isSteady_L2 x fu a0 0
theorem rvX6_isSteady {a0 : Nat} {x : Hs} {r : Int32} (h : X6_isSteady a0 x = some r) : ∃ fs, x.1 a0 = .inr (5, fs) := vO_bind h
theorem okX6_isSteady (G : JG) (x : Hs) (a0 : Nat) : ∀ r, X6_isSteady a0 x = some r → JC G yX6_isSteady cX6_isSteady 2 (some .int) (jR 5 0 0) 0 0 [.ref a0] x ((some (.int r), x)) := by
  refine jc_of (own := RX6) (E := (fun r : Int32 => ((some (.int r), x) : JR))) (by decide) rfl rfl (Nat.le_of_ble_eq_true rfl) rfl ?_
  unfold X6_isSteady
  refine j_chk ?_
  refine j_iconst (v := 0) 1 dX6_isSteady_0 rfl ic_0 ?_
  refine j_istore_n 2 [(1, .int 0), (0, .ref a0)] dX6_isSteady_1 rfl rfl (by decide) rfl ?_
  refine j_sub [1, 0] rfl ?_
  exact okX6_isSteady_L2 G x fu a0 0
-- X6_isSheet: ('BarSteps', 'isSheet', '(I)Z')
def X6_isSheet (a0 : Int32) : Option (Int32) := (X6_between a0 0 3).bind fun v1 =>
  (zb v1).bind fun v2 => some v2
theorem okX6_isSheet (G : JG) (x : Hs) (a0 : Int32) : ∀ r, X6_isSheet a0 = some r → JC G yX6_isSheet cX6_isSheet 1 (some .boolean) (jR 2 0 0) 0 0 [.int a0] x ((some (.int r), x)) := by
  refine jc_of (own := RX6) (E := (fun r : Int32 => ((some (.int r), x) : JR))) (by decide) rfl rfl (Nat.le_of_ble_eq_true rfl) rfl ?_
  unfold X6_isSheet
  refine j_iload_n 1 0 dX6_isSheet_0 rfl rfl rfl ?_
  refine j_iconst (v := 0) 2 dX6_isSheet_1 rfl ic_0 ?_
  refine j_iconst (v := 3) 3 dX6_isSheet_2 rfl ic_3 ?_
  refine j_callS_i (As := [.int a0, .int 0, .int 3]) (st := []) 6 (okX6_between G x a0 0 3) kc_X6_between kl_X6_137 ks_X6_between ⟨rfl, rfl, Nat.le_of_ble_eq_true rfl, Nat.le_of_ble_eq_true rfl⟩ (Nat.le_of_ble_eq_true rfl) ⟨Nat.le_of_ble_eq_true rfl, Nat.le_of_ble_eq_true rfl⟩ rfl dX6_isSheet_3 rfl rfl ?_
  intro v1
  exact j_zret dX6_isSheet_6 (fun _ => rfl)
-- J9_floorDiv_f86c9: ('java/lang/Math', 'floorDiv', '(JJ)J')
def J9_floorDiv_f86c9 (a0 : Int64) (a1 : Int64) : Option (Int64) := (o_ldiv a0 a1).bind fun v1 =>
  (if 0 ≤ (a0 ^^^ a1) then some v1 else
  (if (v1 * a1) = a0 then some v1 else
  some (v1 - 1)))
theorem okJ9_floorDiv_f86c9 (G : JG) (x : Hs) (a0 : Int64) (a1 : Int64) : ∀ r, J9_floorDiv_f86c9 a0 a1 = some r → JC G yJ9_floorDiv_f86c9 cJ9_floorDiv_f86c9 6 (some .long) (jR 1 0 0) 0 0 [.long a0, .long a1] x ((some (.long r), x)) := by
  refine jc_ofF (own := RJ9) (E := (fun r : Int64 => ((some (.long r), x) : JR))) (by decide +kernel) rfl rfl (Nat.le_of_ble_eq_true rfl) rfl ?_
  unfold J9_floorDiv_f86c9
  refine j_lload_n 1 0 dJ9_floorDiv_f86c9_0 rfl rfl rfl ?_
  refine j_lload_n 2 1 dJ9_floorDiv_f86c9_1 rfl rfl rfl ?_
  refine j_ldiv 3 dJ9_floorDiv_f86c9_2 rfl ?_
  intro v1
  refine j_lstore 5 [(4, .long v1), (0, .long a0), (2, .long a1)] dJ9_floorDiv_f86c9_3 rfl (by decide) rfl ?_
  refine j_lload_n 6 1 dJ9_floorDiv_f86c9_5 rfl rfl rfl ?_
  refine j_lload_n 7 2 dJ9_floorDiv_f86c9_6 rfl rfl rfl ?_
  refine j_lxor 8 dJ9_floorDiv_f86c9_7 rfl ?_
  refine j_lconst (v := 0) 9 dJ9_floorDiv_f86c9_8 rfl lc_0 ?_
  refine j_lcmp_ge 10 27 13 dJ9_floorDiv_f86c9_9 rfl dJ9_floorDiv_f86c9_10 (by decide) rfl ?_ ?_
  · refine j_lload 29 0 dJ9_floorDiv_f86c9_27 rfl rfl ?_
    exact j_lret dJ9_floorDiv_f86c9_29 rfl
  · refine j_lload 15 0 dJ9_floorDiv_f86c9_13 rfl rfl ?_
    refine j_lload_n 16 2 dJ9_floorDiv_f86c9_15 rfl rfl rfl ?_
    refine j_lmul 17 dJ9_floorDiv_f86c9_16 rfl ?_
    refine j_lload_n 18 1 dJ9_floorDiv_f86c9_17 rfl rfl rfl ?_
    refine j_lcmp_eq 19 27 22 dJ9_floorDiv_f86c9_18 rfl dJ9_floorDiv_f86c9_19 (by decide) rfl ?_ ?_
    · refine j_lload 29 0 dJ9_floorDiv_f86c9_27 rfl rfl ?_
      exact j_lret dJ9_floorDiv_f86c9_29 rfl
    · refine j_lload 24 0 dJ9_floorDiv_f86c9_22 rfl rfl ?_
      refine j_lconst (v := 1) 25 dJ9_floorDiv_f86c9_24 rfl lc_1 ?_
      refine j_lsub 26 dJ9_floorDiv_f86c9_25 rfl ?_
      exact j_lret dJ9_floorDiv_f86c9_26 rfl
-- X6_wholePart: ('BarSteps', 'wholePart', '(JJ)J')
def X6_wholePart (a0 : Int64) (a1 : Int64) : Option (Int64) := (if a1 = 0 then some 0 else
  (J9_floorDiv_f86c9 a0 a1).bind fun v1 =>
  some v1)
theorem okX6_wholePart (G : JG) (x : Hs) (a0 : Int64) (a1 : Int64) : ∀ r, X6_wholePart a0 a1 = some r → JC G yX6_wholePart cX6_wholePart 4 (some .long) (jR 2 0 0) 0 0 [.long a0, .long a1] x ((some (.long r), x)) := by
  refine jc_of (own := RX6) (E := (fun r : Int64 => ((some (.long r), x) : JR))) (by decide) rfl rfl (Nat.le_of_ble_eq_true rfl) rfl ?_
  unfold X6_wholePart
  refine j_lload_n 1 1 dX6_wholePart_0 rfl rfl rfl ?_
  refine j_lconst (v := 0) 2 dX6_wholePart_1 rfl lc_0 ?_
  refine j_lcmp_ne 3 10 6 dX6_wholePart_2 rfl dX6_wholePart_3 (by decide) rfl ?_ ?_
  · refine j_lload_n 11 0 dX6_wholePart_10 rfl rfl rfl ?_
    refine j_lload_n 12 1 dX6_wholePart_11 rfl rfl rfl ?_
    refine j_callS_l (As := [.long a0, .long a1]) (st := []) 15 (okJ9_floorDiv_f86c9 G x a0 a1) kc_J9_floorDiv_f86c9 kl_X6_368 ks_J9_floorDiv_f86c9 ⟨rfl, rfl, Nat.le_of_ble_eq_true rfl, Nat.le_of_ble_eq_true rfl⟩ (Nat.le_of_ble_eq_true rfl) ⟨Nat.le_of_ble_eq_true rfl, Nat.le_of_ble_eq_true rfl⟩ rfl dX6_wholePart_12 rfl rfl ?_
    intro v1
    exact j_lret dX6_wholePart_15 rfl
  · refine j_lconst (v := 0) 7 dX6_wholePart_6 rfl lc_0 ?_
    refine j_goto 15 dX6_wholePart_7 (by decide) ?_
    exact j_lret dX6_wholePart_15 rfl
-- X6_mayBeBuried: ('BarSteps', 'mayBeBuried', '(III)Z')
def X6_mayBeBuried_L24 : Nat → Nat → Int32 → Int32 → Hs → Option (Int32 × Hs)
  | 0, _, _, _, _ => none
  | n + 1, l0, l1, l4, x => (gR x 5 l0 4).bind fun v7 =>
  (gR x 2 v7 1).bind fun v8 =>
  (aI x v8 l1).bind fun v9 =>
  (if v9 ≤ l4 then (zb 1).bind fun v10 => some (v10, x) else
  (gR x 5 l0 3).bind fun v11 =>
  (gR x 3 v11 0).bind fun v12 =>
  (aL x v12 l4).bind fun v13 =>
  (gR x 5 l0 3).bind fun v14 =>
  (gL x 3 v14 1).bind fun v15 =>
  (X6_wholePart v13 v15).bind fun v16 =>
  (gR x 5 l0 4).bind fun v17 =>
  (gR x 2 v17 2).bind fun v18 =>
  (aR x v18 l1).bind fun v19 =>
  (aI x v19 l4).bind fun v20 =>
  (if v16 = (Int32.toInt64 v20) then X6_mayBeBuried_L24 n l0 l1 (l4 + 1) x else
  (zb 0).bind fun v21 => some (v21, x)))
theorem okX6_mayBeBuried_L24 (G : JG) : ∀ (n : Nat), ∀ (l0 : Nat) (l1 : Int32) (l4 : Int32) (x : Hs), JM G RX6 cX6_mayBeBuried 5 (jZ G (some .boolean) "mayBeBuried" (jR 6 0 0) 0 0) (fun r : Int32 × Hs => ((some (.int r.1), r.2) : JR)) 24 [(0, .ref l0), (1, .int l1), (4, .int l4)] [] x 0 0 (X6_mayBeBuried_L24 n l0 l1 l4 x) := by
  intro n
  induction n with
  | zero => intro l0 l1 l4 x; exact j_none
  | succ n ih =>
    intro l0 l1 l4 x
    unfold X6_mayBeBuried_L24
    refine j_iload 26 2 dX6_mayBeBuried_24 rfl rfl ?_
    refine j_aload_n 27 0 dX6_mayBeBuried_26 rfl rfl rfl ?_
    refine j_gR 30 kf_X6_34 dX6_mayBeBuried_27 rfl ?_
    intro v7
    refine j_gR 33 kf_X6_266 dX6_mayBeBuried_30 rfl ?_
    intro v8
    refine j_iload_n 34 1 dX6_mayBeBuried_33 rfl rfl rfl ?_
    refine j_aI 35 dX6_mayBeBuried_34 rfl ?_
    intro v9
    refine j_icmp_ge 83 38 dX6_mayBeBuried_35 (by decide) rfl ?_ ?_
    · refine j_iconst (v := 1) 84 dX6_mayBeBuried_83 rfl ic_1 ?_
      exact j_zret dX6_mayBeBuried_84 (fun _ => rfl)
    · refine j_aload_n 39 0 dX6_mayBeBuried_38 rfl rfl rfl ?_
      refine j_gR 42 kf_X6_27 dX6_mayBeBuried_39 rfl ?_
      intro v11
      refine j_gR 45 kf_X6_246 dX6_mayBeBuried_42 rfl ?_
      intro v12
      refine j_iload 47 2 dX6_mayBeBuried_45 rfl rfl ?_
      refine j_aL 48 dX6_mayBeBuried_47 rfl ?_
      intro v13
      refine j_aload_n 49 0 dX6_mayBeBuried_48 rfl rfl rfl ?_
      refine j_gR 52 kf_X6_27 dX6_mayBeBuried_49 rfl ?_
      intro v14
      refine j_gL 55 kf_X6_247 dX6_mayBeBuried_52 rfl ?_
      intro v15
      refine j_callS_l (As := [.long v13, .long v15]) (st := []) 58 (okX6_wholePart G x v13 v15) kc_X6_wholePart kl_X6_277 ks_X6_wholePart ⟨rfl, rfl, Nat.le_of_ble_eq_true rfl, Nat.le_of_ble_eq_true rfl⟩ (Nat.le_of_ble_eq_true rfl) ⟨Nat.le_of_ble_eq_true rfl, Nat.le_of_ble_eq_true rfl⟩ rfl dX6_mayBeBuried_55 rfl rfl ?_
      intro v16
      refine j_aload_n 59 0 dX6_mayBeBuried_58 rfl rfl rfl ?_
      refine j_gR 62 kf_X6_34 dX6_mayBeBuried_59 rfl ?_
      intro v17
      refine j_gR 65 kf_X6_280 dX6_mayBeBuried_62 rfl ?_
      intro v18
      refine j_iload_n 66 1 dX6_mayBeBuried_65 rfl rfl rfl ?_
      refine j_aR 67 dX6_mayBeBuried_66 rfl ?_
      intro v19
      refine j_iload 69 2 dX6_mayBeBuried_67 rfl rfl ?_
      refine j_aI 70 dX6_mayBeBuried_69 rfl ?_
      intro v20
      refine j_i2l 71 dX6_mayBeBuried_70 rfl ?_
      refine j_lcmp_eq 72 77 75 dX6_mayBeBuried_71 rfl dX6_mayBeBuried_72 (by decide) rfl ?_ ?_
      · refine j_iinc 80 2 [(4, .int (l4 + 1)), (0, .ref l0), (1, .int l1)] dX6_mayBeBuried_77 rfl rfl (ii_1 _) (by decide) rfl ?_
        refine j_goto 24 dX6_mayBeBuried_80 (by decide) ?_
        refine j_sub [1, 2, 0] rfl ?_
        exact ih l0 l1 (l4 + 1) x
      · refine j_iconst (v := 0) 76 dX6_mayBeBuried_75 rfl ic_0 ?_
        exact j_zret dX6_mayBeBuried_76 (fun _ => rfl)
def X6_mayBeBuried (a0 : Nat) (a1 : Int32) (a2 : Int32) (a3 : Int32) (x : Hs) : Option (Int32 × Hs) := (vO x 5 a0).bind fun _ =>
  (gR x 5 a0 1).bind fun v1 =>
  (gR x 0 v1 4).bind fun v2 =>
  (wI x v2 a2 a3).bind fun y3 =>
  (gR y3 5 a0 3).bind fun v4 =>
  (gR y3 5 a0 1).bind fun v5 =>
  (X4_solve v4 v5 y3).bind fun q6 =>
  X6_mayBeBuried_L24 fu a0 a1 0 q6
theorem rvX6_mayBeBuried {a0 : Nat} {a1 : Int32} {a2 : Int32} {a3 : Int32} {x : Hs} {r : Int32 × Hs} (h : X6_mayBeBuried a0 a1 a2 a3 x = some r) : ∃ fs, x.1 a0 = .inr (5, fs) := vO_bind h
theorem okX6_mayBeBuried (G : JG) (x : Hs) (a0 : Nat) (a1 : Int32) (a2 : Int32) (a3 : Int32) : ∀ r, X6_mayBeBuried a0 a1 a2 a3 x = some r → JC G yX6_mayBeBuried cX6_mayBeBuried 5 (some .boolean) (jR 6 0 0) 0 0 [.ref a0, .int a1, .int a2, .int a3] x ((some (.int r.1), r.2)) := by
  refine jc_of (own := RX6) (E := (fun r : Int32 × Hs => ((some (.int r.1), r.2) : JR))) (by decide) rfl rfl (Nat.le_of_ble_eq_true rfl) rfl ?_
  unfold X6_mayBeBuried
  refine j_chk ?_
  refine j_aload_n 1 0 dX6_mayBeBuried_0 rfl rfl rfl ?_
  refine j_gR 4 kf_X6_18 dX6_mayBeBuried_1 rfl ?_
  intro v1
  refine j_gR 7 kf_X6_109 dX6_mayBeBuried_4 rfl ?_
  intro v2
  refine j_iload_n 8 2 dX6_mayBeBuried_7 rfl rfl rfl ?_
  refine j_iload_n 9 3 dX6_mayBeBuried_8 rfl rfl rfl ?_
  refine j_wI 10 dX6_mayBeBuried_9 rfl ?_
  intro y3
  refine j_aload_n 11 0 dX6_mayBeBuried_10 rfl rfl rfl ?_
  refine j_gR 14 kf_X6_27 dX6_mayBeBuried_11 rfl ?_
  intro v4
  refine j_aload_n 15 0 dX6_mayBeBuried_14 rfl rfl rfl ?_
  refine j_gR 18 kf_X6_18 dX6_mayBeBuried_15 rfl ?_
  intro v5
  refine j_callV_v (ci := 3) (As := [.ref v5]) (st := []) 21 (okX4_solve G y3 v4 v5) kc_X4_solve kl_X6_243 ki_X4_solve kv_X4_solve kh_X4 (by decide) (fun _ h => rvX4_solve h) ⟨rfl, rfl, Nat.le_of_ble_eq_true rfl, Nat.le_of_ble_eq_true rfl⟩ (Nat.le_of_ble_eq_true rfl) ⟨Nat.le_of_ble_eq_true rfl, Nat.le_of_ble_eq_true rfl⟩ rfl dX6_mayBeBuried_18 rfl rfl ?_
  intro q6
  refine j_iconst (v := 0) 22 dX6_mayBeBuried_21 rfl ic_0 ?_
  refine j_istore 24 [(4, .int 0), (0, .ref a0), (1, .int a1), (2, .int a2), (3, .int a3)] dX6_mayBeBuried_22 rfl (by decide) rfl ?_
  refine j_sub [1, 2, 0] rfl ?_
  exact okX6_mayBeBuried_L24 G fu a0 a1 0 q6
-- X6_firstBuried: ('BarSteps', 'firstBuried', '(I)I')
def X6_firstBuried_L27 (r13 : Nat → Int32 → Int32 → Hs → Option (Int32 × Hs)) : Nat → Nat → Int32 → Int32 → Int32 → Hs → Option (Int32 × Hs)
  | 0, _, _, _, _, _ => none
  | n + 1, l0, l1, l2, l3, x => (if 9 < l3 then (gR x 5 l0 1).bind fun v6 =>
  (gR x 0 v6 4).bind fun v7 =>
  (gR x 5 l0 0).bind fun v8 =>
  (gR x 0 v8 4).bind fun v9 =>
  (aI x v9 l2).bind fun v10 =>
  (wI x v7 l2 v10).bind fun y11 =>
  r13 l0 l1 (l2 + 1) y11 else
  (X6_mayBeBuried l0 l1 l2 l3 x).bind fun q12 =>
  (if q12.1 = 0 then X6_firstBuried_L27 r13 n l0 l1 l2 (l3 + 1) q12.2 else
  some ((((100 * l2) + l3) + 9), q12.2)))
theorem okX6_firstBuried_L27 (G : JG) (r13 : Nat → Int32 → Int32 → Hs → Option (Int32 × Hs)) (hr13 : ∀ (l0 : Nat) (l1 : Int32) (l2 : Int32) (x : Hs), JM G RX6 cX6_firstBuried 4 (jZ G (some .int) "firstBuried" (jR 7 0 0) 0 0) (fun r : Int32 × Hs => ((some (.int r.1), r.2) : JR)) 13 [(0, .ref l0), (1, .int l1), (2, .int l2)] [] x 0 0 (r13 l0 l1 l2 x)) : ∀ (n : Nat), ∀ (l0 : Nat) (l1 : Int32) (l2 : Int32) (l3 : Int32) (x : Hs), JM G RX6 cX6_firstBuried 4 (jZ G (some .int) "firstBuried" (jR 7 0 0) 0 0) (fun r : Int32 × Hs => ((some (.int r.1), r.2) : JR)) 27 [(0, .ref l0), (1, .int l1), (2, .int l2), (3, .int l3)] [] x 0 0 (X6_firstBuried_L27 r13 n l0 l1 l2 l3 x) := by
  intro n
  induction n with
  | zero => intro l0 l1 l2 l3 x; exact j_none
  | succ n ih =>
    intro l0 l1 l2 l3 x
    unfold X6_firstBuried_L27
    refine j_iload_n 28 3 dX6_firstBuried_27 rfl rfl rfl ?_
    refine j_bipush (v := 9) 30 dX6_firstBuried_28 rfl bc_9 ?_
    refine j_icmp_gt 59 33 dX6_firstBuried_30 (by decide) rfl ?_ ?_
    · refine j_aload_n 60 0 dX6_firstBuried_59 rfl rfl rfl ?_
      refine j_gR 63 kf_X6_18 dX6_firstBuried_60 rfl ?_
      intro v6
      refine j_gR 66 kf_X6_109 dX6_firstBuried_63 rfl ?_
      intro v7
      refine j_iload_n 67 2 dX6_firstBuried_66 rfl rfl rfl ?_
      refine j_aload_n 68 0 dX6_firstBuried_67 rfl rfl rfl ?_
      refine j_gR 71 kf_X6_12 dX6_firstBuried_68 rfl ?_
      intro v8
      refine j_gR 74 kf_X6_109 dX6_firstBuried_71 rfl ?_
      intro v9
      refine j_iload_n 75 2 dX6_firstBuried_74 rfl rfl rfl ?_
      refine j_aI 76 dX6_firstBuried_75 rfl ?_
      intro v10
      refine j_wI 77 dX6_firstBuried_76 rfl ?_
      intro y11
      refine j_iinc 80 2 [(2, .int (l2 + 1)), (0, .ref l0), (1, .int l1), (3, .int l3)] dX6_firstBuried_77 rfl rfl (ii_1 _) (by decide) rfl ?_
      refine j_goto 13 dX6_firstBuried_80 (by decide) ?_
      refine j_sub [1, 2, 0] rfl ?_
      exact hr13 l0 l1 (l2 + 1) y11
    · refine j_aload_n 34 0 dX6_firstBuried_33 rfl rfl rfl ?_
      refine j_iload_n 35 1 dX6_firstBuried_34 rfl rfl rfl ?_
      refine j_iload_n 36 2 dX6_firstBuried_35 rfl rfl rfl ?_
      refine j_iload_n 37 3 dX6_firstBuried_36 rfl rfl rfl ?_
      refine j_callV_iw (ci := 5) (As := [.int l1, .int l2, .int l3]) (st := []) 40 (okX6_mayBeBuried G x l0 l1 l2 l3) kc_X6_mayBeBuried kl_X6_274 ki_X6_mayBeBuried kv_X6_mayBeBuried kh_X6 (by decide) (fun _ h => rvX6_mayBeBuried h) ⟨rfl, rfl, Nat.le_of_ble_eq_true rfl, Nat.le_of_ble_eq_true rfl⟩ (Nat.le_of_ble_eq_true rfl) ⟨Nat.le_of_ble_eq_true rfl, Nat.le_of_ble_eq_true rfl⟩ rfl dX6_firstBuried_37 rfl rfl ?_
      intro q12
      refine j_if_eq 53 43 dX6_firstBuried_40 (by decide) rfl ?_ ?_
      · refine j_iinc 56 3 [(3, .int (l3 + 1)), (0, .ref l0), (1, .int l1), (2, .int l2)] dX6_firstBuried_53 rfl rfl (ii_1 _) (by decide) rfl ?_
        refine j_goto 27 dX6_firstBuried_56 (by decide) ?_
        refine j_sub [1, 2, 3, 0] rfl ?_
        exact ih l0 l1 l2 (l3 + 1) q12.2
      · refine j_bipush (v := 100) 45 dX6_firstBuried_43 rfl bc_100 ?_
        refine j_iload_n 46 2 dX6_firstBuried_45 rfl rfl rfl ?_
        refine j_imul 47 dX6_firstBuried_46 rfl ?_
        refine j_iload_n 48 3 dX6_firstBuried_47 rfl rfl rfl ?_
        refine j_iadd 49 dX6_firstBuried_48 rfl ?_
        refine j_bipush (v := 9) 51 dX6_firstBuried_49 rfl bc_9 ?_
        refine j_iadd 52 dX6_firstBuried_51 rfl ?_
        exact j_iret dX6_firstBuried_52 rfl
def X6_firstBuried_L13 : Nat → Nat → Int32 → Int32 → Hs → Option (Int32 × Hs)
  | 0, _, _, _, _ => none
  | n + 1, l0, l1, l2, x => (gR x 5 l0 0).bind fun v4 =>
  (gI x 0 v4 0).bind fun v5 =>
  (if v5 ≤ l2 then some ((-1), x) else
  X6_firstBuried_L27 (fun l0 l1 l2 x => X6_firstBuried_L13 n l0 l1 l2 x) fu l0 l1 l2 (-9) x)
theorem okX6_firstBuried_L13 (G : JG) : ∀ (n : Nat), ∀ (l0 : Nat) (l1 : Int32) (l2 : Int32) (x : Hs), JM G RX6 cX6_firstBuried 4 (jZ G (some .int) "firstBuried" (jR 7 0 0) 0 0) (fun r : Int32 × Hs => ((some (.int r.1), r.2) : JR)) 13 [(0, .ref l0), (1, .int l1), (2, .int l2)] [] x 0 0 (X6_firstBuried_L13 n l0 l1 l2 x) := by
  intro n
  induction n with
  | zero => intro l0 l1 l2 x; exact j_none
  | succ n ih =>
    intro l0 l1 l2 x
    unfold X6_firstBuried_L13
    refine j_iload_n 14 2 dX6_firstBuried_13 rfl rfl rfl ?_
    refine j_aload_n 15 0 dX6_firstBuried_14 rfl rfl rfl ?_
    refine j_gR 18 kf_X6_12 dX6_firstBuried_15 rfl ?_
    intro v4
    refine j_gI 21 kf_X6_70 dX6_firstBuried_18 rfl ?_
    intro v5
    refine j_icmp_ge 83 24 dX6_firstBuried_21 (by decide) rfl ?_ ?_
    · refine j_iconst (v := -1) 84 dX6_firstBuried_83 rfl ic_m1 ?_
      exact j_iret dX6_firstBuried_84 rfl
    · refine j_bipush (v := -9) 26 dX6_firstBuried_24 rfl bc_m9 ?_
      refine j_istore_n 27 [(3, .int (-9)), (0, .ref l0), (1, .int l1), (2, .int l2)] dX6_firstBuried_26 rfl rfl (by decide) rfl ?_
      refine j_sub [1, 2, 3, 0] rfl ?_
      exact okX6_firstBuried_L27 G (fun l0 l1 l2 x => X6_firstBuried_L13 n l0 l1 l2 x) ih fu l0 l1 l2 (-9) x
def X6_firstBuried (a0 : Nat) (a1 : Int32) (x : Hs) : Option (Int32 × Hs) := (vO x 5 a0).bind fun _ =>
  (gR x 5 a0 1).bind fun v1 =>
  (gR x 5 a0 0).bind fun v2 =>
  (X0_become v1 v2 x).bind fun q3 =>
  X6_firstBuried_L13 fu a0 a1 0 q3
theorem rvX6_firstBuried {a0 : Nat} {a1 : Int32} {x : Hs} {r : Int32 × Hs} (h : X6_firstBuried a0 a1 x = some r) : ∃ fs, x.1 a0 = .inr (5, fs) := vO_bind h
theorem okX6_firstBuried (G : JG) (x : Hs) (a0 : Nat) (a1 : Int32) : ∀ r, X6_firstBuried a0 a1 x = some r → JC G yX6_firstBuried cX6_firstBuried 4 (some .int) (jR 7 0 0) 0 0 [.ref a0, .int a1] x ((some (.int r.1), r.2)) := by
  refine jc_of (own := RX6) (E := (fun r : Int32 × Hs => ((some (.int r.1), r.2) : JR))) (by decide) rfl rfl (Nat.le_of_ble_eq_true rfl) rfl ?_
  unfold X6_firstBuried
  refine j_chk ?_
  refine j_aload_n 1 0 dX6_firstBuried_0 rfl rfl rfl ?_
  refine j_gR 4 kf_X6_18 dX6_firstBuried_1 rfl ?_
  intro v1
  refine j_aload_n 5 0 dX6_firstBuried_4 rfl rfl rfl ?_
  refine j_gR 8 kf_X6_12 dX6_firstBuried_5 rfl ?_
  intro v2
  refine j_callV_v (ci := 0) (As := [.ref v2]) (st := []) 11 (okX0_become G x v1 v2) kc_X0_become kl_X6_197 ki_X0_become kv_X0_become kh_X0 (by decide) (fun _ h => rvX0_become h) ⟨rfl, rfl, Nat.le_of_ble_eq_true rfl, Nat.le_of_ble_eq_true rfl⟩ (Nat.le_of_ble_eq_true rfl) ⟨Nat.le_of_ble_eq_true rfl, Nat.le_of_ble_eq_true rfl⟩ rfl dX6_firstBuried_8 rfl rfl ?_
  intro q3
  refine j_iconst (v := 0) 12 dX6_firstBuried_11 rfl ic_0 ?_
  refine j_istore_n 13 [(2, .int 0), (0, .ref a0), (1, .int a1)] dX6_firstBuried_12 rfl rfl (by decide) rfl ?_
  refine j_sub [1, 2, 0] rfl ?_
  exact okX6_firstBuried_L13 G fu a0 a1 0 q3
-- X6_howManyBuried: ('BarSteps', 'howManyBuried', '(I)I')
def X6_howManyBuried_J54 (r15 : Nat → Int32 → Int32 → Int32 → Hs → Option (Int32 × Hs)) (r30 : Nat → Int32 → Int32 → Int32 → Int32 → Hs → Option (Int32 × Hs)) (l0 : Nat) (l1 : Int32) (l3 : Int32) (l4 : Int32) (s0 : Int32) (s1 : Int32) (x : Hs) : Option (Int32 × Hs) := r30 l0 l1 (s1 + s0) l3 (l4 + 1) x
theorem okX6_howManyBuried_J54 (G : JG) (r15 : Nat → Int32 → Int32 → Int32 → Hs → Option (Int32 × Hs)) (r30 : Nat → Int32 → Int32 → Int32 → Int32 → Hs → Option (Int32 × Hs)) (hr15 : ∀ (l0 : Nat) (l1 : Int32) (l2 : Int32) (l3 : Int32) (x : Hs), JM G RX6 cX6_howManyBuried 5 (jZ G (some .int) "howManyBuried" (jR 7 0 0) 0 0) (fun r : Int32 × Hs => ((some (.int r.1), r.2) : JR)) 15 [(0, .ref l0), (1, .int l1), (2, .int l2), (3, .int l3)] [] x 0 0 (r15 l0 l1 l2 l3 x)) (hr30 : ∀ (l0 : Nat) (l1 : Int32) (l2 : Int32) (l3 : Int32) (l4 : Int32) (x : Hs), JM G RX6 cX6_howManyBuried 5 (jZ G (some .int) "howManyBuried" (jR 7 0 0) 0 0) (fun r : Int32 × Hs => ((some (.int r.1), r.2) : JR)) 30 [(0, .ref l0), (1, .int l1), (2, .int l2), (3, .int l3), (4, .int l4)] [] x 0 0 (r30 l0 l1 l2 l3 l4 x)) : ∀ (l0 : Nat) (l1 : Int32) (l3 : Int32) (l4 : Int32) (s0 : Int32) (s1 : Int32) (x : Hs), JM G RX6 cX6_howManyBuried 5 (jZ G (some .int) "howManyBuried" (jR 7 0 0) 0 0) (fun r : Int32 × Hs => ((some (.int r.1), r.2) : JR)) 54 [(0, .ref l0), (1, .int l1), (3, .int l3), (4, .int l4)] [.int s0, .int s1] x 0 0 (X6_howManyBuried_J54 r15 r30 l0 l1 l3 l4 s0 s1 x) := by
  intro l0 l1 l3 l4 s0 s1 x
  unfold X6_howManyBuried_J54
  refine j_iadd 55 dX6_howManyBuried_54 rfl ?_
  refine j_istore_n 56 [(2, .int (s1 + s0)), (0, .ref l0), (1, .int l1), (3, .int l3), (4, .int l4)] dX6_howManyBuried_55 rfl rfl (by decide) rfl ?_
  refine j_iinc 59 4 [(4, .int (l4 + 1)), (2, .int (s1 + s0)), (0, .ref l0), (1, .int l1), (3, .int l3)] dX6_howManyBuried_56 rfl rfl (ii_1 _) (by decide) rfl ?_
  refine j_goto 30 dX6_howManyBuried_59 (by decide) ?_
  refine j_sub [2, 3, 1, 4, 0] rfl ?_
  exact hr30 l0 l1 (s1 + s0) l3 (l4 + 1) x
def X6_howManyBuried_L30 (r15 : Nat → Int32 → Int32 → Int32 → Hs → Option (Int32 × Hs)) : Nat → Nat → Int32 → Int32 → Int32 → Int32 → Hs → Option (Int32 × Hs)
  | 0, _, _, _, _, _, _ => none
  | n + 1, l0, l1, l2, l3, l4, x => (if 9 < l4 then (gR x 5 l0 1).bind fun v6 =>
  (gR x 0 v6 4).bind fun v7 =>
  (gR x 5 l0 0).bind fun v8 =>
  (gR x 0 v8 4).bind fun v9 =>
  (aI x v9 l3).bind fun v10 =>
  (wI x v7 l3 v10).bind fun y11 =>
  r15 l0 l1 l2 (l3 + 1) y11 else
  (X6_mayBeBuried l0 l1 l3 l4 x).bind fun q12 =>
  (if q12.1 = 0 then X6_howManyBuried_J54 r15 (fun l0 l1 l2 l3 l4 x => X6_howManyBuried_L30 r15 n l0 l1 l2 l3 l4 x) l0 l1 l3 l4 0 l2 q12.2 else
  X6_howManyBuried_J54 r15 (fun l0 l1 l2 l3 l4 x => X6_howManyBuried_L30 r15 n l0 l1 l2 l3 l4 x) l0 l1 l3 l4 1 l2 q12.2))
theorem okX6_howManyBuried_L30 (G : JG) (r15 : Nat → Int32 → Int32 → Int32 → Hs → Option (Int32 × Hs)) (hr15 : ∀ (l0 : Nat) (l1 : Int32) (l2 : Int32) (l3 : Int32) (x : Hs), JM G RX6 cX6_howManyBuried 5 (jZ G (some .int) "howManyBuried" (jR 7 0 0) 0 0) (fun r : Int32 × Hs => ((some (.int r.1), r.2) : JR)) 15 [(0, .ref l0), (1, .int l1), (2, .int l2), (3, .int l3)] [] x 0 0 (r15 l0 l1 l2 l3 x)) : ∀ (n : Nat), ∀ (l0 : Nat) (l1 : Int32) (l2 : Int32) (l3 : Int32) (l4 : Int32) (x : Hs), JM G RX6 cX6_howManyBuried 5 (jZ G (some .int) "howManyBuried" (jR 7 0 0) 0 0) (fun r : Int32 × Hs => ((some (.int r.1), r.2) : JR)) 30 [(0, .ref l0), (1, .int l1), (2, .int l2), (3, .int l3), (4, .int l4)] [] x 0 0 (X6_howManyBuried_L30 r15 n l0 l1 l2 l3 l4 x) := by
  intro n
  induction n with
  | zero => intro l0 l1 l2 l3 l4 x; exact j_none
  | succ n ih =>
    intro l0 l1 l2 l3 l4 x
    unfold X6_howManyBuried_L30
    refine j_iload 32 4 dX6_howManyBuried_30 rfl rfl ?_
    refine j_bipush (v := 9) 34 dX6_howManyBuried_32 rfl bc_9 ?_
    refine j_icmp_gt 62 37 dX6_howManyBuried_34 (by decide) rfl ?_ ?_
    · refine j_aload_n 63 0 dX6_howManyBuried_62 rfl rfl rfl ?_
      refine j_gR 66 kf_X6_18 dX6_howManyBuried_63 rfl ?_
      intro v6
      refine j_gR 69 kf_X6_109 dX6_howManyBuried_66 rfl ?_
      intro v7
      refine j_iload_n 70 3 dX6_howManyBuried_69 rfl rfl rfl ?_
      refine j_aload_n 71 0 dX6_howManyBuried_70 rfl rfl rfl ?_
      refine j_gR 74 kf_X6_12 dX6_howManyBuried_71 rfl ?_
      intro v8
      refine j_gR 77 kf_X6_109 dX6_howManyBuried_74 rfl ?_
      intro v9
      refine j_iload_n 78 3 dX6_howManyBuried_77 rfl rfl rfl ?_
      refine j_aI 79 dX6_howManyBuried_78 rfl ?_
      intro v10
      refine j_wI 80 dX6_howManyBuried_79 rfl ?_
      intro y11
      refine j_iinc 83 3 [(3, .int (l3 + 1)), (0, .ref l0), (1, .int l1), (2, .int l2), (4, .int l4)] dX6_howManyBuried_80 rfl rfl (ii_1 _) (by decide) rfl ?_
      refine j_goto 15 dX6_howManyBuried_83 (by decide) ?_
      refine j_sub [1, 2, 3, 0] rfl ?_
      exact hr15 l0 l1 l2 (l3 + 1) y11
    · refine j_iload_n 38 2 dX6_howManyBuried_37 rfl rfl rfl ?_
      refine j_aload_n 39 0 dX6_howManyBuried_38 rfl rfl rfl ?_
      refine j_iload_n 40 1 dX6_howManyBuried_39 rfl rfl rfl ?_
      refine j_iload_n 41 3 dX6_howManyBuried_40 rfl rfl rfl ?_
      refine j_iload 43 4 dX6_howManyBuried_41 rfl rfl ?_
      refine j_callV_iw (ci := 5) (As := [.int l1, .int l3, .int l4]) (st := [.int l2]) 46 (okX6_mayBeBuried G x l0 l1 l3 l4) kc_X6_mayBeBuried kl_X6_274 ki_X6_mayBeBuried kv_X6_mayBeBuried kh_X6 (by decide) (fun _ h => rvX6_mayBeBuried h) ⟨rfl, rfl, Nat.le_of_ble_eq_true rfl, Nat.le_of_ble_eq_true rfl⟩ (Nat.le_of_ble_eq_true rfl) ⟨Nat.le_of_ble_eq_true rfl, Nat.le_of_ble_eq_true rfl⟩ rfl dX6_howManyBuried_43 rfl rfl ?_
      intro q12
      refine j_if_eq 53 49 dX6_howManyBuried_46 (by decide) rfl ?_ ?_
      · refine j_iconst (v := 0) 54 dX6_howManyBuried_53 rfl ic_0 ?_
        refine j_sub [0, 1, 3, 4] rfl ?_
        exact okX6_howManyBuried_J54 G r15 (fun l0 l1 l2 l3 l4 x => X6_howManyBuried_L30 r15 n l0 l1 l2 l3 l4 x) hr15 ih l0 l1 l3 l4 0 l2 q12.2
      · refine j_iconst (v := 1) 50 dX6_howManyBuried_49 rfl ic_1 ?_
        refine j_goto 54 dX6_howManyBuried_50 (by decide) ?_
        refine j_sub [0, 1, 3, 4] rfl ?_
        exact okX6_howManyBuried_J54 G r15 (fun l0 l1 l2 l3 l4 x => X6_howManyBuried_L30 r15 n l0 l1 l2 l3 l4 x) hr15 ih l0 l1 l3 l4 1 l2 q12.2
def X6_howManyBuried_L15 : Nat → Nat → Int32 → Int32 → Int32 → Hs → Option (Int32 × Hs)
  | 0, _, _, _, _, _ => none
  | n + 1, l0, l1, l2, l3, x => (gR x 5 l0 0).bind fun v4 =>
  (gI x 0 v4 0).bind fun v5 =>
  (if v5 ≤ l3 then some (l2, x) else
  X6_howManyBuried_L30 (fun l0 l1 l2 l3 x => X6_howManyBuried_L15 n l0 l1 l2 l3 x) fu l0 l1 l2 l3 (-9) x)
theorem okX6_howManyBuried_L15 (G : JG) : ∀ (n : Nat), ∀ (l0 : Nat) (l1 : Int32) (l2 : Int32) (l3 : Int32) (x : Hs), JM G RX6 cX6_howManyBuried 5 (jZ G (some .int) "howManyBuried" (jR 7 0 0) 0 0) (fun r : Int32 × Hs => ((some (.int r.1), r.2) : JR)) 15 [(0, .ref l0), (1, .int l1), (2, .int l2), (3, .int l3)] [] x 0 0 (X6_howManyBuried_L15 n l0 l1 l2 l3 x) := by
  intro n
  induction n with
  | zero => intro l0 l1 l2 l3 x; exact j_none
  | succ n ih =>
    intro l0 l1 l2 l3 x
    unfold X6_howManyBuried_L15
    refine j_iload_n 16 3 dX6_howManyBuried_15 rfl rfl rfl ?_
    refine j_aload_n 17 0 dX6_howManyBuried_16 rfl rfl rfl ?_
    refine j_gR 20 kf_X6_12 dX6_howManyBuried_17 rfl ?_
    intro v4
    refine j_gI 23 kf_X6_70 dX6_howManyBuried_20 rfl ?_
    intro v5
    refine j_icmp_ge 86 26 dX6_howManyBuried_23 (by decide) rfl ?_ ?_
    · refine j_iload_n 87 2 dX6_howManyBuried_86 rfl rfl rfl ?_
      exact j_iret dX6_howManyBuried_87 rfl
    · refine j_bipush (v := -9) 28 dX6_howManyBuried_26 rfl bc_m9 ?_
      refine j_istore 30 [(4, .int (-9)), (0, .ref l0), (1, .int l1), (2, .int l2), (3, .int l3)] dX6_howManyBuried_28 rfl (by decide) rfl ?_
      refine j_sub [1, 2, 3, 4, 0] rfl ?_
      exact okX6_howManyBuried_L30 G (fun l0 l1 l2 l3 x => X6_howManyBuried_L15 n l0 l1 l2 l3 x) ih fu l0 l1 l2 l3 (-9) x
def X6_howManyBuried (a0 : Nat) (a1 : Int32) (x : Hs) : Option (Int32 × Hs) := (vO x 5 a0).bind fun _ =>
  (gR x 5 a0 1).bind fun v1 =>
  (gR x 5 a0 0).bind fun v2 =>
  (X0_become v1 v2 x).bind fun q3 =>
  X6_howManyBuried_L15 fu a0 a1 0 0 q3
theorem rvX6_howManyBuried {a0 : Nat} {a1 : Int32} {x : Hs} {r : Int32 × Hs} (h : X6_howManyBuried a0 a1 x = some r) : ∃ fs, x.1 a0 = .inr (5, fs) := vO_bind h
theorem okX6_howManyBuried (G : JG) (x : Hs) (a0 : Nat) (a1 : Int32) : ∀ r, X6_howManyBuried a0 a1 x = some r → JC G yX6_howManyBuried cX6_howManyBuried 5 (some .int) (jR 7 0 0) 0 0 [.ref a0, .int a1] x ((some (.int r.1), r.2)) := by
  refine jc_of (own := RX6) (E := (fun r : Int32 × Hs => ((some (.int r.1), r.2) : JR))) (by decide) rfl rfl (Nat.le_of_ble_eq_true rfl) rfl ?_
  unfold X6_howManyBuried
  refine j_chk ?_
  refine j_aload_n 1 0 dX6_howManyBuried_0 rfl rfl rfl ?_
  refine j_gR 4 kf_X6_18 dX6_howManyBuried_1 rfl ?_
  intro v1
  refine j_aload_n 5 0 dX6_howManyBuried_4 rfl rfl rfl ?_
  refine j_gR 8 kf_X6_12 dX6_howManyBuried_5 rfl ?_
  intro v2
  refine j_callV_v (ci := 0) (As := [.ref v2]) (st := []) 11 (okX0_become G x v1 v2) kc_X0_become kl_X6_197 ki_X0_become kv_X0_become kh_X0 (by decide) (fun _ h => rvX0_become h) ⟨rfl, rfl, Nat.le_of_ble_eq_true rfl, Nat.le_of_ble_eq_true rfl⟩ (Nat.le_of_ble_eq_true rfl) ⟨Nat.le_of_ble_eq_true rfl, Nat.le_of_ble_eq_true rfl⟩ rfl dX6_howManyBuried_8 rfl rfl ?_
  intro q3
  refine j_iconst (v := 0) 12 dX6_howManyBuried_11 rfl ic_0 ?_
  refine j_istore_n 13 [(2, .int 0), (0, .ref a0), (1, .int a1)] dX6_howManyBuried_12 rfl rfl (by decide) rfl ?_
  refine j_iconst (v := 0) 14 dX6_howManyBuried_13 rfl ic_0 ?_
  refine j_istore_n 15 [(3, .int 0), (2, .int 0), (0, .ref a0), (1, .int a1)] dX6_howManyBuried_14 rfl rfl (by decide) rfl ?_
  refine j_sub [2, 3, 1, 0] rfl ?_
  exact okX6_howManyBuried_L15 G fu a0 a1 0 0 q3
-- X6_buried: ('BarSteps', 'buried', '(II)I')
def X6_buried_J76 (l0 : Nat) (l1 : Int32) (l2 : Int32) (x : Hs) : Option (Int32 × Hs) := (if l2 = 0 then (X6_firstBuried l0 l1 x).bind fun q13 =>
  some (q13.1, q13.2) else
  (X6_howManyBuried l0 l1 x).bind fun q12 =>
  some (q12.1, q12.2))
theorem okX6_buried_J76 (G : JG) : ∀ (l0 : Nat) (l1 : Int32) (l2 : Int32) (x : Hs), JM G RX6 cX6_buried 3 (jZ G (some .int) "buried" (jR 8 0 0) 0 0) (fun r : Int32 × Hs => ((some (.int r.1), r.2) : JR)) 76 [(0, .ref l0), (1, .int l1), (2, .int l2)] [] x 0 0 (X6_buried_J76 l0 l1 l2 x) := by
  intro l0 l1 l2 x
  unfold X6_buried_J76
  refine j_iload_n 77 2 dX6_buried_76 rfl rfl rfl ?_
  refine j_if_ne 88 80 dX6_buried_77 (by decide) rfl ?_ ?_
  · refine j_aload_n 89 0 dX6_buried_88 rfl rfl rfl ?_
    refine j_iload_n 90 1 dX6_buried_89 rfl rfl rfl ?_
    refine j_callV_iw (ci := 5) (As := [.int l1]) (st := []) 93 (okX6_howManyBuried G x l0 l1) kc_X6_howManyBuried kl_X6_271 ki_X6_howManyBuried kv_X6_howManyBuried kh_X6 (by decide) (fun _ h => rvX6_howManyBuried h) ⟨rfl, rfl, Nat.le_of_ble_eq_true rfl, Nat.le_of_ble_eq_true rfl⟩ (Nat.le_of_ble_eq_true rfl) ⟨Nat.le_of_ble_eq_true rfl, Nat.le_of_ble_eq_true rfl⟩ rfl dX6_buried_90 rfl rfl ?_
    intro q12
    exact j_iret dX6_buried_93 rfl
  · refine j_aload_n 81 0 dX6_buried_80 rfl rfl rfl ?_
    refine j_iload_n 82 1 dX6_buried_81 rfl rfl rfl ?_
    refine j_callV_iw (ci := 5) (As := [.int l1]) (st := []) 85 (okX6_firstBuried G x l0 l1) kc_X6_firstBuried kl_X6_268 ki_X6_firstBuried kv_X6_firstBuried kh_X6 (by decide) (fun _ h => rvX6_firstBuried h) ⟨rfl, rfl, Nat.le_of_ble_eq_true rfl, Nat.le_of_ble_eq_true rfl⟩ (Nat.le_of_ble_eq_true rfl) ⟨Nat.le_of_ble_eq_true rfl, Nat.le_of_ble_eq_true rfl⟩ rfl dX6_buried_82 rfl rfl ?_
    intro q13
    refine j_goto 93 dX6_buried_85 (by decide) ?_
    exact j_iret dX6_buried_93 rfl
def X6_buried (a0 : Nat) (a1 : Int32) (a2 : Int32) (x : Hs) : Option (Int32 × Hs) := (vO x 5 a0).bind fun _ =>
  (X6_isSheet a1).bind fun v1 =>
  (if v1 = 0 then some ((-2), x) else
  (X6_isBit a2).bind fun v2 =>
  (if v2 = 0 then some ((-2), x) else
  (gR x 5 a0 4).bind fun v3 =>
  (X3_isMissing v3 a1 x).bind fun v4 =>
  (if v4 = 0 then (gR x 5 a0 4).bind fun v5 =>
  (gR x 2 v5 1).bind fun v6 =>
  (aI x v6 a1).bind fun v7 =>
  (gR x 5 a0 0).bind fun v8 =>
  (gI x 0 v8 0).bind fun v9 =>
  (if v7 ≤ v9 then (gR x 5 a0 0).bind fun v10 =>
  (gI x 0 v10 0).bind fun v11 =>
  (if v11 ≤ 0 then X6_buried_J76 a0 a1 a2 x else
  (gR x 5 a0 0).bind fun v14 =>
  (X0_canRest v14 x).bind fun v15 =>
  (if v15 = 0 then some ((-3), x) else
  X6_buried_J76 a0 a1 a2 x)) else
  some ((-2), x)) else
  some ((-11), x))))
theorem rvX6_buried {a0 : Nat} {a1 : Int32} {a2 : Int32} {x : Hs} {r : Int32 × Hs} (h : X6_buried a0 a1 a2 x = some r) : ∃ fs, x.1 a0 = .inr (5, fs) := vO_bind h
theorem okX6_buried (G : JG) (x : Hs) (a0 : Nat) (a1 : Int32) (a2 : Int32) : ∀ r, X6_buried a0 a1 a2 x = some r → JC G yX6_buried cX6_buried 3 (some .int) (jR 8 0 0) 0 0 [.ref a0, .int a1, .int a2] x ((some (.int r.1), r.2)) := by
  refine jc_of (own := RX6) (E := (fun r : Int32 × Hs => ((some (.int r.1), r.2) : JR))) (by decide) rfl rfl (Nat.le_of_ble_eq_true rfl) rfl ?_
  unfold X6_buried
  refine j_chk ?_
  refine j_iload_n 1 1 dX6_buried_0 rfl rfl rfl ?_
  refine j_callS_i (As := [.int a1]) (st := []) 4 (okX6_isSheet G x a1) kc_X6_isSheet kl_X6_260 ks_X6_isSheet ⟨rfl, rfl, Nat.le_of_ble_eq_true rfl, Nat.le_of_ble_eq_true rfl⟩ (Nat.le_of_ble_eq_true rfl) ⟨Nat.le_of_ble_eq_true rfl, Nat.le_of_ble_eq_true rfl⟩ rfl dX6_buried_1 rfl rfl ?_
  intro v1
  refine j_if_eq 14 7 dX6_buried_4 (by decide) rfl ?_ ?_
  · refine j_bipush (v := -2) 16 dX6_buried_14 rfl bc_m2 ?_
    exact j_iret dX6_buried_16 rfl
  · refine j_iload_n 8 2 dX6_buried_7 rfl rfl rfl ?_
    refine j_callS_i (As := [.int a2]) (st := []) 11 (okX6_isBit G x a2) kc_X6_isBit kl_X6_134 ks_X6_isBit ⟨rfl, rfl, Nat.le_of_ble_eq_true rfl, Nat.le_of_ble_eq_true rfl⟩ (Nat.le_of_ble_eq_true rfl) ⟨Nat.le_of_ble_eq_true rfl, Nat.le_of_ble_eq_true rfl⟩ rfl dX6_buried_8 rfl rfl ?_
    intro v2
    refine j_if_ne 17 14 dX6_buried_11 (by decide) rfl ?_ ?_
    · refine j_aload_n 18 0 dX6_buried_17 rfl rfl rfl ?_
      refine j_gR 21 kf_X6_34 dX6_buried_18 rfl ?_
      intro v3
      refine j_iload_n 22 1 dX6_buried_21 rfl rfl rfl ?_
      refine j_callV_i (ci := 2) (As := [.int a1]) (st := []) 25 (okX3_isMissing G x v3 a1) kc_X3_isMissing kl_X6_263 ki_X3_isMissing kv_X3_isMissing kh_X3 (by decide) (fun _ h => rvX3_isMissing h) ⟨rfl, rfl, Nat.le_of_ble_eq_true rfl, Nat.le_of_ble_eq_true rfl⟩ (Nat.le_of_ble_eq_true rfl) ⟨Nat.le_of_ble_eq_true rfl, Nat.le_of_ble_eq_true rfl⟩ rfl dX6_buried_22 rfl rfl ?_
      intro v4
      refine j_if_eq 31 28 dX6_buried_25 (by decide) rfl ?_ ?_
      · refine j_aload_n 32 0 dX6_buried_31 rfl rfl rfl ?_
        refine j_gR 35 kf_X6_34 dX6_buried_32 rfl ?_
        intro v5
        refine j_gR 38 kf_X6_266 dX6_buried_35 rfl ?_
        intro v6
        refine j_iload_n 39 1 dX6_buried_38 rfl rfl rfl ?_
        refine j_aI 40 dX6_buried_39 rfl ?_
        intro v7
        refine j_aload_n 41 0 dX6_buried_40 rfl rfl rfl ?_
        refine j_gR 44 kf_X6_12 dX6_buried_41 rfl ?_
        intro v8
        refine j_gI 47 kf_X6_70 dX6_buried_44 rfl ?_
        intro v9
        refine j_icmp_le 53 50 dX6_buried_47 (by decide) rfl ?_ ?_
        · refine j_aload_n 54 0 dX6_buried_53 rfl rfl rfl ?_
          refine j_gR 57 kf_X6_12 dX6_buried_54 rfl ?_
          intro v10
          refine j_gI 60 kf_X6_70 dX6_buried_57 rfl ?_
          intro v11
          refine j_if_le 76 63 dX6_buried_60 (by decide) rfl ?_ ?_
          · exact okX6_buried_J76 G a0 a1 a2 x
          · refine j_aload_n 64 0 dX6_buried_63 rfl rfl rfl ?_
            refine j_gR 67 kf_X6_12 dX6_buried_64 rfl ?_
            intro v14
            refine j_callV_i (ci := 0) (As := []) (st := []) 70 (okX0_canRest G x v14) kc_X0_canRest kl_X6_239 ki_X0_canRest kv_X0_canRest kh_X0 (by decide) (fun _ h => rvX0_canRest h) ⟨rfl, rfl, Nat.le_of_ble_eq_true rfl, Nat.le_of_ble_eq_true rfl⟩ (Nat.le_of_ble_eq_true rfl) ⟨Nat.le_of_ble_eq_true rfl, Nat.le_of_ble_eq_true rfl⟩ rfl dX6_buried_67 rfl rfl ?_
            intro v15
            refine j_if_ne 76 73 dX6_buried_70 (by decide) rfl ?_ ?_
            · exact okX6_buried_J76 G a0 a1 a2 x
            · refine j_bipush (v := -3) 75 dX6_buried_73 rfl bc_m3 ?_
              exact j_iret dX6_buried_75 rfl
        · refine j_bipush (v := -2) 52 dX6_buried_50 rfl bc_m2 ?_
          exact j_iret dX6_buried_52 rfl
      · refine j_bipush (v := -11) 30 dX6_buried_28 rfl bc_m11 ?_
        exact j_iret dX6_buried_30 rfl
    · refine j_bipush (v := -2) 16 dX6_buried_14 rfl bc_m2 ?_
      exact j_iret dX6_buried_16 rfl
-- X6_firstOtherwise: ('BarSteps', 'firstOtherwise', '(III)I')
def X6_firstOtherwise_J58 (r24 : Nat → Int32 → Int32 → Int32 → Hs → Option (Int32 × Hs)) (l0 : Nat) (l1 : Int32) (l2 : Int32) (l4 : Int32) (x : Hs) : Option (Int32 × Hs) := (gR x 5 l0 1).bind fun v9 =>
  (gR x 0 v9 8).bind fun v10 =>
  (aL x v10 l2).bind fun v11 =>
  (gR x 5 l0 1).bind fun v12 =>
  (gL x 0 v12 9).bind fun v13 =>
  (X6_wholePart v11 v13).bind fun v14 =>
  (gR x 5 l0 4).bind fun v15 =>
  (gR x 2 v15 2).bind fun v16 =>
  (aR x v16 l1).bind fun v17 =>
  (aI x v17 l4).bind fun v18 =>
  (if v14 = (Int32.toInt64 v18) then r24 l0 l1 l2 (l4 + 1) x else
  some (l4, x))
theorem okX6_firstOtherwise_J58 (G : JG) (r24 : Nat → Int32 → Int32 → Int32 → Hs → Option (Int32 × Hs)) (hr24 : ∀ (l0 : Nat) (l1 : Int32) (l2 : Int32) (l4 : Int32) (x : Hs), JM G RX6 cX6_firstOtherwise 5 (jZ G (some .int) "firstOtherwise" (jR 6 0 0) 0 0) (fun r : Int32 × Hs => ((some (.int r.1), r.2) : JR)) 24 [(0, .ref l0), (1, .int l1), (2, .int l2), (4, .int l4)] [] x 0 0 (r24 l0 l1 l2 l4 x)) : ∀ (l0 : Nat) (l1 : Int32) (l2 : Int32) (l4 : Int32) (x : Hs), JM G RX6 cX6_firstOtherwise 5 (jZ G (some .int) "firstOtherwise" (jR 6 0 0) 0 0) (fun r : Int32 × Hs => ((some (.int r.1), r.2) : JR)) 58 [(0, .ref l0), (1, .int l1), (2, .int l2), (4, .int l4)] [] x 0 0 (X6_firstOtherwise_J58 r24 l0 l1 l2 l4 x) := by
  intro l0 l1 l2 l4 x
  unfold X6_firstOtherwise_J58
  refine j_aload_n 59 0 dX6_firstOtherwise_58 rfl rfl rfl ?_
  refine j_gR 62 kf_X6_18 dX6_firstOtherwise_59 rfl ?_
  intro v9
  refine j_gR 65 kf_X6_152 dX6_firstOtherwise_62 rfl ?_
  intro v10
  refine j_iload_n 66 2 dX6_firstOtherwise_65 rfl rfl rfl ?_
  refine j_aL 67 dX6_firstOtherwise_66 rfl ?_
  intro v11
  refine j_aload_n 68 0 dX6_firstOtherwise_67 rfl rfl rfl ?_
  refine j_gR 71 kf_X6_18 dX6_firstOtherwise_68 rfl ?_
  intro v12
  refine j_gL 74 kf_X6_156 dX6_firstOtherwise_71 rfl ?_
  intro v13
  refine j_callS_l (As := [.long v11, .long v13]) (st := []) 77 (okX6_wholePart G x v11 v13) kc_X6_wholePart kl_X6_277 ks_X6_wholePart ⟨rfl, rfl, Nat.le_of_ble_eq_true rfl, Nat.le_of_ble_eq_true rfl⟩ (Nat.le_of_ble_eq_true rfl) ⟨Nat.le_of_ble_eq_true rfl, Nat.le_of_ble_eq_true rfl⟩ rfl dX6_firstOtherwise_74 rfl rfl ?_
  intro v14
  refine j_aload_n 78 0 dX6_firstOtherwise_77 rfl rfl rfl ?_
  refine j_gR 81 kf_X6_34 dX6_firstOtherwise_78 rfl ?_
  intro v15
  refine j_gR 84 kf_X6_280 dX6_firstOtherwise_81 rfl ?_
  intro v16
  refine j_iload_n 85 1 dX6_firstOtherwise_84 rfl rfl rfl ?_
  refine j_aR 86 dX6_firstOtherwise_85 rfl ?_
  intro v17
  refine j_iload 88 3 dX6_firstOtherwise_86 rfl rfl ?_
  refine j_aI 89 dX6_firstOtherwise_88 rfl ?_
  intro v18
  refine j_i2l 90 dX6_firstOtherwise_89 rfl ?_
  refine j_lcmp_eq 91 97 94 dX6_firstOtherwise_90 rfl dX6_firstOtherwise_91 (by decide) rfl ?_ ?_
  · refine j_iinc 100 3 [(4, .int (l4 + 1)), (0, .ref l0), (1, .int l1), (2, .int l2)] dX6_firstOtherwise_97 rfl rfl (ii_1 _) (by decide) rfl ?_
    refine j_goto 24 dX6_firstOtherwise_100 (by decide) ?_
    refine j_sub [1, 2, 3, 0] rfl ?_
    exact hr24 l0 l1 l2 (l4 + 1) x
  · refine j_iload 96 3 dX6_firstOtherwise_94 rfl rfl ?_
    exact j_iret dX6_firstOtherwise_96 rfl
def X6_firstOtherwise_L24 : Nat → Nat → Int32 → Int32 → Int32 → Hs → Option (Int32 × Hs)
  | 0, _, _, _, _, _ => none
  | n + 1, l0, l1, l2, l4, x => (gR x 5 l0 4).bind fun v6 =>
  (gR x 2 v6 1).bind fun v7 =>
  (aI x v7 l1).bind fun v8 =>
  (if v8 ≤ l4 then some ((-1), x) else
  (if l4 ≤ 0 then X6_firstOtherwise_J58 (fun l0 l1 l2 l4 x => X6_firstOtherwise_L24 n l0 l1 l2 l4 x) l0 l1 l2 l4 x else
  (gR x 5 l0 1).bind fun v19 =>
  (X0_advance v19 x).bind fun q20 =>
  (if q20.1 = (-2) then X6_firstOtherwise_J58 (fun l0 l1 l2 l4 x => X6_firstOtherwise_L24 n l0 l1 l2 l4 x) l0 l1 l2 l4 q20.2 else
  some (l4, q20.2))))
theorem okX6_firstOtherwise_L24 (G : JG) : ∀ (n : Nat), ∀ (l0 : Nat) (l1 : Int32) (l2 : Int32) (l4 : Int32) (x : Hs), JM G RX6 cX6_firstOtherwise 5 (jZ G (some .int) "firstOtherwise" (jR 6 0 0) 0 0) (fun r : Int32 × Hs => ((some (.int r.1), r.2) : JR)) 24 [(0, .ref l0), (1, .int l1), (2, .int l2), (4, .int l4)] [] x 0 0 (X6_firstOtherwise_L24 n l0 l1 l2 l4 x) := by
  intro n
  induction n with
  | zero => intro l0 l1 l2 l4 x; exact j_none
  | succ n ih =>
    intro l0 l1 l2 l4 x
    unfold X6_firstOtherwise_L24
    refine j_iload 26 3 dX6_firstOtherwise_24 rfl rfl ?_
    refine j_aload_n 27 0 dX6_firstOtherwise_26 rfl rfl rfl ?_
    refine j_gR 30 kf_X6_34 dX6_firstOtherwise_27 rfl ?_
    intro v6
    refine j_gR 33 kf_X6_266 dX6_firstOtherwise_30 rfl ?_
    intro v7
    refine j_iload_n 34 1 dX6_firstOtherwise_33 rfl rfl rfl ?_
    refine j_aI 35 dX6_firstOtherwise_34 rfl ?_
    intro v8
    refine j_icmp_ge 103 38 dX6_firstOtherwise_35 (by decide) rfl ?_ ?_
    · refine j_iconst (v := -1) 104 dX6_firstOtherwise_103 rfl ic_m1 ?_
      exact j_iret dX6_firstOtherwise_104 rfl
    · refine j_iload 40 3 dX6_firstOtherwise_38 rfl rfl ?_
      refine j_if_le 58 43 dX6_firstOtherwise_40 (by decide) rfl ?_ ?_
      · exact okX6_firstOtherwise_J58 G (fun l0 l1 l2 l4 x => X6_firstOtherwise_L24 n l0 l1 l2 l4 x) ih l0 l1 l2 l4 x
      · refine j_aload_n 44 0 dX6_firstOtherwise_43 rfl rfl rfl ?_
        refine j_gR 47 kf_X6_18 dX6_firstOtherwise_44 rfl ?_
        intro v19
        refine j_callV_iw (ci := 0) (As := []) (st := []) 50 (okX0_advance G x v19) kc_X0_advance kl_X6_201 ki_X0_advance kv_X0_advance kh_X0 (by decide) (fun _ h => rvX0_advance h) ⟨rfl, rfl, Nat.le_of_ble_eq_true rfl, Nat.le_of_ble_eq_true rfl⟩ (Nat.le_of_ble_eq_true rfl) ⟨Nat.le_of_ble_eq_true rfl, Nat.le_of_ble_eq_true rfl⟩ rfl dX6_firstOtherwise_47 rfl rfl ?_
        intro q20
        refine j_bipush (v := -2) 52 dX6_firstOtherwise_50 rfl bc_m2 ?_
        refine j_icmp_eq 58 55 dX6_firstOtherwise_52 (by decide) rfl ?_ ?_
        · exact okX6_firstOtherwise_J58 G (fun l0 l1 l2 l4 x => X6_firstOtherwise_L24 n l0 l1 l2 l4 x) ih l0 l1 l2 l4 q20.2
        · refine j_iload 57 3 dX6_firstOtherwise_55 rfl rfl ?_
          exact j_iret dX6_firstOtherwise_57 rfl
def X6_firstOtherwise (a0 : Nat) (a1 : Int32) (a2 : Int32) (a3 : Int32) (x : Hs) : Option (Int32 × Hs) := (vO x 5 a0).bind fun _ =>
  (gR x 5 a0 1).bind fun v1 =>
  (gR x 5 a0 0).bind fun v2 =>
  (X0_become v1 v2 x).bind fun q3 =>
  (gR q3 5 a0 1).bind fun v4 =>
  (X0_changeKind v4 a2 a3 q3).bind fun q5 =>
  X6_firstOtherwise_L24 fu a0 a1 a2 0 q5.2
theorem rvX6_firstOtherwise {a0 : Nat} {a1 : Int32} {a2 : Int32} {a3 : Int32} {x : Hs} {r : Int32 × Hs} (h : X6_firstOtherwise a0 a1 a2 a3 x = some r) : ∃ fs, x.1 a0 = .inr (5, fs) := vO_bind h
theorem okX6_firstOtherwise (G : JG) (x : Hs) (a0 : Nat) (a1 : Int32) (a2 : Int32) (a3 : Int32) : ∀ r, X6_firstOtherwise a0 a1 a2 a3 x = some r → JC G yX6_firstOtherwise cX6_firstOtherwise 5 (some .int) (jR 6 0 0) 0 0 [.ref a0, .int a1, .int a2, .int a3] x ((some (.int r.1), r.2)) := by
  refine jc_of (own := RX6) (E := (fun r : Int32 × Hs => ((some (.int r.1), r.2) : JR))) (by decide) rfl rfl (Nat.le_of_ble_eq_true rfl) rfl ?_
  unfold X6_firstOtherwise
  refine j_chk ?_
  refine j_aload_n 1 0 dX6_firstOtherwise_0 rfl rfl rfl ?_
  refine j_gR 4 kf_X6_18 dX6_firstOtherwise_1 rfl ?_
  intro v1
  refine j_aload_n 5 0 dX6_firstOtherwise_4 rfl rfl rfl ?_
  refine j_gR 8 kf_X6_12 dX6_firstOtherwise_5 rfl ?_
  intro v2
  refine j_callV_v (ci := 0) (As := [.ref v2]) (st := []) 11 (okX0_become G x v1 v2) kc_X0_become kl_X6_197 ki_X0_become kv_X0_become kh_X0 (by decide) (fun _ h => rvX0_become h) ⟨rfl, rfl, Nat.le_of_ble_eq_true rfl, Nat.le_of_ble_eq_true rfl⟩ (Nat.le_of_ble_eq_true rfl) ⟨Nat.le_of_ble_eq_true rfl, Nat.le_of_ble_eq_true rfl⟩ rfl dX6_firstOtherwise_8 rfl rfl ?_
  intro q3
  refine j_aload_n 12 0 dX6_firstOtherwise_11 rfl rfl rfl ?_
  refine j_gR 15 kf_X6_18 dX6_firstOtherwise_12 rfl ?_
  intro v4
  refine j_iload_n 16 2 dX6_firstOtherwise_15 rfl rfl rfl ?_
  refine j_iload_n 17 3 dX6_firstOtherwise_16 rfl rfl rfl ?_
  refine j_callV_iw (ci := 0) (As := [.int a2, .int a3]) (st := []) 20 (okX0_changeKind G q3 v4 a2 a3) kc_X0_changeKind kl_X6_87 ki_X0_changeKind kv_X0_changeKind kh_X0 (by decide) (fun _ h => rvX0_changeKind h) ⟨rfl, rfl, Nat.le_of_ble_eq_true rfl, Nat.le_of_ble_eq_true rfl⟩ (Nat.le_of_ble_eq_true rfl) ⟨Nat.le_of_ble_eq_true rfl, Nat.le_of_ble_eq_true rfl⟩ rfl dX6_firstOtherwise_17 rfl rfl ?_
  intro q5
  refine j_pop 21 dX6_firstOtherwise_20 rfl rfl ?_
  refine j_iconst (v := 0) 22 dX6_firstOtherwise_21 rfl ic_0 ?_
  refine j_istore 24 [(4, .int 0), (0, .ref a0), (1, .int a1), (2, .int a2), (3, .int a3)] dX6_firstOtherwise_22 rfl (by decide) rfl ?_
  refine j_sub [1, 2, 3, 0] rfl ?_
  exact okX6_firstOtherwise_L24 G fu a0 a1 a2 0 q5.2
-- X6_tells: ('BarSteps', 'tells', '(III)I')
def X6_tells_L85 : Nat → Nat → Int32 → Int32 → Int32 → Int32 → Hs → Option (Int32 × Hs)
  | 0, _, _, _, _, _, _ => none
  | n + 1, l0, l1, l2, l4, l5, x => (if 6 ≤ l5 then some (l4, x) else
  (X6_firstOtherwise l0 l1 l2 l5 x).bind fun q10 =>
  (if q10.1 = (-1) then X6_tells_L85 n l0 l1 l2 (l4 ||| (1 <<< (l5 &&& 31))) (l5 + 1) q10.2 else
  X6_tells_L85 n l0 l1 l2 l4 (l5 + 1) q10.2))
theorem okX6_tells_L85 (G : JG) : ∀ (n : Nat), ∀ (l0 : Nat) (l1 : Int32) (l2 : Int32) (l4 : Int32) (l5 : Int32) (x : Hs), JM G RX6 cX6_tells 6 (jZ G (some .int) "tells" (jR 7 0 0) 0 0) (fun r : Int32 × Hs => ((some (.int r.1), r.2) : JR)) 85 [(0, .ref l0), (1, .int l1), (2, .int l2), (4, .int l4), (5, .int l5)] [] x 0 0 (X6_tells_L85 n l0 l1 l2 l4 l5 x) := by
  intro n
  induction n with
  | zero => intro l0 l1 l2 l4 l5 x; exact j_none
  | succ n ih =>
    intro l0 l1 l2 l4 l5 x
    unfold X6_tells_L85
    refine j_iload 87 4 dX6_tells_85 rfl rfl ?_
    refine j_bipush (v := 6) 89 dX6_tells_87 rfl bc_6 ?_
    refine j_icmp_ge 119 92 dX6_tells_89 (by decide) rfl ?_ ?_
    · refine j_iload 121 3 dX6_tells_119 rfl rfl ?_
      exact j_iret dX6_tells_121 rfl
    · refine j_aload_n 93 0 dX6_tells_92 rfl rfl rfl ?_
      refine j_iload_n 94 1 dX6_tells_93 rfl rfl rfl ?_
      refine j_iload_n 95 2 dX6_tells_94 rfl rfl rfl ?_
      refine j_iload 97 4 dX6_tells_95 rfl rfl ?_
      refine j_callV_iw (ci := 5) (As := [.int l1, .int l2, .int l5]) (st := []) 100 (okX6_firstOtherwise G x l0 l1 l2 l5) kc_X6_firstOtherwise kl_X6_284 ki_X6_firstOtherwise kv_X6_firstOtherwise kh_X6 (by decide) (fun _ h => rvX6_firstOtherwise h) ⟨rfl, rfl, Nat.le_of_ble_eq_true rfl, Nat.le_of_ble_eq_true rfl⟩ (Nat.le_of_ble_eq_true rfl) ⟨Nat.le_of_ble_eq_true rfl, Nat.le_of_ble_eq_true rfl⟩ rfl dX6_tells_97 rfl rfl ?_
      intro q10
      refine j_iconst (v := -1) 101 dX6_tells_100 rfl ic_m1 ?_
      refine j_icmp_ne 113 104 dX6_tells_101 (by decide) rfl ?_ ?_
      · refine j_iinc 116 4 [(5, .int (l5 + 1)), (0, .ref l0), (1, .int l1), (2, .int l2), (4, .int l4)] dX6_tells_113 rfl rfl (ii_1 _) (by decide) rfl ?_
        refine j_goto 85 dX6_tells_116 (by decide) ?_
        refine j_sub [1, 2, 3, 4, 0] rfl ?_
        exact ih l0 l1 l2 l4 (l5 + 1) q10.2
      · refine j_iload 106 3 dX6_tells_104 rfl rfl ?_
        refine j_iconst (v := 1) 107 dX6_tells_106 rfl ic_1 ?_
        refine j_iload 109 4 dX6_tells_107 rfl rfl ?_
        refine j_ishl 110 dX6_tells_109 rfl ?_
        refine j_ior 111 dX6_tells_110 rfl ?_
        refine j_istore 113 [(4, .int (l4 ||| (1 <<< (l5 &&& 31)))), (0, .ref l0), (1, .int l1), (2, .int l2), (5, .int l5)] dX6_tells_111 rfl (by decide) rfl ?_
        refine j_iinc 116 4 [(5, .int (l5 + 1)), (4, .int (l4 ||| (1 <<< (l5 &&& 31)))), (0, .ref l0), (1, .int l1), (2, .int l2)] dX6_tells_113 rfl rfl (ii_1 _) (by decide) rfl ?_
        refine j_goto 85 dX6_tells_116 (by decide) ?_
        refine j_sub [2, 3, 4, 1, 0] rfl ?_
        exact ih l0 l1 l2 (l4 ||| (1 <<< (l5 &&& 31))) (l5 + 1) q10.2
def X6_tells (a0 : Nat) (a1 : Int32) (a2 : Int32) (a3 : Int32) (x : Hs) : Option (Int32 × Hs) := (vO x 5 a0).bind fun _ =>
  (X6_isSheet a1).bind fun v1 =>
  (if v1 = 0 then some ((-2), x) else
  (gR x 5 a0 0).bind fun v2 =>
  (X0_has v2 a2 x).bind fun v3 =>
  (if v3 = 0 then some ((-2), x) else
  (X6_isBit a3).bind fun v4 =>
  (if v4 = 0 then some ((-2), x) else
  (gR x 5 a0 4).bind fun v5 =>
  (X3_isMissing v5 a1 x).bind fun v6 =>
  (if v6 = 0 then (gR x 5 a0 4).bind fun v7 =>
  (gR x 2 v7 1).bind fun v8 =>
  (aI x v8 a1).bind fun v9 =>
  (if v9 ≤ 10 then (if a3 = 0 then (gR x 5 a0 0).bind fun v11 =>
  (gR x 0 v11 1).bind fun v12 =>
  (aI x v12 a2).bind fun v13 =>
  (X6_firstOtherwise a0 a1 a2 v13 x).bind fun q14 =>
  some (q14.1, q14.2) else
  X6_tells_L85 fu a0 a1 a2 0 0 x) else
  some ((-2), x)) else
  some ((-11), x)))))
theorem rvX6_tells {a0 : Nat} {a1 : Int32} {a2 : Int32} {a3 : Int32} {x : Hs} {r : Int32 × Hs} (h : X6_tells a0 a1 a2 a3 x = some r) : ∃ fs, x.1 a0 = .inr (5, fs) := vO_bind h
theorem okX6_tells (G : JG) (x : Hs) (a0 : Nat) (a1 : Int32) (a2 : Int32) (a3 : Int32) : ∀ r, X6_tells a0 a1 a2 a3 x = some r → JC G yX6_tells cX6_tells 6 (some .int) (jR 7 0 0) 0 0 [.ref a0, .int a1, .int a2, .int a3] x ((some (.int r.1), r.2)) := by
  refine jc_of (own := RX6) (E := (fun r : Int32 × Hs => ((some (.int r.1), r.2) : JR))) (by decide) rfl rfl (Nat.le_of_ble_eq_true rfl) rfl ?_
  unfold X6_tells
  refine j_chk ?_
  refine j_iload_n 1 1 dX6_tells_0 rfl rfl rfl ?_
  refine j_callS_i (As := [.int a1]) (st := []) 4 (okX6_isSheet G x a1) kc_X6_isSheet kl_X6_260 ks_X6_isSheet ⟨rfl, rfl, Nat.le_of_ble_eq_true rfl, Nat.le_of_ble_eq_true rfl⟩ (Nat.le_of_ble_eq_true rfl) ⟨Nat.le_of_ble_eq_true rfl, Nat.le_of_ble_eq_true rfl⟩ rfl dX6_tells_1 rfl rfl ?_
  intro v1
  refine j_if_eq 25 7 dX6_tells_4 (by decide) rfl ?_ ?_
  · refine j_bipush (v := -2) 27 dX6_tells_25 rfl bc_m2 ?_
    exact j_iret dX6_tells_27 rfl
  · refine j_aload_n 8 0 dX6_tells_7 rfl rfl rfl ?_
    refine j_gR 11 kf_X6_12 dX6_tells_8 rfl ?_
    intro v2
    refine j_iload_n 12 2 dX6_tells_11 rfl rfl rfl ?_
    refine j_callV_i (ci := 0) (As := [.int a2]) (st := []) 15 (okX0_has G x v2 a2) kc_X0_has kl_X6_77 ki_X0_has kv_X0_has kh_X0 (by decide) (fun _ h => rvX0_has h) ⟨rfl, rfl, Nat.le_of_ble_eq_true rfl, Nat.le_of_ble_eq_true rfl⟩ (Nat.le_of_ble_eq_true rfl) ⟨Nat.le_of_ble_eq_true rfl, Nat.le_of_ble_eq_true rfl⟩ rfl dX6_tells_12 rfl rfl ?_
    intro v3
    refine j_if_eq 25 18 dX6_tells_15 (by decide) rfl ?_ ?_
    · refine j_bipush (v := -2) 27 dX6_tells_25 rfl bc_m2 ?_
      exact j_iret dX6_tells_27 rfl
    · refine j_iload_n 19 3 dX6_tells_18 rfl rfl rfl ?_
      refine j_callS_i (As := [.int a3]) (st := []) 22 (okX6_isBit G x a3) kc_X6_isBit kl_X6_134 ks_X6_isBit ⟨rfl, rfl, Nat.le_of_ble_eq_true rfl, Nat.le_of_ble_eq_true rfl⟩ (Nat.le_of_ble_eq_true rfl) ⟨Nat.le_of_ble_eq_true rfl, Nat.le_of_ble_eq_true rfl⟩ rfl dX6_tells_19 rfl rfl ?_
      intro v4
      refine j_if_ne 28 25 dX6_tells_22 (by decide) rfl ?_ ?_
      · refine j_aload_n 29 0 dX6_tells_28 rfl rfl rfl ?_
        refine j_gR 32 kf_X6_34 dX6_tells_29 rfl ?_
        intro v5
        refine j_iload_n 33 1 dX6_tells_32 rfl rfl rfl ?_
        refine j_callV_i (ci := 2) (As := [.int a1]) (st := []) 36 (okX3_isMissing G x v5 a1) kc_X3_isMissing kl_X6_263 ki_X3_isMissing kv_X3_isMissing kh_X3 (by decide) (fun _ h => rvX3_isMissing h) ⟨rfl, rfl, Nat.le_of_ble_eq_true rfl, Nat.le_of_ble_eq_true rfl⟩ (Nat.le_of_ble_eq_true rfl) ⟨Nat.le_of_ble_eq_true rfl, Nat.le_of_ble_eq_true rfl⟩ rfl dX6_tells_33 rfl rfl ?_
        intro v6
        refine j_if_eq 42 39 dX6_tells_36 (by decide) rfl ?_ ?_
        · refine j_aload_n 43 0 dX6_tells_42 rfl rfl rfl ?_
          refine j_gR 46 kf_X6_34 dX6_tells_43 rfl ?_
          intro v7
          refine j_gR 49 kf_X6_266 dX6_tells_46 rfl ?_
          intro v8
          refine j_iload_n 50 1 dX6_tells_49 rfl rfl rfl ?_
          refine j_aI 51 dX6_tells_50 rfl ?_
          intro v9
          refine j_bipush (v := 10) 53 dX6_tells_51 rfl bc_10 ?_
          refine j_icmp_le 59 56 dX6_tells_53 (by decide) rfl ?_ ?_
          · refine j_iload_n 60 3 dX6_tells_59 rfl rfl rfl ?_
            refine j_if_ne 79 63 dX6_tells_60 (by decide) rfl ?_ ?_
            · refine j_iconst (v := 0) 80 dX6_tells_79 rfl ic_0 ?_
              refine j_istore 82 [(4, .int 0), (0, .ref a0), (1, .int a1), (2, .int a2), (3, .int a3)] dX6_tells_80 rfl (by decide) rfl ?_
              refine j_iconst (v := 0) 83 dX6_tells_82 rfl ic_0 ?_
              refine j_istore 85 [(5, .int 0), (4, .int 0), (0, .ref a0), (1, .int a1), (2, .int a2), (3, .int a3)] dX6_tells_83 rfl (by decide) rfl ?_
              refine j_sub [2, 3, 4, 1, 0] rfl ?_
              exact okX6_tells_L85 G fu a0 a1 a2 0 0 x
            · refine j_aload_n 64 0 dX6_tells_63 rfl rfl rfl ?_
              refine j_iload_n 65 1 dX6_tells_64 rfl rfl rfl ?_
              refine j_iload_n 66 2 dX6_tells_65 rfl rfl rfl ?_
              refine j_aload_n 67 0 dX6_tells_66 rfl rfl rfl ?_
              refine j_gR 70 kf_X6_12 dX6_tells_67 rfl ?_
              intro v11
              refine j_gR 73 kf_X6_100 dX6_tells_70 rfl ?_
              intro v12
              refine j_iload_n 74 2 dX6_tells_73 rfl rfl rfl ?_
              refine j_aI 75 dX6_tells_74 rfl ?_
              intro v13
              refine j_callV_iw (ci := 5) (As := [.int a1, .int a2, .int v13]) (st := []) 78 (okX6_firstOtherwise G x a0 a1 a2 v13) kc_X6_firstOtherwise kl_X6_284 ki_X6_firstOtherwise kv_X6_firstOtherwise kh_X6 (by decide) (fun _ h => rvX6_firstOtherwise h) ⟨rfl, rfl, Nat.le_of_ble_eq_true rfl, Nat.le_of_ble_eq_true rfl⟩ (Nat.le_of_ble_eq_true rfl) ⟨Nat.le_of_ble_eq_true rfl, Nat.le_of_ble_eq_true rfl⟩ rfl dX6_tells_75 rfl rfl ?_
              intro q14
              exact j_iret dX6_tells_78 rfl
          · refine j_bipush (v := -2) 58 dX6_tells_56 rfl bc_m2 ?_
            exact j_iret dX6_tells_58 rfl
        · refine j_bipush (v := -11) 41 dX6_tells_39 rfl bc_m11 ?_
          exact j_iret dX6_tells_41 rfl
      · refine j_bipush (v := -2) 27 dX6_tells_25 rfl bc_m2 ?_
        exact j_iret dX6_tells_27 rfl
-- J9_min_f86c9: ('java/lang/Math', 'min', '(JJ)J')
def J9_min_f86c9 (a0 : Int64) (a1 : Int64) : Option (Int64) := (if a1 < a0 then some a1 else
  some a0)
theorem okJ9_min_f86c9 (G : JG) (x : Hs) (a0 : Int64) (a1 : Int64) : ∀ r, J9_min_f86c9 a0 a1 = some r → JC G yJ9_min_f86c9 cJ9_min_f86c9 4 (some .long) (jR 1 0 0) 0 0 [.long a0, .long a1] x ((some (.long r), x)) := by
  refine jc_ofF (own := RJ9) (E := (fun r : Int64 => ((some (.long r), x) : JR))) (by decide +kernel) rfl rfl (Nat.le_of_ble_eq_true rfl) rfl ?_
  unfold J9_min_f86c9
  refine j_lload_n 1 0 dJ9_min_f86c9_0 rfl rfl rfl ?_
  refine j_lload_n 2 1 dJ9_min_f86c9_1 rfl rfl rfl ?_
  refine j_lcmp_gt 3 10 6 dJ9_min_f86c9_2 rfl dJ9_min_f86c9_3 (by decide) rfl ?_ ?_
  · refine j_lload_n 11 1 dJ9_min_f86c9_10 rfl rfl rfl ?_
    exact j_lret dJ9_min_f86c9_11 rfl
  · refine j_lload_n 7 0 dJ9_min_f86c9_6 rfl rfl rfl ?_
    refine j_goto 11 dJ9_min_f86c9_7 (by decide) ?_
    exact j_lret dJ9_min_f86c9_11 rfl
-- J9_max_f86c9: ('java/lang/Math', 'max', '(JJ)J')
def J9_max_f86c9 (a0 : Int64) (a1 : Int64) : Option (Int64) := (if a0 < a1 then some a1 else
  some a0)
theorem okJ9_max_f86c9 (G : JG) (x : Hs) (a0 : Int64) (a1 : Int64) : ∀ r, J9_max_f86c9 a0 a1 = some r → JC G yJ9_max_f86c9 cJ9_max_f86c9 4 (some .long) (jR 1 0 0) 0 0 [.long a0, .long a1] x ((some (.long r), x)) := by
  refine jc_ofF (own := RJ9) (E := (fun r : Int64 => ((some (.long r), x) : JR))) (by decide +kernel) rfl rfl (Nat.le_of_ble_eq_true rfl) rfl ?_
  unfold J9_max_f86c9
  refine j_lload_n 1 0 dJ9_max_f86c9_0 rfl rfl rfl ?_
  refine j_lload_n 2 1 dJ9_max_f86c9_1 rfl rfl rfl ?_
  refine j_lcmp_lt 3 10 6 dJ9_max_f86c9_2 rfl dJ9_max_f86c9_3 (by decide) rfl ?_ ?_
  · refine j_lload_n 11 1 dJ9_max_f86c9_10 rfl rfl rfl ?_
    exact j_lret dJ9_max_f86c9_11 rfl
  · refine j_lload_n 7 0 dJ9_max_f86c9_6 rfl rfl rfl ?_
    refine j_goto 11 dJ9_max_f86c9_7 (by decide) ?_
    exact j_lret dJ9_max_f86c9_11 rfl
-- X6_film: ('BarSteps', 'film', '(III)I')
def X6_film_J71 (r45 : Nat → Int32 → Int32 → Int32 → Int32 → Hs → Option (Int32 × Hs)) (l0 : Nat) (l1 : Int32) (l2 : Int32) (l3 : Int32) (l4 : Int32) (x : Hs) : Option (Int32 × Hs) := (gR x 5 l0 1).bind fun v15 =>
  (gR x 0 v15 8).bind fun v16 =>
  (aL x v16 l2).bind fun v17 =>
  (gR x 5 l0 1).bind fun v18 =>
  (gL x 0 v18 9).bind fun v19 =>
  (X6_wholePart v17 v19).bind fun v20 =>
  (gR x 5 l0 6).bind fun v21 =>
  (J9_min_f86c9 999 v20).bind fun v22 =>
  (J9_max_f86c9 (-999) v22).bind fun v23 =>
  (wI x v21 l4 (Int64.toInt32 v23)).bind fun y24 =>
  r45 l0 l1 l2 l3 (l4 + 1) y24
theorem okX6_film_J71 (G : JG) (r45 : Nat → Int32 → Int32 → Int32 → Int32 → Hs → Option (Int32 × Hs)) (hr45 : ∀ (l0 : Nat) (l1 : Int32) (l2 : Int32) (l3 : Int32) (l4 : Int32) (x : Hs), JM G RX6 cX6_film 7 (jZ G (some .int) "film" (jR 6 0 0) 0 0) (fun r : Int32 × Hs => ((some (.int r.1), r.2) : JR)) 45 [(0, .ref l0), (1, .int l1), (2, .int l2), (3, .int l3), (4, .int l4)] [] x 0 0 (r45 l0 l1 l2 l3 l4 x)) : ∀ (l0 : Nat) (l1 : Int32) (l2 : Int32) (l3 : Int32) (l4 : Int32) (x : Hs), JM G RX6 cX6_film 7 (jZ G (some .int) "film" (jR 6 0 0) 0 0) (fun r : Int32 × Hs => ((some (.int r.1), r.2) : JR)) 71 [(0, .ref l0), (1, .int l1), (2, .int l2), (3, .int l3), (4, .int l4)] [] x 0 0 (X6_film_J71 r45 l0 l1 l2 l3 l4 x) := by
  intro l0 l1 l2 l3 l4 x
  unfold X6_film_J71
  refine j_aload_n 72 0 dX6_film_71 rfl rfl rfl ?_
  refine j_gR 75 kf_X6_18 dX6_film_72 rfl ?_
  intro v15
  refine j_gR 78 kf_X6_152 dX6_film_75 rfl ?_
  intro v16
  refine j_iload_n 79 2 dX6_film_78 rfl rfl rfl ?_
  refine j_aL 80 dX6_film_79 rfl ?_
  intro v17
  refine j_aload_n 81 0 dX6_film_80 rfl rfl rfl ?_
  refine j_gR 84 kf_X6_18 dX6_film_81 rfl ?_
  intro v18
  refine j_gL 87 kf_X6_156 dX6_film_84 rfl ?_
  intro v19
  refine j_callS_l (As := [.long v17, .long v19]) (st := []) 90 (okX6_wholePart G x v17 v19) kc_X6_wholePart kl_X6_277 ks_X6_wholePart ⟨rfl, rfl, Nat.le_of_ble_eq_true rfl, Nat.le_of_ble_eq_true rfl⟩ (Nat.le_of_ble_eq_true rfl) ⟨Nat.le_of_ble_eq_true rfl, Nat.le_of_ble_eq_true rfl⟩ rfl dX6_film_87 rfl rfl ?_
  intro v20
  refine j_lstore 92 [(5, .long v20), (0, .ref l0), (1, .int l1), (2, .int l2), (3, .int l3), (4, .int l4)] dX6_film_90 rfl (by decide) rfl ?_
  refine j_aload_n 93 1 dX6_film_92 rfl rfl rfl ?_
  refine j_gR 96 kf_X6_45 dX6_film_93 rfl ?_
  intro v21
  refine j_iload 98 5 dX6_film_96 rfl rfl ?_
  refine j_ldc2 101 kk_X6_287 dX6_film_98 rfl ?_
  refine j_ldc2 104 kk_X6_289 dX6_film_101 rfl ?_
  refine j_lload 106 0 dX6_film_104 rfl rfl ?_
  refine j_callS_l (As := [.long 999, .long v20]) (st := [.long (-999), .int l4, .ref v21]) 109 (okJ9_min_f86c9 G x 999 v20) kc_J9_min_f86c9 kl_X6_291 ks_J9_min_f86c9 ⟨rfl, rfl, Nat.le_of_ble_eq_true rfl, Nat.le_of_ble_eq_true rfl⟩ (Nat.le_of_ble_eq_true rfl) ⟨Nat.le_of_ble_eq_true rfl, Nat.le_of_ble_eq_true rfl⟩ rfl dX6_film_106 rfl rfl ?_
  intro v22
  refine j_callS_l (As := [.long (-999), .long v22]) (st := [.int l4, .ref v21]) 112 (okJ9_max_f86c9 G x (-999) v22) kc_J9_max_f86c9 kl_X6_294 ks_J9_max_f86c9 ⟨rfl, rfl, Nat.le_of_ble_eq_true rfl, Nat.le_of_ble_eq_true rfl⟩ (Nat.le_of_ble_eq_true rfl) ⟨Nat.le_of_ble_eq_true rfl, Nat.le_of_ble_eq_true rfl⟩ rfl dX6_film_109 rfl rfl ?_
  intro v23
  refine j_l2i 113 dX6_film_112 rfl ?_
  refine j_wI 114 dX6_film_113 rfl ?_
  intro y24
  refine j_iinc 117 5 [(4, .int (l4 + 1)), (5, .long v20), (0, .ref l0), (1, .int l1), (2, .int l2), (3, .int l3)] dX6_film_114 rfl rfl (ii_1 _) (by decide) rfl ?_
  refine j_goto 45 dX6_film_117 (by decide) ?_
  refine j_sub [2, 3, 4, 5, 0] rfl ?_
  exact hr45 l0 l1 l2 l3 (l4 + 1) y24
def X6_film_L45 : Nat → Nat → Int32 → Int32 → Int32 → Int32 → Hs → Option (Int32 × Hs)
  | 0, _, _, _, _, _, _ => none
  | n + 1, l0, l1, l2, l3, l4, x => (if l3 ≤ l4 then (gR x 5 l0 4).bind fun v8 =>
  (X3_renew v8 l1 1 l3 x).bind fun q9 =>
  (gR q9 5 l0 6).bind fun v10 =>
  (gR q9 5 l0 4).bind fun v11 =>
  (gR q9 2 v11 2).bind fun v12 =>
  (aR q9 v12 l1).bind fun v13 =>
  (cpI q9 v10 0 v13 0 l3).bind fun y14 =>
  some (l3, y14) else
  (if l4 ≤ 0 then X6_film_J71 (fun l0 l1 l2 l3 l4 x => X6_film_L45 n l0 l1 l2 l3 l4 x) l0 l1 l2 l3 l4 x else
  (gR x 5 l0 1).bind fun v25 =>
  (X0_advance v25 x).bind fun q26 =>
  (if q26.1 = (-2) then X6_film_J71 (fun l0 l1 l2 l3 l4 x => X6_film_L45 n l0 l1 l2 l3 l4 x) l0 l1 l2 l3 l4 q26.2 else
  some ((-3), q26.2))))
theorem okX6_film_L45 (G : JG) : ∀ (n : Nat), ∀ (l0 : Nat) (l1 : Int32) (l2 : Int32) (l3 : Int32) (l4 : Int32) (x : Hs), JM G RX6 cX6_film 7 (jZ G (some .int) "film" (jR 6 0 0) 0 0) (fun r : Int32 × Hs => ((some (.int r.1), r.2) : JR)) 45 [(0, .ref l0), (1, .int l1), (2, .int l2), (3, .int l3), (4, .int l4)] [] x 0 0 (X6_film_L45 n l0 l1 l2 l3 l4 x) := by
  intro n
  induction n with
  | zero => intro l0 l1 l2 l3 l4 x; exact j_none
  | succ n ih =>
    intro l0 l1 l2 l3 l4 x
    unfold X6_film_L45
    refine j_iload 47 4 dX6_film_45 rfl rfl ?_
    refine j_iload_n 48 3 dX6_film_47 rfl rfl rfl ?_
    refine j_icmp_ge 120 51 dX6_film_48 (by decide) rfl ?_ ?_
    · refine j_aload_n 121 0 dX6_film_120 rfl rfl rfl ?_
      refine j_gR 124 kf_X6_34 dX6_film_121 rfl ?_
      intro v8
      refine j_iload_n 125 1 dX6_film_124 rfl rfl rfl ?_
      refine j_iconst (v := 1) 126 dX6_film_125 rfl ic_1 ?_
      refine j_iload_n 127 3 dX6_film_126 rfl rfl rfl ?_
      refine j_callV_v (ci := 2) (As := [.int l1, .int 1, .int l3]) (st := []) 130 (okX3_renew G x v8 l1 1 l3) kc_X3_renew kl_X6_296 ki_X3_renew kv_X3_renew kh_X3 (by decide) (fun _ h => rvX3_renew h) ⟨rfl, rfl, Nat.le_of_ble_eq_true rfl, Nat.le_of_ble_eq_true rfl⟩ (Nat.le_of_ble_eq_true rfl) ⟨Nat.le_of_ble_eq_true rfl, Nat.le_of_ble_eq_true rfl⟩ rfl dX6_film_127 rfl rfl ?_
      intro q9
      refine j_aload_n 131 0 dX6_film_130 rfl rfl rfl ?_
      refine j_gR 134 kf_X6_45 dX6_film_131 rfl ?_
      intro v10
      refine j_iconst (v := 0) 135 dX6_film_134 rfl ic_0 ?_
      refine j_aload_n 136 0 dX6_film_135 rfl rfl rfl ?_
      refine j_gR 139 kf_X6_34 dX6_film_136 rfl ?_
      intro v11
      refine j_gR 142 kf_X6_280 dX6_film_139 rfl ?_
      intro v12
      refine j_iload_n 143 1 dX6_film_142 rfl rfl rfl ?_
      refine j_aR 144 dX6_film_143 rfl ?_
      intro v13
      refine j_iconst (v := 0) 145 dX6_film_144 rfl ic_0 ?_
      refine j_iload_n 146 3 dX6_film_145 rfl rfl rfl ?_
      refine j_cpI 149 kl_X6_300 kac_n kac_s kac_i (Nat.le_of_ble_eq_true rfl) (Nat.le_of_ble_eq_true rfl) dX6_film_146 rfl ?_
      intro y14
      refine j_iload_n 150 3 dX6_film_149 rfl rfl rfl ?_
      exact j_iret dX6_film_150 rfl
    · refine j_iload 53 4 dX6_film_51 rfl rfl ?_
      refine j_if_le 71 56 dX6_film_53 (by decide) rfl ?_ ?_
      · exact okX6_film_J71 G (fun l0 l1 l2 l3 l4 x => X6_film_L45 n l0 l1 l2 l3 l4 x) ih l0 l1 l2 l3 l4 x
      · refine j_aload_n 57 0 dX6_film_56 rfl rfl rfl ?_
        refine j_gR 60 kf_X6_18 dX6_film_57 rfl ?_
        intro v25
        refine j_callV_iw (ci := 0) (As := []) (st := []) 63 (okX0_advance G x v25) kc_X0_advance kl_X6_201 ki_X0_advance kv_X0_advance kh_X0 (by decide) (fun _ h => rvX0_advance h) ⟨rfl, rfl, Nat.le_of_ble_eq_true rfl, Nat.le_of_ble_eq_true rfl⟩ (Nat.le_of_ble_eq_true rfl) ⟨Nat.le_of_ble_eq_true rfl, Nat.le_of_ble_eq_true rfl⟩ rfl dX6_film_60 rfl rfl ?_
        intro q26
        refine j_bipush (v := -2) 65 dX6_film_63 rfl bc_m2 ?_
        refine j_icmp_eq 71 68 dX6_film_65 (by decide) rfl ?_ ?_
        · exact okX6_film_J71 G (fun l0 l1 l2 l3 l4 x => X6_film_L45 n l0 l1 l2 l3 l4 x) ih l0 l1 l2 l3 l4 q26.2
        · refine j_bipush (v := -3) 70 dX6_film_68 rfl bc_m3 ?_
          exact j_iret dX6_film_70 rfl
def X6_film (a0 : Nat) (a1 : Int32) (a2 : Int32) (a3 : Int32) (x : Hs) : Option (Int32 × Hs) := (vO x 5 a0).bind fun _ =>
  (X6_isSheet a1).bind fun v1 =>
  (if v1 = 0 then some ((-2), x) else
  (gR x 5 a0 0).bind fun v2 =>
  (X0_has v2 a2 x).bind fun v3 =>
  (if v3 = 0 then some ((-2), x) else
  (X6_between a3 0 10).bind fun v4 =>
  (if v4 = 0 then some ((-2), x) else
  (gR x 5 a0 1).bind fun v5 =>
  (gR x 5 a0 0).bind fun v6 =>
  (X0_become v5 v6 x).bind fun q7 =>
  X6_film_L45 fu a0 a1 a2 a3 0 q7)))
theorem rvX6_film {a0 : Nat} {a1 : Int32} {a2 : Int32} {a3 : Int32} {x : Hs} {r : Int32 × Hs} (h : X6_film a0 a1 a2 a3 x = some r) : ∃ fs, x.1 a0 = .inr (5, fs) := vO_bind h
theorem okX6_film (G : JG) (x : Hs) (a0 : Nat) (a1 : Int32) (a2 : Int32) (a3 : Int32) : ∀ r, X6_film a0 a1 a2 a3 x = some r → JC G yX6_film cX6_film 7 (some .int) (jR 6 0 0) 0 0 [.ref a0, .int a1, .int a2, .int a3] x ((some (.int r.1), r.2)) := by
  refine jc_of (own := RX6) (E := (fun r : Int32 × Hs => ((some (.int r.1), r.2) : JR))) (by decide) rfl rfl (Nat.le_of_ble_eq_true rfl) rfl ?_
  unfold X6_film
  refine j_chk ?_
  refine j_iload_n 1 1 dX6_film_0 rfl rfl rfl ?_
  refine j_callS_i (As := [.int a1]) (st := []) 4 (okX6_isSheet G x a1) kc_X6_isSheet kl_X6_260 ks_X6_isSheet ⟨rfl, rfl, Nat.le_of_ble_eq_true rfl, Nat.le_of_ble_eq_true rfl⟩ (Nat.le_of_ble_eq_true rfl) ⟨Nat.le_of_ble_eq_true rfl, Nat.le_of_ble_eq_true rfl⟩ rfl dX6_film_1 rfl rfl ?_
  intro v1
  refine j_if_eq 28 7 dX6_film_4 (by decide) rfl ?_ ?_
  · refine j_bipush (v := -2) 30 dX6_film_28 rfl bc_m2 ?_
    exact j_iret dX6_film_30 rfl
  · refine j_aload_n 8 0 dX6_film_7 rfl rfl rfl ?_
    refine j_gR 11 kf_X6_12 dX6_film_8 rfl ?_
    intro v2
    refine j_iload_n 12 2 dX6_film_11 rfl rfl rfl ?_
    refine j_callV_i (ci := 0) (As := [.int a2]) (st := []) 15 (okX0_has G x v2 a2) kc_X0_has kl_X6_77 ki_X0_has kv_X0_has kh_X0 (by decide) (fun _ h => rvX0_has h) ⟨rfl, rfl, Nat.le_of_ble_eq_true rfl, Nat.le_of_ble_eq_true rfl⟩ (Nat.le_of_ble_eq_true rfl) ⟨Nat.le_of_ble_eq_true rfl, Nat.le_of_ble_eq_true rfl⟩ rfl dX6_film_12 rfl rfl ?_
    intro v3
    refine j_if_eq 28 18 dX6_film_15 (by decide) rfl ?_ ?_
    · refine j_bipush (v := -2) 30 dX6_film_28 rfl bc_m2 ?_
      exact j_iret dX6_film_30 rfl
    · refine j_iload_n 19 3 dX6_film_18 rfl rfl rfl ?_
      refine j_iconst (v := 0) 20 dX6_film_19 rfl ic_0 ?_
      refine j_bipush (v := 10) 22 dX6_film_20 rfl bc_10 ?_
      refine j_callS_i (As := [.int a3, .int 0, .int 10]) (st := []) 25 (okX6_between G x a3 0 10) kc_X6_between kl_X6_137 ks_X6_between ⟨rfl, rfl, Nat.le_of_ble_eq_true rfl, Nat.le_of_ble_eq_true rfl⟩ (Nat.le_of_ble_eq_true rfl) ⟨Nat.le_of_ble_eq_true rfl, Nat.le_of_ble_eq_true rfl⟩ rfl dX6_film_22 rfl rfl ?_
      intro v4
      refine j_if_ne 31 28 dX6_film_25 (by decide) rfl ?_ ?_
      · refine j_aload_n 32 0 dX6_film_31 rfl rfl rfl ?_
        refine j_gR 35 kf_X6_18 dX6_film_32 rfl ?_
        intro v5
        refine j_aload_n 36 0 dX6_film_35 rfl rfl rfl ?_
        refine j_gR 39 kf_X6_12 dX6_film_36 rfl ?_
        intro v6
        refine j_callV_v (ci := 0) (As := [.ref v6]) (st := []) 42 (okX0_become G x v5 v6) kc_X0_become kl_X6_197 ki_X0_become kv_X0_become kh_X0 (by decide) (fun _ h => rvX0_become h) ⟨rfl, rfl, Nat.le_of_ble_eq_true rfl, Nat.le_of_ble_eq_true rfl⟩ (Nat.le_of_ble_eq_true rfl) ⟨Nat.le_of_ble_eq_true rfl, Nat.le_of_ble_eq_true rfl⟩ rfl dX6_film_39 rfl rfl ?_
        intro q7
        refine j_iconst (v := 0) 43 dX6_film_42 rfl ic_0 ?_
        refine j_istore 45 [(4, .int 0), (0, .ref a0), (1, .int a1), (2, .int a2), (3, .int a3)] dX6_film_43 rfl (by decide) rfl ?_
        refine j_sub [1, 2, 3, 4, 0] rfl ?_
        exact okX6_film_L45 G fu a0 a1 a2 a3 0 q7
      · refine j_bipush (v := -2) 30 dX6_film_28 rfl bc_m2 ?_
        exact j_iret dX6_film_30 rfl
-- X6_remainder: ('BarSteps', 'remainder', '(JJ)J')
def X6_remainder (a0 : Int64) (a1 : Int64) : Option (Int64) := (if a1 = 0 then some 0 else
  (o_lrem a0 a1).bind fun v1 =>
  some v1)
theorem okX6_remainder (G : JG) (x : Hs) (a0 : Int64) (a1 : Int64) : ∀ r, X6_remainder a0 a1 = some r → JC G yX6_remainder cX6_remainder 4 (some .long) (jR 1 0 0) 0 0 [.long a0, .long a1] x ((some (.long r), x)) := by
  refine jc_of (own := RX6) (E := (fun r : Int64 => ((some (.long r), x) : JR))) (by decide) rfl rfl (Nat.le_of_ble_eq_true rfl) rfl ?_
  unfold X6_remainder
  refine j_lload_n 1 1 dX6_remainder_0 rfl rfl rfl ?_
  refine j_lconst (v := 0) 2 dX6_remainder_1 rfl lc_0 ?_
  refine j_lcmp_ne 3 10 6 dX6_remainder_2 rfl dX6_remainder_3 (by decide) rfl ?_ ?_
  · refine j_lload_n 11 0 dX6_remainder_10 rfl rfl rfl ?_
    refine j_lload_n 12 1 dX6_remainder_11 rfl rfl rfl ?_
    refine j_lrem 13 dX6_remainder_12 rfl ?_
    intro v1
    exact j_lret dX6_remainder_13 rfl
  · refine j_lconst (v := 0) 7 dX6_remainder_6 rfl lc_0 ?_
    refine j_goto 13 dX6_remainder_7 (by decide) ?_
    exact j_lret dX6_remainder_13 rfl
-- X6_drawn: ('BarSteps', 'drawn', '(II)J')
def X6_drawn_L40 : Nat → Nat → Int32 → Int32 → Int32 → Hs → Option (Int64 × Hs)
  | 0, _, _, _, _, _ => none
  | n + 1, l0, l2, l3, l4, x => (if l2 ≤ l4 then (gR x 5 l0 1).bind fun v7 =>
  (X0_greatest v7 x).bind fun v8 =>
  (gR x 5 l0 1).bind fun v9 =>
  (gL x 0 v9 9).bind fun v10 =>
  (X6_wholePart v8 v10).bind fun v11 =>
  some (v11, x) else
  (gR x 5 l0 1).bind fun v12 =>
  (gR x 5 l0 0).bind fun v13 =>
  (gI x 0 v13 0).bind fun v14 =>
  (X6_remainder (Int32.toInt64 ((Int32.toUInt32 ((l3 * 1103515245) + 12345) >>> (Int32.toUInt32 9 &&& Int32.toUInt32 31)).toInt32)) (Int32.toInt64 v14)).bind fun v15 =>
  (o_irem ((Int32.toUInt32 ((l3 * 1103515245) + 12345) >>> (Int32.toUInt32 20 &&& Int32.toUInt32 31)).toInt32) 10).bind fun v16 =>
  (X0_warm v12 (Int64.toInt32 v15) v16 x).bind fun q17 =>
  (gR q17 5 l0 1).bind fun v18 =>
  (X0_advance v18 q17).bind fun q19 =>
  (if q19.1 = (-2) then X6_drawn_L40 n l0 l2 ((l3 * 1103515245) + 12345) (l4 + 1) q19.2 else
  some ((-9223372036854775808), q19.2)))
theorem okX6_drawn_L40 (G : JG) : ∀ (n : Nat), ∀ (l0 : Nat) (l2 : Int32) (l3 : Int32) (l4 : Int32) (x : Hs), JM G RX6 cX6_drawn 5 (jZ G (some .long) "drawn" (jR 6 0 0) 0 0) (fun r : Int64 × Hs => ((some (.long r.1), r.2) : JR)) 40 [(0, .ref l0), (2, .int l2), (3, .int l3), (4, .int l4)] [] x 0 0 (X6_drawn_L40 n l0 l2 l3 l4 x) := by
  intro n
  induction n with
  | zero => intro l0 l2 l3 l4 x; exact j_none
  | succ n ih =>
    intro l0 l2 l3 l4 x
    unfold X6_drawn_L40
    refine j_iload 42 3 dX6_drawn_40 rfl rfl ?_
    refine j_iload_n 43 1 dX6_drawn_42 rfl rfl rfl ?_
    refine j_icmp_ge 109 46 dX6_drawn_43 (by decide) rfl ?_ ?_
    · refine j_aload_n 110 0 dX6_drawn_109 rfl rfl rfl ?_
      refine j_gR 113 kf_X6_18 dX6_drawn_110 rfl ?_
      intro v7
      refine j_callV_l (ci := 0) (As := []) (st := []) 116 (okX0_greatest G x v7) kc_X0_greatest kl_X6_204 ki_X0_greatest kv_X0_greatest kh_X0 (by decide) (fun _ h => rvX0_greatest h) ⟨rfl, rfl, Nat.le_of_ble_eq_true rfl, Nat.le_of_ble_eq_true rfl⟩ (Nat.le_of_ble_eq_true rfl) ⟨Nat.le_of_ble_eq_true rfl, Nat.le_of_ble_eq_true rfl⟩ rfl dX6_drawn_113 rfl rfl ?_
      intro v8
      refine j_aload_n 117 0 dX6_drawn_116 rfl rfl rfl ?_
      refine j_gR 120 kf_X6_18 dX6_drawn_117 rfl ?_
      intro v9
      refine j_gL 123 kf_X6_156 dX6_drawn_120 rfl ?_
      intro v10
      refine j_callS_l (As := [.long v8, .long v10]) (st := []) 126 (okX6_wholePart G x v8 v10) kc_X6_wholePart kl_X6_277 ks_X6_wholePart ⟨rfl, rfl, Nat.le_of_ble_eq_true rfl, Nat.le_of_ble_eq_true rfl⟩ (Nat.le_of_ble_eq_true rfl) ⟨Nat.le_of_ble_eq_true rfl, Nat.le_of_ble_eq_true rfl⟩ rfl dX6_drawn_123 rfl rfl ?_
      intro v11
      exact j_lret dX6_drawn_126 rfl
    · refine j_iload_n 47 2 dX6_drawn_46 rfl rfl rfl ?_
      refine j_ldcw 50 kk_X6_306 dX6_drawn_47 rfl ?_
      refine j_imul 51 dX6_drawn_50 rfl ?_
      refine j_sipush (v := 12345) 54 dX6_drawn_51 rfl sc_12345 ?_
      refine j_iadd 55 dX6_drawn_54 rfl ?_
      refine j_istore_n 56 [(3, .int ((l3 * 1103515245) + 12345)), (0, .ref l0), (2, .int l2), (4, .int l4)] dX6_drawn_55 rfl rfl (by decide) rfl ?_
      refine j_aload_n 57 1 dX6_drawn_56 rfl rfl rfl ?_
      refine j_gR 60 kf_X6_18 dX6_drawn_57 rfl ?_
      intro v12
      refine j_iload_n 61 0 dX6_drawn_60 rfl rfl rfl ?_
      refine j_bipush (v := 9) 63 dX6_drawn_61 rfl bc_9 ?_
      refine j_iushr 64 dX6_drawn_63 rfl ?_
      refine j_i2l 65 dX6_drawn_64 rfl ?_
      refine j_aload_n 66 1 dX6_drawn_65 rfl rfl rfl ?_
      refine j_gR 69 kf_X6_12 dX6_drawn_66 rfl ?_
      intro v13
      refine j_gI 72 kf_X6_70 dX6_drawn_69 rfl ?_
      intro v14
      refine j_i2l 73 dX6_drawn_72 rfl ?_
      refine j_callS_l (As := [.long (Int32.toInt64 ((Int32.toUInt32 ((l3 * 1103515245) + 12345) >>> (Int32.toUInt32 9 &&& Int32.toUInt32 31)).toInt32)), .long (Int32.toInt64 v14)]) (st := [.ref v12]) 76 (okX6_remainder G x (Int32.toInt64 ((Int32.toUInt32 ((l3 * 1103515245) + 12345) >>> (Int32.toUInt32 9 &&& Int32.toUInt32 31)).toInt32)) (Int32.toInt64 v14)) kc_X6_remainder kl_X6_307 ks_X6_remainder ⟨rfl, rfl, Nat.le_of_ble_eq_true rfl, Nat.le_of_ble_eq_true rfl⟩ (Nat.le_of_ble_eq_true rfl) ⟨Nat.le_of_ble_eq_true rfl, Nat.le_of_ble_eq_true rfl⟩ rfl dX6_drawn_73 rfl rfl ?_
      intro v15
      refine j_l2i 77 dX6_drawn_76 rfl ?_
      refine j_iload_n 78 0 dX6_drawn_77 rfl rfl rfl ?_
      refine j_bipush (v := 20) 80 dX6_drawn_78 rfl bc_20 ?_
      refine j_iushr 81 dX6_drawn_80 rfl ?_
      refine j_bipush (v := 10) 83 dX6_drawn_81 rfl bc_10 ?_
      refine j_irem 84 dX6_drawn_83 rfl ?_
      intro v16
      refine j_callV_v (ci := 0) (As := [.int (Int64.toInt32 v15), .int v16]) (st := []) 87 (okX0_warm G x v12 (Int64.toInt32 v15) v16) kc_X0_warm kl_X6_310 ki_X0_warm kv_X0_warm kh_X0 (by decide) (fun _ h => rvX0_warm h) ⟨rfl, rfl, Nat.le_of_ble_eq_true rfl, Nat.le_of_ble_eq_true rfl⟩ (Nat.le_of_ble_eq_true rfl) ⟨Nat.le_of_ble_eq_true rfl, Nat.le_of_ble_eq_true rfl⟩ rfl dX6_drawn_84 rfl rfl ?_
      intro q17
      refine j_aload_n 88 1 dX6_drawn_87 rfl rfl rfl ?_
      refine j_gR 91 kf_X6_18 dX6_drawn_88 rfl ?_
      intro v18
      refine j_callV_iw (ci := 0) (As := []) (st := []) 94 (okX0_advance G q17 v18) kc_X0_advance kl_X6_201 ki_X0_advance kv_X0_advance kh_X0 (by decide) (fun _ h => rvX0_advance h) ⟨rfl, rfl, Nat.le_of_ble_eq_true rfl, Nat.le_of_ble_eq_true rfl⟩ (Nat.le_of_ble_eq_true rfl) ⟨Nat.le_of_ble_eq_true rfl, Nat.le_of_ble_eq_true rfl⟩ rfl dX6_drawn_91 rfl rfl ?_
      intro q19
      refine j_bipush (v := -2) 96 dX6_drawn_94 rfl bc_m2 ?_
      refine j_icmp_eq 103 99 dX6_drawn_96 (by decide) rfl ?_ ?_
      · refine j_iinc 106 3 [(4, .int (l4 + 1)), (3, .int ((l3 * 1103515245) + 12345)), (0, .ref l0), (2, .int l2)] dX6_drawn_103 rfl rfl (ii_1 _) (by decide) rfl ?_
        refine j_goto 40 dX6_drawn_106 (by decide) ?_
        refine j_sub [2, 3, 1, 0] rfl ?_
        exact ih l0 l2 ((l3 * 1103515245) + 12345) (l4 + 1) q19.2
      · refine j_ldc2 102 kk_X6_150 dX6_drawn_99 rfl ?_
        exact j_lret dX6_drawn_102 rfl
def X6_drawn (a0 : Nat) (a1 : Int32) (a2 : Int32) (x : Hs) : Option (Int64 × Hs) := (vO x 5 a0).bind fun _ =>
  (X6_between a2 0 20).bind fun v1 =>
  (if v1 = 0 then some ((-9223372036854775808), x) else
  (gR x 5 a0 0).bind fun v2 =>
  (gI x 0 v2 0).bind fun v3 =>
  (if v3 = 0 then some ((-9223372036854775808), x) else
  (gR x 5 a0 1).bind fun v4 =>
  (gR x 5 a0 0).bind fun v5 =>
  (X0_become v4 v5 x).bind fun q6 =>
  X6_drawn_L40 fu a0 a2 a1 0 q6))
theorem rvX6_drawn {a0 : Nat} {a1 : Int32} {a2 : Int32} {x : Hs} {r : Int64 × Hs} (h : X6_drawn a0 a1 a2 x = some r) : ∃ fs, x.1 a0 = .inr (5, fs) := vO_bind h
theorem okX6_drawn (G : JG) (x : Hs) (a0 : Nat) (a1 : Int32) (a2 : Int32) : ∀ r, X6_drawn a0 a1 a2 x = some r → JC G yX6_drawn cX6_drawn 5 (some .long) (jR 6 0 0) 0 0 [.ref a0, .int a1, .int a2] x ((some (.long r.1), r.2)) := by
  refine jc_of (own := RX6) (E := (fun r : Int64 × Hs => ((some (.long r.1), r.2) : JR))) (by decide) rfl rfl (Nat.le_of_ble_eq_true rfl) rfl ?_
  unfold X6_drawn
  refine j_chk ?_
  refine j_iload_n 1 2 dX6_drawn_0 rfl rfl rfl ?_
  refine j_iconst (v := 0) 2 dX6_drawn_1 rfl ic_0 ?_
  refine j_bipush (v := 20) 4 dX6_drawn_2 rfl bc_20 ?_
  refine j_callS_i (As := [.int a2, .int 0, .int 20]) (st := []) 7 (okX6_between G x a2 0 20) kc_X6_between kl_X6_137 ks_X6_between ⟨rfl, rfl, Nat.le_of_ble_eq_true rfl, Nat.le_of_ble_eq_true rfl⟩ (Nat.le_of_ble_eq_true rfl) ⟨Nat.le_of_ble_eq_true rfl, Nat.le_of_ble_eq_true rfl⟩ rfl dX6_drawn_4 rfl rfl ?_
  intro v1
  refine j_if_eq 20 10 dX6_drawn_7 (by decide) rfl ?_ ?_
  · refine j_ldc2 23 kk_X6_150 dX6_drawn_20 rfl ?_
    exact j_lret dX6_drawn_23 rfl
  · refine j_aload_n 11 0 dX6_drawn_10 rfl rfl rfl ?_
    refine j_gR 14 kf_X6_12 dX6_drawn_11 rfl ?_
    intro v2
    refine j_gI 17 kf_X6_70 dX6_drawn_14 rfl ?_
    intro v3
    refine j_if_ne 24 20 dX6_drawn_17 (by decide) rfl ?_ ?_
    · refine j_aload_n 25 0 dX6_drawn_24 rfl rfl rfl ?_
      refine j_gR 28 kf_X6_18 dX6_drawn_25 rfl ?_
      intro v4
      refine j_aload_n 29 0 dX6_drawn_28 rfl rfl rfl ?_
      refine j_gR 32 kf_X6_12 dX6_drawn_29 rfl ?_
      intro v5
      refine j_callV_v (ci := 0) (As := [.ref v5]) (st := []) 35 (okX0_become G x v4 v5) kc_X0_become kl_X6_197 ki_X0_become kv_X0_become kh_X0 (by decide) (fun _ h => rvX0_become h) ⟨rfl, rfl, Nat.le_of_ble_eq_true rfl, Nat.le_of_ble_eq_true rfl⟩ (Nat.le_of_ble_eq_true rfl) ⟨Nat.le_of_ble_eq_true rfl, Nat.le_of_ble_eq_true rfl⟩ rfl dX6_drawn_32 rfl rfl ?_
      intro q6
      refine j_iload_n 36 1 dX6_drawn_35 rfl rfl rfl ?_
      refine j_istore_n 37 [(3, .int a1), (0, .ref a0), (1, .int a1), (2, .int a2)] dX6_drawn_36 rfl rfl (by decide) rfl ?_
      refine j_iconst (v := 0) 38 dX6_drawn_37 rfl ic_0 ?_
      refine j_istore 40 [(4, .int 0), (3, .int a1), (0, .ref a0), (1, .int a1), (2, .int a2)] dX6_drawn_38 rfl (by decide) rfl ?_
      refine j_sub [2, 4, 1, 0] rfl ?_
      exact okX6_drawn_L40 G fu a0 a2 a1 0 q6
    · refine j_ldc2 23 kk_X6_150 dX6_drawn_20 rfl ?_
      exact j_lret dX6_drawn_23 rfl
-- X6_isByte: ('BarSteps', 'isByte', '(I)Z')
def X6_isByte (a0 : Int32) : Option (Int32) := (X6_between a0 0 255).bind fun v1 =>
  (zb v1).bind fun v2 => some v2
theorem okX6_isByte (G : JG) (x : Hs) (a0 : Int32) : ∀ r, X6_isByte a0 = some r → JC G yX6_isByte cX6_isByte 1 (some .boolean) (jR 2 0 0) 0 0 [.int a0] x ((some (.int r), x)) := by
  refine jc_of (own := RX6) (E := (fun r : Int32 => ((some (.int r), x) : JR))) (by decide) rfl rfl (Nat.le_of_ble_eq_true rfl) rfl ?_
  unfold X6_isByte
  refine j_iload_n 1 0 dX6_isByte_0 rfl rfl rfl ?_
  refine j_iconst (v := 0) 2 dX6_isByte_1 rfl ic_0 ?_
  refine j_sipush (v := 255) 5 dX6_isByte_2 rfl sc_255 ?_
  refine j_callS_i (As := [.int a0, .int 0, .int 255]) (st := []) 8 (okX6_between G x a0 0 255) kc_X6_between kl_X6_137 ks_X6_between ⟨rfl, rfl, Nat.le_of_ble_eq_true rfl, Nat.le_of_ble_eq_true rfl⟩ (Nat.le_of_ble_eq_true rfl) ⟨Nat.le_of_ble_eq_true rfl, Nat.le_of_ble_eq_true rfl⟩ rfl dX6_isByte_5 rfl rfl ?_
  intro v1
  exact j_zret dX6_isByte_8 (fun _ => rfl)
-- X6_feed: ('BarSteps', 'feed', '(IIIIII)I')
def X6_feed_J43 (l0 : Nat) (l1 : Int32) (l2 : Int32) (l3 : Int32) (l4 : Int32) (l5 : Int32) (l6 : Int32) (s0 : Int32) (x : Hs) : Option (Int32 × Hs) := (X6_between l1 1 5).bind fun v2 =>
  (if v2 = 0 then some ((-2), x) else
  (if s0 = 0 then some ((-2), x) else
  (gR x 5 l0 5).bind fun v3 =>
  (gI x 4 v3 1).bind fun v4 =>
  (if (v4 + l1) ≤ 60 then (gR x 5 l0 5).bind fun v5 =>
  (gI x 4 v5 1).bind fun v6 =>
  (gR x 5 l0 5).bind fun v7 =>
  (X5_append v7 l2 (v6 + l1) x).bind fun q8 =>
  (gR q8 5 l0 5).bind fun v9 =>
  (X5_append v9 l3 (v6 + l1) q8).bind fun q10 =>
  (gR q10 5 l0 5).bind fun v11 =>
  (X5_append v11 l4 (v6 + l1) q10).bind fun q12 =>
  (gR q12 5 l0 5).bind fun v13 =>
  (X5_append v13 l5 (v6 + l1) q12).bind fun q14 =>
  (gR q14 5 l0 5).bind fun v15 =>
  (X5_append v15 l6 (v6 + l1) q14).bind fun q16 =>
  (gR q16 5 l0 5).bind fun v17 =>
  (gI q16 4 v17 1).bind fun v18 =>
  some (v18, q16) else
  some ((-4), x))))
theorem okX6_feed_J43 (G : JG) : ∀ (l0 : Nat) (l1 : Int32) (l2 : Int32) (l3 : Int32) (l4 : Int32) (l5 : Int32) (l6 : Int32) (s0 : Int32) (x : Hs), JM G RX6 cX6_feed 9 (jZ G (some .int) "feed" (jR 3 0 0) 0 0) (fun r : Int32 × Hs => ((some (.int r.1), r.2) : JR)) 43 [(0, .ref l0), (1, .int l1), (2, .int l2), (3, .int l3), (4, .int l4), (5, .int l5), (6, .int l6)] [.int s0] x 0 0 (X6_feed_J43 l0 l1 l2 l3 l4 l5 l6 s0 x) := by
  intro l0 l1 l2 l3 l4 l5 l6 s0 x
  unfold X6_feed_J43
  refine j_istore 45 [(7, .int s0), (0, .ref l0), (1, .int l1), (2, .int l2), (3, .int l3), (4, .int l4), (5, .int l5), (6, .int l6)] dX6_feed_43 rfl (by decide) rfl ?_
  refine j_iload_n 46 2 dX6_feed_45 rfl rfl rfl ?_
  refine j_iconst (v := 1) 47 dX6_feed_46 rfl ic_1 ?_
  refine j_iconst (v := 5) 48 dX6_feed_47 rfl ic_5 ?_
  refine j_callS_i (As := [.int l1, .int 1, .int 5]) (st := []) 51 (okX6_between G x l1 1 5) kc_X6_between kl_X6_137 ks_X6_between ⟨rfl, rfl, Nat.le_of_ble_eq_true rfl, Nat.le_of_ble_eq_true rfl⟩ (Nat.le_of_ble_eq_true rfl) ⟨Nat.le_of_ble_eq_true rfl, Nat.le_of_ble_eq_true rfl⟩ rfl dX6_feed_48 rfl rfl ?_
  intro v2
  refine j_if_eq 59 54 dX6_feed_51 (by decide) rfl ?_ ?_
  · refine j_bipush (v := -2) 61 dX6_feed_59 rfl bc_m2 ?_
    exact j_iret dX6_feed_61 rfl
  · refine j_iload 56 0 dX6_feed_54 rfl rfl ?_
    refine j_if_ne 62 59 dX6_feed_56 (by decide) rfl ?_ ?_
    · refine j_aload_n 63 1 dX6_feed_62 rfl rfl rfl ?_
      refine j_gR 66 kf_X6_41 dX6_feed_63 rfl ?_
      intro v3
      refine j_gI 69 kf_X6_316 dX6_feed_66 rfl ?_
      intro v4
      refine j_iload_n 70 2 dX6_feed_69 rfl rfl rfl ?_
      refine j_iadd 71 dX6_feed_70 rfl ?_
      refine j_bipush (v := 60) 73 dX6_feed_71 rfl bc_60 ?_
      refine j_icmp_le 79 76 dX6_feed_73 (by decide) rfl ?_ ?_
      · refine j_aload_n 80 1 dX6_feed_79 rfl rfl rfl ?_
        refine j_gR 83 kf_X6_41 dX6_feed_80 rfl ?_
        intro v5
        refine j_gI 86 kf_X6_316 dX6_feed_83 rfl ?_
        intro v6
        refine j_iload_n 87 2 dX6_feed_86 rfl rfl rfl ?_
        refine j_iadd 88 dX6_feed_87 rfl ?_
        refine j_istore 90 [(8, .int (v6 + l1)), (7, .int s0), (0, .ref l0), (1, .int l1), (2, .int l2), (3, .int l3), (4, .int l4), (5, .int l5), (6, .int l6)] dX6_feed_88 rfl (by decide) rfl ?_
        refine j_aload_n 91 2 dX6_feed_90 rfl rfl rfl ?_
        refine j_gR 94 kf_X6_41 dX6_feed_91 rfl ?_
        intro v7
        refine j_iload_n 95 4 dX6_feed_94 rfl rfl rfl ?_
        refine j_iload 97 0 dX6_feed_95 rfl rfl ?_
        refine j_callV_v (ci := 4) (As := [.int l2, .int (v6 + l1)]) (st := []) 100 (okX5_append G x v7 l2 (v6 + l1)) kc_X5_append kl_X6_317 ki_X5_append kv_X5_append kh_X5 (by decide) (fun _ h => rvX5_append h) ⟨rfl, rfl, Nat.le_of_ble_eq_true rfl, Nat.le_of_ble_eq_true rfl⟩ (Nat.le_of_ble_eq_true rfl) ⟨Nat.le_of_ble_eq_true rfl, Nat.le_of_ble_eq_true rfl⟩ rfl dX6_feed_97 rfl rfl ?_
        intro q8
        refine j_aload_n 101 2 dX6_feed_100 rfl rfl rfl ?_
        refine j_gR 104 kf_X6_41 dX6_feed_101 rfl ?_
        intro v9
        refine j_iload_n 105 5 dX6_feed_104 rfl rfl rfl ?_
        refine j_iload 107 0 dX6_feed_105 rfl rfl ?_
        refine j_callV_v (ci := 4) (As := [.int l3, .int (v6 + l1)]) (st := []) 110 (okX5_append G q8 v9 l3 (v6 + l1)) kc_X5_append kl_X6_317 ki_X5_append kv_X5_append kh_X5 (by decide) (fun _ h => rvX5_append h) ⟨rfl, rfl, Nat.le_of_ble_eq_true rfl, Nat.le_of_ble_eq_true rfl⟩ (Nat.le_of_ble_eq_true rfl) ⟨Nat.le_of_ble_eq_true rfl, Nat.le_of_ble_eq_true rfl⟩ rfl dX6_feed_107 rfl rfl ?_
        intro q10
        refine j_aload_n 111 2 dX6_feed_110 rfl rfl rfl ?_
        refine j_gR 114 kf_X6_41 dX6_feed_111 rfl ?_
        intro v11
        refine j_iload 116 6 dX6_feed_114 rfl rfl ?_
        refine j_iload 118 0 dX6_feed_116 rfl rfl ?_
        refine j_callV_v (ci := 4) (As := [.int l4, .int (v6 + l1)]) (st := []) 121 (okX5_append G q10 v11 l4 (v6 + l1)) kc_X5_append kl_X6_317 ki_X5_append kv_X5_append kh_X5 (by decide) (fun _ h => rvX5_append h) ⟨rfl, rfl, Nat.le_of_ble_eq_true rfl, Nat.le_of_ble_eq_true rfl⟩ (Nat.le_of_ble_eq_true rfl) ⟨Nat.le_of_ble_eq_true rfl, Nat.le_of_ble_eq_true rfl⟩ rfl dX6_feed_118 rfl rfl ?_
        intro q12
        refine j_aload_n 122 2 dX6_feed_121 rfl rfl rfl ?_
        refine j_gR 125 kf_X6_41 dX6_feed_122 rfl ?_
        intro v13
        refine j_iload 127 7 dX6_feed_125 rfl rfl ?_
        refine j_iload 129 0 dX6_feed_127 rfl rfl ?_
        refine j_callV_v (ci := 4) (As := [.int l5, .int (v6 + l1)]) (st := []) 132 (okX5_append G q12 v13 l5 (v6 + l1)) kc_X5_append kl_X6_317 ki_X5_append kv_X5_append kh_X5 (by decide) (fun _ h => rvX5_append h) ⟨rfl, rfl, Nat.le_of_ble_eq_true rfl, Nat.le_of_ble_eq_true rfl⟩ (Nat.le_of_ble_eq_true rfl) ⟨Nat.le_of_ble_eq_true rfl, Nat.le_of_ble_eq_true rfl⟩ rfl dX6_feed_129 rfl rfl ?_
        intro q14
        refine j_aload_n 133 2 dX6_feed_132 rfl rfl rfl ?_
        refine j_gR 136 kf_X6_41 dX6_feed_133 rfl ?_
        intro v15
        refine j_iload 138 8 dX6_feed_136 rfl rfl ?_
        refine j_iload 140 0 dX6_feed_138 rfl rfl ?_
        refine j_callV_v (ci := 4) (As := [.int l6, .int (v6 + l1)]) (st := []) 143 (okX5_append G q14 v15 l6 (v6 + l1)) kc_X5_append kl_X6_317 ki_X5_append kv_X5_append kh_X5 (by decide) (fun _ h => rvX5_append h) ⟨rfl, rfl, Nat.le_of_ble_eq_true rfl, Nat.le_of_ble_eq_true rfl⟩ (Nat.le_of_ble_eq_true rfl) ⟨Nat.le_of_ble_eq_true rfl, Nat.le_of_ble_eq_true rfl⟩ rfl dX6_feed_140 rfl rfl ?_
        intro q16
        refine j_aload_n 144 2 dX6_feed_143 rfl rfl rfl ?_
        refine j_gR 147 kf_X6_41 dX6_feed_144 rfl ?_
        intro v17
        refine j_gI 150 kf_X6_316 dX6_feed_147 rfl ?_
        intro v18
        exact j_iret dX6_feed_150 rfl
      · refine j_bipush (v := -4) 78 dX6_feed_76 rfl bc_m4 ?_
        exact j_iret dX6_feed_78 rfl
    · refine j_bipush (v := -2) 61 dX6_feed_59 rfl bc_m2 ?_
      exact j_iret dX6_feed_61 rfl
def X6_feed (a0 : Nat) (a1 : Int32) (a2 : Int32) (a3 : Int32) (a4 : Int32) (a5 : Int32) (a6 : Int32) (x : Hs) : Option (Int32 × Hs) := (vO x 5 a0).bind fun _ =>
  (X6_isByte a2).bind fun v1 =>
  (if v1 = 0 then X6_feed_J43 a0 a1 a2 a3 a4 a5 a6 0 x else
  (X6_isByte a3).bind fun v19 =>
  (if v19 = 0 then X6_feed_J43 a0 a1 a2 a3 a4 a5 a6 0 x else
  (X6_isByte a4).bind fun v20 =>
  (if v20 = 0 then X6_feed_J43 a0 a1 a2 a3 a4 a5 a6 0 x else
  (X6_isByte a5).bind fun v21 =>
  (if v21 = 0 then X6_feed_J43 a0 a1 a2 a3 a4 a5 a6 0 x else
  (X6_isByte a6).bind fun v22 =>
  (if v22 = 0 then X6_feed_J43 a0 a1 a2 a3 a4 a5 a6 0 x else
  X6_feed_J43 a0 a1 a2 a3 a4 a5 a6 1 x)))))
theorem rvX6_feed {a0 : Nat} {a1 : Int32} {a2 : Int32} {a3 : Int32} {a4 : Int32} {a5 : Int32} {a6 : Int32} {x : Hs} {r : Int32 × Hs} (h : X6_feed a0 a1 a2 a3 a4 a5 a6 x = some r) : ∃ fs, x.1 a0 = .inr (5, fs) := vO_bind h
theorem okX6_feed (G : JG) (x : Hs) (a0 : Nat) (a1 : Int32) (a2 : Int32) (a3 : Int32) (a4 : Int32) (a5 : Int32) (a6 : Int32) : ∀ r, X6_feed a0 a1 a2 a3 a4 a5 a6 x = some r → JC G yX6_feed cX6_feed 9 (some .int) (jR 3 0 0) 0 0 [.ref a0, .int a1, .int a2, .int a3, .int a4, .int a5, .int a6] x ((some (.int r.1), r.2)) := by
  refine jc_of (own := RX6) (E := (fun r : Int32 × Hs => ((some (.int r.1), r.2) : JR))) (by decide) rfl rfl (Nat.le_of_ble_eq_true rfl) rfl ?_
  unfold X6_feed
  refine j_chk ?_
  refine j_iload_n 1 2 dX6_feed_0 rfl rfl rfl ?_
  refine j_callS_i (As := [.int a2]) (st := []) 4 (okX6_isByte G x a2) kc_X6_isByte kl_X6_313 ks_X6_isByte ⟨rfl, rfl, Nat.le_of_ble_eq_true rfl, Nat.le_of_ble_eq_true rfl⟩ (Nat.le_of_ble_eq_true rfl) ⟨Nat.le_of_ble_eq_true rfl, Nat.le_of_ble_eq_true rfl⟩ rfl dX6_feed_1 rfl rfl ?_
  intro v1
  refine j_if_eq 42 7 dX6_feed_4 (by decide) rfl ?_ ?_
  · refine j_iconst (v := 0) 43 dX6_feed_42 rfl ic_0 ?_
    exact okX6_feed_J43 G a0 a1 a2 a3 a4 a5 a6 0 x
  · refine j_iload_n 8 3 dX6_feed_7 rfl rfl rfl ?_
    refine j_callS_i (As := [.int a3]) (st := []) 11 (okX6_isByte G x a3) kc_X6_isByte kl_X6_313 ks_X6_isByte ⟨rfl, rfl, Nat.le_of_ble_eq_true rfl, Nat.le_of_ble_eq_true rfl⟩ (Nat.le_of_ble_eq_true rfl) ⟨Nat.le_of_ble_eq_true rfl, Nat.le_of_ble_eq_true rfl⟩ rfl dX6_feed_8 rfl rfl ?_
    intro v19
    refine j_if_eq 42 14 dX6_feed_11 (by decide) rfl ?_ ?_
    · refine j_iconst (v := 0) 43 dX6_feed_42 rfl ic_0 ?_
      exact okX6_feed_J43 G a0 a1 a2 a3 a4 a5 a6 0 x
    · refine j_iload 16 4 dX6_feed_14 rfl rfl ?_
      refine j_callS_i (As := [.int a4]) (st := []) 19 (okX6_isByte G x a4) kc_X6_isByte kl_X6_313 ks_X6_isByte ⟨rfl, rfl, Nat.le_of_ble_eq_true rfl, Nat.le_of_ble_eq_true rfl⟩ (Nat.le_of_ble_eq_true rfl) ⟨Nat.le_of_ble_eq_true rfl, Nat.le_of_ble_eq_true rfl⟩ rfl dX6_feed_16 rfl rfl ?_
      intro v20
      refine j_if_eq 42 22 dX6_feed_19 (by decide) rfl ?_ ?_
      · refine j_iconst (v := 0) 43 dX6_feed_42 rfl ic_0 ?_
        exact okX6_feed_J43 G a0 a1 a2 a3 a4 a5 a6 0 x
      · refine j_iload 24 5 dX6_feed_22 rfl rfl ?_
        refine j_callS_i (As := [.int a5]) (st := []) 27 (okX6_isByte G x a5) kc_X6_isByte kl_X6_313 ks_X6_isByte ⟨rfl, rfl, Nat.le_of_ble_eq_true rfl, Nat.le_of_ble_eq_true rfl⟩ (Nat.le_of_ble_eq_true rfl) ⟨Nat.le_of_ble_eq_true rfl, Nat.le_of_ble_eq_true rfl⟩ rfl dX6_feed_24 rfl rfl ?_
        intro v21
        refine j_if_eq 42 30 dX6_feed_27 (by decide) rfl ?_ ?_
        · refine j_iconst (v := 0) 43 dX6_feed_42 rfl ic_0 ?_
          exact okX6_feed_J43 G a0 a1 a2 a3 a4 a5 a6 0 x
        · refine j_iload 32 6 dX6_feed_30 rfl rfl ?_
          refine j_callS_i (As := [.int a6]) (st := []) 35 (okX6_isByte G x a6) kc_X6_isByte kl_X6_313 ks_X6_isByte ⟨rfl, rfl, Nat.le_of_ble_eq_true rfl, Nat.le_of_ble_eq_true rfl⟩ (Nat.le_of_ble_eq_true rfl) ⟨Nat.le_of_ble_eq_true rfl, Nat.le_of_ble_eq_true rfl⟩ rfl dX6_feed_32 rfl rfl ?_
          intro v22
          refine j_if_eq 42 38 dX6_feed_35 (by decide) rfl ?_ ?_
          · refine j_iconst (v := 0) 43 dX6_feed_42 rfl ic_0 ?_
            exact okX6_feed_J43 G a0 a1 a2 a3 a4 a5 a6 0 x
          · refine j_iconst (v := 1) 39 dX6_feed_38 rfl ic_1 ?_
            refine j_goto 43 dX6_feed_39 (by decide) ?_
            exact okX6_feed_J43 G a0 a1 a2 a3 a4 a5 a6 1 x
-- X6_isClauseDone: ('BarSteps', 'isClauseDone', '(I)Z')
def X6_isClauseDone (a0 : Nat) (a1 : Int32) (x : Hs) : Option (Int32 × Hs) := (vO x 5 a0).bind fun _ =>
  (gR x 5 a0 5).bind fun v1 =>
  (X5_planAt v1 (a1 + 1) x).bind fun v2 =>
  (gR x 5 a0 5).bind fun v3 =>
  (X5_planAt v3 (a1 + 2) x).bind fun v4 =>
  (gR x 5 a0 5).bind fun v5 =>
  (X5_planAt v5 (a1 + 3) x).bind fun v6 =>
  (gR x 5 a0 5).bind fun v7 =>
  (X5_planAt v7 a1 x).bind fun v8 =>
  (if v8 = 0 then (gR x 5 a0 5).bind fun v9 =>
  (X5_planAt v9 (a1 + 4) x).bind fun v10 =>
  (X6_cell a0 v2 v4 v6 v10 x).bind fun q11 =>
  (if q11.1 < 0 then (zb 0).bind fun v12 => some (v12, q11.2) else
  (zb 1).bind fun v13 => some (v13, q11.2)) else
  (if v8 = 1 then (X6_heat a0 v2 v4 x).bind fun q15 =>
  (if q15.1 = 1 then (zb 1).bind fun v17 => some (v17, q15.2) else
  (zb 0).bind fun v16 => some (v16, q15.2)) else
  (if v8 = 2 then (X6_set a0 v2 3 v4 x).bind fun q19 =>
  (if q19.1 = (-1000) then (zb 0).bind fun v20 => some (v20, q19.2) else
  (zb 1).bind fun v21 => some (v21, q19.2)) else
  (if v8 = 3 then (X6_end a0 0 v2 x).bind fun q23 =>
  (if q23.1 = (-1000) then (zb 0).bind fun v24 => some (v24, q23.2) else
  (zb 1).bind fun v25 => some (v25, q23.2)) else
  (if v8 = 4 then (X6_end a0 1 v2 x).bind fun q27 =>
  (if q27.1 = (-1000) then (zb 0).bind fun v28 => some (v28, q27.2) else
  (zb 1).bind fun v29 => some (v29, q27.2)) else
  (if v8 = 5 then (X6_rule a0 0 v2 x).bind fun q31 =>
  (if q31.1 = (-1000) then (zb 0).bind fun v32 => some (v32, q31.2) else
  (zb 1).bind fun v33 => some (v33, q31.2)) else
  (if v8 = 6 then (X6_pulse a0 v2 v4 v6 x).bind fun q35 =>
  (if q35.1 < 0 then (zb 0).bind fun v36 => some (v36, q35.2) else
  (zb 1).bind fun v37 => some (v37, q35.2)) else
  (if v8 = 7 then (X6_drop a0 x).bind fun q39 =>
  (if q39.1 < 0 then (zb 0).bind fun v40 => some (v40, q39.2) else
  (zb 1).bind fun v41 => some (v41, q39.2)) else
  (zb 0).bind fun v43 => some (v43, x)))))))))
theorem rvX6_isClauseDone {a0 : Nat} {a1 : Int32} {x : Hs} {r : Int32 × Hs} (h : X6_isClauseDone a0 a1 x = some r) : ∃ fs, x.1 a0 = .inr (5, fs) := vO_bind h
theorem okX6_isClauseDone (G : JG) (x : Hs) (a0 : Nat) (a1 : Int32) : ∀ r, X6_isClauseDone a0 a1 x = some r → JC G yX6_isClauseDone cX6_isClauseDone 5 (some .boolean) (jR 6 0 0) 0 0 [.ref a0, .int a1] x ((some (.int r.1), r.2)) := by
  refine jc_of (own := RX6) (E := (fun r : Int32 × Hs => ((some (.int r.1), r.2) : JR))) (by decide) rfl rfl (Nat.le_of_ble_eq_true rfl) rfl ?_
  unfold X6_isClauseDone
  refine j_chk ?_
  refine j_aload_n 1 0 dX6_isClauseDone_0 rfl rfl rfl ?_
  refine j_gR 4 kf_X6_41 dX6_isClauseDone_1 rfl ?_
  intro v1
  refine j_iload_n 5 1 dX6_isClauseDone_4 rfl rfl rfl ?_
  refine j_iconst (v := 1) 6 dX6_isClauseDone_5 rfl ic_1 ?_
  refine j_iadd 7 dX6_isClauseDone_6 rfl ?_
  refine j_callV_i (ci := 4) (As := [.int (a1 + 1)]) (st := []) 10 (okX5_planAt G x v1 (a1 + 1)) kc_X5_planAt kl_X6_331 ki_X5_planAt kv_X5_planAt kh_X5 (by decide) (fun _ h => rvX5_planAt h) ⟨rfl, rfl, Nat.le_of_ble_eq_true rfl, Nat.le_of_ble_eq_true rfl⟩ (Nat.le_of_ble_eq_true rfl) ⟨Nat.le_of_ble_eq_true rfl, Nat.le_of_ble_eq_true rfl⟩ rfl dX6_isClauseDone_7 rfl rfl ?_
  intro v2
  refine j_istore_n 11 [(2, .int v2), (0, .ref a0), (1, .int a1)] dX6_isClauseDone_10 rfl rfl (by decide) rfl ?_
  refine j_aload_n 12 1 dX6_isClauseDone_11 rfl rfl rfl ?_
  refine j_gR 15 kf_X6_41 dX6_isClauseDone_12 rfl ?_
  intro v3
  refine j_iload_n 16 2 dX6_isClauseDone_15 rfl rfl rfl ?_
  refine j_iconst (v := 2) 17 dX6_isClauseDone_16 rfl ic_2 ?_
  refine j_iadd 18 dX6_isClauseDone_17 rfl ?_
  refine j_callV_i (ci := 4) (As := [.int (a1 + 2)]) (st := []) 21 (okX5_planAt G x v3 (a1 + 2)) kc_X5_planAt kl_X6_331 ki_X5_planAt kv_X5_planAt kh_X5 (by decide) (fun _ h => rvX5_planAt h) ⟨rfl, rfl, Nat.le_of_ble_eq_true rfl, Nat.le_of_ble_eq_true rfl⟩ (Nat.le_of_ble_eq_true rfl) ⟨Nat.le_of_ble_eq_true rfl, Nat.le_of_ble_eq_true rfl⟩ rfl dX6_isClauseDone_18 rfl rfl ?_
  intro v4
  refine j_istore_n 22 [(3, .int v4), (2, .int v2), (0, .ref a0), (1, .int a1)] dX6_isClauseDone_21 rfl rfl (by decide) rfl ?_
  refine j_aload_n 23 2 dX6_isClauseDone_22 rfl rfl rfl ?_
  refine j_gR 26 kf_X6_41 dX6_isClauseDone_23 rfl ?_
  intro v5
  refine j_iload_n 27 3 dX6_isClauseDone_26 rfl rfl rfl ?_
  refine j_iconst (v := 3) 28 dX6_isClauseDone_27 rfl ic_3 ?_
  refine j_iadd 29 dX6_isClauseDone_28 rfl ?_
  refine j_callV_i (ci := 4) (As := [.int (a1 + 3)]) (st := []) 32 (okX5_planAt G x v5 (a1 + 3)) kc_X5_planAt kl_X6_331 ki_X5_planAt kv_X5_planAt kh_X5 (by decide) (fun _ h => rvX5_planAt h) ⟨rfl, rfl, Nat.le_of_ble_eq_true rfl, Nat.le_of_ble_eq_true rfl⟩ (Nat.le_of_ble_eq_true rfl) ⟨Nat.le_of_ble_eq_true rfl, Nat.le_of_ble_eq_true rfl⟩ rfl dX6_isClauseDone_29 rfl rfl ?_
  intro v6
  refine j_istore 34 [(4, .int v6), (3, .int v4), (2, .int v2), (0, .ref a0), (1, .int a1)] dX6_isClauseDone_32 rfl (by decide) rfl ?_
  refine j_aload_n 35 3 dX6_isClauseDone_34 rfl rfl rfl ?_
  refine j_gR 38 kf_X6_41 dX6_isClauseDone_35 rfl ?_
  intro v7
  refine j_iload_n 39 4 dX6_isClauseDone_38 rfl rfl rfl ?_
  refine j_callV_i (ci := 4) (As := [.int a1]) (st := []) 42 (okX5_planAt G x v7 a1) kc_X5_planAt kl_X6_331 ki_X5_planAt kv_X5_planAt kh_X5 (by decide) (fun _ h => rvX5_planAt h) ⟨rfl, rfl, Nat.le_of_ble_eq_true rfl, Nat.le_of_ble_eq_true rfl⟩ (Nat.le_of_ble_eq_true rfl) ⟨Nat.le_of_ble_eq_true rfl, Nat.le_of_ble_eq_true rfl⟩ rfl dX6_isClauseDone_39 rfl rfl ?_
  intro v8
  refine j_ite (fun h14 => ?_) (fun h14 => ?_)
  · refine j_tinE (w := 0) 88 dX6_isClauseDone_42 h14 (by decide) (by decide) rfl (by decide) ?_
    refine j_aload_n 89 3 dX6_isClauseDone_88 rfl rfl rfl ?_
    refine j_iload_n 90 2 dX6_isClauseDone_89 rfl rfl rfl ?_
    refine j_iload_n 91 1 dX6_isClauseDone_90 rfl rfl rfl ?_
    refine j_iload 93 0 dX6_isClauseDone_91 rfl rfl ?_
    refine j_aload_n 94 3 dX6_isClauseDone_93 rfl rfl rfl ?_
    refine j_gR 97 kf_X6_41 dX6_isClauseDone_94 rfl ?_
    intro v9
    refine j_iload_n 98 4 dX6_isClauseDone_97 rfl rfl rfl ?_
    refine j_iconst (v := 4) 99 dX6_isClauseDone_98 rfl ic_4 ?_
    refine j_iadd 100 dX6_isClauseDone_99 rfl ?_
    refine j_callV_i (ci := 4) (As := [.int (a1 + 4)]) (st := [.int v6, .int v4, .int v2, .ref a0]) 103 (okX5_planAt G x v9 (a1 + 4)) kc_X5_planAt kl_X6_331 ki_X5_planAt kv_X5_planAt kh_X5 (by decide) (fun _ h => rvX5_planAt h) ⟨rfl, rfl, Nat.le_of_ble_eq_true rfl, Nat.le_of_ble_eq_true rfl⟩ (Nat.le_of_ble_eq_true rfl) ⟨Nat.le_of_ble_eq_true rfl, Nat.le_of_ble_eq_true rfl⟩ rfl dX6_isClauseDone_100 rfl rfl ?_
    intro v10
    refine j_callV_iw (ci := 5) (As := [.int v2, .int v4, .int v6, .int v10]) (st := []) 106 (okX6_cell G x a0 v2 v4 v6 v10) kc_X6_cell kl_X6_337 ki_X6_cell kv_X6_cell kh_X6 (by decide) (fun _ h => rvX6_cell h) ⟨rfl, rfl, Nat.le_of_ble_eq_true rfl, Nat.le_of_ble_eq_true rfl⟩ (Nat.le_of_ble_eq_true rfl) ⟨Nat.le_of_ble_eq_true rfl, Nat.le_of_ble_eq_true rfl⟩ rfl dX6_isClauseDone_103 rfl rfl ?_
    intro q11
    refine j_if_lt 113 109 dX6_isClauseDone_106 (by decide) rfl ?_ ?_
    · refine j_iconst (v := 0) 114 dX6_isClauseDone_113 rfl ic_0 ?_
      exact j_zret dX6_isClauseDone_114 (fun _ => rfl)
    · refine j_iconst (v := 1) 110 dX6_isClauseDone_109 rfl ic_1 ?_
      refine j_goto 114 dX6_isClauseDone_110 (by decide) ?_
      exact j_zret dX6_isClauseDone_114 (fun _ => rfl)
  refine j_ite (fun h18 => ?_) (fun h18 => ?_)
  · refine j_tinE (w := 1) 115 dX6_isClauseDone_42 h18 (by decide) (by decide) rfl (by decide) ?_
    refine j_aload_n 116 3 dX6_isClauseDone_115 rfl rfl rfl ?_
    refine j_iload_n 117 2 dX6_isClauseDone_116 rfl rfl rfl ?_
    refine j_iload_n 118 1 dX6_isClauseDone_117 rfl rfl rfl ?_
    refine j_callV_iw (ci := 5) (As := [.int v2, .int v4]) (st := []) 121 (okX6_heat G x a0 v2 v4) kc_X6_heat kl_X6_339 ki_X6_heat kv_X6_heat kh_X6 (by decide) (fun _ h => rvX6_heat h) ⟨rfl, rfl, Nat.le_of_ble_eq_true rfl, Nat.le_of_ble_eq_true rfl⟩ (Nat.le_of_ble_eq_true rfl) ⟨Nat.le_of_ble_eq_true rfl, Nat.le_of_ble_eq_true rfl⟩ rfl dX6_isClauseDone_118 rfl rfl ?_
    intro q15
    refine j_iconst (v := 1) 122 dX6_isClauseDone_121 rfl ic_1 ?_
    refine j_icmp_ne 129 125 dX6_isClauseDone_122 (by decide) rfl ?_ ?_
    · refine j_iconst (v := 0) 130 dX6_isClauseDone_129 rfl ic_0 ?_
      exact j_zret dX6_isClauseDone_130 (fun _ => rfl)
    · refine j_iconst (v := 1) 126 dX6_isClauseDone_125 rfl ic_1 ?_
      refine j_goto 130 dX6_isClauseDone_126 (by decide) ?_
      exact j_zret dX6_isClauseDone_130 (fun _ => rfl)
  refine j_ite (fun h22 => ?_) (fun h22 => ?_)
  · refine j_tinE (w := 2) 131 dX6_isClauseDone_42 h22 (by decide) (by decide) rfl (by decide) ?_
    refine j_aload_n 132 3 dX6_isClauseDone_131 rfl rfl rfl ?_
    refine j_iload_n 133 2 dX6_isClauseDone_132 rfl rfl rfl ?_
    refine j_iconst (v := 3) 134 dX6_isClauseDone_133 rfl ic_3 ?_
    refine j_iload_n 135 1 dX6_isClauseDone_134 rfl rfl rfl ?_
    refine j_callV_iw (ci := 5) (As := [.int v2, .int 3, .int v4]) (st := []) 138 (okX6_set G x a0 v2 3 v4) kc_X6_set kl_X6_341 ki_X6_set kv_X6_set kh_X6 (by decide) (fun _ h => rvX6_set h) ⟨rfl, rfl, Nat.le_of_ble_eq_true rfl, Nat.le_of_ble_eq_true rfl⟩ (Nat.le_of_ble_eq_true rfl) ⟨Nat.le_of_ble_eq_true rfl, Nat.le_of_ble_eq_true rfl⟩ rfl dX6_isClauseDone_135 rfl rfl ?_
    intro q19
    refine j_sipush (v := -1000) 141 dX6_isClauseDone_138 rfl sc_m1000 ?_
    refine j_icmp_eq 148 144 dX6_isClauseDone_141 (by decide) rfl ?_ ?_
    · refine j_iconst (v := 0) 149 dX6_isClauseDone_148 rfl ic_0 ?_
      exact j_zret dX6_isClauseDone_149 (fun _ => rfl)
    · refine j_iconst (v := 1) 145 dX6_isClauseDone_144 rfl ic_1 ?_
      refine j_goto 149 dX6_isClauseDone_145 (by decide) ?_
      exact j_zret dX6_isClauseDone_149 (fun _ => rfl)
  refine j_ite (fun h26 => ?_) (fun h26 => ?_)
  · refine j_tinE (w := 3) 150 dX6_isClauseDone_42 h26 (by decide) (by decide) rfl (by decide) ?_
    refine j_aload_n 151 3 dX6_isClauseDone_150 rfl rfl rfl ?_
    refine j_iconst (v := 0) 152 dX6_isClauseDone_151 rfl ic_0 ?_
    refine j_iload_n 153 2 dX6_isClauseDone_152 rfl rfl rfl ?_
    refine j_callV_iw (ci := 5) (As := [.int 0, .int v2]) (st := []) 156 (okX6_end G x a0 0 v2) kc_X6_end kl_X6_344 ki_X6_end kv_X6_end kh_X6 (by decide) (fun _ h => rvX6_end h) ⟨rfl, rfl, Nat.le_of_ble_eq_true rfl, Nat.le_of_ble_eq_true rfl⟩ (Nat.le_of_ble_eq_true rfl) ⟨Nat.le_of_ble_eq_true rfl, Nat.le_of_ble_eq_true rfl⟩ rfl dX6_isClauseDone_153 rfl rfl ?_
    intro q23
    refine j_sipush (v := -1000) 159 dX6_isClauseDone_156 rfl sc_m1000 ?_
    refine j_icmp_eq 166 162 dX6_isClauseDone_159 (by decide) rfl ?_ ?_
    · refine j_iconst (v := 0) 167 dX6_isClauseDone_166 rfl ic_0 ?_
      exact j_zret dX6_isClauseDone_167 (fun _ => rfl)
    · refine j_iconst (v := 1) 163 dX6_isClauseDone_162 rfl ic_1 ?_
      refine j_goto 167 dX6_isClauseDone_163 (by decide) ?_
      exact j_zret dX6_isClauseDone_167 (fun _ => rfl)
  refine j_ite (fun h30 => ?_) (fun h30 => ?_)
  · refine j_tinE (w := 4) 168 dX6_isClauseDone_42 h30 (by decide) (by decide) rfl (by decide) ?_
    refine j_aload_n 169 3 dX6_isClauseDone_168 rfl rfl rfl ?_
    refine j_iconst (v := 1) 170 dX6_isClauseDone_169 rfl ic_1 ?_
    refine j_iload_n 171 2 dX6_isClauseDone_170 rfl rfl rfl ?_
    refine j_callV_iw (ci := 5) (As := [.int 1, .int v2]) (st := []) 174 (okX6_end G x a0 1 v2) kc_X6_end kl_X6_344 ki_X6_end kv_X6_end kh_X6 (by decide) (fun _ h => rvX6_end h) ⟨rfl, rfl, Nat.le_of_ble_eq_true rfl, Nat.le_of_ble_eq_true rfl⟩ (Nat.le_of_ble_eq_true rfl) ⟨Nat.le_of_ble_eq_true rfl, Nat.le_of_ble_eq_true rfl⟩ rfl dX6_isClauseDone_171 rfl rfl ?_
    intro q27
    refine j_sipush (v := -1000) 177 dX6_isClauseDone_174 rfl sc_m1000 ?_
    refine j_icmp_eq 184 180 dX6_isClauseDone_177 (by decide) rfl ?_ ?_
    · refine j_iconst (v := 0) 185 dX6_isClauseDone_184 rfl ic_0 ?_
      exact j_zret dX6_isClauseDone_185 (fun _ => rfl)
    · refine j_iconst (v := 1) 181 dX6_isClauseDone_180 rfl ic_1 ?_
      refine j_goto 185 dX6_isClauseDone_181 (by decide) ?_
      exact j_zret dX6_isClauseDone_185 (fun _ => rfl)
  refine j_ite (fun h34 => ?_) (fun h34 => ?_)
  · refine j_tinE (w := 5) 186 dX6_isClauseDone_42 h34 (by decide) (by decide) rfl (by decide) ?_
    refine j_aload_n 187 3 dX6_isClauseDone_186 rfl rfl rfl ?_
    refine j_iconst (v := 0) 188 dX6_isClauseDone_187 rfl ic_0 ?_
    refine j_iload_n 189 2 dX6_isClauseDone_188 rfl rfl rfl ?_
    refine j_callV_iw (ci := 5) (As := [.int 0, .int v2]) (st := []) 192 (okX6_rule G x a0 0 v2) kc_X6_rule kl_X6_347 ki_X6_rule kv_X6_rule kh_X6 (by decide) (fun _ h => rvX6_rule h) ⟨rfl, rfl, Nat.le_of_ble_eq_true rfl, Nat.le_of_ble_eq_true rfl⟩ (Nat.le_of_ble_eq_true rfl) ⟨Nat.le_of_ble_eq_true rfl, Nat.le_of_ble_eq_true rfl⟩ rfl dX6_isClauseDone_189 rfl rfl ?_
    intro q31
    refine j_sipush (v := -1000) 195 dX6_isClauseDone_192 rfl sc_m1000 ?_
    refine j_icmp_eq 202 198 dX6_isClauseDone_195 (by decide) rfl ?_ ?_
    · refine j_iconst (v := 0) 203 dX6_isClauseDone_202 rfl ic_0 ?_
      exact j_zret dX6_isClauseDone_203 (fun _ => rfl)
    · refine j_iconst (v := 1) 199 dX6_isClauseDone_198 rfl ic_1 ?_
      refine j_goto 203 dX6_isClauseDone_199 (by decide) ?_
      exact j_zret dX6_isClauseDone_203 (fun _ => rfl)
  refine j_ite (fun h38 => ?_) (fun h38 => ?_)
  · refine j_tinE (w := 6) 204 dX6_isClauseDone_42 h38 (by decide) (by decide) rfl (by decide) ?_
    refine j_aload_n 205 3 dX6_isClauseDone_204 rfl rfl rfl ?_
    refine j_iload_n 206 2 dX6_isClauseDone_205 rfl rfl rfl ?_
    refine j_iload_n 207 1 dX6_isClauseDone_206 rfl rfl rfl ?_
    refine j_iload 209 0 dX6_isClauseDone_207 rfl rfl ?_
    refine j_callV_iw (ci := 5) (As := [.int v2, .int v4, .int v6]) (st := []) 212 (okX6_pulse G x a0 v2 v4 v6) kc_X6_pulse kl_X6_350 ki_X6_pulse kv_X6_pulse kh_X6 (by decide) (fun _ h => rvX6_pulse h) ⟨rfl, rfl, Nat.le_of_ble_eq_true rfl, Nat.le_of_ble_eq_true rfl⟩ (Nat.le_of_ble_eq_true rfl) ⟨Nat.le_of_ble_eq_true rfl, Nat.le_of_ble_eq_true rfl⟩ rfl dX6_isClauseDone_209 rfl rfl ?_
    intro q35
    refine j_if_lt 219 215 dX6_isClauseDone_212 (by decide) rfl ?_ ?_
    · refine j_iconst (v := 0) 220 dX6_isClauseDone_219 rfl ic_0 ?_
      exact j_zret dX6_isClauseDone_220 (fun _ => rfl)
    · refine j_iconst (v := 1) 216 dX6_isClauseDone_215 rfl ic_1 ?_
      refine j_goto 220 dX6_isClauseDone_216 (by decide) ?_
      exact j_zret dX6_isClauseDone_220 (fun _ => rfl)
  refine j_ite (fun h42 => ?_) (fun h42 => ?_)
  · refine j_tinE (w := 7) 221 dX6_isClauseDone_42 h42 (by decide) (by decide) rfl (by decide) ?_
    refine j_aload_n 222 3 dX6_isClauseDone_221 rfl rfl rfl ?_
    refine j_callV_iw (ci := 5) (As := []) (st := []) 225 (okX6_drop G x a0) kc_X6_drop kl_X6_353 ki_X6_drop kv_X6_drop kh_X6 (by decide) (fun _ h => rvX6_drop h) ⟨rfl, rfl, Nat.le_of_ble_eq_true rfl, Nat.le_of_ble_eq_true rfl⟩ (Nat.le_of_ble_eq_true rfl) ⟨Nat.le_of_ble_eq_true rfl, Nat.le_of_ble_eq_true rfl⟩ rfl dX6_isClauseDone_222 rfl rfl ?_
    intro q39
    refine j_if_lt 232 228 dX6_isClauseDone_225 (by decide) rfl ?_ ?_
    · refine j_iconst (v := 0) 233 dX6_isClauseDone_232 rfl ic_0 ?_
      exact j_zret dX6_isClauseDone_233 (fun _ => rfl)
    · refine j_iconst (v := 1) 229 dX6_isClauseDone_228 rfl ic_1 ?_
      refine j_goto 233 dX6_isClauseDone_229 (by decide) ?_
      exact j_zret dX6_isClauseDone_233 (fun _ => rfl)
  have h14n := sw_ne h14
  have h18n := sw_ne h18
  have h22n := sw_ne h22
  have h26n := sw_ne h26
  have h30n := sw_ne h30
  have h34n := sw_ne h34
  have h38n := sw_ne h38
  have h42n := sw_ne h42
  have h14m : (Int32.toInt 0) = 0 := by decide
  have h18m : (Int32.toInt 1) = 1 := by decide
  have h22m : (Int32.toInt 2) = 2 := by decide
  have h26m : (Int32.toInt 3) = 3 := by decide
  have h30m : (Int32.toInt 4) = 4 := by decide
  have h34m : (Int32.toInt 5) = 5 := by decide
  have h38m : (Int32.toInt 6) = 6 := by decide
  have h42m : (Int32.toInt 7) = 7 := by decide
  refine j_tout 234 dX6_isClauseDone_42 (by omega) (by decide) ?_
  refine j_iconst (v := 0) 235 dX6_isClauseDone_234 rfl ic_0 ?_
  exact j_zret dX6_isClauseDone_235 (fun _ => rfl)
