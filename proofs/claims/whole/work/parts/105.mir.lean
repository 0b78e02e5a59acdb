/-! Each method as a pure term, and the machine's rows. Written by wip/whole/decomp.py. -/
-- X6_clausesDone: ('BarSteps', 'clausesDone', '()I')
def X6_clausesDone_J37 (r6 : Nat → Int32 → Int32 → Int32 → Hs → Option (Int32 × Hs)) (l0 : Nat) (l2 : Int32) (l3 : Int32) (s0 : Int32) (s1 : Int32) (x : Hs) : Option (Int32 × Hs) := (gR x 5 l0 5).bind fun v4 =>
  (X5_planAt v4 l2 x).bind fun v5 =>
  (X5_numbersOf v5).bind fun v6 =>
  r6 l0 (s1 + s0) (l2 + (1 + v6)) (l3 + 1) x
theorem okX6_clausesDone_J37 (G : JG) (r6 : Nat → Int32 → Int32 → Int32 → Hs → Option (Int32 × Hs)) (hr6 : ∀ (l0 : Nat) (l1 : Int32) (l2 : Int32) (l3 : Int32) (x : Hs), JM G RX6 cX6_clausesDone 4 (jZ G (some .int) "clausesDone" (jR 7 0 0) 0 0) (fun r : Int32 × Hs => ((some (.int r.1), r.2) : JR)) 6 [(0, .ref l0), (1, .int l1), (2, .int l2), (3, .int l3)] [] x 0 0 (r6 l0 l1 l2 l3 x)) : ∀ (l0 : Nat) (l2 : Int32) (l3 : Int32) (s0 : Int32) (s1 : Int32) (x : Hs), JM G RX6 cX6_clausesDone 4 (jZ G (some .int) "clausesDone" (jR 7 0 0) 0 0) (fun r : Int32 × Hs => ((some (.int r.1), r.2) : JR)) 37 [(0, .ref l0), (2, .int l2), (3, .int l3)] [.int s0, .int s1] x 0 0 (X6_clausesDone_J37 r6 l0 l2 l3 s0 s1 x) := by
  intro l0 l2 l3 s0 s1 x
  unfold X6_clausesDone_J37
  refine j_iadd 38 dX6_clausesDone_37 rfl ?_
  refine j_istore_n 39 [(1, .int (s1 + s0)), (0, .ref l0), (2, .int l2), (3, .int l3)] dX6_clausesDone_38 rfl rfl (by decide) rfl ?_
  refine j_iload_n 40 2 dX6_clausesDone_39 rfl rfl rfl ?_
  refine j_iconst (v := 1) 41 dX6_clausesDone_40 rfl ic_1 ?_
  refine j_aload_n 42 1 dX6_clausesDone_41 rfl rfl rfl ?_
  refine j_gR 45 kf_X6_41 dX6_clausesDone_42 rfl ?_
  intro v4
  refine j_iload_n 46 2 dX6_clausesDone_45 rfl rfl rfl ?_
  refine j_callV_i (ci := 4) (As := [.int l2]) (st := [.int 1, .int l2]) 49 (okX5_planAt G x v4 l2) kc_X5_planAt kl_X6_331 ki_X5_planAt kv_X5_planAt kh_X5 (by decide) (fun _ h => rvX5_planAt h) ⟨rfl, rfl, Nat.le_of_ble_eq_true rfl, Nat.le_of_ble_eq_true rfl⟩ (Nat.le_of_ble_eq_true rfl) ⟨Nat.le_of_ble_eq_true rfl, Nat.le_of_ble_eq_true rfl⟩ rfl dX6_clausesDone_46 rfl rfl ?_
  intro v5
  refine j_callS_i (As := [.int v5]) (st := [.int 1, .int l2]) 52 (okX5_numbersOf G x v5) kc_X5_numbersOf kl_X6_334 ks_X5_numbersOf ⟨rfl, rfl, Nat.le_of_ble_eq_true rfl, Nat.le_of_ble_eq_true rfl⟩ (Nat.le_of_ble_eq_true rfl) ⟨Nat.le_of_ble_eq_true rfl, Nat.le_of_ble_eq_true rfl⟩ rfl dX6_clausesDone_49 rfl rfl ?_
  intro v6
  refine j_iadd 53 dX6_clausesDone_52 rfl ?_
  refine j_iadd 54 dX6_clausesDone_53 rfl ?_
  refine j_istore_n 55 [(2, .int (l2 + (1 + v6))), (1, .int (s1 + s0)), (0, .ref l0), (3, .int l3)] dX6_clausesDone_54 rfl rfl (by decide) rfl ?_
  refine j_iinc 58 3 [(3, .int (l3 + 1)), (2, .int (l2 + (1 + v6))), (1, .int (s1 + s0)), (0, .ref l0)] dX6_clausesDone_55 rfl rfl (ii_1 _) (by decide) rfl ?_
  refine j_goto 6 dX6_clausesDone_58 (by decide) ?_
  refine j_sub [3, 2, 1, 0] rfl ?_
  exact hr6 l0 (s1 + s0) (l2 + (1 + v6)) (l3 + 1) x
def X6_clausesDone_L6 : Nat → Nat → Int32 → Int32 → Int32 → Hs → Option (Int32 × Hs)
  | 0, _, _, _, _, _ => none
  | n + 1, l0, l1, l2, l3, x => (if 60 ≤ l3 then some (l1, x) else
  (gR x 5 l0 5).bind fun v1 =>
  (gI x 4 v1 3).bind fun v2 =>
  (if v2 ≤ l2 then some (l1, x) else
  (X6_isClauseDone l0 l2 x).bind fun q3 =>
  (if q3.1 = 0 then X6_clausesDone_J37 (fun l0 l1 l2 l3 x => X6_clausesDone_L6 n l0 l1 l2 l3 x) l0 l2 l3 0 l1 q3.2 else
  X6_clausesDone_J37 (fun l0 l1 l2 l3 x => X6_clausesDone_L6 n l0 l1 l2 l3 x) l0 l2 l3 1 l1 q3.2)))
theorem okX6_clausesDone_L6 (G : JG) : ∀ (n : Nat), ∀ (l0 : Nat) (l1 : Int32) (l2 : Int32) (l3 : Int32) (x : Hs), JM G RX6 cX6_clausesDone 4 (jZ G (some .int) "clausesDone" (jR 7 0 0) 0 0) (fun r : Int32 × Hs => ((some (.int r.1), r.2) : JR)) 6 [(0, .ref l0), (1, .int l1), (2, .int l2), (3, .int l3)] [] x 0 0 (X6_clausesDone_L6 n l0 l1 l2 l3 x) := by
  intro n
  induction n with
  | zero => intro l0 l1 l2 l3 x; exact j_none
  | succ n ih =>
    intro l0 l1 l2 l3 x
    unfold X6_clausesDone_L6
    refine j_iload_n 7 3 dX6_clausesDone_6 rfl rfl rfl ?_
    refine j_bipush (v := 60) 9 dX6_clausesDone_7 rfl bc_60 ?_
    refine j_icmp_ge 61 12 dX6_clausesDone_9 (by decide) rfl ?_ ?_
    · refine j_iload_n 62 1 dX6_clausesDone_61 rfl rfl rfl ?_
      exact j_iret dX6_clausesDone_62 rfl
    · refine j_iload_n 13 2 dX6_clausesDone_12 rfl rfl rfl ?_
      refine j_aload_n 14 0 dX6_clausesDone_13 rfl rfl rfl ?_
      refine j_gR 17 kf_X6_41 dX6_clausesDone_14 rfl ?_
      intro v1
      refine j_gI 20 kf_X6_325 dX6_clausesDone_17 rfl ?_
      intro v2
      refine j_icmp_ge 61 23 dX6_clausesDone_20 (by decide) rfl ?_ ?_
      · refine j_iload_n 62 1 dX6_clausesDone_61 rfl rfl rfl ?_
        exact j_iret dX6_clausesDone_62 rfl
      · refine j_iload_n 24 1 dX6_clausesDone_23 rfl rfl rfl ?_
        refine j_aload_n 25 0 dX6_clausesDone_24 rfl rfl rfl ?_
        refine j_iload_n 26 2 dX6_clausesDone_25 rfl rfl rfl ?_
        refine j_callV_iw (ci := 5) (As := [.int l2]) (st := [.int l1]) 29 (okX6_isClauseDone G x l0 l2) kc_X6_isClauseDone kl_X6_328 ki_X6_isClauseDone kv_X6_isClauseDone kh_X6 (by decide) (fun _ h => rvX6_isClauseDone h) ⟨rfl, rfl, Nat.le_of_ble_eq_true rfl, Nat.le_of_ble_eq_true rfl⟩ (Nat.le_of_ble_eq_true rfl) ⟨Nat.le_of_ble_eq_true rfl, Nat.le_of_ble_eq_true rfl⟩ rfl dX6_clausesDone_26 rfl rfl ?_
        intro q3
        refine j_if_eq 36 32 dX6_clausesDone_29 (by decide) rfl ?_ ?_
        · refine j_iconst (v := 0) 37 dX6_clausesDone_36 rfl ic_0 ?_
          refine j_sub [0, 2, 3] rfl ?_
          exact okX6_clausesDone_J37 G (fun l0 l1 l2 l3 x => X6_clausesDone_L6 n l0 l1 l2 l3 x) ih l0 l2 l3 0 l1 q3.2
        · refine j_iconst (v := 1) 33 dX6_clausesDone_32 rfl ic_1 ?_
          refine j_goto 37 dX6_clausesDone_33 (by decide) ?_
          refine j_sub [0, 2, 3] rfl ?_
          exact okX6_clausesDone_J37 G (fun l0 l1 l2 l3 x => X6_clausesDone_L6 n l0 l1 l2 l3 x) ih l0 l2 l3 1 l1 q3.2
def X6_clausesDone (a0 : Nat) (x : Hs) : Option (Int32 × Hs) := (vO x 5 a0).bind fun _ =>
  X6_clausesDone_L6 fu a0 0 0 0 x
theorem rvX6_clausesDone {a0 : Nat} {x : Hs} {r : Int32 × Hs} (h : X6_clausesDone a0 x = some r) : ∃ fs, x.1 a0 = .inr (5, fs) := vO_bind h
theorem okX6_clausesDone (G : JG) (x : Hs) (a0 : Nat) : ∀ r, X6_clausesDone a0 x = some r → JC G yX6_clausesDone cX6_clausesDone 4 (some .int) (jR 7 0 0) 0 0 [.ref a0] x ((some (.int r.1), r.2)) := by
  refine jc_of (own := RX6) (E := (fun r : Int32 × Hs => ((some (.int r.1), r.2) : JR))) (by decide) rfl rfl (Nat.le_of_ble_eq_true rfl) rfl ?_
  unfold X6_clausesDone
  refine j_chk ?_
  refine j_iconst (v := 0) 1 dX6_clausesDone_0 rfl ic_0 ?_
  refine j_istore_n 2 [(1, .int 0), (0, .ref a0)] dX6_clausesDone_1 rfl rfl (by decide) rfl ?_
  refine j_iconst (v := 0) 3 dX6_clausesDone_2 rfl ic_0 ?_
  refine j_istore_n 4 [(2, .int 0), (1, .int 0), (0, .ref a0)] dX6_clausesDone_3 rfl rfl (by decide) rfl ?_
  refine j_iconst (v := 0) 5 dX6_clausesDone_4 rfl ic_0 ?_
  refine j_istore_n 6 [(3, .int 0), (2, .int 0), (1, .int 0), (0, .ref a0)] dX6_clausesDone_5 rfl rfl (by decide) rfl ?_
  refine j_sub [3, 2, 1, 0] rfl ?_
  exact okX6_clausesDone_L6 G fu a0 0 0 0 x
-- X6_text: ('BarSteps', 'text', '()I')
def X6_text (a0 : Nat) (x : Hs) : Option (Int32 × Hs) := (vO x 5 a0).bind fun _ =>
  (gR x 5 a0 5).bind fun v1 =>
  (X5_read v1 x).bind fun q2 =>
  (gR q2.2 5 a0 5).bind fun v3 =>
  (pV q2.2 4 v3 1 (.int 0)).bind fun y4 =>
  (if q2.1 = (-1) then (X6_clausesDone a0 y4).bind fun q5 =>
  some (q5.1, q5.2) else
  some (((-100) - q2.1), y4))
theorem rvX6_text {a0 : Nat} {x : Hs} {r : Int32 × Hs} (h : X6_text a0 x = some r) : ∃ fs, x.1 a0 = .inr (5, fs) := vO_bind h
theorem okX6_text (G : JG) (x : Hs) (a0 : Nat) : ∀ r, X6_text a0 x = some r → JC G yX6_text cX6_text 2 (some .int) (jR 9 0 0) 0 0 [.ref a0] x ((some (.int r.1), r.2)) := by
  refine jc_of (own := RX6) (E := (fun r : Int32 × Hs => ((some (.int r.1), r.2) : JR))) (by decide) rfl rfl (Nat.le_of_ble_eq_true rfl) rfl ?_
  unfold X6_text
  refine j_chk ?_
  refine j_aload_n 1 0 dX6_text_0 rfl rfl rfl ?_
  refine j_gR 4 kf_X6_41 dX6_text_1 rfl ?_
  intro v1
  refine j_callV_iw (ci := 4) (As := []) (st := []) 7 (okX5_read G x v1) kc_X5_read kl_X6_319 ki_X5_read kv_X5_read kh_X5 (by decide) (fun _ h => rvX5_read h) ⟨rfl, rfl, Nat.le_of_ble_eq_true rfl, Nat.le_of_ble_eq_true rfl⟩ (Nat.le_of_ble_eq_true rfl) ⟨Nat.le_of_ble_eq_true rfl, Nat.le_of_ble_eq_true rfl⟩ rfl dX6_text_4 rfl rfl ?_
  intro q2
  refine j_istore_n 8 [(1, .int q2.1), (0, .ref a0)] dX6_text_7 rfl rfl (by decide) rfl ?_
  refine j_aload_n 9 1 dX6_text_8 rfl rfl rfl ?_
  refine j_gR 12 kf_X6_41 dX6_text_9 rfl ?_
  intro v3
  refine j_iconst (v := 0) 13 dX6_text_12 rfl ic_0 ?_
  refine j_put 16 kf_X6_316 dX6_text_13 rfl rfl rfl ?_
  intro y4
  refine j_iload_n 17 0 dX6_text_16 rfl rfl rfl ?_
  refine j_iconst (v := -1) 18 dX6_text_17 rfl ic_m1 ?_
  refine j_icmp_ne 28 21 dX6_text_18 (by decide) rfl ?_ ?_
  · refine j_bipush (v := -100) 30 dX6_text_28 rfl bc_m100 ?_
    refine j_iload_n 31 0 dX6_text_30 rfl rfl rfl ?_
    refine j_isub 32 dX6_text_31 rfl ?_
    exact j_iret dX6_text_32 rfl
  · refine j_aload_n 22 1 dX6_text_21 rfl rfl rfl ?_
    refine j_callV_iw (ci := 5) (As := []) (st := []) 25 (okX6_clausesDone G y4 a0) kc_X6_clausesDone kl_X6_322 ki_X6_clausesDone kv_X6_clausesDone kh_X6 (by decide) (fun _ h => rvX6_clausesDone h) ⟨rfl, rfl, Nat.le_of_ble_eq_true rfl, Nat.le_of_ble_eq_true rfl⟩ (Nat.le_of_ble_eq_true rfl) ⟨Nat.le_of_ble_eq_true rfl, Nat.le_of_ble_eq_true rfl⟩ rfl dX6_text_22 rfl rfl ?_
    intro q5
    refine j_goto 32 dX6_text_25 (by decide) ?_
    exact j_iret dX6_text_32 rfl
-- X6_image: ('BarSteps', 'image', '()I')
def X6_image (a0 : Nat) (x : Hs) : Option (Int32 × Hs) := (vO x 5 a0).bind fun _ =>
  (gR x 5 a0 2).bind fun v1 =>
  (gR x 5 a0 0).bind fun v2 =>
  (X0_become v1 v2 x).bind fun q3 =>
  (pV q3 5 a0 7 (.int 1)).bind fun y4 =>
  (gR y4 5 a0 2).bind fun v5 =>
  (gI y4 0 v5 0).bind fun v6 =>
  some (v6, y4)
theorem rvX6_image {a0 : Nat} {x : Hs} {r : Int32 × Hs} (h : X6_image a0 x = some r) : ∃ fs, x.1 a0 = .inr (5, fs) := vO_bind h
theorem okX6_image (G : JG) (x : Hs) (a0 : Nat) : ∀ r, X6_image a0 x = some r → JC G yX6_image cX6_image 1 (some .int) (jR 3 0 0) 0 0 [.ref a0] x ((some (.int r.1), r.2)) := by
  refine jc_of (own := RX6) (E := (fun r : Int32 × Hs => ((some (.int r.1), r.2) : JR))) (by decide) rfl rfl (Nat.le_of_ble_eq_true rfl) rfl ?_
  unfold X6_image
  refine j_chk ?_
  refine j_aload_n 1 0 dX6_image_0 rfl rfl rfl ?_
  refine j_gR 4 kf_X6_21 dX6_image_1 rfl ?_
  intro v1
  refine j_aload_n 5 0 dX6_image_4 rfl rfl rfl ?_
  refine j_gR 8 kf_X6_12 dX6_image_5 rfl ?_
  intro v2
  refine j_callV_v (ci := 0) (As := [.ref v2]) (st := []) 11 (okX0_become G x v1 v2) kc_X0_become kl_X6_197 ki_X0_become kv_X0_become kh_X0 (by decide) (fun _ h => rvX0_become h) ⟨rfl, rfl, Nat.le_of_ble_eq_true rfl, Nat.le_of_ble_eq_true rfl⟩ (Nat.le_of_ble_eq_true rfl) ⟨Nat.le_of_ble_eq_true rfl, Nat.le_of_ble_eq_true rfl⟩ rfl dX6_image_8 rfl rfl ?_
  intro q3
  refine j_aload_n 12 0 dX6_image_11 rfl rfl rfl ?_
  refine j_iconst (v := 1) 13 dX6_image_12 rfl ic_1 ?_
  refine j_put 16 kf_X6_49 dX6_image_13 rfl (by decide) (by decide) ?_
  intro y4
  refine j_aload_n 17 0 dX6_image_16 rfl rfl rfl ?_
  refine j_gR 20 kf_X6_21 dX6_image_17 rfl ?_
  intro v5
  refine j_gI 23 kf_X6_70 dX6_image_20 rfl ?_
  intro v6
  exact j_iret dX6_image_23 rfl
-- X6_back: ('BarSteps', 'back', '()I')
def X6_back (a0 : Nat) (x : Hs) : Option (Int32 × Hs) := (vO x 5 a0).bind fun _ =>
  (gI x 5 a0 7).bind fun v1 =>
  (if v1 = 0 then some ((-3), x) else
  (gR x 5 a0 0).bind fun v2 =>
  (gR x 5 a0 2).bind fun v3 =>
  (X0_become v2 v3 x).bind fun q4 =>
  (gR q4 5 a0 0).bind fun v5 =>
  (gI q4 0 v5 0).bind fun v6 =>
  some (v6, q4))
theorem rvX6_back {a0 : Nat} {x : Hs} {r : Int32 × Hs} (h : X6_back a0 x = some r) : ∃ fs, x.1 a0 = .inr (5, fs) := vO_bind h
theorem okX6_back (G : JG) (x : Hs) (a0 : Nat) : ∀ r, X6_back a0 x = some r → JC G yX6_back cX6_back 1 (some .int) (jR 3 0 0) 0 0 [.ref a0] x ((some (.int r.1), r.2)) := by
  refine jc_of (own := RX6) (E := (fun r : Int32 × Hs => ((some (.int r.1), r.2) : JR))) (by decide) rfl rfl (Nat.le_of_ble_eq_true rfl) rfl ?_
  unfold X6_back
  refine j_chk ?_
  refine j_aload_n 1 0 dX6_back_0 rfl rfl rfl ?_
  refine j_gI 4 kf_X6_49 dX6_back_1 rfl ?_
  intro v1
  refine j_if_ne 10 7 dX6_back_4 (by decide) rfl ?_ ?_
  · refine j_aload_n 11 0 dX6_back_10 rfl rfl rfl ?_
    refine j_gR 14 kf_X6_12 dX6_back_11 rfl ?_
    intro v2
    refine j_aload_n 15 0 dX6_back_14 rfl rfl rfl ?_
    refine j_gR 18 kf_X6_21 dX6_back_15 rfl ?_
    intro v3
    refine j_callV_v (ci := 0) (As := [.ref v3]) (st := []) 21 (okX0_become G x v2 v3) kc_X0_become kl_X6_197 ki_X0_become kv_X0_become kh_X0 (by decide) (fun _ h => rvX0_become h) ⟨rfl, rfl, Nat.le_of_ble_eq_true rfl, Nat.le_of_ble_eq_true rfl⟩ (Nat.le_of_ble_eq_true rfl) ⟨Nat.le_of_ble_eq_true rfl, Nat.le_of_ble_eq_true rfl⟩ rfl dX6_back_18 rfl rfl ?_
    intro q4
    refine j_aload_n 22 0 dX6_back_21 rfl rfl rfl ?_
    refine j_gR 25 kf_X6_12 dX6_back_22 rfl ?_
    intro v5
    refine j_gI 28 kf_X6_70 dX6_back_25 rfl ?_
    intro v6
    exact j_iret dX6_back_28 rfl
  · refine j_bipush (v := -3) 9 dX6_back_7 rfl bc_m3 ?_
    exact j_iret dX6_back_9 rfl
-- X6_load: ('BarSteps', 'load', '(IIII)I')
def X6_load_J161 (r64 : Nat → Int32 → Int32 → Int32 → Int32 → Int32 → Hs → Option (Int32 × Hs)) (l0 : Nat) (l1 : Int32) (l3 : Int32) (l4 : Int32) (l6 : Int32) (s0 : Int32) (s1 : Int32) (x : Hs) : Option (Int32 × Hs) := r64 l0 l1 l3 l4 (s1 + s0) (l6 + 1) x
theorem okX6_load_J161 (G : JG) (r64 : Nat → Int32 → Int32 → Int32 → Int32 → Int32 → Hs → Option (Int32 × Hs)) (hr64 : ∀ (l0 : Nat) (l1 : Int32) (l3 : Int32) (l4 : Int32) (l5 : Int32) (l6 : Int32) (x : Hs), JM G RX6 cX6_load 9 (jZ G (some .int) "load" (jR 6 0 0) 0 0) (fun r : Int32 × Hs => ((some (.int r.1), r.2) : JR)) 64 [(0, .ref l0), (1, .int l1), (3, .int l3), (4, .int l4), (5, .int l5), (6, .int l6)] [] x 0 0 (r64 l0 l1 l3 l4 l5 l6 x)) : ∀ (l0 : Nat) (l1 : Int32) (l3 : Int32) (l4 : Int32) (l6 : Int32) (s0 : Int32) (s1 : Int32) (x : Hs), JM G RX6 cX6_load 9 (jZ G (some .int) "load" (jR 6 0 0) 0 0) (fun r : Int32 × Hs => ((some (.int r.1), r.2) : JR)) 161 [(0, .ref l0), (1, .int l1), (3, .int l3), (4, .int l4), (6, .int l6)] [.int s0, .int s1] x 0 0 (X6_load_J161 r64 l0 l1 l3 l4 l6 s0 s1 x) := by
  intro l0 l1 l3 l4 l6 s0 s1 x
  unfold X6_load_J161
  refine j_iadd 162 dX6_load_161 rfl ?_
  refine j_istore 164 [(5, .int (s1 + s0)), (0, .ref l0), (1, .int l1), (3, .int l3), (4, .int l4), (6, .int l6)] dX6_load_162 rfl (by decide) rfl ?_
  refine j_iinc 167 5 [(6, .int (l6 + 1)), (5, .int (s1 + s0)), (0, .ref l0), (1, .int l1), (3, .int l3), (4, .int l4)] dX6_load_164 rfl rfl (ii_1 _) (by decide) rfl ?_
  refine j_goto 64 dX6_load_167 (by decide) ?_
  refine j_sub [2, 3, 4, 5, 1, 0] rfl ?_
  exact hr64 l0 l1 l3 l4 (s1 + s0) (l6 + 1) x
def X6_load_L64 : Nat → Nat → Int32 → Int32 → Int32 → Int32 → Int32 → Hs → Option (Int32 × Hs)
  | 0, _, _, _, _, _, _, _ => none
  | n + 1, l0, l1, l3, l4, l5, l6, x => (if l4 ≤ l6 then some (l5, x) else
  (gR x 5 l0 4).bind fun v9 =>
  (X3_has v9 l1 (l3 + (4 * l6)) x).bind fun v10 =>
  (if v10 = 0 then some ((-12), x) else
  (gR x 5 l0 4).bind fun v11 =>
  (X3_has v11 l1 ((l3 + (4 * l6)) + 3) x).bind fun v12 =>
  (if v12 = 0 then some ((-12), x) else
  (gR x 5 l0 4).bind fun v13 =>
  (gR x 2 v13 2).bind fun v14 =>
  (aR x v14 l1).bind fun v15 =>
  (aI x v15 (l3 + (4 * l6))).bind fun v16 =>
  (aI x v15 ((l3 + (4 * l6)) + 1)).bind fun v17 =>
  (aI x v15 ((l3 + (4 * l6)) + 2)).bind fun v18 =>
  (aI x v15 ((l3 + (4 * l6)) + 3)).bind fun v19 =>
  (X6_cell l0 v16 v17 v18 v19 x).bind fun q20 =>
  (if q20.1 < 0 then X6_load_J161 (fun l0 l1 l3 l4 l5 l6 x => X6_load_L64 n l0 l1 l3 l4 l5 l6 x) l0 l1 l3 l4 l6 0 l5 q20.2 else
  X6_load_J161 (fun l0 l1 l3 l4 l5 l6 x => X6_load_L64 n l0 l1 l3 l4 l5 l6 x) l0 l1 l3 l4 l6 1 l5 q20.2))))
theorem okX6_load_L64 (G : JG) : ∀ (n : Nat), ∀ (l0 : Nat) (l1 : Int32) (l3 : Int32) (l4 : Int32) (l5 : Int32) (l6 : Int32) (x : Hs), JM G RX6 cX6_load 9 (jZ G (some .int) "load" (jR 6 0 0) 0 0) (fun r : Int32 × Hs => ((some (.int r.1), r.2) : JR)) 64 [(0, .ref l0), (1, .int l1), (3, .int l3), (4, .int l4), (5, .int l5), (6, .int l6)] [] x 0 0 (X6_load_L64 n l0 l1 l3 l4 l5 l6 x) := by
  intro n
  induction n with
  | zero => intro l0 l1 l3 l4 l5 l6 x; exact j_none
  | succ n ih =>
    intro l0 l1 l3 l4 l5 l6 x
    unfold X6_load_L64
    refine j_iload 66 5 dX6_load_64 rfl rfl ?_
    refine j_iload 68 3 dX6_load_66 rfl rfl ?_
    refine j_icmp_ge 170 71 dX6_load_68 (by decide) rfl ?_ ?_
    · refine j_iload 172 4 dX6_load_170 rfl rfl ?_
      exact j_iret dX6_load_172 rfl
    · refine j_iload_n 72 2 dX6_load_71 rfl rfl rfl ?_
      refine j_iconst (v := 4) 73 dX6_load_72 rfl ic_4 ?_
      refine j_iload 75 5 dX6_load_73 rfl rfl ?_
      refine j_imul 76 dX6_load_75 rfl ?_
      refine j_iadd 77 dX6_load_76 rfl ?_
      refine j_istore 79 [(7, .int (l3 + (4 * l6))), (0, .ref l0), (1, .int l1), (3, .int l3), (4, .int l4), (5, .int l5), (6, .int l6)] dX6_load_77 rfl (by decide) rfl ?_
      refine j_aload_n 80 1 dX6_load_79 rfl rfl rfl ?_
      refine j_gR 83 kf_X6_34 dX6_load_80 rfl ?_
      intro v9
      refine j_iload_n 84 2 dX6_load_83 rfl rfl rfl ?_
      refine j_iload 86 0 dX6_load_84 rfl rfl ?_
      refine j_callV_i (ci := 2) (As := [.int l1, .int (l3 + (4 * l6))]) (st := []) 89 (okX3_has G x v9 l1 (l3 + (4 * l6))) kc_X3_has kl_X6_359 ki_X3_has kv_X3_has kh_X3 (by decide) (fun _ h => rvX3_has h) ⟨rfl, rfl, Nat.le_of_ble_eq_true rfl, Nat.le_of_ble_eq_true rfl⟩ (Nat.le_of_ble_eq_true rfl) ⟨Nat.le_of_ble_eq_true rfl, Nat.le_of_ble_eq_true rfl⟩ rfl dX6_load_86 rfl rfl ?_
      intro v10
      refine j_if_eq 107 92 dX6_load_89 (by decide) rfl ?_ ?_
      · refine j_bipush (v := -12) 109 dX6_load_107 rfl bc_m12 ?_
        exact j_iret dX6_load_109 rfl
      · refine j_aload_n 93 1 dX6_load_92 rfl rfl rfl ?_
        refine j_gR 96 kf_X6_34 dX6_load_93 rfl ?_
        intro v11
        refine j_iload_n 97 2 dX6_load_96 rfl rfl rfl ?_
        refine j_iload 99 0 dX6_load_97 rfl rfl ?_
        refine j_iconst (v := 3) 100 dX6_load_99 rfl ic_3 ?_
        refine j_iadd 101 dX6_load_100 rfl ?_
        refine j_callV_i (ci := 2) (As := [.int l1, .int ((l3 + (4 * l6)) + 3)]) (st := []) 104 (okX3_has G x v11 l1 ((l3 + (4 * l6)) + 3)) kc_X3_has kl_X6_359 ki_X3_has kv_X3_has kh_X3 (by decide) (fun _ h => rvX3_has h) ⟨rfl, rfl, Nat.le_of_ble_eq_true rfl, Nat.le_of_ble_eq_true rfl⟩ (Nat.le_of_ble_eq_true rfl) ⟨Nat.le_of_ble_eq_true rfl, Nat.le_of_ble_eq_true rfl⟩ rfl dX6_load_101 rfl rfl ?_
        intro v12
        refine j_if_ne 110 107 dX6_load_104 (by decide) rfl ?_ ?_
        · refine j_aload_n 111 1 dX6_load_110 rfl rfl rfl ?_
          refine j_gR 114 kf_X6_34 dX6_load_111 rfl ?_
          intro v13
          refine j_gR 117 kf_X6_280 dX6_load_114 rfl ?_
          intro v14
          refine j_iload_n 118 2 dX6_load_117 rfl rfl rfl ?_
          refine j_aR 119 dX6_load_118 rfl ?_
          intro v15
          refine j_astore 121 [(8, .ref v15), (7, .int (l3 + (4 * l6))), (0, .ref l0), (1, .int l1), (3, .int l3), (4, .int l4), (5, .int l5), (6, .int l6)] dX6_load_119 rfl (by decide) rfl ?_
          refine j_iload 123 6 dX6_load_121 rfl rfl ?_
          refine j_aload_n 124 2 dX6_load_123 rfl rfl rfl ?_
          refine j_aload 126 0 dX6_load_124 rfl rfl ?_
          refine j_iload 128 1 dX6_load_126 rfl rfl ?_
          refine j_aI 129 dX6_load_128 rfl ?_
          intro v16
          refine j_aload 131 0 dX6_load_129 rfl rfl ?_
          refine j_iload 133 1 dX6_load_131 rfl rfl ?_
          refine j_iconst (v := 1) 134 dX6_load_133 rfl ic_1 ?_
          refine j_iadd 135 dX6_load_134 rfl ?_
          refine j_aI 136 dX6_load_135 rfl ?_
          intro v17
          refine j_aload 138 0 dX6_load_136 rfl rfl ?_
          refine j_iload 140 1 dX6_load_138 rfl rfl ?_
          refine j_iconst (v := 2) 141 dX6_load_140 rfl ic_2 ?_
          refine j_iadd 142 dX6_load_141 rfl ?_
          refine j_aI 143 dX6_load_142 rfl ?_
          intro v18
          refine j_aload 145 0 dX6_load_143 rfl rfl ?_
          refine j_iload 147 1 dX6_load_145 rfl rfl ?_
          refine j_iconst (v := 3) 148 dX6_load_147 rfl ic_3 ?_
          refine j_iadd 149 dX6_load_148 rfl ?_
          refine j_aI 150 dX6_load_149 rfl ?_
          intro v19
          refine j_callV_iw (ci := 5) (As := [.int v16, .int v17, .int v18, .int v19]) (st := [.int l5]) 153 (okX6_cell G x l0 v16 v17 v18 v19) kc_X6_cell kl_X6_337 ki_X6_cell kv_X6_cell kh_X6 (by decide) (fun _ h => rvX6_cell h) ⟨rfl, rfl, Nat.le_of_ble_eq_true rfl, Nat.le_of_ble_eq_true rfl⟩ (Nat.le_of_ble_eq_true rfl) ⟨Nat.le_of_ble_eq_true rfl, Nat.le_of_ble_eq_true rfl⟩ rfl dX6_load_150 rfl rfl ?_
          intro q20
          refine j_if_lt 160 156 dX6_load_153 (by decide) rfl ?_ ?_
          · refine j_iconst (v := 0) 161 dX6_load_160 rfl ic_0 ?_
            refine j_sub [2, 3, 4, 5, 7] rfl ?_
            exact okX6_load_J161 G (fun l0 l1 l3 l4 l5 l6 x => X6_load_L64 n l0 l1 l3 l4 l5 l6 x) ih l0 l1 l3 l4 l6 0 l5 q20.2
          · refine j_iconst (v := 1) 157 dX6_load_156 rfl ic_1 ?_
            refine j_goto 161 dX6_load_157 (by decide) ?_
            refine j_sub [2, 3, 4, 5, 7] rfl ?_
            exact okX6_load_J161 G (fun l0 l1 l3 l4 l5 l6 x => X6_load_L64 n l0 l1 l3 l4 l5 l6 x) ih l0 l1 l3 l4 l6 1 l5 q20.2
        · refine j_bipush (v := -12) 109 dX6_load_107 rfl bc_m12 ?_
          exact j_iret dX6_load_109 rfl
def X6_load (a0 : Nat) (a1 : Int32) (a2 : Int32) (a3 : Int32) (a4 : Int32) (x : Hs) : Option (Int32 × Hs) := (vO x 5 a0).bind fun _ =>
  (X6_isSheet a1).bind fun v1 =>
  (if v1 = 0 then some ((-2), x) else
  (X6_isBit a2).bind fun v2 =>
  (if v2 = 0 then some ((-2), x) else
  (X6_between a4 0 8).bind fun v3 =>
  (if v3 = 0 then some ((-2), x) else
  (gR x 5 a0 4).bind fun v4 =>
  (X3_isMissing v4 a1 x).bind fun v5 =>
  (if v5 = 0 then (gR x 5 a0 4).bind fun v6 =>
  (gR x 2 v6 0).bind fun v7 =>
  (aI x v7 a1).bind fun v8 =>
  (if v8 = a2 then X6_load_L64 fu a0 a1 a3 a4 0 0 x else
  some ((-13), x)) else
  some ((-11), x)))))
theorem rvX6_load {a0 : Nat} {a1 : Int32} {a2 : Int32} {a3 : Int32} {a4 : Int32} {x : Hs} {r : Int32 × Hs} (h : X6_load a0 a1 a2 a3 a4 x = some r) : ∃ fs, x.1 a0 = .inr (5, fs) := vO_bind h
theorem okX6_load (G : JG) (x : Hs) (a0 : Nat) (a1 : Int32) (a2 : Int32) (a3 : Int32) (a4 : Int32) : ∀ r, X6_load a0 a1 a2 a3 a4 x = some r → JC G yX6_load cX6_load 9 (some .int) (jR 6 0 0) 0 0 [.ref a0, .int a1, .int a2, .int a3, .int a4] x ((some (.int r.1), r.2)) := by
  refine jc_of (own := RX6) (E := (fun r : Int32 × Hs => ((some (.int r.1), r.2) : JR))) (by decide) rfl rfl (Nat.le_of_ble_eq_true rfl) rfl ?_
  unfold X6_load
  refine j_chk ?_
  refine j_iload_n 1 1 dX6_load_0 rfl rfl rfl ?_
  refine j_callS_i (As := [.int a1]) (st := []) 4 (okX6_isSheet G x a1) kc_X6_isSheet kl_X6_260 ks_X6_isSheet ⟨rfl, rfl, Nat.le_of_ble_eq_true rfl, Nat.le_of_ble_eq_true rfl⟩ (Nat.le_of_ble_eq_true rfl) ⟨Nat.le_of_ble_eq_true rfl, Nat.le_of_ble_eq_true rfl⟩ rfl dX6_load_1 rfl rfl ?_
  intro v1
  refine j_if_eq 25 7 dX6_load_4 (by decide) rfl ?_ ?_
  · refine j_bipush (v := -2) 27 dX6_load_25 rfl bc_m2 ?_
    exact j_iret dX6_load_27 rfl
  · refine j_iload_n 8 2 dX6_load_7 rfl rfl rfl ?_
    refine j_callS_i (As := [.int a2]) (st := []) 11 (okX6_isBit G x a2) kc_X6_isBit kl_X6_134 ks_X6_isBit ⟨rfl, rfl, Nat.le_of_ble_eq_true rfl, Nat.le_of_ble_eq_true rfl⟩ (Nat.le_of_ble_eq_true rfl) ⟨Nat.le_of_ble_eq_true rfl, Nat.le_of_ble_eq_true rfl⟩ rfl dX6_load_8 rfl rfl ?_
    intro v2
    refine j_if_eq 25 14 dX6_load_11 (by decide) rfl ?_ ?_
    · refine j_bipush (v := -2) 27 dX6_load_25 rfl bc_m2 ?_
      exact j_iret dX6_load_27 rfl
    · refine j_iload 16 4 dX6_load_14 rfl rfl ?_
      refine j_iconst (v := 0) 17 dX6_load_16 rfl ic_0 ?_
      refine j_bipush (v := 8) 19 dX6_load_17 rfl bc_8 ?_
      refine j_callS_i (As := [.int a4, .int 0, .int 8]) (st := []) 22 (okX6_between G x a4 0 8) kc_X6_between kl_X6_137 ks_X6_between ⟨rfl, rfl, Nat.le_of_ble_eq_true rfl, Nat.le_of_ble_eq_true rfl⟩ (Nat.le_of_ble_eq_true rfl) ⟨Nat.le_of_ble_eq_true rfl, Nat.le_of_ble_eq_true rfl⟩ rfl dX6_load_19 rfl rfl ?_
      intro v3
      refine j_if_ne 28 25 dX6_load_22 (by decide) rfl ?_ ?_
      · refine j_aload_n 29 0 dX6_load_28 rfl rfl rfl ?_
        refine j_gR 32 kf_X6_34 dX6_load_29 rfl ?_
        intro v4
        refine j_iload_n 33 1 dX6_load_32 rfl rfl rfl ?_
        refine j_callV_i (ci := 2) (As := [.int a1]) (st := []) 36 (okX3_isMissing G x v4 a1) kc_X3_isMissing kl_X6_263 ki_X3_isMissing kv_X3_isMissing kh_X3 (by decide) (fun _ h => rvX3_isMissing h) ⟨rfl, rfl, Nat.le_of_ble_eq_true rfl, Nat.le_of_ble_eq_true rfl⟩ (Nat.le_of_ble_eq_true rfl) ⟨Nat.le_of_ble_eq_true rfl, Nat.le_of_ble_eq_true rfl⟩ rfl dX6_load_33 rfl rfl ?_
        intro v5
        refine j_if_eq 42 39 dX6_load_36 (by decide) rfl ?_ ?_
        · refine j_aload_n 43 0 dX6_load_42 rfl rfl rfl ?_
          refine j_gR 46 kf_X6_34 dX6_load_43 rfl ?_
          intro v6
          refine j_gR 49 kf_X6_356 dX6_load_46 rfl ?_
          intro v7
          refine j_iload_n 50 1 dX6_load_49 rfl rfl rfl ?_
          refine j_aI 51 dX6_load_50 rfl ?_
          intro v8
          refine j_iload_n 52 2 dX6_load_51 rfl rfl rfl ?_
          refine j_icmp_eq 58 55 dX6_load_52 (by decide) rfl ?_ ?_
          · refine j_iconst (v := 0) 59 dX6_load_58 rfl ic_0 ?_
            refine j_istore 61 [(5, .int 0), (0, .ref a0), (1, .int a1), (2, .int a2), (3, .int a3), (4, .int a4)] dX6_load_59 rfl (by decide) rfl ?_
            refine j_iconst (v := 0) 62 dX6_load_61 rfl ic_0 ?_
            refine j_istore 64 [(6, .int 0), (5, .int 0), (0, .ref a0), (1, .int a1), (2, .int a2), (3, .int a3), (4, .int a4)] dX6_load_62 rfl (by decide) rfl ?_
            refine j_sub [2, 3, 5, 6, 1, 0] rfl ?_
            exact okX6_load_L64 G fu a0 a1 a3 a4 0 0 x
          · refine j_bipush (v := -13) 57 dX6_load_55 rfl bc_m13 ?_
            exact j_iret dX6_load_57 rfl
        · refine j_bipush (v := -11) 41 dX6_load_39 rfl bc_m11 ?_
          exact j_iret dX6_load_41 rfl
      · refine j_bipush (v := -2) 27 dX6_load_25 rfl bc_m2 ?_
        exact j_iret dX6_load_27 rfl
-- X6_count: ('BarSteps', 'count', '(I)I')
def X6_count (a0 : Nat) (a1 : Int32) (x : Hs) : Option (Int32) := (vO x 5 a0).bind fun _ =>
  (if a1 = 0 then (gR x 5 a0 0).bind fun v1 =>
  (gI x 0 v1 0).bind fun v2 =>
  some v2 else
  (if a1 = 1 then (gR x 5 a0 0).bind fun v4 =>
  (gR x 0 v4 13).bind fun v5 =>
  (gI x 1 v5 3).bind fun v6 =>
  some v6 else
  (if a1 = 2 then (gR x 5 a0 5).bind fun v8 =>
  (gI x 4 v8 1).bind fun v9 =>
  some v9 else
  (if a1 = 3 then (gR x 5 a0 0).bind fun v11 =>
  (gR x 0 v11 13).bind fun v12 =>
  (gR x 1 v12 2).bind fun v13 =>
  (gR x 5 a0 0).bind fun v14 =>
  (gR x 0 v14 13).bind fun v15 =>
  (gI x 1 v15 3).bind fun v16 =>
  (X6_total v13 v16 x).bind fun v17 =>
  some v17 else
  (if a1 = 4 then (gR x 5 a0 0).bind fun v19 =>
  (gR x 0 v19 7).bind fun v20 =>
  (gR x 5 a0 0).bind fun v21 =>
  (gI x 0 v21 0).bind fun v22 =>
  (X6_total v20 v22 x).bind fun v23 =>
  some v23 else
  (if a1 = 5 then (gR x 5 a0 0).bind fun v25 =>
  (gR x 0 v25 4).bind fun v26 =>
  (gR x 5 a0 0).bind fun v27 =>
  (gI x 0 v27 0).bind fun v28 =>
  (X6_total v26 v28 x).bind fun v29 =>
  some v29 else
  some (-1000)))))))
theorem rvX6_count {a0 : Nat} {a1 : Int32} {x : Hs} {r : Int32} (h : X6_count a0 a1 x = some r) : ∃ fs, x.1 a0 = .inr (5, fs) := vO_bind h
theorem okX6_count (G : JG) (x : Hs) (a0 : Nat) (a1 : Int32) : ∀ r, X6_count a0 a1 x = some r → JC G yX6_count cX6_count 2 (some .int) (jR 2 0 0) 0 0 [.ref a0, .int a1] x ((some (.int r), x)) := by
  refine jc_of (own := RX6) (E := (fun r : Int32 => ((some (.int r), x) : JR))) (by decide) rfl rfl (Nat.le_of_ble_eq_true rfl) rfl ?_
  unfold X6_count
  refine j_chk ?_
  refine j_iload_n 1 1 dX6_count_0 rfl rfl rfl ?_
  refine j_ite (fun h3 => ?_) (fun h3 => ?_)
  · refine j_tinE (w := 0) 40 dX6_count_1 h3 (by decide) (by decide) rfl (by decide) ?_
    refine j_aload_n 41 0 dX6_count_40 rfl rfl rfl ?_
    refine j_gR 44 kf_X6_12 dX6_count_41 rfl ?_
    intro v1
    refine j_gI 47 kf_X6_70 dX6_count_44 rfl ?_
    intro v2
    exact j_iret dX6_count_47 rfl
  refine j_ite (fun h7 => ?_) (fun h7 => ?_)
  · refine j_tinE (w := 1) 48 dX6_count_1 h7 (by decide) (by decide) rfl (by decide) ?_
    refine j_aload_n 49 0 dX6_count_48 rfl rfl rfl ?_
    refine j_gR 52 kf_X6_12 dX6_count_49 rfl ?_
    intro v4
    refine j_gR 55 kf_X6_215 dX6_count_52 rfl ?_
    intro v5
    refine j_gI 58 kf_X6_224 dX6_count_55 rfl ?_
    intro v6
    exact j_iret dX6_count_58 rfl
  refine j_ite (fun h10 => ?_) (fun h10 => ?_)
  · refine j_tinE (w := 2) 59 dX6_count_1 h10 (by decide) (by decide) rfl (by decide) ?_
    refine j_aload_n 60 0 dX6_count_59 rfl rfl rfl ?_
    refine j_gR 63 kf_X6_41 dX6_count_60 rfl ?_
    intro v8
    refine j_gI 66 kf_X6_316 dX6_count_63 rfl ?_
    intro v9
    exact j_iret dX6_count_66 rfl
  refine j_ite (fun h18 => ?_) (fun h18 => ?_)
  · refine j_tinE (w := 3) 67 dX6_count_1 h18 (by decide) (by decide) rfl (by decide) ?_
    refine j_aload_n 68 0 dX6_count_67 rfl rfl rfl ?_
    refine j_gR 71 kf_X6_12 dX6_count_68 rfl ?_
    intro v11
    refine j_gR 74 kf_X6_215 dX6_count_71 rfl ?_
    intro v12
    refine j_gR 77 kf_X6_233 dX6_count_74 rfl ?_
    intro v13
    refine j_aload_n 78 0 dX6_count_77 rfl rfl rfl ?_
    refine j_gR 81 kf_X6_12 dX6_count_78 rfl ?_
    intro v14
    refine j_gR 84 kf_X6_215 dX6_count_81 rfl ?_
    intro v15
    refine j_gI 87 kf_X6_224 dX6_count_84 rfl ?_
    intro v16
    refine j_callS_i (As := [.ref v13, .int v16]) (st := []) 90 (okX6_total G x v13 v16) kc_X6_total kl_X6_361 ks_X6_total ⟨rfl, rfl, Nat.le_of_ble_eq_true rfl, Nat.le_of_ble_eq_true rfl⟩ (Nat.le_of_ble_eq_true rfl) ⟨Nat.le_of_ble_eq_true rfl, Nat.le_of_ble_eq_true rfl⟩ rfl dX6_count_87 rfl rfl ?_
    intro v17
    exact j_iret dX6_count_90 rfl
  refine j_ite (fun h24 => ?_) (fun h24 => ?_)
  · refine j_tinE (w := 4) 91 dX6_count_1 h24 (by decide) (by decide) rfl (by decide) ?_
    refine j_aload_n 92 0 dX6_count_91 rfl rfl rfl ?_
    refine j_gR 95 kf_X6_12 dX6_count_92 rfl ?_
    intro v19
    refine j_gR 98 kf_X6_118 dX6_count_95 rfl ?_
    intro v20
    refine j_aload_n 99 0 dX6_count_98 rfl rfl rfl ?_
    refine j_gR 102 kf_X6_12 dX6_count_99 rfl ?_
    intro v21
    refine j_gI 105 kf_X6_70 dX6_count_102 rfl ?_
    intro v22
    refine j_callS_i (As := [.ref v20, .int v22]) (st := []) 108 (okX6_total G x v20 v22) kc_X6_total kl_X6_361 ks_X6_total ⟨rfl, rfl, Nat.le_of_ble_eq_true rfl, Nat.le_of_ble_eq_true rfl⟩ (Nat.le_of_ble_eq_true rfl) ⟨Nat.le_of_ble_eq_true rfl, Nat.le_of_ble_eq_true rfl⟩ rfl dX6_count_105 rfl rfl ?_
    intro v23
    exact j_iret dX6_count_108 rfl
  refine j_ite (fun h30 => ?_) (fun h30 => ?_)
  · refine j_tinE (w := 5) 109 dX6_count_1 h30 (by decide) (by decide) rfl (by decide) ?_
    refine j_aload_n 110 0 dX6_count_109 rfl rfl rfl ?_
    refine j_gR 113 kf_X6_12 dX6_count_110 rfl ?_
    intro v25
    refine j_gR 116 kf_X6_109 dX6_count_113 rfl ?_
    intro v26
    refine j_aload_n 117 0 dX6_count_116 rfl rfl rfl ?_
    refine j_gR 120 kf_X6_12 dX6_count_117 rfl ?_
    intro v27
    refine j_gI 123 kf_X6_70 dX6_count_120 rfl ?_
    intro v28
    refine j_callS_i (As := [.ref v26, .int v28]) (st := []) 126 (okX6_total G x v26 v28) kc_X6_total kl_X6_361 ks_X6_total ⟨rfl, rfl, Nat.le_of_ble_eq_true rfl, Nat.le_of_ble_eq_true rfl⟩ (Nat.le_of_ble_eq_true rfl) ⟨Nat.le_of_ble_eq_true rfl, Nat.le_of_ble_eq_true rfl⟩ rfl dX6_count_123 rfl rfl ?_
    intro v29
    exact j_iret dX6_count_126 rfl
  have h3n := sw_ne h3
  have h7n := sw_ne h7
  have h10n := sw_ne h10
  have h18n := sw_ne h18
  have h24n := sw_ne h24
  have h30n := sw_ne h30
  have h3m : (Int32.toInt 0) = 0 := by decide
  have h7m : (Int32.toInt 1) = 1 := by decide
  have h10m : (Int32.toInt 2) = 2 := by decide
  have h18m : (Int32.toInt 3) = 3 := by decide
  have h24m : (Int32.toInt 4) = 4 := by decide
  have h30m : (Int32.toInt 5) = 5 := by decide
  refine j_tout 127 dX6_count_1 (by omega) (by decide) ?_
  refine j_sipush (v := -1000) 130 dX6_count_127 rfl sc_m1000 ?_
  exact j_iret dX6_count_130 rfl
-- X6_sheet: ('BarSteps', 'sheet', '(III)I')
def X6_sheet (a0 : Nat) (a1 : Int32) (a2 : Int32) (a3 : Int32) (x : Hs) : Option (Int32 × Hs) := (vO x 5 a0).bind fun _ =>
  (X6_isSheet a1).bind fun v1 =>
  (if v1 = 0 then some ((-2), x) else
  (X6_between a2 (-1) 1).bind fun v2 =>
  (if v2 = 0 then some ((-2), x) else
  (if a2 = (-1) then (gR x 5 a0 4).bind fun v5 =>
  (X3_renew v5 a1 (-1) 0 x).bind fun q6 =>
  some (1, q6) else
  (if a3 ≤ 40 then (if 0 ≤ a3 then (gR x 5 a0 4).bind fun v3 =>
  (X3_renew v3 a1 a2 a3 x).bind fun q4 =>
  some (1, q4) else
  some ((-14), x)) else
  some ((-2), x)))))
theorem rvX6_sheet {a0 : Nat} {a1 : Int32} {a2 : Int32} {a3 : Int32} {x : Hs} {r : Int32 × Hs} (h : X6_sheet a0 a1 a2 a3 x = some r) : ∃ fs, x.1 a0 = .inr (5, fs) := vO_bind h
theorem okX6_sheet (G : JG) (x : Hs) (a0 : Nat) (a1 : Int32) (a2 : Int32) (a3 : Int32) : ∀ r, X6_sheet a0 a1 a2 a3 x = some r → JC G yX6_sheet cX6_sheet 4 (some .int) (jR 3 0 0) 0 0 [.ref a0, .int a1, .int a2, .int a3] x ((some (.int r.1), r.2)) := by
  refine jc_of (own := RX6) (E := (fun r : Int32 × Hs => ((some (.int r.1), r.2) : JR))) (by decide) rfl rfl (Nat.le_of_ble_eq_true rfl) rfl ?_
  unfold X6_sheet
  refine j_chk ?_
  refine j_iload_n 1 1 dX6_sheet_0 rfl rfl rfl ?_
  refine j_callS_i (As := [.int a1]) (st := []) 4 (okX6_isSheet G x a1) kc_X6_isSheet kl_X6_260 ks_X6_isSheet ⟨rfl, rfl, Nat.le_of_ble_eq_true rfl, Nat.le_of_ble_eq_true rfl⟩ (Nat.le_of_ble_eq_true rfl) ⟨Nat.le_of_ble_eq_true rfl, Nat.le_of_ble_eq_true rfl⟩ rfl dX6_sheet_1 rfl rfl ?_
  intro v1
  refine j_if_eq 16 7 dX6_sheet_4 (by decide) rfl ?_ ?_
  · refine j_bipush (v := -2) 18 dX6_sheet_16 rfl bc_m2 ?_
    exact j_iret dX6_sheet_18 rfl
  · refine j_iload_n 8 2 dX6_sheet_7 rfl rfl rfl ?_
    refine j_iconst (v := -1) 9 dX6_sheet_8 rfl ic_m1 ?_
    refine j_iconst (v := 1) 10 dX6_sheet_9 rfl ic_1 ?_
    refine j_callS_i (As := [.int a2, .int (-1), .int 1]) (st := []) 13 (okX6_between G x a2 (-1) 1) kc_X6_between kl_X6_137 ks_X6_between ⟨rfl, rfl, Nat.le_of_ble_eq_true rfl, Nat.le_of_ble_eq_true rfl⟩ (Nat.le_of_ble_eq_true rfl) ⟨Nat.le_of_ble_eq_true rfl, Nat.le_of_ble_eq_true rfl⟩ rfl dX6_sheet_10 rfl rfl ?_
    intro v2
    refine j_if_ne 19 16 dX6_sheet_13 (by decide) rfl ?_ ?_
    · refine j_iload_n 20 2 dX6_sheet_19 rfl rfl rfl ?_
      refine j_iconst (v := -1) 21 dX6_sheet_20 rfl ic_m1 ?_
      refine j_icmp_ne 36 24 dX6_sheet_21 (by decide) rfl ?_ ?_
      · refine j_iload_n 37 3 dX6_sheet_36 rfl rfl rfl ?_
        refine j_bipush (v := 40) 39 dX6_sheet_37 rfl bc_40 ?_
        refine j_icmp_le 45 42 dX6_sheet_39 (by decide) rfl ?_ ?_
        · refine j_iload_n 46 3 dX6_sheet_45 rfl rfl rfl ?_
          refine j_if_ge 52 49 dX6_sheet_46 (by decide) rfl ?_ ?_
          · refine j_aload_n 53 0 dX6_sheet_52 rfl rfl rfl ?_
            refine j_gR 56 kf_X6_34 dX6_sheet_53 rfl ?_
            intro v3
            refine j_iload_n 57 1 dX6_sheet_56 rfl rfl rfl ?_
            refine j_iload_n 58 2 dX6_sheet_57 rfl rfl rfl ?_
            refine j_iload_n 59 3 dX6_sheet_58 rfl rfl rfl ?_
            refine j_callV_v (ci := 2) (As := [.int a1, .int a2, .int a3]) (st := []) 62 (okX3_renew G x v3 a1 a2 a3) kc_X3_renew kl_X6_296 ki_X3_renew kv_X3_renew kh_X3 (by decide) (fun _ h => rvX3_renew h) ⟨rfl, rfl, Nat.le_of_ble_eq_true rfl, Nat.le_of_ble_eq_true rfl⟩ (Nat.le_of_ble_eq_true rfl) ⟨Nat.le_of_ble_eq_true rfl, Nat.le_of_ble_eq_true rfl⟩ rfl dX6_sheet_59 rfl rfl ?_
            intro q4
            refine j_iconst (v := 1) 63 dX6_sheet_62 rfl ic_1 ?_
            exact j_iret dX6_sheet_63 rfl
          · refine j_bipush (v := -14) 51 dX6_sheet_49 rfl bc_m14 ?_
            exact j_iret dX6_sheet_51 rfl
        · refine j_bipush (v := -2) 44 dX6_sheet_42 rfl bc_m2 ?_
          exact j_iret dX6_sheet_44 rfl
      · refine j_aload_n 25 0 dX6_sheet_24 rfl rfl rfl ?_
        refine j_gR 28 kf_X6_34 dX6_sheet_25 rfl ?_
        intro v5
        refine j_iload_n 29 1 dX6_sheet_28 rfl rfl rfl ?_
        refine j_iconst (v := -1) 30 dX6_sheet_29 rfl ic_m1 ?_
        refine j_iconst (v := 0) 31 dX6_sheet_30 rfl ic_0 ?_
        refine j_callV_v (ci := 2) (As := [.int a1, .int (-1), .int 0]) (st := []) 34 (okX3_renew G x v5 a1 (-1) 0) kc_X3_renew kl_X6_296 ki_X3_renew kv_X3_renew kh_X3 (by decide) (fun _ h => rvX3_renew h) ⟨rfl, rfl, Nat.le_of_ble_eq_true rfl, Nat.le_of_ble_eq_true rfl⟩ (Nat.le_of_ble_eq_true rfl) ⟨Nat.le_of_ble_eq_true rfl, Nat.le_of_ble_eq_true rfl⟩ rfl dX6_sheet_31 rfl rfl ?_
        intro q6
        refine j_iconst (v := 1) 35 dX6_sheet_34 rfl ic_1 ?_
        exact j_iret dX6_sheet_35 rfl
    · refine j_bipush (v := -2) 18 dX6_sheet_16 rfl bc_m2 ?_
      exact j_iret dX6_sheet_18 rfl
-- X6_put: ('BarSteps', 'put', '(III)I')
def X6_put (a0 : Nat) (a1 : Int32) (a2 : Int32) (a3 : Int32) (x : Hs) : Option (Int32 × Hs) := (vO x 5 a0).bind fun _ =>
  (X6_isSheet a1).bind fun v1 =>
  (if v1 = 0 then some ((-2), x) else
  (gR x 5 a0 4).bind fun v2 =>
  (X3_isMissing v2 a1 x).bind fun v3 =>
  (if v3 = 0 then (gR x 5 a0 4).bind fun v4 =>
  (X3_has v4 a1 a2 x).bind fun v5 =>
  (if v5 = 0 then some ((-12), x) else
  (gR x 5 a0 4).bind fun v6 =>
  (gR x 2 v6 2).bind fun v7 =>
  (aR x v7 a1).bind fun v8 =>
  (gR x 5 a0 4).bind fun v9 =>
  (gR x 2 v9 0).bind fun v10 =>
  (aI x v10 a1).bind fun v11 =>
  (if v11 = 0 then (wI x v8 a2 ((Int32.toInt16 a3).toInt32)).bind fun y13 =>
  some (1, y13) else
  (wI x v8 a2 a3).bind fun y12 =>
  some (1, y12))) else
  some ((-11), x)))
theorem rvX6_put {a0 : Nat} {a1 : Int32} {a2 : Int32} {a3 : Int32} {x : Hs} {r : Int32 × Hs} (h : X6_put a0 a1 a2 a3 x = some r) : ∃ fs, x.1 a0 = .inr (5, fs) := vO_bind h
theorem okX6_put (G : JG) (x : Hs) (a0 : Nat) (a1 : Int32) (a2 : Int32) (a3 : Int32) : ∀ r, X6_put a0 a1 a2 a3 x = some r → JC G yX6_put cX6_put 4 (some .int) (jR 3 0 0) 0 0 [.ref a0, .int a1, .int a2, .int a3] x ((some (.int r.1), r.2)) := by
  refine jc_of (own := RX6) (E := (fun r : Int32 × Hs => ((some (.int r.1), r.2) : JR))) (by decide) rfl rfl (Nat.le_of_ble_eq_true rfl) rfl ?_
  unfold X6_put
  refine j_chk ?_
  refine j_iload_n 1 1 dX6_put_0 rfl rfl rfl ?_
  refine j_callS_i (As := [.int a1]) (st := []) 4 (okX6_isSheet G x a1) kc_X6_isSheet kl_X6_260 ks_X6_isSheet ⟨rfl, rfl, Nat.le_of_ble_eq_true rfl, Nat.le_of_ble_eq_true rfl⟩ (Nat.le_of_ble_eq_true rfl) ⟨Nat.le_of_ble_eq_true rfl, Nat.le_of_ble_eq_true rfl⟩ rfl dX6_put_1 rfl rfl ?_
  intro v1
  refine j_if_ne 10 7 dX6_put_4 (by decide) rfl ?_ ?_
  · refine j_aload_n 11 0 dX6_put_10 rfl rfl rfl ?_
    refine j_gR 14 kf_X6_34 dX6_put_11 rfl ?_
    intro v2
    refine j_iload_n 15 1 dX6_put_14 rfl rfl rfl ?_
    refine j_callV_i (ci := 2) (As := [.int a1]) (st := []) 18 (okX3_isMissing G x v2 a1) kc_X3_isMissing kl_X6_263 ki_X3_isMissing kv_X3_isMissing kh_X3 (by decide) (fun _ h => rvX3_isMissing h) ⟨rfl, rfl, Nat.le_of_ble_eq_true rfl, Nat.le_of_ble_eq_true rfl⟩ (Nat.le_of_ble_eq_true rfl) ⟨Nat.le_of_ble_eq_true rfl, Nat.le_of_ble_eq_true rfl⟩ rfl dX6_put_15 rfl rfl ?_
    intro v3
    refine j_if_eq 24 21 dX6_put_18 (by decide) rfl ?_ ?_
    · refine j_aload_n 25 0 dX6_put_24 rfl rfl rfl ?_
      refine j_gR 28 kf_X6_34 dX6_put_25 rfl ?_
      intro v4
      refine j_iload_n 29 1 dX6_put_28 rfl rfl rfl ?_
      refine j_iload_n 30 2 dX6_put_29 rfl rfl rfl ?_
      refine j_callV_i (ci := 2) (As := [.int a1, .int a2]) (st := []) 33 (okX3_has G x v4 a1 a2) kc_X3_has kl_X6_359 ki_X3_has kv_X3_has kh_X3 (by decide) (fun _ h => rvX3_has h) ⟨rfl, rfl, Nat.le_of_ble_eq_true rfl, Nat.le_of_ble_eq_true rfl⟩ (Nat.le_of_ble_eq_true rfl) ⟨Nat.le_of_ble_eq_true rfl, Nat.le_of_ble_eq_true rfl⟩ rfl dX6_put_30 rfl rfl ?_
      intro v5
      refine j_if_ne 39 36 dX6_put_33 (by decide) rfl ?_ ?_
      · refine j_aload_n 40 0 dX6_put_39 rfl rfl rfl ?_
        refine j_gR 43 kf_X6_34 dX6_put_40 rfl ?_
        intro v6
        refine j_gR 46 kf_X6_280 dX6_put_43 rfl ?_
        intro v7
        refine j_iload_n 47 1 dX6_put_46 rfl rfl rfl ?_
        refine j_aR 48 dX6_put_47 rfl ?_
        intro v8
        refine j_iload_n 49 2 dX6_put_48 rfl rfl rfl ?_
        refine j_aload_n 50 0 dX6_put_49 rfl rfl rfl ?_
        refine j_gR 53 kf_X6_34 dX6_put_50 rfl ?_
        intro v9
        refine j_gR 56 kf_X6_356 dX6_put_53 rfl ?_
        intro v10
        refine j_iload_n 57 1 dX6_put_56 rfl rfl rfl ?_
        refine j_aI 58 dX6_put_57 rfl ?_
        intro v11
        refine j_if_ne 66 61 dX6_put_58 (by decide) rfl ?_ ?_
        · refine j_iload_n 67 3 dX6_put_66 rfl rfl rfl ?_
          refine j_wI 68 dX6_put_67 rfl ?_
          intro y12
          refine j_iconst (v := 1) 69 dX6_put_68 rfl ic_1 ?_
          exact j_iret dX6_put_69 rfl
        · refine j_iload_n 62 3 dX6_put_61 rfl rfl rfl ?_
          refine j_i2s 63 dX6_put_62 rfl ?_
          refine j_goto 67 dX6_put_63 (by decide) ?_
          refine j_wI 68 dX6_put_67 rfl ?_
          intro y13
          refine j_iconst (v := 1) 69 dX6_put_68 rfl ic_1 ?_
          exact j_iret dX6_put_69 rfl
      · refine j_bipush (v := -12) 38 dX6_put_36 rfl bc_m12 ?_
        exact j_iret dX6_put_38 rfl
    · refine j_bipush (v := -11) 23 dX6_put_21 rfl bc_m11 ?_
      exact j_iret dX6_put_23 rfl
  · refine j_bipush (v := -2) 9 dX6_put_7 rfl bc_m2 ?_
    exact j_iret dX6_put_9 rfl
-- X6_copy: ('BarSteps', 'copy', '(IIIII)I')
def X6_copy (a0 : Nat) (a1 : Int32) (a2 : Int32) (a3 : Int32) (a4 : Int32) (a5 : Int32) (x : Hs) : Option (Int32 × Hs) := (vO x 5 a0).bind fun _ =>
  (X6_isSheet a1).bind fun v1 =>
  (if v1 = 0 then some ((-2), x) else
  (X6_isSheet a3).bind fun v2 =>
  (if v2 = 0 then some ((-2), x) else
  (gR x 5 a0 4).bind fun v3 =>
  (X3_isMissing v3 a1 x).bind fun v4 =>
  (if v4 = 0 then (gR x 5 a0 4).bind fun v5 =>
  (X3_isMissing v5 a3 x).bind fun v6 =>
  (if v6 = 0 then (gR x 5 a0 4).bind fun v7 =>
  (gR x 2 v7 0).bind fun v8 =>
  (aI x v8 a1).bind fun v9 =>
  (gR x 5 a0 4).bind fun v10 =>
  (gR x 2 v10 0).bind fun v11 =>
  (aI x v11 a3).bind fun v12 =>
  (if v9 = v12 then (gR x 5 a0 4).bind fun v13 =>
  (X3_hasRun v13 a1 a2 a5 x).bind fun v14 =>
  (if v14 = 0 then some ((-12), x) else
  (gR x 5 a0 4).bind fun v15 =>
  (X3_hasRun v15 a3 a4 a5 x).bind fun v16 =>
  (if v16 = 0 then some ((-12), x) else
  (gR x 5 a0 4).bind fun v17 =>
  (gR x 2 v17 2).bind fun v18 =>
  (aR x v18 a1).bind fun v19 =>
  (gR x 5 a0 4).bind fun v20 =>
  (gR x 2 v20 2).bind fun v21 =>
  (aR x v21 a3).bind fun v22 =>
  (cpI x v19 a2 v22 a4 a5).bind fun y23 =>
  some (a5, y23))) else
  some ((-13), x)) else
  some ((-11), x)) else
  some ((-11), x))))
theorem rvX6_copy {a0 : Nat} {a1 : Int32} {a2 : Int32} {a3 : Int32} {a4 : Int32} {a5 : Int32} {x : Hs} {r : Int32 × Hs} (h : X6_copy a0 a1 a2 a3 a4 a5 x = some r) : ∃ fs, x.1 a0 = .inr (5, fs) := vO_bind h
theorem okX6_copy (G : JG) (x : Hs) (a0 : Nat) (a1 : Int32) (a2 : Int32) (a3 : Int32) (a4 : Int32) (a5 : Int32) : ∀ r, X6_copy a0 a1 a2 a3 a4 a5 x = some r → JC G yX6_copy cX6_copy 6 (some .int) (jR 3 0 0) 0 0 [.ref a0, .int a1, .int a2, .int a3, .int a4, .int a5] x ((some (.int r.1), r.2)) := by
  refine jc_of (own := RX6) (E := (fun r : Int32 × Hs => ((some (.int r.1), r.2) : JR))) (by decide) rfl rfl (Nat.le_of_ble_eq_true rfl) rfl ?_
  unfold X6_copy
  refine j_chk ?_
  refine j_iload_n 1 1 dX6_copy_0 rfl rfl rfl ?_
  refine j_callS_i (As := [.int a1]) (st := []) 4 (okX6_isSheet G x a1) kc_X6_isSheet kl_X6_260 ks_X6_isSheet ⟨rfl, rfl, Nat.le_of_ble_eq_true rfl, Nat.le_of_ble_eq_true rfl⟩ (Nat.le_of_ble_eq_true rfl) ⟨Nat.le_of_ble_eq_true rfl, Nat.le_of_ble_eq_true rfl⟩ rfl dX6_copy_1 rfl rfl ?_
  intro v1
  refine j_if_eq 14 7 dX6_copy_4 (by decide) rfl ?_ ?_
  · refine j_bipush (v := -2) 16 dX6_copy_14 rfl bc_m2 ?_
    exact j_iret dX6_copy_16 rfl
  · refine j_iload_n 8 3 dX6_copy_7 rfl rfl rfl ?_
    refine j_callS_i (As := [.int a3]) (st := []) 11 (okX6_isSheet G x a3) kc_X6_isSheet kl_X6_260 ks_X6_isSheet ⟨rfl, rfl, Nat.le_of_ble_eq_true rfl, Nat.le_of_ble_eq_true rfl⟩ (Nat.le_of_ble_eq_true rfl) ⟨Nat.le_of_ble_eq_true rfl, Nat.le_of_ble_eq_true rfl⟩ rfl dX6_copy_8 rfl rfl ?_
    intro v2
    refine j_if_ne 17 14 dX6_copy_11 (by decide) rfl ?_ ?_
    · refine j_aload_n 18 0 dX6_copy_17 rfl rfl rfl ?_
      refine j_gR 21 kf_X6_34 dX6_copy_18 rfl ?_
      intro v3
      refine j_iload_n 22 1 dX6_copy_21 rfl rfl rfl ?_
      refine j_callV_i (ci := 2) (As := [.int a1]) (st := []) 25 (okX3_isMissing G x v3 a1) kc_X3_isMissing kl_X6_263 ki_X3_isMissing kv_X3_isMissing kh_X3 (by decide) (fun _ h => rvX3_isMissing h) ⟨rfl, rfl, Nat.le_of_ble_eq_true rfl, Nat.le_of_ble_eq_true rfl⟩ (Nat.le_of_ble_eq_true rfl) ⟨Nat.le_of_ble_eq_true rfl, Nat.le_of_ble_eq_true rfl⟩ rfl dX6_copy_22 rfl rfl ?_
      intro v4
      refine j_if_ne 39 28 dX6_copy_25 (by decide) rfl ?_ ?_
      · refine j_bipush (v := -11) 41 dX6_copy_39 rfl bc_m11 ?_
        exact j_iret dX6_copy_41 rfl
      · refine j_aload_n 29 0 dX6_copy_28 rfl rfl rfl ?_
        refine j_gR 32 kf_X6_34 dX6_copy_29 rfl ?_
        intro v5
        refine j_iload_n 33 3 dX6_copy_32 rfl rfl rfl ?_
        refine j_callV_i (ci := 2) (As := [.int a3]) (st := []) 36 (okX3_isMissing G x v5 a3) kc_X3_isMissing kl_X6_263 ki_X3_isMissing kv_X3_isMissing kh_X3 (by decide) (fun _ h => rvX3_isMissing h) ⟨rfl, rfl, Nat.le_of_ble_eq_true rfl, Nat.le_of_ble_eq_true rfl⟩ (Nat.le_of_ble_eq_true rfl) ⟨Nat.le_of_ble_eq_true rfl, Nat.le_of_ble_eq_true rfl⟩ rfl dX6_copy_33 rfl rfl ?_
        intro v6
        refine j_if_eq 42 39 dX6_copy_36 (by decide) rfl ?_ ?_
        · refine j_aload_n 43 0 dX6_copy_42 rfl rfl rfl ?_
          refine j_gR 46 kf_X6_34 dX6_copy_43 rfl ?_
          intro v7
          refine j_gR 49 kf_X6_356 dX6_copy_46 rfl ?_
          intro v8
          refine j_iload_n 50 1 dX6_copy_49 rfl rfl rfl ?_
          refine j_aI 51 dX6_copy_50 rfl ?_
          intro v9
          refine j_aload_n 52 0 dX6_copy_51 rfl rfl rfl ?_
          refine j_gR 55 kf_X6_34 dX6_copy_52 rfl ?_
          intro v10
          refine j_gR 58 kf_X6_356 dX6_copy_55 rfl ?_
          intro v11
          refine j_iload_n 59 3 dX6_copy_58 rfl rfl rfl ?_
          refine j_aI 60 dX6_copy_59 rfl ?_
          intro v12
          refine j_icmp_eq 66 63 dX6_copy_60 (by decide) rfl ?_ ?_
          · refine j_aload_n 67 0 dX6_copy_66 rfl rfl rfl ?_
            refine j_gR 70 kf_X6_34 dX6_copy_67 rfl ?_
            intro v13
            refine j_iload_n 71 1 dX6_copy_70 rfl rfl rfl ?_
            refine j_iload_n 72 2 dX6_copy_71 rfl rfl rfl ?_
            refine j_iload 74 5 dX6_copy_72 rfl rfl ?_
            refine j_callV_i (ci := 2) (As := [.int a1, .int a2, .int a5]) (st := []) 77 (okX3_hasRun G x v13 a1 a2 a5) kc_X3_hasRun kl_X6_365 ki_X3_hasRun kv_X3_hasRun kh_X3 (by decide) (fun _ h => rvX3_hasRun h) ⟨rfl, rfl, Nat.le_of_ble_eq_true rfl, Nat.le_of_ble_eq_true rfl⟩ (Nat.le_of_ble_eq_true rfl) ⟨Nat.le_of_ble_eq_true rfl, Nat.le_of_ble_eq_true rfl⟩ rfl dX6_copy_74 rfl rfl ?_
            intro v14
            refine j_if_eq 95 80 dX6_copy_77 (by decide) rfl ?_ ?_
            · refine j_bipush (v := -12) 97 dX6_copy_95 rfl bc_m12 ?_
              exact j_iret dX6_copy_97 rfl
            · refine j_aload_n 81 0 dX6_copy_80 rfl rfl rfl ?_
              refine j_gR 84 kf_X6_34 dX6_copy_81 rfl ?_
              intro v15
              refine j_iload_n 85 3 dX6_copy_84 rfl rfl rfl ?_
              refine j_iload 87 4 dX6_copy_85 rfl rfl ?_
              refine j_iload 89 5 dX6_copy_87 rfl rfl ?_
              refine j_callV_i (ci := 2) (As := [.int a3, .int a4, .int a5]) (st := []) 92 (okX3_hasRun G x v15 a3 a4 a5) kc_X3_hasRun kl_X6_365 ki_X3_hasRun kv_X3_hasRun kh_X3 (by decide) (fun _ h => rvX3_hasRun h) ⟨rfl, rfl, Nat.le_of_ble_eq_true rfl, Nat.le_of_ble_eq_true rfl⟩ (Nat.le_of_ble_eq_true rfl) ⟨Nat.le_of_ble_eq_true rfl, Nat.le_of_ble_eq_true rfl⟩ rfl dX6_copy_89 rfl rfl ?_
              intro v16
              refine j_if_ne 98 95 dX6_copy_92 (by decide) rfl ?_ ?_
              · refine j_aload_n 99 0 dX6_copy_98 rfl rfl rfl ?_
                refine j_gR 102 kf_X6_34 dX6_copy_99 rfl ?_
                intro v17
                refine j_gR 105 kf_X6_280 dX6_copy_102 rfl ?_
                intro v18
                refine j_iload_n 106 1 dX6_copy_105 rfl rfl rfl ?_
                refine j_aR 107 dX6_copy_106 rfl ?_
                intro v19
                refine j_iload_n 108 2 dX6_copy_107 rfl rfl rfl ?_
                refine j_aload_n 109 0 dX6_copy_108 rfl rfl rfl ?_
                refine j_gR 112 kf_X6_34 dX6_copy_109 rfl ?_
                intro v20
                refine j_gR 115 kf_X6_280 dX6_copy_112 rfl ?_
                intro v21
                refine j_iload_n 116 3 dX6_copy_115 rfl rfl rfl ?_
                refine j_aR 117 dX6_copy_116 rfl ?_
                intro v22
                refine j_iload 119 4 dX6_copy_117 rfl rfl ?_
                refine j_iload 121 5 dX6_copy_119 rfl rfl ?_
                refine j_cpI 124 kl_X6_300 kac_n kac_s kac_i (Nat.le_of_ble_eq_true rfl) (Nat.le_of_ble_eq_true rfl) dX6_copy_121 rfl ?_
                intro y23
                refine j_iload 126 5 dX6_copy_124 rfl rfl ?_
                exact j_iret dX6_copy_126 rfl
              · refine j_bipush (v := -12) 97 dX6_copy_95 rfl bc_m12 ?_
                exact j_iret dX6_copy_97 rfl
          · refine j_bipush (v := -13) 65 dX6_copy_63 rfl bc_m13 ?_
            exact j_iret dX6_copy_65 rfl
        · refine j_bipush (v := -11) 41 dX6_copy_39 rfl bc_m11 ?_
          exact j_iret dX6_copy_41 rfl
    · refine j_bipush (v := -2) 16 dX6_copy_14 rfl bc_m2 ?_
      exact j_iret dX6_copy_16 rfl
-- X7_init: ('BarStepsModel', '<init>', '()V')
def X7_init (a0 : Nat) (x : Hs) : Option (Hs) := (nC x (.inl (x.2.2 0, 8, .inl (fun _ => 0)))).bind fun q1 =>
  (pV q1.2 6 a0 1 (.ref q1.1)).bind fun y2 =>
  (nC y2 (.inl (y2.2.2 0, 8, .inl (fun _ => 0)))).bind fun q3 =>
  (pV q3.2 6 a0 2 (.ref q3.1)).bind fun y4 =>
  (nC y4 (.inl (y4.2.2 0, 8, .inl (fun _ => 0)))).bind fun q5 =>
  (pV q5.2 6 a0 3 (.ref q5.1)).bind fun y6 =>
  (nC y6 (.inl (y6.2.2 0, 8, .inl (fun _ => 0)))).bind fun q7 =>
  (pV q7.2 6 a0 4 (.ref q7.1)).bind fun y8 =>
  (nC y8 (.inl (y8.2.2 1, 8, .inr (.inl (fun _ => 0))))).bind fun q9 =>
  (pV q9.2 6 a0 5 (.ref q9.1)).bind fun y10 =>
  (pV y10 6 a0 6 (.long 1)).bind fun y11 =>
  (nC y11 (.inl (y11.2.2 0, 2, .inl (fun _ => 0)))).bind fun q12 =>
  (wI q12.2 q12.1 0 (-1)).bind fun y13 =>
  (wI y13 q12.1 1 (-1)).bind fun y14 =>
  (pV y14 6 a0 7 (.ref q12.1)).bind fun y15 =>
  (nC y15 (.inl (y15.2.2 0, 2, .inl (fun _ => 0)))).bind fun q16 =>
  (wI q16.2 q16.1 0 4).bind fun y17 =>
  (wI y17 q16.1 1 0).bind fun y18 =>
  (pV y18 6 a0 8 (.ref q16.1)).bind fun y19 =>
  (nC y19 (.inl (y19.2.2 0, 12, .inl (fun _ => 0)))).bind fun q20 =>
  (pV q20.2 6 a0 10 (.ref q20.1)).bind fun y21 =>
  (nC y21 (.inl (y21.2.2 0, 12, .inl (fun _ => 0)))).bind fun q22 =>
  (pV q22.2 6 a0 11 (.ref q22.1)).bind fun y23 =>
  (nC y23 (.inl (y23.2.2 0, 12, .inl (fun _ => 0)))).bind fun q24 =>
  (pV q24.2 6 a0 12 (.ref q24.1)).bind fun y25 =>
  (nC y25 (.inl (y25.2.2 1, 8, .inr (.inl (fun _ => 0))))).bind fun q26 =>
  (pV q26.2 6 a0 13 (.ref q26.1)).bind fun y27 =>
  (nC y27 (.inl (y27.2.2 0, 12, .inl (fun _ => 0)))).bind fun q28 =>
  (pV q28.2 6 a0 16 (.ref q28.1)).bind fun y29 =>
  (nC y29 (.inl (y29.2.2 0, 12, .inl (fun _ => 0)))).bind fun q30 =>
  (pV q30.2 6 a0 17 (.ref q30.1)).bind fun y31 =>
  (nC y31 (.inl (y31.2.2 0, 12, .inl (fun _ => 0)))).bind fun q32 =>
  (pV q32.2 6 a0 18 (.ref q32.1)).bind fun y33 =>
  (nC y33 (.inl (y33.2.2 1, 8, .inr (.inl (fun _ => 0))))).bind fun q34 =>
  (pV q34.2 6 a0 19 (.ref q34.1)).bind fun y35 =>
  (nC y35 (.inl (y35.2.2 1, 9, .inr (.inl (fun _ => 0))))).bind fun q36 =>
  (pV q36.2 6 a0 21 (.ref q36.1)).bind fun y37 =>
  (nC y37 (.inl (y37.2.2 1, 10, .inr (.inl (fun _ => 0))))).bind fun q38 =>
  (pV q38.2 6 a0 22 (.ref q38.1)).bind fun y39 =>
  (nC y39 (.inl (y39.2.2 1, 8, .inr (.inl (fun _ => 0))))).bind fun q40 =>
  (pV q40.2 6 a0 23 (.ref q40.1)).bind fun y41 =>
  (nC y41 (.inl (y41.2.2 0, 10, .inl (fun _ => 0)))).bind fun q42 =>
  (pV q42.2 6 a0 25 (.ref q42.1)).bind fun y43 =>
  (nC y43 (.inl (y43.2.2 2, 44, .inl (fun _ => 0)))).bind fun q44 =>
  (wC q44.2 q44.1 0 99).bind fun y45 =>
  (wC y45 q44.1 1 101).bind fun y46 =>
  (wC y46 q44.1 2 108).bind fun y47 =>
  (wC y47 q44.1 3 108).bind fun y48 =>
  (wC y48 q44.1 4 32).bind fun y49 =>
  (wC y49 q44.1 5 104).bind fun y50 =>
  (wC y50 q44.1 6 101).bind fun y51 =>
  (wC y51 q44.1 7 97).bind fun y52 =>
  (wC y52 q44.1 8 116).bind fun y53 =>
  (wC y53 q44.1 9 32).bind fun y54 =>
  (wC y54 q44.1 10 115).bind fun y55 =>
  (wC y55 q44.1 11 111).bind fun y56 =>
  (wC y56 q44.1 12 117).bind fun y57 =>
  (wC y57 q44.1 13 114).bind fun y58 =>
  (wC y58 q44.1 14 99).bind fun y59 =>
  (wC y59 q44.1 15 101).bind fun y60 =>
  (wC y60 q44.1 16 32).bind fun y61 =>
  (wC y61 q44.1 17 108).bind fun y62 =>
  (wC y62 q44.1 18 101).bind fun y63 =>
  (wC y63 q44.1 19 102).bind fun y64 =>
  (wC y64 q44.1 20 116).bind fun y65 =>
  (wC y65 q44.1 21 32).bind fun y66 =>
  (wC y66 q44.1 22 114).bind fun y67 =>
  (wC y67 q44.1 23 105).bind fun y68 =>
  (wC y68 q44.1 24 103).bind fun y69 =>
  (wC y69 q44.1 25 104).bind fun y70 =>
  (wC y70 q44.1 26 116).bind fun y71 =>
  (wC y71 q44.1 27 32).bind fun y72 =>
  (wC y72 q44.1 28 102).bind fun y73 =>
  (wC y73 q44.1 29 105).bind fun y74 =>
  (wC y74 q44.1 30 110).bind fun y75 =>
  (wC y75 q44.1 31 101).bind fun y76 =>
  (wC y76 q44.1 32 32).bind fun y77 =>
  (wC y77 q44.1 33 112).bind fun y78 =>
  (wC y78 q44.1 34 117).bind fun y79 =>
  (wC y79 q44.1 35 108).bind fun y80 =>
  (wC y80 q44.1 36 115).bind fun y81 =>
  (wC y81 q44.1 37 101).bind fun y82 =>
  (wC y82 q44.1 38 32).bind fun y83 =>
  (wC y83 q44.1 39 100).bind fun y84 =>
  (wC y84 q44.1 40 114).bind fun y85 =>
  (wC y85 q44.1 41 111).bind fun y86 =>
  (wC y86 q44.1 42 112).bind fun y87 =>
  (wC y87 q44.1 43 32).bind fun y88 =>
  (pV y88 6 a0 26 (.ref q44.1)).bind fun y89 =>
  (nC y89 (.inl (y89.2.2 0, 8, .inl (fun _ => 0)))).bind fun q90 =>
  (wI q90.2 q90.1 0 4).bind fun y91 =>
  (wI y91 q90.1 1 2).bind fun y92 =>
  (wI y92 q90.1 2 2).bind fun y93 =>
  (wI y93 q90.1 3 1).bind fun y94 =>
  (wI y94 q90.1 4 1).bind fun y95 =>
  (wI y95 q90.1 5 1).bind fun y96 =>
  (wI y96 q90.1 6 3).bind fun y97 =>
  (wI y97 q90.1 7 0).bind fun y98 =>
  (pV y98 6 a0 27 (.ref q90.1)).bind fun y99 =>
  (nC y99 (.inl (y99.2.2 0, 60, .inl (fun _ => 0)))).bind fun q100 =>
  (pV q100.2 6 a0 28 (.ref q100.1)).bind fun y101 =>
  (nC y101 (.inl (y101.2.2 0, 4, .inl (fun _ => 0)))).bind fun q102 =>
  (pV q102.2 6 a0 35 (.ref q102.1)).bind fun y103 =>
  (nC y103 (.inl (y103.2.2 0, 8, .inl (fun _ => 0)))).bind fun q104 =>
  (pV q104.2 6 a0 39 (.ref q104.1)).bind fun y105 =>
  (nC y105 (.inl (y105.2.2 0, 8, .inl (fun _ => 0)))).bind fun q106 =>
  (pV q106.2 6 a0 40 (.ref q106.1)).bind fun y107 =>
  (nC y107 (.inl (y107.2.2 0, 8, .inl (fun _ => 0)))).bind fun q108 =>
  (pV q108.2 6 a0 41 (.ref q108.1)).bind fun y109 =>
  (nC y109 (.inl (y109.2.2 0, 8, .inl (fun _ => 0)))).bind fun q110 =>
  (pV q110.2 6 a0 42 (.ref q110.1)).bind fun y111 =>
  (nC y111 (.inl (y111.2.2 1, 8, .inr (.inl (fun _ => 0))))).bind fun q112 =>
  (pV q112.2 6 a0 43 (.ref q112.1)).bind fun y113 =>
  (nC y113 (.inl (y113.2.2 0, 2, .inl (fun _ => 0)))).bind fun q114 =>
  (pV q114.2 6 a0 45 (.ref q114.1)).bind fun y115 =>
  (nC y115 (.inl (y115.2.2 0, 2, .inl (fun _ => 0)))).bind fun q116 =>
  (pV q116.2 6 a0 46 (.ref q116.1)).bind fun y117 =>
  (nC y117 (.inl (y117.2.2 0, 12, .inl (fun _ => 0)))).bind fun q118 =>
  (pV q118.2 6 a0 48 (.ref q118.1)).bind fun y119 =>
  (nC y119 (.inl (y119.2.2 0, 12, .inl (fun _ => 0)))).bind fun q120 =>
  (pV q120.2 6 a0 49 (.ref q120.1)).bind fun y121 =>
  (nC y121 (.inl (y121.2.2 0, 12, .inl (fun _ => 0)))).bind fun q122 =>
  (pV q122.2 6 a0 50 (.ref q122.1)).bind fun y123 =>
  (nC y123 (.inl (y123.2.2 0, 4, .inl (fun _ => 0)))).bind fun q124 =>
  (wI q124.2 q124.1 0 (-1)).bind fun y125 =>
  (wI y125 q124.1 1 (-1)).bind fun y126 =>
  (wI y126 q124.1 2 (-1)).bind fun y127 =>
  (wI y127 q124.1 3 (-1)).bind fun y128 =>
  (pV y128 6 a0 51 (.ref q124.1)).bind fun y129 =>
  (nC y129 (.inl (y129.2.2 0, 4, .inl (fun _ => 0)))).bind fun q130 =>
  (pV q130.2 6 a0 52 (.ref q130.1)).bind fun y131 =>
  (nC y131 (.inl (y131.2.2 0, 160, .inl (fun _ => 0)))).bind fun q132 =>
  (pV q132.2 6 a0 53 (.ref q132.1)).bind fun y133 =>
  (nC y133 (.inl (y133.2.2 0, 40, .inl (fun _ => 0)))).bind fun q134 =>
  (pV q134.2 6 a0 54 (.ref q134.1)).bind fun y135 =>
  some y135
theorem okX7_init (G : JG) (x : Hs) (a0 : Nat) : ∀ r, X7_init a0 x = some r → JC G yX7_init cX7_init 1 (none) (jR 1 37 573) 37 573 [.ref a0] x ((none, r)) := by
  refine jc_of (own := RX7) (E := (fun r : Hs => ((none, r) : JR))) (by decide) rfl rfl (Nat.le_of_ble_eq_true rfl) rfl ?_
  unfold X7_init
  refine j_aload_n 1 0 dX7_init_0 rfl rfl rfl ?_
  refine j_objInit 4 kl_X7_3 koi_i koi_c (Nat.le_of_ble_eq_true rfl) (Nat.le_of_ble_eq_true rfl) dX7_init_1 rfl ?_
  refine j_aload_n 5 0 dX7_init_4 rfl rfl rfl ?_
  refine j_bipush (v := 8) 7 dX7_init_5 rfl bc_8 ?_
  refine j_newI (N := 8) 9 kar_int (by decide) (by decide) (Nat.le_of_ble_eq_true rfl) (Nat.le_of_ble_eq_true rfl) (Nat.le_of_ble_eq_true rfl) dX7_init_7 rfl ?_
  intro q1
  refine j_putF 12 kf_X7_11 rfl (fun _ _ _ h => by cases h; rfl) dX7_init_9 rfl rfl rfl ?_
  intro y2
  refine j_aload_n 13 0 dX7_init_12 rfl rfl rfl ?_
  refine j_bipush (v := 8) 15 dX7_init_13 rfl bc_8 ?_
  refine j_newI (N := 8) 17 kar_int (by decide) (by decide) (Nat.le_of_ble_eq_true rfl) (Nat.le_of_ble_eq_true rfl) (Nat.le_of_ble_eq_true rfl) dX7_init_15 rfl ?_
  intro q3
  refine j_putF 20 kf_X7_15 rfl (fun _ _ _ h => by cases h; rfl) dX7_init_17 rfl rfl rfl ?_
  intro y4
  refine j_aload_n 21 0 dX7_init_20 rfl rfl rfl ?_
  refine j_bipush (v := 8) 23 dX7_init_21 rfl bc_8 ?_
  refine j_newI (N := 8) 25 kar_int (by decide) (by decide) (Nat.le_of_ble_eq_true rfl) (Nat.le_of_ble_eq_true rfl) (Nat.le_of_ble_eq_true rfl) dX7_init_23 rfl ?_
  intro q5
  refine j_putF 28 kf_X7_18 rfl (fun _ _ _ h => by cases h; rfl) dX7_init_25 rfl rfl rfl ?_
  intro y6
  refine j_aload_n 29 0 dX7_init_28 rfl rfl rfl ?_
  refine j_bipush (v := 8) 31 dX7_init_29 rfl bc_8 ?_
  refine j_newI (N := 8) 33 kar_int (by decide) (by decide) (Nat.le_of_ble_eq_true rfl) (Nat.le_of_ble_eq_true rfl) (Nat.le_of_ble_eq_true rfl) dX7_init_31 rfl ?_
  intro q7
  refine j_putF 36 kf_X7_21 rfl (fun _ _ _ h => by cases h; rfl) dX7_init_33 rfl rfl rfl ?_
  intro y8
  refine j_aload_n 37 0 dX7_init_36 rfl rfl rfl ?_
  refine j_bipush (v := 8) 39 dX7_init_37 rfl bc_8 ?_
  refine j_newL (N := 8) 41 kar_long (by decide) (by decide) (Nat.le_of_ble_eq_true rfl) (Nat.le_of_ble_eq_true rfl) (Nat.le_of_ble_eq_true rfl) dX7_init_39 rfl ?_
  intro q9
  refine j_putF 44 kf_X7_24 rfl (fun _ _ _ h => by cases h; rfl) dX7_init_41 rfl rfl rfl ?_
  intro y10
  refine j_aload_n 45 0 dX7_init_44 rfl rfl rfl ?_
  refine j_lconst (v := 1) 46 dX7_init_45 rfl lc_1 ?_
  refine j_put 49 kf_X7_28 dX7_init_46 rfl rfl rfl ?_
  intro y11
  refine j_aload_n 50 0 dX7_init_49 rfl rfl rfl ?_
  refine j_iconst (v := 2) 51 dX7_init_50 rfl ic_2 ?_
  refine j_newI (N := 2) 53 kar_int (by decide) (by decide) (Nat.le_of_ble_eq_true rfl) (Nat.le_of_ble_eq_true rfl) (Nat.le_of_ble_eq_true rfl) dX7_init_51 rfl ?_
  intro q12
  refine j_dup 54 dX7_init_53 rfl rfl ?_
  refine j_iconst (v := 0) 55 dX7_init_54 rfl ic_0 ?_
  refine j_iconst (v := -1) 56 dX7_init_55 rfl ic_m1 ?_
  refine j_wI 57 dX7_init_56 rfl ?_
  intro y13
  refine j_dup 58 dX7_init_57 rfl rfl ?_
  refine j_iconst (v := 1) 59 dX7_init_58 rfl ic_1 ?_
  refine j_iconst (v := -1) 60 dX7_init_59 rfl ic_m1 ?_
  refine j_wI 61 dX7_init_60 rfl ?_
  intro y14
  refine j_putF 64 kf_X7_32 rfl (fun _ _ _ h => by cases h; rfl) dX7_init_61 rfl rfl rfl ?_
  intro y15
  refine j_aload_n 65 0 dX7_init_64 rfl rfl rfl ?_
  refine j_iconst (v := 2) 66 dX7_init_65 rfl ic_2 ?_
  refine j_newI (N := 2) 68 kar_int (by decide) (by decide) (Nat.le_of_ble_eq_true rfl) (Nat.le_of_ble_eq_true rfl) (Nat.le_of_ble_eq_true rfl) dX7_init_66 rfl ?_
  intro q16
  refine j_dup 69 dX7_init_68 rfl rfl ?_
  refine j_iconst (v := 0) 70 dX7_init_69 rfl ic_0 ?_
  refine j_iconst (v := 4) 71 dX7_init_70 rfl ic_4 ?_
  refine j_wI 72 dX7_init_71 rfl ?_
  intro y17
  refine j_dup 73 dX7_init_72 rfl rfl ?_
  refine j_iconst (v := 1) 74 dX7_init_73 rfl ic_1 ?_
  refine j_iconst (v := 0) 75 dX7_init_74 rfl ic_0 ?_
  refine j_wI 76 dX7_init_75 rfl ?_
  intro y18
  refine j_putF 79 kf_X7_35 rfl (fun _ _ _ h => by cases h; rfl) dX7_init_76 rfl rfl rfl ?_
  intro y19
  refine j_aload_n 80 0 dX7_init_79 rfl rfl rfl ?_
  refine j_bipush (v := 12) 82 dX7_init_80 rfl bc_12 ?_
  refine j_newI (N := 12) 84 kar_int (by decide) (by decide) (Nat.le_of_ble_eq_true rfl) (Nat.le_of_ble_eq_true rfl) (Nat.le_of_ble_eq_true rfl) dX7_init_82 rfl ?_
  intro q20
  refine j_putF 87 kf_X7_38 rfl (fun _ _ _ h => by cases h; rfl) dX7_init_84 rfl rfl rfl ?_
  intro y21
  refine j_aload_n 88 0 dX7_init_87 rfl rfl rfl ?_
  refine j_bipush (v := 12) 90 dX7_init_88 rfl bc_12 ?_
  refine j_newI (N := 12) 92 kar_int (by decide) (by decide) (Nat.le_of_ble_eq_true rfl) (Nat.le_of_ble_eq_true rfl) (Nat.le_of_ble_eq_true rfl) dX7_init_90 rfl ?_
  intro q22
  refine j_putF 95 kf_X7_41 rfl (fun _ _ _ h => by cases h; rfl) dX7_init_92 rfl rfl rfl ?_
  intro y23
  refine j_aload_n 96 0 dX7_init_95 rfl rfl rfl ?_
  refine j_bipush (v := 12) 98 dX7_init_96 rfl bc_12 ?_
  refine j_newI (N := 12) 100 kar_int (by decide) (by decide) (Nat.le_of_ble_eq_true rfl) (Nat.le_of_ble_eq_true rfl) (Nat.le_of_ble_eq_true rfl) dX7_init_98 rfl ?_
  intro q24
  refine j_putF 103 kf_X7_44 rfl (fun _ _ _ h => by cases h; rfl) dX7_init_100 rfl rfl rfl ?_
  intro y25
  refine j_aload_n 104 0 dX7_init_103 rfl rfl rfl ?_
  refine j_bipush (v := 8) 106 dX7_init_104 rfl bc_8 ?_
  refine j_newL (N := 8) 108 kar_long (by decide) (by decide) (Nat.le_of_ble_eq_true rfl) (Nat.le_of_ble_eq_true rfl) (Nat.le_of_ble_eq_true rfl) dX7_init_106 rfl ?_
  intro q26
  refine j_putF 111 kf_X7_47 rfl (fun _ _ _ h => by cases h; rfl) dX7_init_108 rfl rfl rfl ?_
  intro y27
  refine j_aload_n 112 0 dX7_init_111 rfl rfl rfl ?_
  refine j_bipush (v := 12) 114 dX7_init_112 rfl bc_12 ?_
  refine j_newI (N := 12) 116 kar_int (by decide) (by decide) (Nat.le_of_ble_eq_true rfl) (Nat.le_of_ble_eq_true rfl) (Nat.le_of_ble_eq_true rfl) dX7_init_114 rfl ?_
  intro q28
  refine j_putF 119 kf_X7_50 rfl (fun _ _ _ h => by cases h; rfl) dX7_init_116 rfl rfl rfl ?_
  intro y29
  refine j_aload_n 120 0 dX7_init_119 rfl rfl rfl ?_
  refine j_bipush (v := 12) 122 dX7_init_120 rfl bc_12 ?_
  refine j_newI (N := 12) 124 kar_int (by decide) (by decide) (Nat.le_of_ble_eq_true rfl) (Nat.le_of_ble_eq_true rfl) (Nat.le_of_ble_eq_true rfl) dX7_init_122 rfl ?_
  intro q30
  refine j_putF 127 kf_X7_53 rfl (fun _ _ _ h => by cases h; rfl) dX7_init_124 rfl rfl rfl ?_
  intro y31
  refine j_aload_n 128 0 dX7_init_127 rfl rfl rfl ?_
  refine j_bipush (v := 12) 130 dX7_init_128 rfl bc_12 ?_
  refine j_newI (N := 12) 132 kar_int (by decide) (by decide) (Nat.le_of_ble_eq_true rfl) (Nat.le_of_ble_eq_true rfl) (Nat.le_of_ble_eq_true rfl) dX7_init_130 rfl ?_
  intro q32
  refine j_putF 135 kf_X7_56 rfl (fun _ _ _ h => by cases h; rfl) dX7_init_132 rfl rfl rfl ?_
  intro y33
  refine j_aload_n 136 0 dX7_init_135 rfl rfl rfl ?_
  refine j_bipush (v := 8) 138 dX7_init_136 rfl bc_8 ?_
  refine j_newL (N := 8) 140 kar_long (by decide) (by decide) (Nat.le_of_ble_eq_true rfl) (Nat.le_of_ble_eq_true rfl) (Nat.le_of_ble_eq_true rfl) dX7_init_138 rfl ?_
  intro q34
  refine j_putF 143 kf_X7_59 rfl (fun _ _ _ h => by cases h; rfl) dX7_init_140 rfl rfl rfl ?_
  intro y35
  refine j_aload_n 144 0 dX7_init_143 rfl rfl rfl ?_
  refine j_bipush (v := 9) 146 dX7_init_144 rfl bc_9 ?_
  refine j_newL (N := 9) 148 kar_long (by decide) (by decide) (Nat.le_of_ble_eq_true rfl) (Nat.le_of_ble_eq_true rfl) (Nat.le_of_ble_eq_true rfl) dX7_init_146 rfl ?_
  intro q36
  refine j_putF 151 kf_X7_62 rfl (fun _ _ _ h => by cases h; rfl) dX7_init_148 rfl rfl rfl ?_
  intro y37
  refine j_aload_n 152 0 dX7_init_151 rfl rfl rfl ?_
  refine j_bipush (v := 10) 154 dX7_init_152 rfl bc_10 ?_
  refine j_newL (N := 10) 156 kar_long (by decide) (by decide) (Nat.le_of_ble_eq_true rfl) (Nat.le_of_ble_eq_true rfl) (Nat.le_of_ble_eq_true rfl) dX7_init_154 rfl ?_
  intro q38
  refine j_putF 159 kf_X7_65 rfl (fun _ _ _ h => by cases h; rfl) dX7_init_156 rfl rfl rfl ?_
  intro y39
  refine j_aload_n 160 0 dX7_init_159 rfl rfl rfl ?_
  refine j_bipush (v := 8) 162 dX7_init_160 rfl bc_8 ?_
  refine j_newL (N := 8) 164 kar_long (by decide) (by decide) (Nat.le_of_ble_eq_true rfl) (Nat.le_of_ble_eq_true rfl) (Nat.le_of_ble_eq_true rfl) dX7_init_162 rfl ?_
  intro q40
  refine j_putF 167 kf_X7_68 rfl (fun _ _ _ h => by cases h; rfl) dX7_init_164 rfl rfl rfl ?_
  intro y41
  refine j_aload_n 168 0 dX7_init_167 rfl rfl rfl ?_
  refine j_bipush (v := 10) 170 dX7_init_168 rfl bc_10 ?_
  refine j_newI (N := 10) 172 kar_int (by decide) (by decide) (Nat.le_of_ble_eq_true rfl) (Nat.le_of_ble_eq_true rfl) (Nat.le_of_ble_eq_true rfl) dX7_init_170 rfl ?_
  intro q42
  refine j_putF 175 kf_X7_71 rfl (fun _ _ _ h => by cases h; rfl) dX7_init_172 rfl rfl rfl ?_
  intro y43
  refine j_aload_n 176 0 dX7_init_175 rfl rfl rfl ?_
  refine j_bipush (v := 44) 178 dX7_init_176 rfl bc_44 ?_
  refine j_newC (N := 44) 180 kar_char (by decide) (by decide) (Nat.le_of_ble_eq_true rfl) (Nat.le_of_ble_eq_true rfl) (Nat.le_of_ble_eq_true rfl) dX7_init_178 rfl ?_
  intro q44
  refine j_dup 181 dX7_init_180 rfl rfl ?_
  refine j_iconst (v := 0) 182 dX7_init_181 rfl ic_0 ?_
  refine j_bipush (v := 99) 184 dX7_init_182 rfl bc_99 ?_
  refine j_wC 185 dX7_init_184 rfl ?_
  intro y45
  refine j_dup 186 dX7_init_185 rfl rfl ?_
  refine j_iconst (v := 1) 187 dX7_init_186 rfl ic_1 ?_
  refine j_bipush (v := 101) 189 dX7_init_187 rfl bc_101 ?_
  refine j_wC 190 dX7_init_189 rfl ?_
  intro y46
  refine j_dup 191 dX7_init_190 rfl rfl ?_
  refine j_iconst (v := 2) 192 dX7_init_191 rfl ic_2 ?_
  refine j_bipush (v := 108) 194 dX7_init_192 rfl bc_108 ?_
  refine j_wC 195 dX7_init_194 rfl ?_
  intro y47
  refine j_dup 196 dX7_init_195 rfl rfl ?_
  refine j_iconst (v := 3) 197 dX7_init_196 rfl ic_3 ?_
  refine j_bipush (v := 108) 199 dX7_init_197 rfl bc_108 ?_
  refine j_wC 200 dX7_init_199 rfl ?_
  intro y48
  refine j_dup 201 dX7_init_200 rfl rfl ?_
  refine j_iconst (v := 4) 202 dX7_init_201 rfl ic_4 ?_
  refine j_bipush (v := 32) 204 dX7_init_202 rfl bc_32 ?_
  refine j_wC 205 dX7_init_204 rfl ?_
  intro y49
  refine j_dup 206 dX7_init_205 rfl rfl ?_
  refine j_iconst (v := 5) 207 dX7_init_206 rfl ic_5 ?_
  refine j_bipush (v := 104) 209 dX7_init_207 rfl bc_104 ?_
  refine j_wC 210 dX7_init_209 rfl ?_
  intro y50
  refine j_dup 211 dX7_init_210 rfl rfl ?_
  refine j_bipush (v := 6) 213 dX7_init_211 rfl bc_6 ?_
  refine j_bipush (v := 101) 215 dX7_init_213 rfl bc_101 ?_
  refine j_wC 216 dX7_init_215 rfl ?_
  intro y51
  refine j_dup 217 dX7_init_216 rfl rfl ?_
  refine j_bipush (v := 7) 219 dX7_init_217 rfl bc_7 ?_
  refine j_bipush (v := 97) 221 dX7_init_219 rfl bc_97 ?_
  refine j_wC 222 dX7_init_221 rfl ?_
  intro y52
  refine j_dup 223 dX7_init_222 rfl rfl ?_
  refine j_bipush (v := 8) 225 dX7_init_223 rfl bc_8 ?_
  refine j_bipush (v := 116) 227 dX7_init_225 rfl bc_116 ?_
  refine j_wC 228 dX7_init_227 rfl ?_
  intro y53
  refine j_dup 229 dX7_init_228 rfl rfl ?_
  refine j_bipush (v := 9) 231 dX7_init_229 rfl bc_9 ?_
  refine j_bipush (v := 32) 233 dX7_init_231 rfl bc_32 ?_
  refine j_wC 234 dX7_init_233 rfl ?_
  intro y54
  refine j_dup 235 dX7_init_234 rfl rfl ?_
  refine j_bipush (v := 10) 237 dX7_init_235 rfl bc_10 ?_
  refine j_bipush (v := 115) 239 dX7_init_237 rfl bc_115 ?_
  refine j_wC 240 dX7_init_239 rfl ?_
  intro y55
  refine j_dup 241 dX7_init_240 rfl rfl ?_
  refine j_bipush (v := 11) 243 dX7_init_241 rfl bc_11 ?_
  refine j_bipush (v := 111) 245 dX7_init_243 rfl bc_111 ?_
  refine j_wC 246 dX7_init_245 rfl ?_
  intro y56
  refine j_dup 247 dX7_init_246 rfl rfl ?_
  refine j_bipush (v := 12) 249 dX7_init_247 rfl bc_12 ?_
  refine j_bipush (v := 117) 251 dX7_init_249 rfl bc_117 ?_
  refine j_wC 252 dX7_init_251 rfl ?_
  intro y57
  refine j_dup 253 dX7_init_252 rfl rfl ?_
  refine j_bipush (v := 13) 255 dX7_init_253 rfl bc_13 ?_
  refine j_bipush (v := 114) 257 dX7_init_255 rfl bc_114 ?_
  refine j_wC 258 dX7_init_257 rfl ?_
  intro y58
  refine j_dup 259 dX7_init_258 rfl rfl ?_
  refine j_bipush (v := 14) 261 dX7_init_259 rfl bc_14 ?_
  refine j_bipush (v := 99) 263 dX7_init_261 rfl bc_99 ?_
  refine j_wC 264 dX7_init_263 rfl ?_
  intro y59
  refine j_dup 265 dX7_init_264 rfl rfl ?_
  refine j_bipush (v := 15) 267 dX7_init_265 rfl bc_15 ?_
  refine j_bipush (v := 101) 269 dX7_init_267 rfl bc_101 ?_
  refine j_wC 270 dX7_init_269 rfl ?_
  intro y60
  refine j_dup 271 dX7_init_270 rfl rfl ?_
  refine j_bipush (v := 16) 273 dX7_init_271 rfl bc_16 ?_
  refine j_bipush (v := 32) 275 dX7_init_273 rfl bc_32 ?_
  refine j_wC 276 dX7_init_275 rfl ?_
  intro y61
  refine j_dup 277 dX7_init_276 rfl rfl ?_
  refine j_bipush (v := 17) 279 dX7_init_277 rfl bc_17 ?_
  refine j_bipush (v := 108) 281 dX7_init_279 rfl bc_108 ?_
  refine j_wC 282 dX7_init_281 rfl ?_
  intro y62
  refine j_dup 283 dX7_init_282 rfl rfl ?_
  refine j_bipush (v := 18) 285 dX7_init_283 rfl bc_18 ?_
  refine j_bipush (v := 101) 287 dX7_init_285 rfl bc_101 ?_
  refine j_wC 288 dX7_init_287 rfl ?_
  intro y63
  refine j_dup 289 dX7_init_288 rfl rfl ?_
  refine j_bipush (v := 19) 291 dX7_init_289 rfl bc_19 ?_
  refine j_bipush (v := 102) 293 dX7_init_291 rfl bc_102 ?_
  refine j_wC 294 dX7_init_293 rfl ?_
  intro y64
  refine j_dup 295 dX7_init_294 rfl rfl ?_
  refine j_bipush (v := 20) 297 dX7_init_295 rfl bc_20 ?_
  refine j_bipush (v := 116) 299 dX7_init_297 rfl bc_116 ?_
  refine j_wC 300 dX7_init_299 rfl ?_
  intro y65
  refine j_dup 301 dX7_init_300 rfl rfl ?_
  refine j_bipush (v := 21) 303 dX7_init_301 rfl bc_21 ?_
  refine j_bipush (v := 32) 305 dX7_init_303 rfl bc_32 ?_
  refine j_wC 306 dX7_init_305 rfl ?_
  intro y66
  refine j_dup 307 dX7_init_306 rfl rfl ?_
  refine j_bipush (v := 22) 309 dX7_init_307 rfl bc_22 ?_
  refine j_bipush (v := 114) 311 dX7_init_309 rfl bc_114 ?_
  refine j_wC 312 dX7_init_311 rfl ?_
  intro y67
  refine j_dup 313 dX7_init_312 rfl rfl ?_
  refine j_bipush (v := 23) 315 dX7_init_313 rfl bc_23 ?_
  refine j_bipush (v := 105) 317 dX7_init_315 rfl bc_105 ?_
  refine j_wC 318 dX7_init_317 rfl ?_
  intro y68
  refine j_dup 319 dX7_init_318 rfl rfl ?_
  refine j_bipush (v := 24) 321 dX7_init_319 rfl bc_24 ?_
  refine j_bipush (v := 103) 323 dX7_init_321 rfl bc_103 ?_
  refine j_wC 324 dX7_init_323 rfl ?_
  intro y69
  refine j_dup 325 dX7_init_324 rfl rfl ?_
  refine j_bipush (v := 25) 327 dX7_init_325 rfl bc_25 ?_
  refine j_bipush (v := 104) 329 dX7_init_327 rfl bc_104 ?_
  refine j_wC 330 dX7_init_329 rfl ?_
  intro y70
  refine j_dup 331 dX7_init_330 rfl rfl ?_
  refine j_bipush (v := 26) 333 dX7_init_331 rfl bc_26 ?_
  refine j_bipush (v := 116) 335 dX7_init_333 rfl bc_116 ?_
  refine j_wC 336 dX7_init_335 rfl ?_
  intro y71
  refine j_dup 337 dX7_init_336 rfl rfl ?_
  refine j_bipush (v := 27) 339 dX7_init_337 rfl bc_27 ?_
  refine j_bipush (v := 32) 341 dX7_init_339 rfl bc_32 ?_
  refine j_wC 342 dX7_init_341 rfl ?_
  intro y72
  refine j_dup 343 dX7_init_342 rfl rfl ?_
  refine j_bipush (v := 28) 345 dX7_init_343 rfl bc_28 ?_
  refine j_bipush (v := 102) 347 dX7_init_345 rfl bc_102 ?_
  refine j_wC 348 dX7_init_347 rfl ?_
  intro y73
  refine j_dup 349 dX7_init_348 rfl rfl ?_
  refine j_bipush (v := 29) 351 dX7_init_349 rfl bc_29 ?_
  refine j_bipush (v := 105) 353 dX7_init_351 rfl bc_105 ?_
  refine j_wC 354 dX7_init_353 rfl ?_
  intro y74
  refine j_dup 355 dX7_init_354 rfl rfl ?_
  refine j_bipush (v := 30) 357 dX7_init_355 rfl bc_30 ?_
  refine j_bipush (v := 110) 359 dX7_init_357 rfl bc_110 ?_
  refine j_wC 360 dX7_init_359 rfl ?_
  intro y75
  refine j_dup 361 dX7_init_360 rfl rfl ?_
  refine j_bipush (v := 31) 363 dX7_init_361 rfl bc_31 ?_
  refine j_bipush (v := 101) 365 dX7_init_363 rfl bc_101 ?_
  refine j_wC 366 dX7_init_365 rfl ?_
  intro y76
  refine j_dup 367 dX7_init_366 rfl rfl ?_
  refine j_bipush (v := 32) 369 dX7_init_367 rfl bc_32 ?_
  refine j_bipush (v := 32) 371 dX7_init_369 rfl bc_32 ?_
  refine j_wC 372 dX7_init_371 rfl ?_
  intro y77
  refine j_dup 373 dX7_init_372 rfl rfl ?_
  refine j_bipush (v := 33) 375 dX7_init_373 rfl bc_33 ?_
  refine j_bipush (v := 112) 377 dX7_init_375 rfl bc_112 ?_
  refine j_wC 378 dX7_init_377 rfl ?_
  intro y78
  refine j_dup 379 dX7_init_378 rfl rfl ?_
  refine j_bipush (v := 34) 381 dX7_init_379 rfl bc_34 ?_
  refine j_bipush (v := 117) 383 dX7_init_381 rfl bc_117 ?_
  refine j_wC 384 dX7_init_383 rfl ?_
  intro y79
  refine j_dup 385 dX7_init_384 rfl rfl ?_
  refine j_bipush (v := 35) 387 dX7_init_385 rfl bc_35 ?_
  refine j_bipush (v := 108) 389 dX7_init_387 rfl bc_108 ?_
  refine j_wC 390 dX7_init_389 rfl ?_
  intro y80
  refine j_dup 391 dX7_init_390 rfl rfl ?_
  refine j_bipush (v := 36) 393 dX7_init_391 rfl bc_36 ?_
  refine j_bipush (v := 115) 395 dX7_init_393 rfl bc_115 ?_
  refine j_wC 396 dX7_init_395 rfl ?_
  intro y81
  refine j_dup 397 dX7_init_396 rfl rfl ?_
  refine j_bipush (v := 37) 399 dX7_init_397 rfl bc_37 ?_
  refine j_bipush (v := 101) 401 dX7_init_399 rfl bc_101 ?_
  refine j_wC 402 dX7_init_401 rfl ?_
  intro y82
  refine j_dup 403 dX7_init_402 rfl rfl ?_
  refine j_bipush (v := 38) 405 dX7_init_403 rfl bc_38 ?_
  refine j_bipush (v := 32) 407 dX7_init_405 rfl bc_32 ?_
  refine j_wC 408 dX7_init_407 rfl ?_
  intro y83
  refine j_dup 409 dX7_init_408 rfl rfl ?_
  refine j_bipush (v := 39) 411 dX7_init_409 rfl bc_39 ?_
  refine j_bipush (v := 100) 413 dX7_init_411 rfl bc_100 ?_
  refine j_wC 414 dX7_init_413 rfl ?_
  intro y84
  refine j_dup 415 dX7_init_414 rfl rfl ?_
  refine j_bipush (v := 40) 417 dX7_init_415 rfl bc_40 ?_
  refine j_bipush (v := 114) 419 dX7_init_417 rfl bc_114 ?_
  refine j_wC 420 dX7_init_419 rfl ?_
  intro y85
  refine j_dup 421 dX7_init_420 rfl rfl ?_
  refine j_bipush (v := 41) 423 dX7_init_421 rfl bc_41 ?_
  refine j_bipush (v := 111) 425 dX7_init_423 rfl bc_111 ?_
  refine j_wC 426 dX7_init_425 rfl ?_
  intro y86
  refine j_dup 427 dX7_init_426 rfl rfl ?_
  refine j_bipush (v := 42) 429 dX7_init_427 rfl bc_42 ?_
  refine j_bipush (v := 112) 431 dX7_init_429 rfl bc_112 ?_
  refine j_wC 432 dX7_init_431 rfl ?_
  intro y87
  refine j_dup 433 dX7_init_432 rfl rfl ?_
  refine j_bipush (v := 43) 435 dX7_init_433 rfl bc_43 ?_
  refine j_bipush (v := 32) 437 dX7_init_435 rfl bc_32 ?_
  refine j_wC 438 dX7_init_437 rfl ?_
  intro y88
  refine j_putF 441 kf_X7_74 rfl (fun _ _ _ h => by cases h; rfl) dX7_init_438 rfl rfl rfl ?_
  intro y89
  refine j_aload_n 442 0 dX7_init_441 rfl rfl rfl ?_
  refine j_bipush (v := 8) 444 dX7_init_442 rfl bc_8 ?_
  refine j_newI (N := 8) 446 kar_int (by decide) (by decide) (Nat.le_of_ble_eq_true rfl) (Nat.le_of_ble_eq_true rfl) (Nat.le_of_ble_eq_true rfl) dX7_init_444 rfl ?_
  intro q90
  refine j_dup 447 dX7_init_446 rfl rfl ?_
  refine j_iconst (v := 0) 448 dX7_init_447 rfl ic_0 ?_
  refine j_iconst (v := 4) 449 dX7_init_448 rfl ic_4 ?_
  refine j_wI 450 dX7_init_449 rfl ?_
  intro y91
  refine j_dup 451 dX7_init_450 rfl rfl ?_
  refine j_iconst (v := 1) 452 dX7_init_451 rfl ic_1 ?_
  refine j_iconst (v := 2) 453 dX7_init_452 rfl ic_2 ?_
  refine j_wI 454 dX7_init_453 rfl ?_
  intro y92
  refine j_dup 455 dX7_init_454 rfl rfl ?_
  refine j_iconst (v := 2) 456 dX7_init_455 rfl ic_2 ?_
  refine j_iconst (v := 2) 457 dX7_init_456 rfl ic_2 ?_
  refine j_wI 458 dX7_init_457 rfl ?_
  intro y93
  refine j_dup 459 dX7_init_458 rfl rfl ?_
  refine j_iconst (v := 3) 460 dX7_init_459 rfl ic_3 ?_
  refine j_iconst (v := 1) 461 dX7_init_460 rfl ic_1 ?_
  refine j_wI 462 dX7_init_461 rfl ?_
  intro y94
  refine j_dup 463 dX7_init_462 rfl rfl ?_
  refine j_iconst (v := 4) 464 dX7_init_463 rfl ic_4 ?_
  refine j_iconst (v := 1) 465 dX7_init_464 rfl ic_1 ?_
  refine j_wI 466 dX7_init_465 rfl ?_
  intro y95
  refine j_dup 467 dX7_init_466 rfl rfl ?_
  refine j_iconst (v := 5) 468 dX7_init_467 rfl ic_5 ?_
  refine j_iconst (v := 1) 469 dX7_init_468 rfl ic_1 ?_
  refine j_wI 470 dX7_init_469 rfl ?_
  intro y96
  refine j_dup 471 dX7_init_470 rfl rfl ?_
  refine j_bipush (v := 6) 473 dX7_init_471 rfl bc_6 ?_
  refine j_iconst (v := 3) 474 dX7_init_473 rfl ic_3 ?_
  refine j_wI 475 dX7_init_474 rfl ?_
  intro y97
  refine j_dup 476 dX7_init_475 rfl rfl ?_
  refine j_bipush (v := 7) 478 dX7_init_476 rfl bc_7 ?_
  refine j_iconst (v := 0) 479 dX7_init_478 rfl ic_0 ?_
  refine j_wI 480 dX7_init_479 rfl ?_
  intro y98
  refine j_putF 483 kf_X7_78 rfl (fun _ _ _ h => by cases h; rfl) dX7_init_480 rfl rfl rfl ?_
  intro y99
  refine j_aload_n 484 0 dX7_init_483 rfl rfl rfl ?_
  refine j_bipush (v := 60) 486 dX7_init_484 rfl bc_60 ?_
  refine j_newI (N := 60) 488 kar_int (by decide) (by decide) (Nat.le_of_ble_eq_true rfl) (Nat.le_of_ble_eq_true rfl) (Nat.le_of_ble_eq_true rfl) dX7_init_486 rfl ?_
  intro q100
  refine j_putF 491 kf_X7_81 rfl (fun _ _ _ h => by cases h; rfl) dX7_init_488 rfl rfl rfl ?_
  intro y101
  refine j_aload_n 492 0 dX7_init_491 rfl rfl rfl ?_
  refine j_iconst (v := 4) 493 dX7_init_492 rfl ic_4 ?_
  refine j_newI (N := 4) 495 kar_int (by decide) (by decide) (Nat.le_of_ble_eq_true rfl) (Nat.le_of_ble_eq_true rfl) (Nat.le_of_ble_eq_true rfl) dX7_init_493 rfl ?_
  intro q102
  refine j_putF 498 kf_X7_84 rfl (fun _ _ _ h => by cases h; rfl) dX7_init_495 rfl rfl rfl ?_
  intro y103
  refine j_aload_n 499 0 dX7_init_498 rfl rfl rfl ?_
  refine j_bipush (v := 8) 501 dX7_init_499 rfl bc_8 ?_
  refine j_newI (N := 8) 503 kar_int (by decide) (by decide) (Nat.le_of_ble_eq_true rfl) (Nat.le_of_ble_eq_true rfl) (Nat.le_of_ble_eq_true rfl) dX7_init_501 rfl ?_
  intro q104
  refine j_putF 506 kf_X7_87 rfl (fun _ _ _ h => by cases h; rfl) dX7_init_503 rfl rfl rfl ?_
  intro y105
  refine j_aload_n 507 0 dX7_init_506 rfl rfl rfl ?_
  refine j_bipush (v := 8) 509 dX7_init_507 rfl bc_8 ?_
  refine j_newI (N := 8) 511 kar_int (by decide) (by decide) (Nat.le_of_ble_eq_true rfl) (Nat.le_of_ble_eq_true rfl) (Nat.le_of_ble_eq_true rfl) dX7_init_509 rfl ?_
  intro q106
  refine j_putF 514 kf_X7_90 rfl (fun _ _ _ h => by cases h; rfl) dX7_init_511 rfl rfl rfl ?_
  intro y107
  refine j_aload_n 515 0 dX7_init_514 rfl rfl rfl ?_
  refine j_bipush (v := 8) 517 dX7_init_515 rfl bc_8 ?_
  refine j_newI (N := 8) 519 kar_int (by decide) (by decide) (Nat.le_of_ble_eq_true rfl) (Nat.le_of_ble_eq_true rfl) (Nat.le_of_ble_eq_true rfl) dX7_init_517 rfl ?_
  intro q108
  refine j_putF 522 kf_X7_93 rfl (fun _ _ _ h => by cases h; rfl) dX7_init_519 rfl rfl rfl ?_
  intro y109
  refine j_aload_n 523 0 dX7_init_522 rfl rfl rfl ?_
  refine j_bipush (v := 8) 525 dX7_init_523 rfl bc_8 ?_
  refine j_newI (N := 8) 527 kar_int (by decide) (by decide) (Nat.le_of_ble_eq_true rfl) (Nat.le_of_ble_eq_true rfl) (Nat.le_of_ble_eq_true rfl) dX7_init_525 rfl ?_
  intro q110
  refine j_putF 530 kf_X7_96 rfl (fun _ _ _ h => by cases h; rfl) dX7_init_527 rfl rfl rfl ?_
  intro y111
  refine j_aload_n 531 0 dX7_init_530 rfl rfl rfl ?_
  refine j_bipush (v := 8) 533 dX7_init_531 rfl bc_8 ?_
  refine j_newL (N := 8) 535 kar_long (by decide) (by decide) (Nat.le_of_ble_eq_true rfl) (Nat.le_of_ble_eq_true rfl) (Nat.le_of_ble_eq_true rfl) dX7_init_533 rfl ?_
  intro q112
  refine j_putF 538 kf_X7_99 rfl (fun _ _ _ h => by cases h; rfl) dX7_init_535 rfl rfl rfl ?_
  intro y113
  refine j_aload_n 539 0 dX7_init_538 rfl rfl rfl ?_
  refine j_iconst (v := 2) 540 dX7_init_539 rfl ic_2 ?_
  refine j_newI (N := 2) 542 kar_int (by decide) (by decide) (Nat.le_of_ble_eq_true rfl) (Nat.le_of_ble_eq_true rfl) (Nat.le_of_ble_eq_true rfl) dX7_init_540 rfl ?_
  intro q114
  refine j_putF 545 kf_X7_102 rfl (fun _ _ _ h => by cases h; rfl) dX7_init_542 rfl rfl rfl ?_
  intro y115
  refine j_aload_n 546 0 dX7_init_545 rfl rfl rfl ?_
  refine j_iconst (v := 2) 547 dX7_init_546 rfl ic_2 ?_
  refine j_newI (N := 2) 549 kar_int (by decide) (by decide) (Nat.le_of_ble_eq_true rfl) (Nat.le_of_ble_eq_true rfl) (Nat.le_of_ble_eq_true rfl) dX7_init_547 rfl ?_
  intro q116
  refine j_putF 552 kf_X7_105 rfl (fun _ _ _ h => by cases h; rfl) dX7_init_549 rfl rfl rfl ?_
  intro y117
  refine j_aload_n 553 0 dX7_init_552 rfl rfl rfl ?_
  refine j_bipush (v := 12) 555 dX7_init_553 rfl bc_12 ?_
  refine j_newI (N := 12) 557 kar_int (by decide) (by decide) (Nat.le_of_ble_eq_true rfl) (Nat.le_of_ble_eq_true rfl) (Nat.le_of_ble_eq_true rfl) dX7_init_555 rfl ?_
  intro q118
  refine j_putF 560 kf_X7_108 rfl (fun _ _ _ h => by cases h; rfl) dX7_init_557 rfl rfl rfl ?_
  intro y119
  refine j_aload_n 561 0 dX7_init_560 rfl rfl rfl ?_
  refine j_bipush (v := 12) 563 dX7_init_561 rfl bc_12 ?_
  refine j_newI (N := 12) 565 kar_int (by decide) (by decide) (Nat.le_of_ble_eq_true rfl) (Nat.le_of_ble_eq_true rfl) (Nat.le_of_ble_eq_true rfl) dX7_init_563 rfl ?_
  intro q120
  refine j_putF 568 kf_X7_111 rfl (fun _ _ _ h => by cases h; rfl) dX7_init_565 rfl rfl rfl ?_
  intro y121
  refine j_aload_n 569 0 dX7_init_568 rfl rfl rfl ?_
  refine j_bipush (v := 12) 571 dX7_init_569 rfl bc_12 ?_
  refine j_newI (N := 12) 573 kar_int (by decide) (by decide) (Nat.le_of_ble_eq_true rfl) (Nat.le_of_ble_eq_true rfl) (Nat.le_of_ble_eq_true rfl) dX7_init_571 rfl ?_
  intro q122
  refine j_putF 576 kf_X7_114 rfl (fun _ _ _ h => by cases h; rfl) dX7_init_573 rfl rfl rfl ?_
  intro y123
  refine j_aload_n 577 0 dX7_init_576 rfl rfl rfl ?_
  refine j_iconst (v := 4) 578 dX7_init_577 rfl ic_4 ?_
  refine j_newI (N := 4) 580 kar_int (by decide) (by decide) (Nat.le_of_ble_eq_true rfl) (Nat.le_of_ble_eq_true rfl) (Nat.le_of_ble_eq_true rfl) dX7_init_578 rfl ?_
  intro q124
  refine j_dup 581 dX7_init_580 rfl rfl ?_
  refine j_iconst (v := 0) 582 dX7_init_581 rfl ic_0 ?_
  refine j_iconst (v := -1) 583 dX7_init_582 rfl ic_m1 ?_
  refine j_wI 584 dX7_init_583 rfl ?_
  intro y125
  refine j_dup 585 dX7_init_584 rfl rfl ?_
  refine j_iconst (v := 1) 586 dX7_init_585 rfl ic_1 ?_
  refine j_iconst (v := -1) 587 dX7_init_586 rfl ic_m1 ?_
  refine j_wI 588 dX7_init_587 rfl ?_
  intro y126
  refine j_dup 589 dX7_init_588 rfl rfl ?_
  refine j_iconst (v := 2) 590 dX7_init_589 rfl ic_2 ?_
  refine j_iconst (v := -1) 591 dX7_init_590 rfl ic_m1 ?_
  refine j_wI 592 dX7_init_591 rfl ?_
  intro y127
  refine j_dup 593 dX7_init_592 rfl rfl ?_
  refine j_iconst (v := 3) 594 dX7_init_593 rfl ic_3 ?_
  refine j_iconst (v := -1) 595 dX7_init_594 rfl ic_m1 ?_
  refine j_wI 596 dX7_init_595 rfl ?_
  intro y128
  refine j_putF 599 kf_X7_117 rfl (fun _ _ _ h => by cases h; rfl) dX7_init_596 rfl rfl rfl ?_
  intro y129
  refine j_aload_n 600 0 dX7_init_599 rfl rfl rfl ?_
  refine j_iconst (v := 4) 601 dX7_init_600 rfl ic_4 ?_
  refine j_newI (N := 4) 603 kar_int (by decide) (by decide) (Nat.le_of_ble_eq_true rfl) (Nat.le_of_ble_eq_true rfl) (Nat.le_of_ble_eq_true rfl) dX7_init_601 rfl ?_
  intro q130
  refine j_putF 606 kf_X7_120 rfl (fun _ _ _ h => by cases h; rfl) dX7_init_603 rfl rfl rfl ?_
  intro y131
  refine j_aload_n 607 0 dX7_init_606 rfl rfl rfl ?_
  refine j_sipush (v := 160) 610 dX7_init_607 rfl sc_160 ?_
  refine j_newI (N := 160) 612 kar_int (by decide) (by decide) (Nat.le_of_ble_eq_true rfl) (Nat.le_of_ble_eq_true rfl) (Nat.le_of_ble_eq_true rfl) dX7_init_610 rfl ?_
  intro q132
  refine j_putF 615 kf_X7_123 rfl (fun _ _ _ h => by cases h; rfl) dX7_init_612 rfl rfl rfl ?_
  intro y133
  refine j_aload_n 616 0 dX7_init_615 rfl rfl rfl ?_
  refine j_bipush (v := 40) 618 dX7_init_616 rfl bc_40 ?_
  refine j_newI (N := 40) 620 kar_int (by decide) (by decide) (Nat.le_of_ble_eq_true rfl) (Nat.le_of_ble_eq_true rfl) (Nat.le_of_ble_eq_true rfl) dX7_init_618 rfl ?_
  intro q134
  refine j_putF 623 kf_X7_126 rfl (fun _ _ _ h => by cases h; rfl) dX7_init_620 rfl rfl rfl ?_
  intro y135
  exact j_vret dX7_init_623 rfl
