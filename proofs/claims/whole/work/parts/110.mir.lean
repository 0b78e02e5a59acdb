/-! Each method as a pure term, and the machine's rows. Written by wip/whole/decomp.py. -/
-- X7_isDigit: ('BarStepsModel', 'isDigit', '(I)Z')
def X7_isDigit (a0 : Nat) (a1 : Int32) (x : Hs) : Option (Int32) := (vO x 6 a0).bind fun _ =>
  (gI x 6 a0 30).bind fun v1 =>
  (if v1 ≤ a1 then (zb 0).bind fun v2 => some v2 else
  (gR x 6 a0 28).bind fun v3 =>
  (aI x v3 a1).bind fun v4 =>
  (X7_isIn (Int32.toInt64 v4) 48 57).bind fun v5 =>
  (if v5 = 0 then (zb 0).bind fun v6 => some v6 else
  (zb 1).bind fun v7 => some v7))
theorem rvX7_isDigit {a0 : Nat} {a1 : Int32} {x : Hs} {r : Int32} (h : X7_isDigit a0 a1 x = some r) : ∃ fs, x.1 a0 = .inr (6, fs) := vO_bind h
theorem okX7_isDigit (G : JG) (x : Hs) (a0 : Nat) (a1 : Int32) : ∀ r, X7_isDigit a0 a1 x = some r → JC G yX7_isDigit cX7_isDigit 2 (some .boolean) (jR 2 0 0) 0 0 [.ref a0, .int a1] x ((some (.int r), x)) := by
  refine jc_of (own := RX7) (E := (fun r : Int32 => ((some (.int r), x) : JR))) (by decide) rfl rfl (Nat.le_of_ble_eq_true rfl) rfl ?_
  unfold X7_isDigit
  refine j_chk ?_
  refine j_iload_n 1 1 dX7_isDigit_0 rfl rfl rfl ?_
  refine j_aload_n 2 0 dX7_isDigit_1 rfl rfl rfl ?_
  refine j_gI 5 kf_X7_311 dX7_isDigit_2 rfl ?_
  intro v1
  refine j_icmp_ge 31 8 dX7_isDigit_5 (by decide) rfl ?_ ?_
  · refine j_iconst (v := 0) 32 dX7_isDigit_31 rfl ic_0 ?_
    exact j_zret dX7_isDigit_32 (fun _ => rfl)
  · refine j_aload_n 9 0 dX7_isDigit_8 rfl rfl rfl ?_
    refine j_gR 12 kf_X7_81 dX7_isDigit_9 rfl ?_
    intro v3
    refine j_iload_n 13 1 dX7_isDigit_12 rfl rfl rfl ?_
    refine j_aI 14 dX7_isDigit_13 rfl ?_
    intro v4
    refine j_i2l 15 dX7_isDigit_14 rfl ?_
    refine j_ldc2 18 kk_X7_314 dX7_isDigit_15 rfl ?_
    refine j_ldc2 21 kk_X7_316 dX7_isDigit_18 rfl ?_
    refine j_callS_i (As := [.long (Int32.toInt64 v4), .long 48, .long 57]) (st := []) 24 (okX7_isIn G x (Int32.toInt64 v4) 48 57) kc_X7_isIn kl_X7_133 ks_X7_isIn ⟨rfl, rfl, Nat.le_of_ble_eq_true rfl, Nat.le_of_ble_eq_true rfl⟩ (Nat.le_of_ble_eq_true rfl) ⟨Nat.le_of_ble_eq_true rfl, Nat.le_of_ble_eq_true rfl⟩ rfl dX7_isDigit_21 rfl rfl ?_
    intro v5
    refine j_if_eq 31 27 dX7_isDigit_24 (by decide) rfl ?_ ?_
    · refine j_iconst (v := 0) 32 dX7_isDigit_31 rfl ic_0 ?_
      exact j_zret dX7_isDigit_32 (fun _ => rfl)
    · refine j_iconst (v := 1) 28 dX7_isDigit_27 rfl ic_1 ?_
      refine j_goto 32 dX7_isDigit_28 (by decide) ?_
      exact j_zret dX7_isDigit_32 (fun _ => rfl)
-- X7_isLetter: ('BarStepsModel', 'isLetter', '(I)Z')
def X7_isLetter (a0 : Nat) (a1 : Int32) (x : Hs) : Option (Int32) := (vO x 6 a0).bind fun _ =>
  (gI x 6 a0 30).bind fun v1 =>
  (if v1 ≤ a1 then (zb 0).bind fun v2 => some v2 else
  (gR x 6 a0 28).bind fun v3 =>
  (aI x v3 a1).bind fun v4 =>
  (X7_isIn (Int32.toInt64 v4) 97 122).bind fun v5 =>
  (if v5 = 0 then (zb 0).bind fun v6 => some v6 else
  (zb 1).bind fun v7 => some v7))
theorem rvX7_isLetter {a0 : Nat} {a1 : Int32} {x : Hs} {r : Int32} (h : X7_isLetter a0 a1 x = some r) : ∃ fs, x.1 a0 = .inr (6, fs) := vO_bind h
theorem okX7_isLetter (G : JG) (x : Hs) (a0 : Nat) (a1 : Int32) : ∀ r, X7_isLetter a0 a1 x = some r → JC G yX7_isLetter cX7_isLetter 2 (some .boolean) (jR 2 0 0) 0 0 [.ref a0, .int a1] x ((some (.int r), x)) := by
  refine jc_of (own := RX7) (E := (fun r : Int32 => ((some (.int r), x) : JR))) (by decide) rfl rfl (Nat.le_of_ble_eq_true rfl) rfl ?_
  unfold X7_isLetter
  refine j_chk ?_
  refine j_iload_n 1 1 dX7_isLetter_0 rfl rfl rfl ?_
  refine j_aload_n 2 0 dX7_isLetter_1 rfl rfl rfl ?_
  refine j_gI 5 kf_X7_311 dX7_isLetter_2 rfl ?_
  intro v1
  refine j_icmp_ge 31 8 dX7_isLetter_5 (by decide) rfl ?_ ?_
  · refine j_iconst (v := 0) 32 dX7_isLetter_31 rfl ic_0 ?_
    exact j_zret dX7_isLetter_32 (fun _ => rfl)
  · refine j_aload_n 9 0 dX7_isLetter_8 rfl rfl rfl ?_
    refine j_gR 12 kf_X7_81 dX7_isLetter_9 rfl ?_
    intro v3
    refine j_iload_n 13 1 dX7_isLetter_12 rfl rfl rfl ?_
    refine j_aI 14 dX7_isLetter_13 rfl ?_
    intro v4
    refine j_i2l 15 dX7_isLetter_14 rfl ?_
    refine j_ldc2 18 kk_X7_318 dX7_isLetter_15 rfl ?_
    refine j_ldc2 21 kk_X7_320 dX7_isLetter_18 rfl ?_
    refine j_callS_i (As := [.long (Int32.toInt64 v4), .long 97, .long 122]) (st := []) 24 (okX7_isIn G x (Int32.toInt64 v4) 97 122) kc_X7_isIn kl_X7_133 ks_X7_isIn ⟨rfl, rfl, Nat.le_of_ble_eq_true rfl, Nat.le_of_ble_eq_true rfl⟩ (Nat.le_of_ble_eq_true rfl) ⟨Nat.le_of_ble_eq_true rfl, Nat.le_of_ble_eq_true rfl⟩ rfl dX7_isLetter_21 rfl rfl ?_
    intro v5
    refine j_if_eq 31 27 dX7_isLetter_24 (by decide) rfl ?_ ?_
    · refine j_iconst (v := 0) 32 dX7_isLetter_31 rfl ic_0 ?_
      exact j_zret dX7_isLetter_32 (fun _ => rfl)
    · refine j_iconst (v := 1) 28 dX7_isLetter_27 rfl ic_1 ?_
      refine j_goto 32 dX7_isLetter_28 (by decide) ?_
      exact j_zret dX7_isLetter_32 (fun _ => rfl)
-- X7_readsWord: ('BarStepsModel', 'readsWord', '()V')
def X7_readsWord_J154 (r33 : Nat → Int32 → Int32 → Hs → Option (Hs)) (l0 : Nat) (l2 : Int32) (l3 : Int32) (x : Hs) : Option (Hs) := r33 l0 (l3 + 1) (l2 + 1) x
theorem okX7_readsWord_J154 (G : JG) (r33 : Nat → Int32 → Int32 → Hs → Option (Hs)) (hr33 : ∀ (l0 : Nat) (l1 : Int32) (l2 : Int32) (x : Hs), JM G RX7 cX7_readsWord 6 (jZ G (none) "readsWord" (jR 3 0 0) 0 0) (fun r : Hs => ((none, r) : JR)) 33 [(0, .ref l0), (1, .int l1), (2, .int l2)] [] x 0 0 (r33 l0 l1 l2 x)) : ∀ (l0 : Nat) (l2 : Int32) (l3 : Int32) (x : Hs), JM G RX7 cX7_readsWord 6 (jZ G (none) "readsWord" (jR 3 0 0) 0 0) (fun r : Hs => ((none, r) : JR)) 154 [(0, .ref l0), (2, .int l2), (3, .int l3)] [] x 0 0 (X7_readsWord_J154 r33 l0 l2 l3 x) := by
  intro l0 l2 l3 x
  unfold X7_readsWord_J154
  refine j_iload_n 155 2 dX7_readsWord_154 rfl rfl rfl ?_
  refine j_iconst (v := 1) 156 dX7_readsWord_155 rfl ic_1 ?_
  refine j_iadd 157 dX7_readsWord_156 rfl ?_
  refine j_istore_n 158 [(1, .int (l3 + 1)), (0, .ref l0), (2, .int l2), (3, .int l3)] dX7_readsWord_157 rfl rfl (by decide) rfl ?_
  refine j_iinc 161 2 [(2, .int (l2 + 1)), (1, .int (l3 + 1)), (0, .ref l0), (3, .int l3)] dX7_readsWord_158 rfl rfl (ii_1 _) (by decide) rfl ?_
  refine j_goto 33 dX7_readsWord_161 (by decide) ?_
  refine j_sub [2, 1, 0] rfl ?_
  exact hr33 l0 (l3 + 1) (l2 + 1) x
def X7_readsWord_J139 (r33 : Nat → Int32 → Int32 → Hs → Option (Hs)) (l0 : Nat) (l2 : Int32) (l3 : Int32) (l4 : Int32) (x : Hs) : Option (Hs) := (if l4 = 0 then X7_readsWord_J154 r33 l0 l2 l3 x else
  (pV x 6 l0 33 (.int 1)).bind fun y8 =>
  (pV y8 6 l0 34 (.int l2)).bind fun y9 =>
  X7_readsWord_J154 r33 l0 l2 l3 y9)
theorem okX7_readsWord_J139 (G : JG) (r33 : Nat → Int32 → Int32 → Hs → Option (Hs)) (hr33 : ∀ (l0 : Nat) (l1 : Int32) (l2 : Int32) (x : Hs), JM G RX7 cX7_readsWord 6 (jZ G (none) "readsWord" (jR 3 0 0) 0 0) (fun r : Hs => ((none, r) : JR)) 33 [(0, .ref l0), (1, .int l1), (2, .int l2)] [] x 0 0 (r33 l0 l1 l2 x)) : ∀ (l0 : Nat) (l2 : Int32) (l3 : Int32) (l4 : Int32) (x : Hs), JM G RX7 cX7_readsWord 6 (jZ G (none) "readsWord" (jR 3 0 0) 0 0) (fun r : Hs => ((none, r) : JR)) 139 [(0, .ref l0), (2, .int l2), (3, .int l3), (4, .int l4)] [] x 0 0 (X7_readsWord_J139 r33 l0 l2 l3 l4 x) := by
  intro l0 l2 l3 l4 x
  unfold X7_readsWord_J139
  refine j_iload 141 3 dX7_readsWord_139 rfl rfl ?_
  refine j_if_eq 154 144 dX7_readsWord_141 (by decide) rfl ?_ ?_
  · refine j_sub [0, 1, 2] rfl ?_
    exact okX7_readsWord_J154 G r33 hr33 l0 l2 l3 x
  · refine j_aload_n 145 0 dX7_readsWord_144 rfl rfl rfl ?_
    refine j_iconst (v := 1) 146 dX7_readsWord_145 rfl ic_1 ?_
    refine j_put 149 kf_X7_328 dX7_readsWord_146 rfl rfl rfl ?_
    intro y8
    refine j_aload_n 150 0 dX7_readsWord_149 rfl rfl rfl ?_
    refine j_iload_n 151 1 dX7_readsWord_150 rfl rfl rfl ?_
    refine j_put 154 kf_X7_334 dX7_readsWord_151 rfl rfl rfl ?_
    intro y9
    refine j_sub [0, 1, 2] rfl ?_
    exact okX7_readsWord_J154 G r33 hr33 l0 l2 l3 y9
def X7_readsWord_L83 (r33 : Nat → Int32 → Int32 → Hs → Option (Hs)) : Nat → Nat → Int32 → Int32 → Int32 → Int32 → Int32 → Hs → Option (Hs)
  | 0, _, _, _, _, _, _, _ => none
  | n + 1, l0, l1, l2, l3, l4, l5, x => (if l4 = 0 then X7_readsWord_J139 r33 l0 l2 l3 l4 x else
  (gI x 6 l0 31).bind fun v10 =>
  (gI x 6 l0 32).bind fun v11 =>
  (if (v10 - v11) ≤ l5 then X7_readsWord_J139 r33 l0 l2 l3 l4 x else
  (gR x 6 l0 26).bind fun v12 =>
  (aC x v12 (l1 + l5)).bind fun v13 =>
  (gR x 6 l0 28).bind fun v14 =>
  (gI x 6 l0 32).bind fun v15 =>
  (aI x v14 (v15 + l5)).bind fun v16 =>
  (if v13 = v16 then X7_readsWord_L83 r33 n l0 l1 l2 l3 1 (l5 + 1) x else
  X7_readsWord_L83 r33 n l0 l1 l2 l3 0 (l5 + 1) x)))
theorem okX7_readsWord_L83 (G : JG) (r33 : Nat → Int32 → Int32 → Hs → Option (Hs)) (hr33 : ∀ (l0 : Nat) (l1 : Int32) (l2 : Int32) (x : Hs), JM G RX7 cX7_readsWord 6 (jZ G (none) "readsWord" (jR 3 0 0) 0 0) (fun r : Hs => ((none, r) : JR)) 33 [(0, .ref l0), (1, .int l1), (2, .int l2)] [] x 0 0 (r33 l0 l1 l2 x)) : ∀ (n : Nat), ∀ (l0 : Nat) (l1 : Int32) (l2 : Int32) (l3 : Int32) (l4 : Int32) (l5 : Int32) (x : Hs), JM G RX7 cX7_readsWord 6 (jZ G (none) "readsWord" (jR 3 0 0) 0 0) (fun r : Hs => ((none, r) : JR)) 83 [(0, .ref l0), (1, .int l1), (2, .int l2), (3, .int l3), (4, .int l4), (5, .int l5)] [] x 0 0 (X7_readsWord_L83 r33 n l0 l1 l2 l3 l4 l5 x) := by
  intro n
  induction n with
  | zero => intro l0 l1 l2 l3 l4 l5 x; exact j_none
  | succ n ih =>
    intro l0 l1 l2 l3 l4 l5 x
    unfold X7_readsWord_L83
    refine j_iload 85 4 dX7_readsWord_83 rfl rfl ?_
    refine j_if_eq 139 88 dX7_readsWord_85 (by decide) rfl ?_ ?_
    · refine j_sub [0, 2, 3, 4] rfl ?_
      exact okX7_readsWord_J139 G r33 hr33 l0 l2 l3 l4 x
    · refine j_iload 90 5 dX7_readsWord_88 rfl rfl ?_
      refine j_aload_n 91 0 dX7_readsWord_90 rfl rfl rfl ?_
      refine j_gI 94 kf_X7_322 dX7_readsWord_91 rfl ?_
      intro v10
      refine j_aload_n 95 0 dX7_readsWord_94 rfl rfl rfl ?_
      refine j_gI 98 kf_X7_331 dX7_readsWord_95 rfl ?_
      intro v11
      refine j_isub 99 dX7_readsWord_98 rfl ?_
      refine j_icmp_ge 139 102 dX7_readsWord_99 (by decide) rfl ?_ ?_
      · refine j_sub [0, 2, 3, 4] rfl ?_
        exact okX7_readsWord_J139 G r33 hr33 l0 l2 l3 l4 x
      · refine j_aload_n 103 0 dX7_readsWord_102 rfl rfl rfl ?_
        refine j_gR 106 kf_X7_74 dX7_readsWord_103 rfl ?_
        intro v12
        refine j_iload_n 107 1 dX7_readsWord_106 rfl rfl rfl ?_
        refine j_iload 109 5 dX7_readsWord_107 rfl rfl ?_
        refine j_iadd 110 dX7_readsWord_109 rfl ?_
        refine j_aC 111 dX7_readsWord_110 rfl ?_
        intro v13
        refine j_aload_n 112 0 dX7_readsWord_111 rfl rfl rfl ?_
        refine j_gR 115 kf_X7_81 dX7_readsWord_112 rfl ?_
        intro v14
        refine j_aload_n 116 0 dX7_readsWord_115 rfl rfl rfl ?_
        refine j_gI 119 kf_X7_331 dX7_readsWord_116 rfl ?_
        intro v15
        refine j_iload 121 5 dX7_readsWord_119 rfl rfl ?_
        refine j_iadd 122 dX7_readsWord_121 rfl ?_
        refine j_aI 123 dX7_readsWord_122 rfl ?_
        intro v16
        refine j_icmp_ne 130 126 dX7_readsWord_123 (by decide) rfl ?_ ?_
        · refine j_iconst (v := 0) 131 dX7_readsWord_130 rfl ic_0 ?_
          refine j_istore 133 [(4, .int 0), (0, .ref l0), (1, .int l1), (2, .int l2), (3, .int l3), (5, .int l5)] dX7_readsWord_131 rfl (by decide) rfl ?_
          refine j_iinc 136 5 [(5, .int (l5 + 1)), (4, .int 0), (0, .ref l0), (1, .int l1), (2, .int l2), (3, .int l3)] dX7_readsWord_133 rfl rfl (ii_1 _) (by decide) rfl ?_
          refine j_goto 83 dX7_readsWord_136 (by decide) ?_
          refine j_sub [2, 3, 4, 5, 1, 0] rfl ?_
          exact ih l0 l1 l2 l3 0 (l5 + 1) x
        · refine j_iconst (v := 1) 127 dX7_readsWord_126 rfl ic_1 ?_
          refine j_goto 131 dX7_readsWord_127 (by decide) ?_
          refine j_istore 133 [(4, .int 1), (0, .ref l0), (1, .int l1), (2, .int l2), (3, .int l3), (5, .int l5)] dX7_readsWord_131 rfl (by decide) rfl ?_
          refine j_iinc 136 5 [(5, .int (l5 + 1)), (4, .int 1), (0, .ref l0), (1, .int l1), (2, .int l2), (3, .int l3)] dX7_readsWord_133 rfl rfl (ii_1 _) (by decide) rfl ?_
          refine j_goto 83 dX7_readsWord_136 (by decide) ?_
          refine j_sub [2, 3, 4, 5, 1, 0] rfl ?_
          exact ih l0 l1 l2 l3 1 (l5 + 1) x
def X7_readsWord_J78 (r33 : Nat → Int32 → Int32 → Hs → Option (Hs)) (l0 : Nat) (l1 : Int32) (l2 : Int32) (l3 : Int32) (s0 : Int32) (x : Hs) : Option (Hs) := X7_readsWord_L83 r33 fu l0 l1 l2 l3 s0 0 x
theorem okX7_readsWord_J78 (G : JG) (r33 : Nat → Int32 → Int32 → Hs → Option (Hs)) (hr33 : ∀ (l0 : Nat) (l1 : Int32) (l2 : Int32) (x : Hs), JM G RX7 cX7_readsWord 6 (jZ G (none) "readsWord" (jR 3 0 0) 0 0) (fun r : Hs => ((none, r) : JR)) 33 [(0, .ref l0), (1, .int l1), (2, .int l2)] [] x 0 0 (r33 l0 l1 l2 x)) : ∀ (l0 : Nat) (l1 : Int32) (l2 : Int32) (l3 : Int32) (s0 : Int32) (x : Hs), JM G RX7 cX7_readsWord 6 (jZ G (none) "readsWord" (jR 3 0 0) 0 0) (fun r : Hs => ((none, r) : JR)) 78 [(0, .ref l0), (1, .int l1), (2, .int l2), (3, .int l3)] [.int s0] x 0 0 (X7_readsWord_J78 r33 l0 l1 l2 l3 s0 x) := by
  intro l0 l1 l2 l3 s0 x
  unfold X7_readsWord_J78
  refine j_istore 80 [(4, .int s0), (0, .ref l0), (1, .int l1), (2, .int l2), (3, .int l3)] dX7_readsWord_78 rfl (by decide) rfl ?_
  refine j_iconst (v := 0) 81 dX7_readsWord_80 rfl ic_0 ?_
  refine j_istore 83 [(5, .int 0), (4, .int s0), (0, .ref l0), (1, .int l1), (2, .int l2), (3, .int l3)] dX7_readsWord_81 rfl (by decide) rfl ?_
  refine j_sub [2, 3, 4, 5, 1, 0] rfl ?_
  exact okX7_readsWord_L83 G r33 hr33 fu l0 l1 l2 l3 s0 0 x
def X7_readsWord_L41 (r33 : Nat → Int32 → Int32 → Hs → Option (Hs)) : Nat → Nat → Int32 → Int32 → Int32 → Hs → Option (Hs)
  | 0, _, _, _, _, _ => none
  | n + 1, l0, l1, l2, l3, x => (gR x 6 l0 26).bind fun v4 =>
  (aC x v4 l3).bind fun v5 =>
  (if v5 = 32 then (gI x 6 l0 31).bind fun v6 =>
  (gI x 6 l0 32).bind fun v7 =>
  (if (l3 - l1) = (v6 - v7) then X7_readsWord_J78 r33 l0 l1 l2 l3 1 x else
  X7_readsWord_J78 r33 l0 l1 l2 l3 0 x) else
  X7_readsWord_L41 r33 n l0 l1 l2 (l3 + 1) x)
theorem okX7_readsWord_L41 (G : JG) (r33 : Nat → Int32 → Int32 → Hs → Option (Hs)) (hr33 : ∀ (l0 : Nat) (l1 : Int32) (l2 : Int32) (x : Hs), JM G RX7 cX7_readsWord 6 (jZ G (none) "readsWord" (jR 3 0 0) 0 0) (fun r : Hs => ((none, r) : JR)) 33 [(0, .ref l0), (1, .int l1), (2, .int l2)] [] x 0 0 (r33 l0 l1 l2 x)) : ∀ (n : Nat), ∀ (l0 : Nat) (l1 : Int32) (l2 : Int32) (l3 : Int32) (x : Hs), JM G RX7 cX7_readsWord 6 (jZ G (none) "readsWord" (jR 3 0 0) 0 0) (fun r : Hs => ((none, r) : JR)) 41 [(0, .ref l0), (1, .int l1), (2, .int l2), (3, .int l3)] [] x 0 0 (X7_readsWord_L41 r33 n l0 l1 l2 l3 x) := by
  intro n
  induction n with
  | zero => intro l0 l1 l2 l3 x; exact j_none
  | succ n ih =>
    intro l0 l1 l2 l3 x
    unfold X7_readsWord_L41
    refine j_aload_n 42 0 dX7_readsWord_41 rfl rfl rfl ?_
    refine j_gR 45 kf_X7_74 dX7_readsWord_42 rfl ?_
    intro v4
    refine j_iload_n 46 3 dX7_readsWord_45 rfl rfl rfl ?_
    refine j_aC 47 dX7_readsWord_46 rfl ?_
    intro v5
    refine j_bipush (v := 32) 49 dX7_readsWord_47 rfl bc_32 ?_
    refine j_icmp_eq 58 52 dX7_readsWord_49 (by decide) rfl ?_ ?_
    · refine j_iload_n 59 3 dX7_readsWord_58 rfl rfl rfl ?_
      refine j_iload_n 60 1 dX7_readsWord_59 rfl rfl rfl ?_
      refine j_isub 61 dX7_readsWord_60 rfl ?_
      refine j_aload_n 62 0 dX7_readsWord_61 rfl rfl rfl ?_
      refine j_gI 65 kf_X7_322 dX7_readsWord_62 rfl ?_
      intro v6
      refine j_aload_n 66 0 dX7_readsWord_65 rfl rfl rfl ?_
      refine j_gI 69 kf_X7_331 dX7_readsWord_66 rfl ?_
      intro v7
      refine j_isub 70 dX7_readsWord_69 rfl ?_
      refine j_icmp_ne 77 73 dX7_readsWord_70 (by decide) rfl ?_ ?_
      · refine j_iconst (v := 0) 78 dX7_readsWord_77 rfl ic_0 ?_
        exact okX7_readsWord_J78 G r33 hr33 l0 l1 l2 l3 0 x
      · refine j_iconst (v := 1) 74 dX7_readsWord_73 rfl ic_1 ?_
        refine j_goto 78 dX7_readsWord_74 (by decide) ?_
        exact okX7_readsWord_J78 G r33 hr33 l0 l1 l2 l3 1 x
    · refine j_iinc 55 3 [(3, .int (l3 + 1)), (0, .ref l0), (1, .int l1), (2, .int l2)] dX7_readsWord_52 rfl rfl (ii_1 _) (by decide) rfl ?_
      refine j_goto 41 dX7_readsWord_55 (by decide) ?_
      refine j_sub [1, 2, 3, 0] rfl ?_
      exact ih l0 l1 l2 (l3 + 1) x
def X7_readsWord_L33 : Nat → Nat → Int32 → Int32 → Hs → Option (Hs)
  | 0, _, _, _, _ => none
  | n + 1, l0, l1, l2, x => (if 8 ≤ l2 then some x else
  X7_readsWord_L41 (fun l0 l1 l2 x => X7_readsWord_L33 n l0 l1 l2 x) fu l0 l1 l2 l1 x)
theorem okX7_readsWord_L33 (G : JG) : ∀ (n : Nat), ∀ (l0 : Nat) (l1 : Int32) (l2 : Int32) (x : Hs), JM G RX7 cX7_readsWord 6 (jZ G (none) "readsWord" (jR 3 0 0) 0 0) (fun r : Hs => ((none, r) : JR)) 33 [(0, .ref l0), (1, .int l1), (2, .int l2)] [] x 0 0 (X7_readsWord_L33 n l0 l1 l2 x) := by
  intro n
  induction n with
  | zero => intro l0 l1 l2 x; exact j_none
  | succ n ih =>
    intro l0 l1 l2 x
    unfold X7_readsWord_L33
    refine j_iload_n 34 2 dX7_readsWord_33 rfl rfl rfl ?_
    refine j_bipush (v := 8) 36 dX7_readsWord_34 rfl bc_8 ?_
    refine j_icmp_ge 164 39 dX7_readsWord_36 (by decide) rfl ?_ ?_
    · exact j_vret dX7_readsWord_164 rfl
    · refine j_iload_n 40 1 dX7_readsWord_39 rfl rfl rfl ?_
      refine j_istore_n 41 [(3, .int l1), (0, .ref l0), (1, .int l1), (2, .int l2)] dX7_readsWord_40 rfl rfl (by decide) rfl ?_
      refine j_sub [1, 2, 3, 0] rfl ?_
      exact okX7_readsWord_L41 G (fun l0 l1 l2 x => X7_readsWord_L33 n l0 l1 l2 x) ih fu l0 l1 l2 l1 x
def X7_readsWord_L0 : Nat → Nat → Hs → Option (Hs)
  | 0, _, _ => none
  | n + 1, l0, x => (gI x 6 l0 31).bind fun v1 =>
  (X7_isLetter l0 v1 x).bind fun v2 =>
  (if v2 = 0 then (pV x 6 l0 33 (.int 4)).bind fun y3 =>
  X7_readsWord_L33 fu l0 0 0 y3 else
  (gI x 6 l0 31).bind fun v17 =>
  (pV x 6 l0 31 (.int (v17 + 1))).bind fun y18 =>
  X7_readsWord_L0 n l0 y18)
theorem okX7_readsWord_L0 (G : JG) : ∀ (n : Nat), ∀ (l0 : Nat) (x : Hs), JM G RX7 cX7_readsWord 6 (jZ G (none) "readsWord" (jR 3 0 0) 0 0) (fun r : Hs => ((none, r) : JR)) 0 [(0, .ref l0)] [] x 0 0 (X7_readsWord_L0 n l0 x) := by
  intro n
  induction n with
  | zero => intro l0 x; exact j_none
  | succ n ih =>
    intro l0 x
    unfold X7_readsWord_L0
    refine j_aload_n 1 0 dX7_readsWord_0 rfl rfl rfl ?_
    refine j_aload_n 2 0 dX7_readsWord_1 rfl rfl rfl ?_
    refine j_gI 5 kf_X7_322 dX7_readsWord_2 rfl ?_
    intro v1
    refine j_callV_i (ci := 6) (As := [.int v1]) (st := []) 8 (okX7_isLetter G x l0 v1) kc_X7_isLetter kl_X7_325 ki_X7_isLetter kv_X7_isLetter kh_X7 (by decide) (fun _ h => rvX7_isLetter h) ⟨rfl, rfl, Nat.le_of_ble_eq_true rfl, Nat.le_of_ble_eq_true rfl⟩ (Nat.le_of_ble_eq_true rfl) ⟨Nat.le_of_ble_eq_true rfl, Nat.le_of_ble_eq_true rfl⟩ rfl dX7_readsWord_5 rfl rfl ?_
    intro v2
    refine j_if_eq 24 11 dX7_readsWord_8 (by decide) rfl ?_ ?_
    · refine j_aload_n 25 0 dX7_readsWord_24 rfl rfl rfl ?_
      refine j_iconst (v := 4) 26 dX7_readsWord_25 rfl ic_4 ?_
      refine j_put 29 kf_X7_328 dX7_readsWord_26 rfl rfl rfl ?_
      intro y3
      refine j_iconst (v := 0) 30 dX7_readsWord_29 rfl ic_0 ?_
      refine j_istore_n 31 [(1, .int 0), (0, .ref l0)] dX7_readsWord_30 rfl rfl (by decide) rfl ?_
      refine j_iconst (v := 0) 32 dX7_readsWord_31 rfl ic_0 ?_
      refine j_istore_n 33 [(2, .int 0), (1, .int 0), (0, .ref l0)] dX7_readsWord_32 rfl rfl (by decide) rfl ?_
      refine j_sub [2, 1, 0] rfl ?_
      exact okX7_readsWord_L33 G fu l0 0 0 y3
    · refine j_aload_n 12 0 dX7_readsWord_11 rfl rfl rfl ?_
      refine j_dup 13 dX7_readsWord_12 rfl rfl ?_
      refine j_gI 16 kf_X7_322 dX7_readsWord_13 rfl ?_
      intro v17
      refine j_iconst (v := 1) 17 dX7_readsWord_16 rfl ic_1 ?_
      refine j_iadd 18 dX7_readsWord_17 rfl ?_
      refine j_put 21 kf_X7_322 dX7_readsWord_18 rfl rfl rfl ?_
      intro y18
      refine j_goto 0 dX7_readsWord_21 (by decide) ?_
      exact ih l0 y18
def X7_readsWord (a0 : Nat) (x : Hs) : Option (Hs) := (vO x 6 a0).bind fun _ =>
  X7_readsWord_L0 fu a0 x
theorem rvX7_readsWord {a0 : Nat} {x : Hs} {r : Hs} (h : X7_readsWord a0 x = some r) : ∃ fs, x.1 a0 = .inr (6, fs) := vO_bind h
theorem okX7_readsWord (G : JG) (x : Hs) (a0 : Nat) : ∀ r, X7_readsWord a0 x = some r → JC G yX7_readsWord cX7_readsWord 6 (none) (jR 3 0 0) 0 0 [.ref a0] x ((none, r)) := by
  refine jc_of (own := RX7) (E := (fun r : Hs => ((none, r) : JR))) (by decide) rfl rfl (Nat.le_of_ble_eq_true rfl) rfl ?_
  unfold X7_readsWord
  refine j_chk ?_
  exact okX7_readsWord_L0 G fu a0 x
-- X7_readsNumber: ('BarStepsModel', 'readsNumber', '()V')
def X7_readsNumber_J129 (l0 : Nat) (l1 : Int32) (s0 : Int32) (s1 : Nat) (x : Hs) : Option (Hs) := (pV x 6 s1 33 (.int s0)).bind fun y11 =>
  (if l1 = 0 then (gI y11 6 l0 34).bind fun v12 =>
  (pV y11 6 l0 34 (.int v12)).bind fun y13 =>
  some y13 else
  (gI y11 6 l0 34).bind fun v14 =>
  (pV y11 6 l0 34 (.int (-v14))).bind fun y15 =>
  some y15)
theorem okX7_readsNumber_J129 (G : JG) : ∀ (l0 : Nat) (l1 : Int32) (s0 : Int32) (s1 : Nat) (x : Hs), JM G RX7 cX7_readsNumber 3 (jZ G (none) "readsNumber" (jR 3 0 0) 0 0) (fun r : Hs => ((none, r) : JR)) 129 [(0, .ref l0), (1, .int l1)] [.int s0, .ref s1] x 0 0 (X7_readsNumber_J129 l0 l1 s0 s1 x) := by
  intro l0 l1 s0 s1 x
  unfold X7_readsNumber_J129
  refine j_put 132 kf_X7_328 dX7_readsNumber_129 rfl rfl rfl ?_
  intro y11
  refine j_aload_n 133 0 dX7_readsNumber_132 rfl rfl rfl ?_
  refine j_iload_n 134 1 dX7_readsNumber_133 rfl rfl rfl ?_
  refine j_if_eq 145 137 dX7_readsNumber_134 (by decide) rfl ?_ ?_
  · refine j_aload_n 146 0 dX7_readsNumber_145 rfl rfl rfl ?_
    refine j_gI 149 kf_X7_334 dX7_readsNumber_146 rfl ?_
    intro v12
    refine j_put 152 kf_X7_334 dX7_readsNumber_149 rfl rfl rfl ?_
    intro y13
    exact j_vret dX7_readsNumber_152 rfl
  · refine j_aload_n 138 0 dX7_readsNumber_137 rfl rfl rfl ?_
    refine j_gI 141 kf_X7_334 dX7_readsNumber_138 rfl ?_
    intro v14
    refine j_ineg 142 dX7_readsNumber_141 rfl ?_
    refine j_goto 149 dX7_readsNumber_142 (by decide) ?_
    refine j_put 152 kf_X7_334 dX7_readsNumber_149 rfl rfl rfl ?_
    intro y15
    exact j_vret dX7_readsNumber_152 rfl
def X7_readsNumber_J97 (r48 : Nat → Int32 → Int32 → Hs → Option (Hs)) (l0 : Nat) (l1 : Int32) (l2 : Int32) (s0 : Int32) (s1 : Nat) (x : Hs) : Option (Hs) := (pV x 6 s1 34 (.int s0)).bind fun y18 =>
  (gI y18 6 l0 31).bind fun v19 =>
  (pV y18 6 l0 31 (.int (v19 + 1))).bind fun y20 =>
  r48 l0 l1 l2 y20
theorem okX7_readsNumber_J97 (G : JG) (r48 : Nat → Int32 → Int32 → Hs → Option (Hs)) (hr48 : ∀ (l0 : Nat) (l1 : Int32) (l2 : Int32) (x : Hs), JM G RX7 cX7_readsNumber 3 (jZ G (none) "readsNumber" (jR 3 0 0) 0 0) (fun r : Hs => ((none, r) : JR)) 48 [(0, .ref l0), (1, .int l1), (2, .int l2)] [] x 0 0 (r48 l0 l1 l2 x)) : ∀ (l0 : Nat) (l1 : Int32) (l2 : Int32) (s0 : Int32) (s1 : Nat) (x : Hs), JM G RX7 cX7_readsNumber 3 (jZ G (none) "readsNumber" (jR 3 0 0) 0 0) (fun r : Hs => ((none, r) : JR)) 97 [(0, .ref l0), (1, .int l1), (2, .int l2)] [.int s0, .ref s1] x 0 0 (X7_readsNumber_J97 r48 l0 l1 l2 s0 s1 x) := by
  intro l0 l1 l2 s0 s1 x
  unfold X7_readsNumber_J97
  refine j_put 100 kf_X7_334 dX7_readsNumber_97 rfl rfl rfl ?_
  intro y18
  refine j_aload_n 101 0 dX7_readsNumber_100 rfl rfl rfl ?_
  refine j_dup 102 dX7_readsNumber_101 rfl rfl ?_
  refine j_gI 105 kf_X7_322 dX7_readsNumber_102 rfl ?_
  intro v19
  refine j_iconst (v := 1) 106 dX7_readsNumber_105 rfl ic_1 ?_
  refine j_iadd 107 dX7_readsNumber_106 rfl ?_
  refine j_put 110 kf_X7_322 dX7_readsNumber_107 rfl rfl rfl ?_
  intro y20
  refine j_goto 48 dX7_readsNumber_110 (by decide) ?_
  exact hr48 l0 l1 l2 y20
def X7_readsNumber_L48 : Nat → Nat → Int32 → Int32 → Hs → Option (Hs)
  | 0, _, _, _, _ => none
  | n + 1, l0, l1, l2, x => (gI x 6 l0 31).bind fun v8 =>
  (X7_isDigit l0 v8 x).bind fun v9 =>
  (if v9 = 0 then (gI x 6 l0 31).bind fun v10 =>
  (if (v10 - l2) ≤ 3 then X7_readsNumber_J129 l0 l1 2 l0 x else
  X7_readsNumber_J129 l0 l1 4 l0 x) else
  (gI x 6 l0 31).bind fun v16 =>
  (if 3 ≤ (v16 - l2) then (gI x 6 l0 34).bind fun v17 =>
  X7_readsNumber_J97 (fun l0 l1 l2 x => X7_readsNumber_L48 n l0 l1 l2 x) l0 l1 l2 v17 l0 x else
  (gI x 6 l0 34).bind fun v21 =>
  (gR x 6 l0 28).bind fun v22 =>
  (gI x 6 l0 31).bind fun v23 =>
  (aI x v22 v23).bind fun v24 =>
  X7_readsNumber_J97 (fun l0 l1 l2 x => X7_readsNumber_L48 n l0 l1 l2 x) l0 l1 l2 (((10 * v21) + v24) - 48) l0 x))
theorem okX7_readsNumber_L48 (G : JG) : ∀ (n : Nat), ∀ (l0 : Nat) (l1 : Int32) (l2 : Int32) (x : Hs), JM G RX7 cX7_readsNumber 3 (jZ G (none) "readsNumber" (jR 3 0 0) 0 0) (fun r : Hs => ((none, r) : JR)) 48 [(0, .ref l0), (1, .int l1), (2, .int l2)] [] x 0 0 (X7_readsNumber_L48 n l0 l1 l2 x) := by
  intro n
  induction n with
  | zero => intro l0 l1 l2 x; exact j_none
  | succ n ih =>
    intro l0 l1 l2 x
    unfold X7_readsNumber_L48
    refine j_aload_n 49 0 dX7_readsNumber_48 rfl rfl rfl ?_
    refine j_aload_n 50 0 dX7_readsNumber_49 rfl rfl rfl ?_
    refine j_gI 53 kf_X7_322 dX7_readsNumber_50 rfl ?_
    intro v8
    refine j_callV_i (ci := 6) (As := [.int v8]) (st := []) 56 (okX7_isDigit G x l0 v8) kc_X7_isDigit kl_X7_337 ki_X7_isDigit kv_X7_isDigit kh_X7 (by decide) (fun _ h => rvX7_isDigit h) ⟨rfl, rfl, Nat.le_of_ble_eq_true rfl, Nat.le_of_ble_eq_true rfl⟩ (Nat.le_of_ble_eq_true rfl) ⟨Nat.le_of_ble_eq_true rfl, Nat.le_of_ble_eq_true rfl⟩ rfl dX7_readsNumber_53 rfl rfl ?_
    intro v9
    refine j_if_eq 113 59 dX7_readsNumber_56 (by decide) rfl ?_ ?_
    · refine j_aload_n 114 0 dX7_readsNumber_113 rfl rfl rfl ?_
      refine j_aload_n 115 0 dX7_readsNumber_114 rfl rfl rfl ?_
      refine j_gI 118 kf_X7_322 dX7_readsNumber_115 rfl ?_
      intro v10
      refine j_iload_n 119 2 dX7_readsNumber_118 rfl rfl rfl ?_
      refine j_isub 120 dX7_readsNumber_119 rfl ?_
      refine j_iconst (v := 3) 121 dX7_readsNumber_120 rfl ic_3 ?_
      refine j_icmp_le 128 124 dX7_readsNumber_121 (by decide) rfl ?_ ?_
      · refine j_iconst (v := 2) 129 dX7_readsNumber_128 rfl ic_2 ?_
        refine j_sub [0, 1] rfl ?_
        exact okX7_readsNumber_J129 G l0 l1 2 l0 x
      · refine j_iconst (v := 4) 125 dX7_readsNumber_124 rfl ic_4 ?_
        refine j_goto 129 dX7_readsNumber_125 (by decide) ?_
        refine j_sub [0, 1] rfl ?_
        exact okX7_readsNumber_J129 G l0 l1 4 l0 x
    · refine j_aload_n 60 0 dX7_readsNumber_59 rfl rfl rfl ?_
      refine j_aload_n 61 0 dX7_readsNumber_60 rfl rfl rfl ?_
      refine j_gI 64 kf_X7_322 dX7_readsNumber_61 rfl ?_
      intro v16
      refine j_iload_n 65 2 dX7_readsNumber_64 rfl rfl rfl ?_
      refine j_isub 66 dX7_readsNumber_65 rfl ?_
      refine j_iconst (v := 3) 67 dX7_readsNumber_66 rfl ic_3 ?_
      refine j_icmp_ge 93 70 dX7_readsNumber_67 (by decide) rfl ?_ ?_
      · refine j_aload_n 94 0 dX7_readsNumber_93 rfl rfl rfl ?_
        refine j_gI 97 kf_X7_334 dX7_readsNumber_94 rfl ?_
        intro v17
        exact okX7_readsNumber_J97 G (fun l0 l1 l2 x => X7_readsNumber_L48 n l0 l1 l2 x) ih l0 l1 l2 v17 l0 x
      · refine j_bipush (v := 10) 72 dX7_readsNumber_70 rfl bc_10 ?_
        refine j_aload_n 73 0 dX7_readsNumber_72 rfl rfl rfl ?_
        refine j_gI 76 kf_X7_334 dX7_readsNumber_73 rfl ?_
        intro v21
        refine j_imul 77 dX7_readsNumber_76 rfl ?_
        refine j_aload_n 78 0 dX7_readsNumber_77 rfl rfl rfl ?_
        refine j_gR 81 kf_X7_81 dX7_readsNumber_78 rfl ?_
        intro v22
        refine j_aload_n 82 0 dX7_readsNumber_81 rfl rfl rfl ?_
        refine j_gI 85 kf_X7_322 dX7_readsNumber_82 rfl ?_
        intro v23
        refine j_aI 86 dX7_readsNumber_85 rfl ?_
        intro v24
        refine j_iadd 87 dX7_readsNumber_86 rfl ?_
        refine j_bipush (v := 48) 89 dX7_readsNumber_87 rfl bc_48 ?_
        refine j_isub 90 dX7_readsNumber_89 rfl ?_
        refine j_goto 97 dX7_readsNumber_90 (by decide) ?_
        exact okX7_readsNumber_J97 G (fun l0 l1 l2 x => X7_readsNumber_L48 n l0 l1 l2 x) ih l0 l1 l2 (((10 * v21) + v24) - 48) l0 x
def X7_readsNumber_J34 (l0 : Nat) (l1 : Int32) (s0 : Int32) (s1 : Int32) (s2 : Nat) (x : Hs) : Option (Hs) := (pV x 6 s2 31 (.int (s1 + s0))).bind fun y5 =>
  (gI y5 6 l0 31).bind fun v6 =>
  (pV y5 6 l0 34 (.int 0)).bind fun y7 =>
  X7_readsNumber_L48 fu l0 l1 v6 y7
theorem okX7_readsNumber_J34 (G : JG) : ∀ (l0 : Nat) (l1 : Int32) (s0 : Int32) (s1 : Int32) (s2 : Nat) (x : Hs), JM G RX7 cX7_readsNumber 3 (jZ G (none) "readsNumber" (jR 3 0 0) 0 0) (fun r : Hs => ((none, r) : JR)) 34 [(0, .ref l0), (1, .int l1)] [.int s0, .int s1, .ref s2] x 0 0 (X7_readsNumber_J34 l0 l1 s0 s1 s2 x) := by
  intro l0 l1 s0 s1 s2 x
  unfold X7_readsNumber_J34
  refine j_iadd 35 dX7_readsNumber_34 rfl ?_
  refine j_put 38 kf_X7_322 dX7_readsNumber_35 rfl rfl rfl ?_
  intro y5
  refine j_aload_n 39 0 dX7_readsNumber_38 rfl rfl rfl ?_
  refine j_gI 42 kf_X7_322 dX7_readsNumber_39 rfl ?_
  intro v6
  refine j_istore_n 43 [(2, .int v6), (0, .ref l0), (1, .int l1)] dX7_readsNumber_42 rfl rfl (by decide) rfl ?_
  refine j_aload_n 44 1 dX7_readsNumber_43 rfl rfl rfl ?_
  refine j_iconst (v := 0) 45 dX7_readsNumber_44 rfl ic_0 ?_
  refine j_put 48 kf_X7_334 dX7_readsNumber_45 rfl rfl rfl ?_
  intro y7
  refine j_sub [1, 2, 0] rfl ?_
  exact okX7_readsNumber_L48 G fu l0 l1 v6 y7
def X7_readsNumber_J19 (l0 : Nat) (s0 : Int32) (x : Hs) : Option (Hs) := (gI x 6 l0 31).bind fun v4 =>
  (if s0 = 0 then X7_readsNumber_J34 l0 s0 0 v4 l0 x else
  X7_readsNumber_J34 l0 s0 1 v4 l0 x)
theorem okX7_readsNumber_J19 (G : JG) : ∀ (l0 : Nat) (s0 : Int32) (x : Hs), JM G RX7 cX7_readsNumber 3 (jZ G (none) "readsNumber" (jR 3 0 0) 0 0) (fun r : Hs => ((none, r) : JR)) 19 [(0, .ref l0)] [.int s0] x 0 0 (X7_readsNumber_J19 l0 s0 x) := by
  intro l0 s0 x
  unfold X7_readsNumber_J19
  refine j_istore_n 20 [(1, .int s0), (0, .ref l0)] dX7_readsNumber_19 rfl rfl (by decide) rfl ?_
  refine j_aload_n 21 1 dX7_readsNumber_20 rfl rfl rfl ?_
  refine j_dup 22 dX7_readsNumber_21 rfl rfl ?_
  refine j_gI 25 kf_X7_322 dX7_readsNumber_22 rfl ?_
  intro v4
  refine j_iload_n 26 0 dX7_readsNumber_25 rfl rfl rfl ?_
  refine j_if_eq 33 29 dX7_readsNumber_26 (by decide) rfl ?_ ?_
  · refine j_iconst (v := 0) 34 dX7_readsNumber_33 rfl ic_0 ?_
    refine j_sub [1, 0] rfl ?_
    exact okX7_readsNumber_J34 G l0 s0 0 v4 l0 x
  · refine j_iconst (v := 1) 30 dX7_readsNumber_29 rfl ic_1 ?_
    refine j_goto 34 dX7_readsNumber_30 (by decide) ?_
    refine j_sub [1, 0] rfl ?_
    exact okX7_readsNumber_J34 G l0 s0 1 v4 l0 x
def X7_readsNumber (a0 : Nat) (x : Hs) : Option (Hs) := (vO x 6 a0).bind fun _ =>
  (gR x 6 a0 28).bind fun v1 =>
  (gI x 6 a0 31).bind fun v2 =>
  (aI x v1 v2).bind fun v3 =>
  (if v3 = 45 then X7_readsNumber_J19 a0 1 x else
  X7_readsNumber_J19 a0 0 x)
theorem rvX7_readsNumber {a0 : Nat} {x : Hs} {r : Hs} (h : X7_readsNumber a0 x = some r) : ∃ fs, x.1 a0 = .inr (6, fs) := vO_bind h
theorem okX7_readsNumber (G : JG) (x : Hs) (a0 : Nat) : ∀ r, X7_readsNumber a0 x = some r → JC G yX7_readsNumber cX7_readsNumber 3 (none) (jR 3 0 0) 0 0 [.ref a0] x ((none, r)) := by
  refine jc_of (own := RX7) (E := (fun r : Hs => ((none, r) : JR))) (by decide) rfl rfl (Nat.le_of_ble_eq_true rfl) rfl ?_
  unfold X7_readsNumber
  refine j_chk ?_
  refine j_aload_n 1 0 dX7_readsNumber_0 rfl rfl rfl ?_
  refine j_gR 4 kf_X7_81 dX7_readsNumber_1 rfl ?_
  intro v1
  refine j_aload_n 5 0 dX7_readsNumber_4 rfl rfl rfl ?_
  refine j_gI 8 kf_X7_322 dX7_readsNumber_5 rfl ?_
  intro v2
  refine j_aI 9 dX7_readsNumber_8 rfl ?_
  intro v3
  refine j_bipush (v := 45) 11 dX7_readsNumber_9 rfl bc_45 ?_
  refine j_icmp_ne 18 14 dX7_readsNumber_11 (by decide) rfl ?_ ?_
  · refine j_iconst (v := 0) 19 dX7_readsNumber_18 rfl ic_0 ?_
    exact okX7_readsNumber_J19 G a0 0 x
  · refine j_iconst (v := 1) 15 dX7_readsNumber_14 rfl ic_1 ?_
    refine j_goto 19 dX7_readsNumber_15 (by decide) ?_
    exact okX7_readsNumber_J19 G a0 1 x
-- X7_reads: ('BarStepsModel', 'reads', '()V')
def X7_reads_J135 (l0 : Nat) (x : Hs) : Option (Hs) := (X7_readsNumber l0 x).bind fun q11 =>
  some q11
theorem okX7_reads_J135 (G : JG) : ∀ (l0 : Nat) (x : Hs), JM G RX7 cX7_reads 1 (jZ G (none) "reads" (jR 4 0 0) 0 0) (fun r : Hs => ((none, r) : JR)) 135 [(0, .ref l0)] [] x 0 0 (X7_reads_J135 l0 x) := by
  intro l0 x
  unfold X7_reads_J135
  refine j_aload_n 136 0 dX7_reads_135 rfl rfl rfl ?_
  refine j_callV_v (ci := 6) (As := []) (st := []) 139 (okX7_readsNumber G x l0) kc_X7_readsNumber kl_X7_343 ki_X7_readsNumber kv_X7_readsNumber kh_X7 (by decide) (fun _ h => rvX7_readsNumber h) ⟨rfl, rfl, Nat.le_of_ble_eq_true rfl, Nat.le_of_ble_eq_true rfl⟩ (Nat.le_of_ble_eq_true rfl) ⟨Nat.le_of_ble_eq_true rfl, Nat.le_of_ble_eq_true rfl⟩ rfl dX7_reads_136 rfl rfl ?_
  intro q11
  refine j_goto 175 dX7_reads_139 (by decide) ?_
  exact j_vret dX7_reads_175 rfl
def X7_reads_J162 (l0 : Nat) (s0 : Int32) (s1 : Nat) (x : Hs) : Option (Hs) := (pV x 6 s1 33 (.int s0)).bind fun y18 =>
  (gI y18 6 l0 31).bind fun v19 =>
  (pV y18 6 l0 31 (.int (v19 + 1))).bind fun y20 =>
  some y20
theorem okX7_reads_J162 (G : JG) : ∀ (l0 : Nat) (s0 : Int32) (s1 : Nat) (x : Hs), JM G RX7 cX7_reads 1 (jZ G (none) "reads" (jR 4 0 0) 0 0) (fun r : Hs => ((none, r) : JR)) 162 [(0, .ref l0)] [.int s0, .ref s1] x 0 0 (X7_reads_J162 l0 s0 s1 x) := by
  intro l0 s0 s1 x
  unfold X7_reads_J162
  refine j_put 165 kf_X7_328 dX7_reads_162 rfl rfl rfl ?_
  intro y18
  refine j_aload_n 166 0 dX7_reads_165 rfl rfl rfl ?_
  refine j_dup 167 dX7_reads_166 rfl rfl ?_
  refine j_gI 170 kf_X7_322 dX7_reads_167 rfl ?_
  intro v19
  refine j_iconst (v := 1) 171 dX7_reads_170 rfl ic_1 ?_
  refine j_iadd 172 dX7_reads_171 rfl ?_
  refine j_put 175 kf_X7_322 dX7_reads_172 rfl rfl rfl ?_
  intro y20
  exact j_vret dX7_reads_175 rfl
def X7_reads_J142 (l0 : Nat) (x : Hs) : Option (Hs) := (gR x 6 l0 28).bind fun v15 =>
  (gI x 6 l0 31).bind fun v16 =>
  (aI x v15 v16).bind fun v17 =>
  (if v17 = 59 then X7_reads_J162 l0 3 l0 x else
  X7_reads_J162 l0 4 l0 x)
theorem okX7_reads_J142 (G : JG) : ∀ (l0 : Nat) (x : Hs), JM G RX7 cX7_reads 1 (jZ G (none) "reads" (jR 4 0 0) 0 0) (fun r : Hs => ((none, r) : JR)) 142 [(0, .ref l0)] [] x 0 0 (X7_reads_J142 l0 x) := by
  intro l0 x
  unfold X7_reads_J142
  refine j_aload_n 143 0 dX7_reads_142 rfl rfl rfl ?_
  refine j_aload_n 144 0 dX7_reads_143 rfl rfl rfl ?_
  refine j_gR 147 kf_X7_81 dX7_reads_144 rfl ?_
  intro v15
  refine j_aload_n 148 0 dX7_reads_147 rfl rfl rfl ?_
  refine j_gI 151 kf_X7_322 dX7_reads_148 rfl ?_
  intro v16
  refine j_aI 152 dX7_reads_151 rfl ?_
  intro v17
  refine j_bipush (v := 59) 154 dX7_reads_152 rfl bc_59 ?_
  refine j_icmp_ne 161 157 dX7_reads_154 (by decide) rfl ?_ ?_
  · refine j_iconst (v := 4) 162 dX7_reads_161 rfl ic_4 ?_
    exact okX7_reads_J162 G l0 4 l0 x
  · refine j_iconst (v := 3) 158 dX7_reads_157 rfl ic_3 ?_
    refine j_goto 162 dX7_reads_158 (by decide) ?_
    exact okX7_reads_J162 G l0 3 l0 x
def X7_reads_J52 (l0 : Nat) (x : Hs) : Option (Hs) := (gI x 6 l0 31).bind fun v3 =>
  (pV x 6 l0 32 (.int v3)).bind fun y4 =>
  (gI y4 6 l0 31).bind fun v5 =>
  (gI y4 6 l0 30).bind fun v6 =>
  (if v5 = v6 then (pV y4 6 l0 33 (.int 0)).bind fun y24 =>
  some y24 else
  (gI y4 6 l0 31).bind fun v7 =>
  (X7_isLetter l0 v7 y4).bind fun v8 =>
  (if v8 = 0 then (gI y4 6 l0 31).bind fun v9 =>
  (X7_isDigit l0 v9 y4).bind fun v10 =>
  (if v10 = 0 then (gR y4 6 l0 28).bind fun v12 =>
  (gI y4 6 l0 31).bind fun v13 =>
  (aI y4 v12 v13).bind fun v14 =>
  (if v14 = 45 then (gI y4 6 l0 31).bind fun v21 =>
  (X7_isDigit l0 (v21 + 1) y4).bind fun v22 =>
  (if v22 = 0 then X7_reads_J142 l0 y4 else
  X7_reads_J135 l0 y4) else
  X7_reads_J142 l0 y4) else
  X7_reads_J135 l0 y4) else
  (X7_readsWord l0 y4).bind fun q23 =>
  some q23))
theorem okX7_reads_J52 (G : JG) : ∀ (l0 : Nat) (x : Hs), JM G RX7 cX7_reads 1 (jZ G (none) "reads" (jR 4 0 0) 0 0) (fun r : Hs => ((none, r) : JR)) 52 [(0, .ref l0)] [] x 0 0 (X7_reads_J52 l0 x) := by
  intro l0 x
  unfold X7_reads_J52
  refine j_aload_n 53 0 dX7_reads_52 rfl rfl rfl ?_
  refine j_aload_n 54 0 dX7_reads_53 rfl rfl rfl ?_
  refine j_gI 57 kf_X7_322 dX7_reads_54 rfl ?_
  intro v3
  refine j_put 60 kf_X7_331 dX7_reads_57 rfl rfl rfl ?_
  intro y4
  refine j_aload_n 61 0 dX7_reads_60 rfl rfl rfl ?_
  refine j_gI 64 kf_X7_322 dX7_reads_61 rfl ?_
  intro v5
  refine j_aload_n 65 0 dX7_reads_64 rfl rfl rfl ?_
  refine j_gI 68 kf_X7_311 dX7_reads_65 rfl ?_
  intro v6
  refine j_icmp_ne 79 71 dX7_reads_68 (by decide) rfl ?_ ?_
  · refine j_aload_n 80 0 dX7_reads_79 rfl rfl rfl ?_
    refine j_aload_n 81 0 dX7_reads_80 rfl rfl rfl ?_
    refine j_gI 84 kf_X7_322 dX7_reads_81 rfl ?_
    intro v7
    refine j_callV_i (ci := 6) (As := [.int v7]) (st := []) 87 (okX7_isLetter G y4 l0 v7) kc_X7_isLetter kl_X7_325 ki_X7_isLetter kv_X7_isLetter kh_X7 (by decide) (fun _ h => rvX7_isLetter h) ⟨rfl, rfl, Nat.le_of_ble_eq_true rfl, Nat.le_of_ble_eq_true rfl⟩ (Nat.le_of_ble_eq_true rfl) ⟨Nat.le_of_ble_eq_true rfl, Nat.le_of_ble_eq_true rfl⟩ rfl dX7_reads_84 rfl rfl ?_
    intro v8
    refine j_if_eq 97 90 dX7_reads_87 (by decide) rfl ?_ ?_
    · refine j_aload_n 98 0 dX7_reads_97 rfl rfl rfl ?_
      refine j_aload_n 99 0 dX7_reads_98 rfl rfl rfl ?_
      refine j_gI 102 kf_X7_322 dX7_reads_99 rfl ?_
      intro v9
      refine j_callV_i (ci := 6) (As := [.int v9]) (st := []) 105 (okX7_isDigit G y4 l0 v9) kc_X7_isDigit kl_X7_337 ki_X7_isDigit kv_X7_isDigit kh_X7 (by decide) (fun _ h => rvX7_isDigit h) ⟨rfl, rfl, Nat.le_of_ble_eq_true rfl, Nat.le_of_ble_eq_true rfl⟩ (Nat.le_of_ble_eq_true rfl) ⟨Nat.le_of_ble_eq_true rfl, Nat.le_of_ble_eq_true rfl⟩ rfl dX7_reads_102 rfl rfl ?_
      intro v10
      refine j_if_ne 135 108 dX7_reads_105 (by decide) rfl ?_ ?_
      · exact okX7_reads_J135 G l0 y4
      · refine j_aload_n 109 0 dX7_reads_108 rfl rfl rfl ?_
        refine j_gR 112 kf_X7_81 dX7_reads_109 rfl ?_
        intro v12
        refine j_aload_n 113 0 dX7_reads_112 rfl rfl rfl ?_
        refine j_gI 116 kf_X7_322 dX7_reads_113 rfl ?_
        intro v13
        refine j_aI 117 dX7_reads_116 rfl ?_
        intro v14
        refine j_bipush (v := 45) 119 dX7_reads_117 rfl bc_45 ?_
        refine j_icmp_ne 142 122 dX7_reads_119 (by decide) rfl ?_ ?_
        · exact okX7_reads_J142 G l0 y4
        · refine j_aload_n 123 0 dX7_reads_122 rfl rfl rfl ?_
          refine j_aload_n 124 0 dX7_reads_123 rfl rfl rfl ?_
          refine j_gI 127 kf_X7_322 dX7_reads_124 rfl ?_
          intro v21
          refine j_iconst (v := 1) 128 dX7_reads_127 rfl ic_1 ?_
          refine j_iadd 129 dX7_reads_128 rfl ?_
          refine j_callV_i (ci := 6) (As := [.int (v21 + 1)]) (st := []) 132 (okX7_isDigit G y4 l0 (v21 + 1)) kc_X7_isDigit kl_X7_337 ki_X7_isDigit kv_X7_isDigit kh_X7 (by decide) (fun _ h => rvX7_isDigit h) ⟨rfl, rfl, Nat.le_of_ble_eq_true rfl, Nat.le_of_ble_eq_true rfl⟩ (Nat.le_of_ble_eq_true rfl) ⟨Nat.le_of_ble_eq_true rfl, Nat.le_of_ble_eq_true rfl⟩ rfl dX7_reads_129 rfl rfl ?_
          intro v22
          refine j_if_eq 142 135 dX7_reads_132 (by decide) rfl ?_ ?_
          · exact okX7_reads_J142 G l0 y4
          · exact okX7_reads_J135 G l0 y4
    · refine j_aload_n 91 0 dX7_reads_90 rfl rfl rfl ?_
      refine j_callV_v (ci := 6) (As := []) (st := []) 94 (okX7_readsWord G y4 l0) kc_X7_readsWord kl_X7_340 ki_X7_readsWord kv_X7_readsWord kh_X7 (by decide) (fun _ h => rvX7_readsWord h) ⟨rfl, rfl, Nat.le_of_ble_eq_true rfl, Nat.le_of_ble_eq_true rfl⟩ (Nat.le_of_ble_eq_true rfl) ⟨Nat.le_of_ble_eq_true rfl, Nat.le_of_ble_eq_true rfl⟩ rfl dX7_reads_91 rfl rfl ?_
      intro q23
      refine j_goto 175 dX7_reads_94 (by decide) ?_
      exact j_vret dX7_reads_175 rfl
  · refine j_aload_n 72 0 dX7_reads_71 rfl rfl rfl ?_
    refine j_iconst (v := 0) 73 dX7_reads_72 rfl ic_0 ?_
    refine j_put 76 kf_X7_328 dX7_reads_73 rfl rfl rfl ?_
    intro y24
    refine j_goto 175 dX7_reads_76 (by decide) ?_
    exact j_vret dX7_reads_175 rfl
def X7_reads_J39 (r0 : Nat → Hs → Option (Hs)) (l0 : Nat) (x : Hs) : Option (Hs) := (gI x 6 l0 31).bind fun v28 =>
  (pV x 6 l0 31 (.int (v28 + 1))).bind fun y29 =>
  r0 l0 y29
theorem okX7_reads_J39 (G : JG) (r0 : Nat → Hs → Option (Hs)) (hr0 : ∀ (l0 : Nat) (x : Hs), JM G RX7 cX7_reads 1 (jZ G (none) "reads" (jR 4 0 0) 0 0) (fun r : Hs => ((none, r) : JR)) 0 [(0, .ref l0)] [] x 0 0 (r0 l0 x)) : ∀ (l0 : Nat) (x : Hs), JM G RX7 cX7_reads 1 (jZ G (none) "reads" (jR 4 0 0) 0 0) (fun r : Hs => ((none, r) : JR)) 39 [(0, .ref l0)] [] x 0 0 (X7_reads_J39 r0 l0 x) := by
  intro l0 x
  unfold X7_reads_J39
  refine j_aload_n 40 0 dX7_reads_39 rfl rfl rfl ?_
  refine j_dup 41 dX7_reads_40 rfl rfl ?_
  refine j_gI 44 kf_X7_322 dX7_reads_41 rfl ?_
  intro v28
  refine j_iconst (v := 1) 45 dX7_reads_44 rfl ic_1 ?_
  refine j_iadd 46 dX7_reads_45 rfl ?_
  refine j_put 49 kf_X7_322 dX7_reads_46 rfl rfl rfl ?_
  intro y29
  refine j_goto 0 dX7_reads_49 (by decide) ?_
  exact hr0 l0 y29
def X7_reads_L0 : Nat → Nat → Hs → Option (Hs)
  | 0, _, _ => none
  | n + 1, l0, x => (gI x 6 l0 31).bind fun v1 =>
  (gI x 6 l0 30).bind fun v2 =>
  (if v2 ≤ v1 then X7_reads_J52 l0 x else
  (gR x 6 l0 28).bind fun v25 =>
  (gI x 6 l0 31).bind fun v26 =>
  (aI x v25 v26).bind fun v27 =>
  (if v27 = 32 then X7_reads_J39 (fun l0 x => X7_reads_L0 n l0 x) l0 x else
  (gR x 6 l0 28).bind fun v30 =>
  (gI x 6 l0 31).bind fun v31 =>
  (aI x v30 v31).bind fun v32 =>
  (if v32 = 10 then X7_reads_J39 (fun l0 x => X7_reads_L0 n l0 x) l0 x else
  X7_reads_J52 l0 x)))
theorem okX7_reads_L0 (G : JG) : ∀ (n : Nat), ∀ (l0 : Nat) (x : Hs), JM G RX7 cX7_reads 1 (jZ G (none) "reads" (jR 4 0 0) 0 0) (fun r : Hs => ((none, r) : JR)) 0 [(0, .ref l0)] [] x 0 0 (X7_reads_L0 n l0 x) := by
  intro n
  induction n with
  | zero => intro l0 x; exact j_none
  | succ n ih =>
    intro l0 x
    unfold X7_reads_L0
    refine j_aload_n 1 0 dX7_reads_0 rfl rfl rfl ?_
    refine j_gI 4 kf_X7_322 dX7_reads_1 rfl ?_
    intro v1
    refine j_aload_n 5 0 dX7_reads_4 rfl rfl rfl ?_
    refine j_gI 8 kf_X7_311 dX7_reads_5 rfl ?_
    intro v2
    refine j_icmp_ge 52 11 dX7_reads_8 (by decide) rfl ?_ ?_
    · exact okX7_reads_J52 G l0 x
    · refine j_aload_n 12 0 dX7_reads_11 rfl rfl rfl ?_
      refine j_gR 15 kf_X7_81 dX7_reads_12 rfl ?_
      intro v25
      refine j_aload_n 16 0 dX7_reads_15 rfl rfl rfl ?_
      refine j_gI 19 kf_X7_322 dX7_reads_16 rfl ?_
      intro v26
      refine j_aI 20 dX7_reads_19 rfl ?_
      intro v27
      refine j_bipush (v := 32) 22 dX7_reads_20 rfl bc_32 ?_
      refine j_icmp_eq 39 25 dX7_reads_22 (by decide) rfl ?_ ?_
      · exact okX7_reads_J39 G (fun l0 x => X7_reads_L0 n l0 x) ih l0 x
      · refine j_aload_n 26 0 dX7_reads_25 rfl rfl rfl ?_
        refine j_gR 29 kf_X7_81 dX7_reads_26 rfl ?_
        intro v30
        refine j_aload_n 30 0 dX7_reads_29 rfl rfl rfl ?_
        refine j_gI 33 kf_X7_322 dX7_reads_30 rfl ?_
        intro v31
        refine j_aI 34 dX7_reads_33 rfl ?_
        intro v32
        refine j_bipush (v := 10) 36 dX7_reads_34 rfl bc_10 ?_
        refine j_icmp_ne 52 39 dX7_reads_36 (by decide) rfl ?_ ?_
        · exact okX7_reads_J52 G l0 x
        · exact okX7_reads_J39 G (fun l0 x => X7_reads_L0 n l0 x) ih l0 x
def X7_reads (a0 : Nat) (x : Hs) : Option (Hs) := (vO x 6 a0).bind fun _ =>
  X7_reads_L0 fu a0 x
theorem rvX7_reads {a0 : Nat} {x : Hs} {r : Hs} (h : X7_reads a0 x = some r) : ∃ fs, x.1 a0 = .inr (6, fs) := vO_bind h
theorem okX7_reads (G : JG) (x : Hs) (a0 : Nat) : ∀ r, X7_reads a0 x = some r → JC G yX7_reads cX7_reads 1 (none) (jR 4 0 0) 0 0 [.ref a0] x ((none, r)) := by
  refine jc_of (own := RX7) (E := (fun r : Hs => ((none, r) : JR))) (by decide) rfl rfl (Nat.le_of_ble_eq_true rfl) rfl ?_
  unfold X7_reads
  refine j_chk ?_
  exact okX7_reads_L0 G fu a0 x
-- X7_isDone: ('BarStepsModel', 'isDone', '(I)Z')
def X7_isDone (a0 : Nat) (a1 : Int32) (x : Hs) : Option (Int32 × Hs) := (vO x 6 a0).bind fun _ =>
  (if a1 = 0 then (gR x 6 a0 35).bind fun v1 =>
  (aI x v1 0).bind fun v2 =>
  (gR x 6 a0 35).bind fun v3 =>
  (aI x v3 1).bind fun v4 =>
  (gR x 6 a0 35).bind fun v5 =>
  (aI x v5 2).bind fun v6 =>
  (gR x 6 a0 35).bind fun v7 =>
  (aI x v7 3).bind fun v8 =>
  (X7_cell a0 v2 v4 v6 v8 x).bind fun q9 =>
  (if q9.1 < 0 then (zb 0).bind fun v10 => some (v10, q9.2) else
  (zb 1).bind fun v11 => some (v11, q9.2)) else
  (if a1 = 1 then (gR x 6 a0 35).bind fun v13 =>
  (aI x v13 0).bind fun v14 =>
  (gR x 6 a0 35).bind fun v15 =>
  (aI x v15 1).bind fun v16 =>
  (X7_heat a0 v14 v16 x).bind fun q17 =>
  (if q17.1 = 1 then (zb 1).bind fun v19 => some (v19, q17.2) else
  (zb 0).bind fun v18 => some (v18, q17.2)) else
  (if a1 = 2 then (gR x 6 a0 35).bind fun v21 =>
  (aI x v21 0).bind fun v22 =>
  (gR x 6 a0 35).bind fun v23 =>
  (aI x v23 1).bind fun v24 =>
  (X7_set a0 v22 3 v24 x).bind fun q25 =>
  (if q25.1 = (-1000) then (zb 0).bind fun v26 => some (v26, q25.2) else
  (zb 1).bind fun v27 => some (v27, q25.2)) else
  (if a1 = 3 then (gR x 6 a0 35).bind fun v29 =>
  (aI x v29 0).bind fun v30 =>
  (X7_end a0 0 v30 x).bind fun q31 =>
  (if q31.1 = (-1000) then (zb 0).bind fun v32 => some (v32, q31.2) else
  (zb 1).bind fun v33 => some (v33, q31.2)) else
  (if a1 = 4 then (gR x 6 a0 35).bind fun v35 =>
  (aI x v35 0).bind fun v36 =>
  (X7_end a0 1 v36 x).bind fun q37 =>
  (if q37.1 = (-1000) then (zb 0).bind fun v38 => some (v38, q37.2) else
  (zb 1).bind fun v39 => some (v39, q37.2)) else
  (if a1 = 5 then (gR x 6 a0 35).bind fun v41 =>
  (aI x v41 0).bind fun v42 =>
  (X7_rule a0 0 v42 x).bind fun q43 =>
  (if q43.1 = (-1000) then (zb 0).bind fun v44 => some (v44, q43.2) else
  (zb 1).bind fun v45 => some (v45, q43.2)) else
  (if a1 = 6 then (gR x 6 a0 35).bind fun v47 =>
  (aI x v47 0).bind fun v48 =>
  (gR x 6 a0 35).bind fun v49 =>
  (aI x v49 1).bind fun v50 =>
  (gR x 6 a0 35).bind fun v51 =>
  (aI x v51 2).bind fun v52 =>
  (X7_pulse a0 v48 v50 v52 x).bind fun q53 =>
  (if q53.1 ≤ 0 then (zb 0).bind fun v54 => some (v54, q53.2) else
  (zb 1).bind fun v55 => some (v55, q53.2)) else
  (X7_drop a0 x).bind fun q57 =>
  (if q57.1 < 0 then (zb 0).bind fun v58 => some (v58, q57.2) else
  (zb 1).bind fun v59 => some (v59, q57.2)))))))))
theorem rvX7_isDone {a0 : Nat} {a1 : Int32} {x : Hs} {r : Int32 × Hs} (h : X7_isDone a0 a1 x = some r) : ∃ fs, x.1 a0 = .inr (6, fs) := vO_bind h
theorem okX7_isDone (G : JG) (x : Hs) (a0 : Nat) (a1 : Int32) : ∀ r, X7_isDone a0 a1 x = some r → JC G yX7_isDone cX7_isDone 2 (some .boolean) (jR 5 0 0) 0 0 [.ref a0, .int a1] x ((some (.int r.1), r.2)) := by
  refine jc_of (own := RX7) (E := (fun r : Int32 × Hs => ((some (.int r.1), r.2) : JR))) (by decide) rfl rfl (Nat.le_of_ble_eq_true rfl) rfl ?_
  unfold X7_isDone
  refine j_chk ?_
  refine j_iload_n 1 1 dX7_isDone_0 rfl rfl rfl ?_
  refine j_ite (fun h12 => ?_) (fun h12 => ?_)
  · refine j_tinE (w := 0) 44 dX7_isDone_1 h12 (by decide) (by decide) rfl (by decide) ?_
    refine j_aload_n 45 0 dX7_isDone_44 rfl rfl rfl ?_
    refine j_aload_n 46 0 dX7_isDone_45 rfl rfl rfl ?_
    refine j_gR 49 kf_X7_84 dX7_isDone_46 rfl ?_
    intro v1
    refine j_iconst (v := 0) 50 dX7_isDone_49 rfl ic_0 ?_
    refine j_aI 51 dX7_isDone_50 rfl ?_
    intro v2
    refine j_aload_n 52 0 dX7_isDone_51 rfl rfl rfl ?_
    refine j_gR 55 kf_X7_84 dX7_isDone_52 rfl ?_
    intro v3
    refine j_iconst (v := 1) 56 dX7_isDone_55 rfl ic_1 ?_
    refine j_aI 57 dX7_isDone_56 rfl ?_
    intro v4
    refine j_aload_n 58 0 dX7_isDone_57 rfl rfl rfl ?_
    refine j_gR 61 kf_X7_84 dX7_isDone_58 rfl ?_
    intro v5
    refine j_iconst (v := 2) 62 dX7_isDone_61 rfl ic_2 ?_
    refine j_aI 63 dX7_isDone_62 rfl ?_
    intro v6
    refine j_aload_n 64 0 dX7_isDone_63 rfl rfl rfl ?_
    refine j_gR 67 kf_X7_84 dX7_isDone_64 rfl ?_
    intro v7
    refine j_iconst (v := 3) 68 dX7_isDone_67 rfl ic_3 ?_
    refine j_aI 69 dX7_isDone_68 rfl ?_
    intro v8
    refine j_callV_iw (ci := 6) (As := [.int v2, .int v4, .int v6, .int v8]) (st := []) 72 (okX7_cell G x a0 v2 v4 v6 v8) kc_X7_cell kl_X7_355 ki_X7_cell kv_X7_cell kh_X7 (by decide) (fun _ h => rvX7_cell h) ⟨rfl, rfl, Nat.le_of_ble_eq_true rfl, Nat.le_of_ble_eq_true rfl⟩ (Nat.le_of_ble_eq_true rfl) ⟨Nat.le_of_ble_eq_true rfl, Nat.le_of_ble_eq_true rfl⟩ rfl dX7_isDone_69 rfl rfl ?_
    intro q9
    refine j_if_lt 79 75 dX7_isDone_72 (by decide) rfl ?_ ?_
    · refine j_iconst (v := 0) 80 dX7_isDone_79 rfl ic_0 ?_
      exact j_zret dX7_isDone_80 (fun _ => rfl)
    · refine j_iconst (v := 1) 76 dX7_isDone_75 rfl ic_1 ?_
      refine j_goto 80 dX7_isDone_76 (by decide) ?_
      exact j_zret dX7_isDone_80 (fun _ => rfl)
  refine j_ite (fun h20 => ?_) (fun h20 => ?_)
  · refine j_tinE (w := 1) 81 dX7_isDone_1 h20 (by decide) (by decide) rfl (by decide) ?_
    refine j_aload_n 82 0 dX7_isDone_81 rfl rfl rfl ?_
    refine j_aload_n 83 0 dX7_isDone_82 rfl rfl rfl ?_
    refine j_gR 86 kf_X7_84 dX7_isDone_83 rfl ?_
    intro v13
    refine j_iconst (v := 0) 87 dX7_isDone_86 rfl ic_0 ?_
    refine j_aI 88 dX7_isDone_87 rfl ?_
    intro v14
    refine j_aload_n 89 0 dX7_isDone_88 rfl rfl rfl ?_
    refine j_gR 92 kf_X7_84 dX7_isDone_89 rfl ?_
    intro v15
    refine j_iconst (v := 1) 93 dX7_isDone_92 rfl ic_1 ?_
    refine j_aI 94 dX7_isDone_93 rfl ?_
    intro v16
    refine j_callV_iw (ci := 6) (As := [.int v14, .int v16]) (st := []) 97 (okX7_heat G x a0 v14 v16) kc_X7_heat kl_X7_359 ki_X7_heat kv_X7_heat kh_X7 (by decide) (fun _ h => rvX7_heat h) ⟨rfl, rfl, Nat.le_of_ble_eq_true rfl, Nat.le_of_ble_eq_true rfl⟩ (Nat.le_of_ble_eq_true rfl) ⟨Nat.le_of_ble_eq_true rfl, Nat.le_of_ble_eq_true rfl⟩ rfl dX7_isDone_94 rfl rfl ?_
    intro q17
    refine j_iconst (v := 1) 98 dX7_isDone_97 rfl ic_1 ?_
    refine j_icmp_ne 105 101 dX7_isDone_98 (by decide) rfl ?_ ?_
    · refine j_iconst (v := 0) 106 dX7_isDone_105 rfl ic_0 ?_
      exact j_zret dX7_isDone_106 (fun _ => rfl)
    · refine j_iconst (v := 1) 102 dX7_isDone_101 rfl ic_1 ?_
      refine j_goto 106 dX7_isDone_102 (by decide) ?_
      exact j_zret dX7_isDone_106 (fun _ => rfl)
  refine j_ite (fun h28 => ?_) (fun h28 => ?_)
  · refine j_tinE (w := 2) 107 dX7_isDone_1 h28 (by decide) (by decide) rfl (by decide) ?_
    refine j_aload_n 108 0 dX7_isDone_107 rfl rfl rfl ?_
    refine j_aload_n 109 0 dX7_isDone_108 rfl rfl rfl ?_
    refine j_gR 112 kf_X7_84 dX7_isDone_109 rfl ?_
    intro v21
    refine j_iconst (v := 0) 113 dX7_isDone_112 rfl ic_0 ?_
    refine j_aI 114 dX7_isDone_113 rfl ?_
    intro v22
    refine j_iconst (v := 3) 115 dX7_isDone_114 rfl ic_3 ?_
    refine j_aload_n 116 0 dX7_isDone_115 rfl rfl rfl ?_
    refine j_gR 119 kf_X7_84 dX7_isDone_116 rfl ?_
    intro v23
    refine j_iconst (v := 1) 120 dX7_isDone_119 rfl ic_1 ?_
    refine j_aI 121 dX7_isDone_120 rfl ?_
    intro v24
    refine j_callV_iw (ci := 6) (As := [.int v22, .int 3, .int v24]) (st := []) 124 (okX7_set G x a0 v22 3 v24) kc_X7_set kl_X7_362 ki_X7_set kv_X7_set kh_X7 (by decide) (fun _ h => rvX7_set h) ⟨rfl, rfl, Nat.le_of_ble_eq_true rfl, Nat.le_of_ble_eq_true rfl⟩ (Nat.le_of_ble_eq_true rfl) ⟨Nat.le_of_ble_eq_true rfl, Nat.le_of_ble_eq_true rfl⟩ rfl dX7_isDone_121 rfl rfl ?_
    intro q25
    refine j_sipush (v := -1000) 127 dX7_isDone_124 rfl sc_m1000 ?_
    refine j_icmp_eq 134 130 dX7_isDone_127 (by decide) rfl ?_ ?_
    · refine j_iconst (v := 0) 135 dX7_isDone_134 rfl ic_0 ?_
      exact j_zret dX7_isDone_135 (fun _ => rfl)
    · refine j_iconst (v := 1) 131 dX7_isDone_130 rfl ic_1 ?_
      refine j_goto 135 dX7_isDone_131 (by decide) ?_
      exact j_zret dX7_isDone_135 (fun _ => rfl)
  refine j_ite (fun h34 => ?_) (fun h34 => ?_)
  · refine j_tinE (w := 3) 136 dX7_isDone_1 h34 (by decide) (by decide) rfl (by decide) ?_
    refine j_aload_n 137 0 dX7_isDone_136 rfl rfl rfl ?_
    refine j_iconst (v := 0) 138 dX7_isDone_137 rfl ic_0 ?_
    refine j_aload_n 139 0 dX7_isDone_138 rfl rfl rfl ?_
    refine j_gR 142 kf_X7_84 dX7_isDone_139 rfl ?_
    intro v29
    refine j_iconst (v := 0) 143 dX7_isDone_142 rfl ic_0 ?_
    refine j_aI 144 dX7_isDone_143 rfl ?_
    intro v30
    refine j_callV_iw (ci := 6) (As := [.int 0, .int v30]) (st := []) 147 (okX7_end G x a0 0 v30) kc_X7_end kl_X7_366 ki_X7_end kv_X7_end kh_X7 (by decide) (fun _ h => rvX7_end h) ⟨rfl, rfl, Nat.le_of_ble_eq_true rfl, Nat.le_of_ble_eq_true rfl⟩ (Nat.le_of_ble_eq_true rfl) ⟨Nat.le_of_ble_eq_true rfl, Nat.le_of_ble_eq_true rfl⟩ rfl dX7_isDone_144 rfl rfl ?_
    intro q31
    refine j_sipush (v := -1000) 150 dX7_isDone_147 rfl sc_m1000 ?_
    refine j_icmp_eq 157 153 dX7_isDone_150 (by decide) rfl ?_ ?_
    · refine j_iconst (v := 0) 158 dX7_isDone_157 rfl ic_0 ?_
      exact j_zret dX7_isDone_158 (fun _ => rfl)
    · refine j_iconst (v := 1) 154 dX7_isDone_153 rfl ic_1 ?_
      refine j_goto 158 dX7_isDone_154 (by decide) ?_
      exact j_zret dX7_isDone_158 (fun _ => rfl)
  refine j_ite (fun h40 => ?_) (fun h40 => ?_)
  · refine j_tinE (w := 4) 159 dX7_isDone_1 h40 (by decide) (by decide) rfl (by decide) ?_
    refine j_aload_n 160 0 dX7_isDone_159 rfl rfl rfl ?_
    refine j_iconst (v := 1) 161 dX7_isDone_160 rfl ic_1 ?_
    refine j_aload_n 162 0 dX7_isDone_161 rfl rfl rfl ?_
    refine j_gR 165 kf_X7_84 dX7_isDone_162 rfl ?_
    intro v35
    refine j_iconst (v := 0) 166 dX7_isDone_165 rfl ic_0 ?_
    refine j_aI 167 dX7_isDone_166 rfl ?_
    intro v36
    refine j_callV_iw (ci := 6) (As := [.int 1, .int v36]) (st := []) 170 (okX7_end G x a0 1 v36) kc_X7_end kl_X7_366 ki_X7_end kv_X7_end kh_X7 (by decide) (fun _ h => rvX7_end h) ⟨rfl, rfl, Nat.le_of_ble_eq_true rfl, Nat.le_of_ble_eq_true rfl⟩ (Nat.le_of_ble_eq_true rfl) ⟨Nat.le_of_ble_eq_true rfl, Nat.le_of_ble_eq_true rfl⟩ rfl dX7_isDone_167 rfl rfl ?_
    intro q37
    refine j_sipush (v := -1000) 173 dX7_isDone_170 rfl sc_m1000 ?_
    refine j_icmp_eq 180 176 dX7_isDone_173 (by decide) rfl ?_ ?_
    · refine j_iconst (v := 0) 181 dX7_isDone_180 rfl ic_0 ?_
      exact j_zret dX7_isDone_181 (fun _ => rfl)
    · refine j_iconst (v := 1) 177 dX7_isDone_176 rfl ic_1 ?_
      refine j_goto 181 dX7_isDone_177 (by decide) ?_
      exact j_zret dX7_isDone_181 (fun _ => rfl)
  refine j_ite (fun h46 => ?_) (fun h46 => ?_)
  · refine j_tinE (w := 5) 182 dX7_isDone_1 h46 (by decide) (by decide) rfl (by decide) ?_
    refine j_aload_n 183 0 dX7_isDone_182 rfl rfl rfl ?_
    refine j_iconst (v := 0) 184 dX7_isDone_183 rfl ic_0 ?_
    refine j_aload_n 185 0 dX7_isDone_184 rfl rfl rfl ?_
    refine j_gR 188 kf_X7_84 dX7_isDone_185 rfl ?_
    intro v41
    refine j_iconst (v := 0) 189 dX7_isDone_188 rfl ic_0 ?_
    refine j_aI 190 dX7_isDone_189 rfl ?_
    intro v42
    refine j_callV_iw (ci := 6) (As := [.int 0, .int v42]) (st := []) 193 (okX7_rule G x a0 0 v42) kc_X7_rule kl_X7_369 ki_X7_rule kv_X7_rule kh_X7 (by decide) (fun _ h => rvX7_rule h) ⟨rfl, rfl, Nat.le_of_ble_eq_true rfl, Nat.le_of_ble_eq_true rfl⟩ (Nat.le_of_ble_eq_true rfl) ⟨Nat.le_of_ble_eq_true rfl, Nat.le_of_ble_eq_true rfl⟩ rfl dX7_isDone_190 rfl rfl ?_
    intro q43
    refine j_sipush (v := -1000) 196 dX7_isDone_193 rfl sc_m1000 ?_
    refine j_icmp_eq 203 199 dX7_isDone_196 (by decide) rfl ?_ ?_
    · refine j_iconst (v := 0) 204 dX7_isDone_203 rfl ic_0 ?_
      exact j_zret dX7_isDone_204 (fun _ => rfl)
    · refine j_iconst (v := 1) 200 dX7_isDone_199 rfl ic_1 ?_
      refine j_goto 204 dX7_isDone_200 (by decide) ?_
      exact j_zret dX7_isDone_204 (fun _ => rfl)
  refine j_ite (fun h56 => ?_) (fun h56 => ?_)
  · refine j_tinE (w := 6) 205 dX7_isDone_1 h56 (by decide) (by decide) rfl (by decide) ?_
    refine j_aload_n 206 0 dX7_isDone_205 rfl rfl rfl ?_
    refine j_aload_n 207 0 dX7_isDone_206 rfl rfl rfl ?_
    refine j_gR 210 kf_X7_84 dX7_isDone_207 rfl ?_
    intro v47
    refine j_iconst (v := 0) 211 dX7_isDone_210 rfl ic_0 ?_
    refine j_aI 212 dX7_isDone_211 rfl ?_
    intro v48
    refine j_aload_n 213 0 dX7_isDone_212 rfl rfl rfl ?_
    refine j_gR 216 kf_X7_84 dX7_isDone_213 rfl ?_
    intro v49
    refine j_iconst (v := 1) 217 dX7_isDone_216 rfl ic_1 ?_
    refine j_aI 218 dX7_isDone_217 rfl ?_
    intro v50
    refine j_aload_n 219 0 dX7_isDone_218 rfl rfl rfl ?_
    refine j_gR 222 kf_X7_84 dX7_isDone_219 rfl ?_
    intro v51
    refine j_iconst (v := 2) 223 dX7_isDone_222 rfl ic_2 ?_
    refine j_aI 224 dX7_isDone_223 rfl ?_
    intro v52
    refine j_callV_iw (ci := 6) (As := [.int v48, .int v50, .int v52]) (st := []) 227 (okX7_pulse G x a0 v48 v50 v52) kc_X7_pulse kl_X7_372 ki_X7_pulse kv_X7_pulse kh_X7 (by decide) (fun _ h => rvX7_pulse h) ⟨rfl, rfl, Nat.le_of_ble_eq_true rfl, Nat.le_of_ble_eq_true rfl⟩ (Nat.le_of_ble_eq_true rfl) ⟨Nat.le_of_ble_eq_true rfl, Nat.le_of_ble_eq_true rfl⟩ rfl dX7_isDone_224 rfl rfl ?_
    intro q53
    refine j_if_le 234 230 dX7_isDone_227 (by decide) rfl ?_ ?_
    · refine j_iconst (v := 0) 235 dX7_isDone_234 rfl ic_0 ?_
      exact j_zret dX7_isDone_235 (fun _ => rfl)
    · refine j_iconst (v := 1) 231 dX7_isDone_230 rfl ic_1 ?_
      refine j_goto 235 dX7_isDone_231 (by decide) ?_
      exact j_zret dX7_isDone_235 (fun _ => rfl)
  have h12n := sw_ne h12
  have h20n := sw_ne h20
  have h28n := sw_ne h28
  have h34n := sw_ne h34
  have h40n := sw_ne h40
  have h46n := sw_ne h46
  have h56n := sw_ne h56
  have h12m : (Int32.toInt 0) = 0 := by decide
  have h20m : (Int32.toInt 1) = 1 := by decide
  have h28m : (Int32.toInt 2) = 2 := by decide
  have h34m : (Int32.toInt 3) = 3 := by decide
  have h40m : (Int32.toInt 4) = 4 := by decide
  have h46m : (Int32.toInt 5) = 5 := by decide
  have h56m : (Int32.toInt 6) = 6 := by decide
  refine j_tout 236 dX7_isDone_1 (by omega) (by decide) ?_
  refine j_aload_n 237 0 dX7_isDone_236 rfl rfl rfl ?_
  refine j_callV_iw (ci := 6) (As := []) (st := []) 240 (okX7_drop G x a0) kc_X7_drop kl_X7_375 ki_X7_drop kv_X7_drop kh_X7 (by decide) (fun _ h => rvX7_drop h) ⟨rfl, rfl, Nat.le_of_ble_eq_true rfl, Nat.le_of_ble_eq_true rfl⟩ (Nat.le_of_ble_eq_true rfl) ⟨Nat.le_of_ble_eq_true rfl, Nat.le_of_ble_eq_true rfl⟩ rfl dX7_isDone_237 rfl rfl ?_
  intro q57
  refine j_if_lt 247 243 dX7_isDone_240 (by decide) rfl ?_ ?_
  · refine j_iconst (v := 0) 248 dX7_isDone_247 rfl ic_0 ?_
    exact j_zret dX7_isDone_248 (fun _ => rfl)
  · refine j_iconst (v := 1) 244 dX7_isDone_243 rfl ic_1 ?_
    refine j_goto 248 dX7_isDone_244 (by decide) ?_
    exact j_zret dX7_isDone_248 (fun _ => rfl)
-- X7_isClause: ('BarStepsModel', 'isClause', '(Z)Z')
def X7_isClause_J83 (l0 : Nat) (s0 : Int32) (s1 : Int32) (s2 : Nat) (x : Hs) : Option (Int32 × Hs) := (pV x 6 s2 36 (.int (s1 + s0))).bind fun y7 =>
  (X7_reads l0 y7).bind fun q8 =>
  (gI q8 6 l0 33).bind fun v9 =>
  (if v9 = 0 then (zb 1).bind fun v10 => some (v10, q8) else
  (gI q8 6 l0 33).bind fun v11 =>
  (if v11 = 3 then (zb 1).bind fun v13 => some (v13, q8) else
  (zb 0).bind fun v12 => some (v12, q8)))
theorem okX7_isClause_J83 (G : JG) : ∀ (l0 : Nat) (s0 : Int32) (s1 : Int32) (s2 : Nat) (x : Hs), JM G RX7 cX7_isClause 4 (jZ G (some .boolean) "isClause" (jR 6 0 0) 0 0) (fun r : Int32 × Hs => ((some (.int r.1), r.2) : JR)) 83 [(0, .ref l0)] [.int s0, .int s1, .ref s2] x 0 0 (X7_isClause_J83 l0 s0 s1 s2 x) := by
  intro l0 s0 s1 s2 x
  unfold X7_isClause_J83
  refine j_iadd 84 dX7_isClause_83 rfl ?_
  refine j_put 87 kf_X7_349 dX7_isClause_84 rfl rfl rfl ?_
  intro y7
  refine j_aload_n 88 0 dX7_isClause_87 rfl rfl rfl ?_
  refine j_callV_v (ci := 6) (As := []) (st := []) 91 (okX7_reads G y7 l0) kc_X7_reads kl_X7_346 ki_X7_reads kv_X7_reads kh_X7 (by decide) (fun _ h => rvX7_reads h) ⟨rfl, rfl, Nat.le_of_ble_eq_true rfl, Nat.le_of_ble_eq_true rfl⟩ (Nat.le_of_ble_eq_true rfl) ⟨Nat.le_of_ble_eq_true rfl, Nat.le_of_ble_eq_true rfl⟩ rfl dX7_isClause_88 rfl rfl ?_
  intro q8
  refine j_aload_n 92 0 dX7_isClause_91 rfl rfl rfl ?_
  refine j_gI 95 kf_X7_328 dX7_isClause_92 rfl ?_
  intro v9
  refine j_if_eq 106 98 dX7_isClause_95 (by decide) rfl ?_ ?_
  · refine j_iconst (v := 1) 107 dX7_isClause_106 rfl ic_1 ?_
    refine j_goto 111 dX7_isClause_107 (by decide) ?_
    exact j_zret dX7_isClause_111 (fun _ => rfl)
  · refine j_aload_n 99 0 dX7_isClause_98 rfl rfl rfl ?_
    refine j_gI 102 kf_X7_328 dX7_isClause_99 rfl ?_
    intro v11
    refine j_iconst (v := 3) 103 dX7_isClause_102 rfl ic_3 ?_
    refine j_icmp_ne 110 106 dX7_isClause_103 (by decide) rfl ?_ ?_
    · refine j_iconst (v := 0) 111 dX7_isClause_110 rfl ic_0 ?_
      exact j_zret dX7_isClause_111 (fun _ => rfl)
    · refine j_iconst (v := 1) 107 dX7_isClause_106 rfl ic_1 ?_
      refine j_goto 111 dX7_isClause_107 (by decide) ?_
      exact j_zret dX7_isClause_111 (fun _ => rfl)
def X7_isClause_L21 : Nat → Nat → Int32 → Int32 → Int32 → Hs → Option (Int32 × Hs)
  | 0, _, _, _, _, _ => none
  | n + 1, l0, l1, l2, l3, x => (gR x 6 l0 27).bind fun v4 =>
  (aI x v4 l2).bind fun v5 =>
  (if v5 ≤ l3 then (gI x 6 l0 36).bind fun v6 =>
  (if l1 = 0 then X7_isClause_J83 l0 0 v6 l0 x else
  (X7_isDone l0 l2 x).bind fun q14 =>
  (if q14.1 = 0 then X7_isClause_J83 l0 0 v6 l0 q14.2 else
  X7_isClause_J83 l0 1 v6 l0 q14.2)) else
  (X7_reads l0 x).bind fun q15 =>
  (gI q15 6 l0 33).bind fun v16 =>
  (if v16 = 2 then (gR q15 6 l0 35).bind fun v17 =>
  (gI q15 6 l0 34).bind fun v18 =>
  (wI q15 v17 l3 v18).bind fun y19 =>
  X7_isClause_L21 n l0 l1 l2 (l3 + 1) y19 else
  (zb 0).bind fun v20 => some (v20, q15)))
theorem okX7_isClause_L21 (G : JG) : ∀ (n : Nat), ∀ (l0 : Nat) (l1 : Int32) (l2 : Int32) (l3 : Int32) (x : Hs), JM G RX7 cX7_isClause 4 (jZ G (some .boolean) "isClause" (jR 6 0 0) 0 0) (fun r : Int32 × Hs => ((some (.int r.1), r.2) : JR)) 21 [(0, .ref l0), (1, .int l1), (2, .int l2), (3, .int l3)] [] x 0 0 (X7_isClause_L21 n l0 l1 l2 l3 x) := by
  intro n
  induction n with
  | zero => intro l0 l1 l2 l3 x; exact j_none
  | succ n ih =>
    intro l0 l1 l2 l3 x
    unfold X7_isClause_L21
    refine j_iload_n 22 3 dX7_isClause_21 rfl rfl rfl ?_
    refine j_aload_n 23 0 dX7_isClause_22 rfl rfl rfl ?_
    refine j_gR 26 kf_X7_78 dX7_isClause_23 rfl ?_
    intro v4
    refine j_iload_n 27 2 dX7_isClause_26 rfl rfl rfl ?_
    refine j_aI 28 dX7_isClause_27 rfl ?_
    intro v5
    refine j_icmp_ge 61 31 dX7_isClause_28 (by decide) rfl ?_ ?_
    · refine j_aload_n 62 0 dX7_isClause_61 rfl rfl rfl ?_
      refine j_dup 63 dX7_isClause_62 rfl rfl ?_
      refine j_gI 66 kf_X7_349 dX7_isClause_63 rfl ?_
      intro v6
      refine j_iload_n 67 1 dX7_isClause_66 rfl rfl rfl ?_
      refine j_if_eq 82 70 dX7_isClause_67 (by decide) rfl ?_ ?_
      · refine j_iconst (v := 0) 83 dX7_isClause_82 rfl ic_0 ?_
        refine j_sub [0] rfl ?_
        exact okX7_isClause_J83 G l0 0 v6 l0 x
      · refine j_aload_n 71 0 dX7_isClause_70 rfl rfl rfl ?_
        refine j_iload_n 72 2 dX7_isClause_71 rfl rfl rfl ?_
        refine j_callV_iw (ci := 6) (As := [.int l2]) (st := [.int v6, .ref l0]) 75 (okX7_isDone G x l0 l2) kc_X7_isDone kl_X7_352 ki_X7_isDone kv_X7_isDone kh_X7 (by decide) (fun _ h => rvX7_isDone h) ⟨rfl, rfl, Nat.le_of_ble_eq_true rfl, Nat.le_of_ble_eq_true rfl⟩ (Nat.le_of_ble_eq_true rfl) ⟨Nat.le_of_ble_eq_true rfl, Nat.le_of_ble_eq_true rfl⟩ rfl dX7_isClause_72 rfl rfl ?_
        intro q14
        refine j_if_eq 82 78 dX7_isClause_75 (by decide) rfl ?_ ?_
        · refine j_iconst (v := 0) 83 dX7_isClause_82 rfl ic_0 ?_
          refine j_sub [0] rfl ?_
          exact okX7_isClause_J83 G l0 0 v6 l0 q14.2
        · refine j_iconst (v := 1) 79 dX7_isClause_78 rfl ic_1 ?_
          refine j_goto 83 dX7_isClause_79 (by decide) ?_
          refine j_sub [0] rfl ?_
          exact okX7_isClause_J83 G l0 1 v6 l0 q14.2
    · refine j_aload_n 32 0 dX7_isClause_31 rfl rfl rfl ?_
      refine j_callV_v (ci := 6) (As := []) (st := []) 35 (okX7_reads G x l0) kc_X7_reads kl_X7_346 ki_X7_reads kv_X7_reads kh_X7 (by decide) (fun _ h => rvX7_reads h) ⟨rfl, rfl, Nat.le_of_ble_eq_true rfl, Nat.le_of_ble_eq_true rfl⟩ (Nat.le_of_ble_eq_true rfl) ⟨Nat.le_of_ble_eq_true rfl, Nat.le_of_ble_eq_true rfl⟩ rfl dX7_isClause_32 rfl rfl ?_
      intro q15
      refine j_aload_n 36 0 dX7_isClause_35 rfl rfl rfl ?_
      refine j_gI 39 kf_X7_328 dX7_isClause_36 rfl ?_
      intro v16
      refine j_iconst (v := 2) 40 dX7_isClause_39 rfl ic_2 ?_
      refine j_icmp_eq 45 43 dX7_isClause_40 (by decide) rfl ?_ ?_
      · refine j_aload_n 46 0 dX7_isClause_45 rfl rfl rfl ?_
        refine j_gR 49 kf_X7_84 dX7_isClause_46 rfl ?_
        intro v17
        refine j_iload_n 50 3 dX7_isClause_49 rfl rfl rfl ?_
        refine j_aload_n 51 0 dX7_isClause_50 rfl rfl rfl ?_
        refine j_gI 54 kf_X7_334 dX7_isClause_51 rfl ?_
        intro v18
        refine j_wI 55 dX7_isClause_54 rfl ?_
        intro y19
        refine j_iinc 58 3 [(3, .int (l3 + 1)), (0, .ref l0), (1, .int l1), (2, .int l2)] dX7_isClause_55 rfl rfl (ii_1 _) (by decide) rfl ?_
        refine j_goto 21 dX7_isClause_58 (by decide) ?_
        refine j_sub [1, 2, 3, 0] rfl ?_
        exact ih l0 l1 l2 (l3 + 1) y19
      · refine j_iconst (v := 0) 44 dX7_isClause_43 rfl ic_0 ?_
        exact j_zret dX7_isClause_44 (fun _ => rfl)
def X7_isClause (a0 : Nat) (a1 : Int32) (x : Hs) : Option (Int32 × Hs) := (vO x 6 a0).bind fun _ =>
  (X7_reads a0 x).bind fun q1 =>
  (gI q1 6 a0 33).bind fun v2 =>
  (if v2 = 1 then (gI q1 6 a0 34).bind fun v3 =>
  X7_isClause_L21 fu a0 a1 v3 0 q1 else
  (zb 0).bind fun v21 => some (v21, q1))
theorem rvX7_isClause {a0 : Nat} {a1 : Int32} {x : Hs} {r : Int32 × Hs} (h : X7_isClause a0 a1 x = some r) : ∃ fs, x.1 a0 = .inr (6, fs) := vO_bind h
theorem okX7_isClause (G : JG) (x : Hs) (a0 : Nat) (a1 : Int32) : ∀ r, X7_isClause a0 a1 x = some r → JC G yX7_isClause cX7_isClause 4 (some .boolean) (jR 6 0 0) 0 0 [.ref a0, .int a1] x ((some (.int r.1), r.2)) := by
  refine jc_of (own := RX7) (E := (fun r : Int32 × Hs => ((some (.int r.1), r.2) : JR))) (by decide) rfl rfl (Nat.le_of_ble_eq_true rfl) rfl ?_
  unfold X7_isClause
  refine j_chk ?_
  refine j_aload_n 1 0 dX7_isClause_0 rfl rfl rfl ?_
  refine j_callV_v (ci := 6) (As := []) (st := []) 4 (okX7_reads G x a0) kc_X7_reads kl_X7_346 ki_X7_reads kv_X7_reads kh_X7 (by decide) (fun _ h => rvX7_reads h) ⟨rfl, rfl, Nat.le_of_ble_eq_true rfl, Nat.le_of_ble_eq_true rfl⟩ (Nat.le_of_ble_eq_true rfl) ⟨Nat.le_of_ble_eq_true rfl, Nat.le_of_ble_eq_true rfl⟩ rfl dX7_isClause_1 rfl rfl ?_
  intro q1
  refine j_aload_n 5 0 dX7_isClause_4 rfl rfl rfl ?_
  refine j_gI 8 kf_X7_328 dX7_isClause_5 rfl ?_
  intro v2
  refine j_iconst (v := 1) 9 dX7_isClause_8 rfl ic_1 ?_
  refine j_icmp_eq 14 12 dX7_isClause_9 (by decide) rfl ?_ ?_
  · refine j_aload_n 15 0 dX7_isClause_14 rfl rfl rfl ?_
    refine j_gI 18 kf_X7_334 dX7_isClause_15 rfl ?_
    intro v3
    refine j_istore_n 19 [(2, .int v3), (0, .ref a0), (1, .int a1)] dX7_isClause_18 rfl rfl (by decide) rfl ?_
    refine j_iconst (v := 0) 20 dX7_isClause_19 rfl ic_0 ?_
    refine j_istore_n 21 [(3, .int 0), (2, .int v3), (0, .ref a0), (1, .int a1)] dX7_isClause_20 rfl rfl (by decide) rfl ?_
    refine j_sub [2, 3, 1, 0] rfl ?_
    exact okX7_isClause_L21 G fu a0 a1 v3 0 q1
  · refine j_iconst (v := 0) 13 dX7_isClause_12 rfl ic_0 ?_
    exact j_zret dX7_isClause_13 (fun _ => rfl)
-- X7_isText: ('BarStepsModel', 'isText', '(Z)Z')
def X7_isText_L16 : Nat → Nat → Int32 → Int32 → Hs → Option (Int32 × Hs)
  | 0, _, _, _, _ => none
  | n + 1, l0, l1, l2, x => (if l2 = 0 then (zb l2).bind fun v4 => some (v4, x) else
  (gI x 6 l0 33).bind fun v5 =>
  (if v5 = 3 then (X7_isClause l0 l1 x).bind fun q7 =>
  X7_isText_L16 n l0 l1 q7.1 q7.2 else
  (zb l2).bind fun v6 => some (v6, x)))
theorem okX7_isText_L16 (G : JG) : ∀ (n : Nat), ∀ (l0 : Nat) (l1 : Int32) (l2 : Int32) (x : Hs), JM G RX7 cX7_isText 3 (jZ G (some .boolean) "isText" (jR 7 0 0) 0 0) (fun r : Int32 × Hs => ((some (.int r.1), r.2) : JR)) 16 [(0, .ref l0), (1, .int l1), (2, .int l2)] [] x 0 0 (X7_isText_L16 n l0 l1 l2 x) := by
  intro n
  induction n with
  | zero => intro l0 l1 l2 x; exact j_none
  | succ n ih =>
    intro l0 l1 l2 x
    unfold X7_isText_L16
    refine j_iload_n 17 2 dX7_isText_16 rfl rfl rfl ?_
    refine j_if_eq 37 20 dX7_isText_17 (by decide) rfl ?_ ?_
    · refine j_iload_n 38 2 dX7_isText_37 rfl rfl rfl ?_
      exact j_zret dX7_isText_38 (fun _ => rfl)
    · refine j_aload_n 21 0 dX7_isText_20 rfl rfl rfl ?_
      refine j_gI 24 kf_X7_328 dX7_isText_21 rfl ?_
      intro v5
      refine j_iconst (v := 3) 25 dX7_isText_24 rfl ic_3 ?_
      refine j_icmp_ne 37 28 dX7_isText_25 (by decide) rfl ?_ ?_
      · refine j_iload_n 38 2 dX7_isText_37 rfl rfl rfl ?_
        exact j_zret dX7_isText_38 (fun _ => rfl)
      · refine j_aload_n 29 0 dX7_isText_28 rfl rfl rfl ?_
        refine j_iload_n 30 1 dX7_isText_29 rfl rfl rfl ?_
        refine j_callV_iw (ci := 6) (As := [.int l1]) (st := []) 33 (okX7_isClause G x l0 l1) kc_X7_isClause kl_X7_379 ki_X7_isClause kv_X7_isClause kh_X7 (by decide) (fun _ h => rvX7_isClause h) ⟨rfl, rfl, Nat.le_of_ble_eq_true rfl, Nat.le_of_ble_eq_true rfl⟩ (Nat.le_of_ble_eq_true rfl) ⟨Nat.le_of_ble_eq_true rfl, Nat.le_of_ble_eq_true rfl⟩ rfl dX7_isText_30 rfl rfl ?_
        intro q7
        refine j_istore_n 34 [(2, .int q7.1), (0, .ref l0), (1, .int l1)] dX7_isText_33 rfl rfl (by decide) rfl ?_
        refine j_goto 16 dX7_isText_34 (by decide) ?_
        refine j_sub [1, 2, 0] rfl ?_
        exact ih l0 l1 q7.1 q7.2
def X7_isText (a0 : Nat) (a1 : Int32) (x : Hs) : Option (Int32 × Hs) := (vO x 6 a0).bind fun _ =>
  (pV x 6 a0 31 (.int 0)).bind fun y1 =>
  (pV y1 6 a0 36 (.int 0)).bind fun y2 =>
  (X7_isClause a0 a1 y2).bind fun q3 =>
  X7_isText_L16 fu a0 a1 q3.1 q3.2
theorem rvX7_isText {a0 : Nat} {a1 : Int32} {x : Hs} {r : Int32 × Hs} (h : X7_isText a0 a1 x = some r) : ∃ fs, x.1 a0 = .inr (6, fs) := vO_bind h
theorem okX7_isText (G : JG) (x : Hs) (a0 : Nat) (a1 : Int32) : ∀ r, X7_isText a0 a1 x = some r → JC G yX7_isText cX7_isText 3 (some .boolean) (jR 7 0 0) 0 0 [.ref a0, .int a1] x ((some (.int r.1), r.2)) := by
  refine jc_of (own := RX7) (E := (fun r : Int32 × Hs => ((some (.int r.1), r.2) : JR))) (by decide) rfl rfl (Nat.le_of_ble_eq_true rfl) rfl ?_
  unfold X7_isText
  refine j_chk ?_
  refine j_aload_n 1 0 dX7_isText_0 rfl rfl rfl ?_
  refine j_iconst (v := 0) 2 dX7_isText_1 rfl ic_0 ?_
  refine j_put 5 kf_X7_322 dX7_isText_2 rfl rfl rfl ?_
  intro y1
  refine j_aload_n 6 0 dX7_isText_5 rfl rfl rfl ?_
  refine j_iconst (v := 0) 7 dX7_isText_6 rfl ic_0 ?_
  refine j_put 10 kf_X7_349 dX7_isText_7 rfl rfl rfl ?_
  intro y2
  refine j_aload_n 11 0 dX7_isText_10 rfl rfl rfl ?_
  refine j_iload_n 12 1 dX7_isText_11 rfl rfl rfl ?_
  refine j_callV_iw (ci := 6) (As := [.int a1]) (st := []) 15 (okX7_isClause G y2 a0 a1) kc_X7_isClause kl_X7_379 ki_X7_isClause kv_X7_isClause kh_X7 (by decide) (fun _ h => rvX7_isClause h) ⟨rfl, rfl, Nat.le_of_ble_eq_true rfl, Nat.le_of_ble_eq_true rfl⟩ (Nat.le_of_ble_eq_true rfl) ⟨Nat.le_of_ble_eq_true rfl, Nat.le_of_ble_eq_true rfl⟩ rfl dX7_isText_12 rfl rfl ?_
  intro q3
  refine j_istore_n 16 [(2, .int q3.1), (0, .ref a0), (1, .int a1)] dX7_isText_15 rfl rfl (by decide) rfl ?_
  refine j_sub [1, 2, 0] rfl ?_
  exact okX7_isText_L16 G fu a0 a1 q3.1 q3.2
-- X7_text: ('BarStepsModel', 'text', '()I')
def X7_text (a0 : Nat) (x : Hs) : Option (Int32 × Hs) := (vO x 6 a0).bind fun _ =>
  (gI x 6 a0 29).bind fun v1 =>
  (pV x 6 a0 30 (.int v1)).bind fun y2 =>
  (pV y2 6 a0 29 (.int 0)).bind fun y3 =>
  (X7_isText a0 0 y3).bind fun q4 =>
  (if q4.1 = 0 then (gI q4.2 6 a0 32).bind fun v7 =>
  some (((-100) - v7), q4.2) else
  (X7_isText a0 1 q4.2).bind fun q5 =>
  (gI q5.2 6 a0 36).bind fun v6 =>
  some (v6, q5.2))
theorem rvX7_text {a0 : Nat} {x : Hs} {r : Int32 × Hs} (h : X7_text a0 x = some r) : ∃ fs, x.1 a0 = .inr (6, fs) := vO_bind h
theorem okX7_text (G : JG) (x : Hs) (a0 : Nat) : ∀ r, X7_text a0 x = some r → JC G yX7_text cX7_text 1 (some .int) (jR 8 0 0) 0 0 [.ref a0] x ((some (.int r.1), r.2)) := by
  refine jc_of (own := RX7) (E := (fun r : Int32 × Hs => ((some (.int r.1), r.2) : JR))) (by decide) rfl rfl (Nat.le_of_ble_eq_true rfl) rfl ?_
  unfold X7_text
  refine j_chk ?_
  refine j_aload_n 1 0 dX7_text_0 rfl rfl rfl ?_
  refine j_aload_n 2 0 dX7_text_1 rfl rfl rfl ?_
  refine j_gI 5 kf_X7_308 dX7_text_2 rfl ?_
  intro v1
  refine j_put 8 kf_X7_311 dX7_text_5 rfl rfl rfl ?_
  intro y2
  refine j_aload_n 9 0 dX7_text_8 rfl rfl rfl ?_
  refine j_iconst (v := 0) 10 dX7_text_9 rfl ic_0 ?_
  refine j_put 13 kf_X7_308 dX7_text_10 rfl rfl rfl ?_
  intro y3
  refine j_aload_n 14 0 dX7_text_13 rfl rfl rfl ?_
  refine j_iconst (v := 0) 15 dX7_text_14 rfl ic_0 ?_
  refine j_callV_iw (ci := 6) (As := [.int 0]) (st := []) 18 (okX7_isText G y3 a0 0) kc_X7_isText kl_X7_383 ki_X7_isText kv_X7_isText kh_X7 (by decide) (fun _ h => rvX7_isText h) ⟨rfl, rfl, Nat.le_of_ble_eq_true rfl, Nat.le_of_ble_eq_true rfl⟩ (Nat.le_of_ble_eq_true rfl) ⟨Nat.le_of_ble_eq_true rfl, Nat.le_of_ble_eq_true rfl⟩ rfl dX7_text_15 rfl rfl ?_
  intro q4
  refine j_if_ne 29 21 dX7_text_18 (by decide) rfl ?_ ?_
  · refine j_aload_n 30 0 dX7_text_29 rfl rfl rfl ?_
    refine j_iconst (v := 1) 31 dX7_text_30 rfl ic_1 ?_
    refine j_callV_iw (ci := 6) (As := [.int 1]) (st := []) 34 (okX7_isText G q4.2 a0 1) kc_X7_isText kl_X7_383 ki_X7_isText kv_X7_isText kh_X7 (by decide) (fun _ h => rvX7_isText h) ⟨rfl, rfl, Nat.le_of_ble_eq_true rfl, Nat.le_of_ble_eq_true rfl⟩ (Nat.le_of_ble_eq_true rfl) ⟨Nat.le_of_ble_eq_true rfl, Nat.le_of_ble_eq_true rfl⟩ rfl dX7_text_31 rfl rfl ?_
    intro q5
    refine j_pop 35 dX7_text_34 rfl rfl ?_
    refine j_aload_n 36 0 dX7_text_35 rfl rfl rfl ?_
    refine j_gI 39 kf_X7_349 dX7_text_36 rfl ?_
    intro v6
    exact j_iret dX7_text_39 rfl
  · refine j_bipush (v := -100) 23 dX7_text_21 rfl bc_m100 ?_
    refine j_aload_n 24 0 dX7_text_23 rfl rfl rfl ?_
    refine j_gI 27 kf_X7_331 dX7_text_24 rfl ?_
    intro v7
    refine j_isub 28 dX7_text_27 rfl ?_
    exact j_iret dX7_text_28 rfl
-- X7_image: ('BarStepsModel', 'image', '()I')
def X7_image_L144 : Nat → Nat → Int32 → Hs → Option (Int32 × Hs)
  | 0, _, _, _ => none
  | n + 1, l0, l1, x => (gI x 6 l0 9).bind fun v9 =>
  (if v9 ≤ l1 then (gI x 6 l0 0).bind fun v10 =>
  some (v10, x) else
  (gR x 6 l0 48).bind fun v11 =>
  (gR x 6 l0 10).bind fun v12 =>
  (aI x v12 l1).bind fun v13 =>
  (wI x v11 l1 v13).bind fun y14 =>
  (gR y14 6 l0 49).bind fun v15 =>
  (gR y14 6 l0 11).bind fun v16 =>
  (aI y14 v16 l1).bind fun v17 =>
  (wI y14 v15 l1 v17).bind fun y18 =>
  (gR y18 6 l0 50).bind fun v19 =>
  (gR y18 6 l0 12).bind fun v20 =>
  (aI y18 v20 l1).bind fun v21 =>
  (wI y18 v19 l1 v21).bind fun y22 =>
  X7_image_L144 n l0 (l1 + 1) y22)
theorem okX7_image_L144 (G : JG) : ∀ (n : Nat), ∀ (l0 : Nat) (l1 : Int32) (x : Hs), JM G RX7 cX7_image 2 (jZ G (some .int) "image" (jR 1 0 0) 0 0) (fun r : Int32 × Hs => ((some (.int r.1), r.2) : JR)) 144 [(0, .ref l0), (1, .int l1)] [] x 0 0 (X7_image_L144 n l0 l1 x) := by
  intro n
  induction n with
  | zero => intro l0 l1 x; exact j_none
  | succ n ih =>
    intro l0 l1 x
    unfold X7_image_L144
    refine j_iload_n 145 1 dX7_image_144 rfl rfl rfl ?_
    refine j_aload_n 146 0 dX7_image_145 rfl rfl rfl ?_
    refine j_gI 149 kf_X7_210 dX7_image_146 rfl ?_
    intro v9
    refine j_icmp_ge 194 152 dX7_image_149 (by decide) rfl ?_ ?_
    · refine j_aload_n 195 0 dX7_image_194 rfl rfl rfl ?_
      refine j_gI 198 kf_X7_129 dX7_image_195 rfl ?_
      intro v10
      exact j_iret dX7_image_198 rfl
    · refine j_aload_n 153 0 dX7_image_152 rfl rfl rfl ?_
      refine j_gR 156 kf_X7_108 dX7_image_153 rfl ?_
      intro v11
      refine j_iload_n 157 1 dX7_image_156 rfl rfl rfl ?_
      refine j_aload_n 158 0 dX7_image_157 rfl rfl rfl ?_
      refine j_gR 161 kf_X7_38 dX7_image_158 rfl ?_
      intro v12
      refine j_iload_n 162 1 dX7_image_161 rfl rfl rfl ?_
      refine j_aI 163 dX7_image_162 rfl ?_
      intro v13
      refine j_wI 164 dX7_image_163 rfl ?_
      intro y14
      refine j_aload_n 165 0 dX7_image_164 rfl rfl rfl ?_
      refine j_gR 168 kf_X7_111 dX7_image_165 rfl ?_
      intro v15
      refine j_iload_n 169 1 dX7_image_168 rfl rfl rfl ?_
      refine j_aload_n 170 0 dX7_image_169 rfl rfl rfl ?_
      refine j_gR 173 kf_X7_41 dX7_image_170 rfl ?_
      intro v16
      refine j_iload_n 174 1 dX7_image_173 rfl rfl rfl ?_
      refine j_aI 175 dX7_image_174 rfl ?_
      intro v17
      refine j_wI 176 dX7_image_175 rfl ?_
      intro y18
      refine j_aload_n 177 0 dX7_image_176 rfl rfl rfl ?_
      refine j_gR 180 kf_X7_114 dX7_image_177 rfl ?_
      intro v19
      refine j_iload_n 181 1 dX7_image_180 rfl rfl rfl ?_
      refine j_aload_n 182 0 dX7_image_181 rfl rfl rfl ?_
      refine j_gR 185 kf_X7_44 dX7_image_182 rfl ?_
      intro v20
      refine j_iload_n 186 1 dX7_image_185 rfl rfl rfl ?_
      refine j_aI 187 dX7_image_186 rfl ?_
      intro v21
      refine j_wI 188 dX7_image_187 rfl ?_
      intro y22
      refine j_iinc 191 1 [(1, .int (l1 + 1)), (0, .ref l0)] dX7_image_188 rfl rfl (ii_1 _) (by decide) rfl ?_
      refine j_goto 144 dX7_image_191 (by decide) ?_
      refine j_sub [1, 0] rfl ?_
      exact ih l0 (l1 + 1) y22
def X7_image_L99 : Nat → Nat → Int32 → Hs → Option (Int32 × Hs)
  | 0, _, _, _ => none
  | n + 1, l0, l1, x => (if 2 ≤ l1 then (gI x 6 l0 9).bind fun v7 =>
  (pV x 6 l0 47 (.int v7)).bind fun y8 =>
  X7_image_L144 fu l0 0 y8 else
  (gR x 6 l0 45).bind fun v23 =>
  (gR x 6 l0 7).bind fun v24 =>
  (aI x v24 l1).bind fun v25 =>
  (wI x v23 l1 v25).bind fun y26 =>
  (gR y26 6 l0 46).bind fun v27 =>
  (gR y26 6 l0 8).bind fun v28 =>
  (aI y26 v28 l1).bind fun v29 =>
  (wI y26 v27 l1 v29).bind fun y30 =>
  X7_image_L99 n l0 (l1 + 1) y30)
theorem okX7_image_L99 (G : JG) : ∀ (n : Nat), ∀ (l0 : Nat) (l1 : Int32) (x : Hs), JM G RX7 cX7_image 2 (jZ G (some .int) "image" (jR 1 0 0) 0 0) (fun r : Int32 × Hs => ((some (.int r.1), r.2) : JR)) 99 [(0, .ref l0), (1, .int l1)] [] x 0 0 (X7_image_L99 n l0 l1 x) := by
  intro n
  induction n with
  | zero => intro l0 l1 x; exact j_none
  | succ n ih =>
    intro l0 l1 x
    unfold X7_image_L99
    refine j_iload_n 100 1 dX7_image_99 rfl rfl rfl ?_
    refine j_iconst (v := 2) 101 dX7_image_100 rfl ic_2 ?_
    refine j_icmp_ge 134 104 dX7_image_101 (by decide) rfl ?_ ?_
    · refine j_aload_n 135 0 dX7_image_134 rfl rfl rfl ?_
      refine j_aload_n 136 0 dX7_image_135 rfl rfl rfl ?_
      refine j_gI 139 kf_X7_210 dX7_image_136 rfl ?_
      intro v7
      refine j_put 142 kf_X7_396 dX7_image_139 rfl rfl rfl ?_
      intro y8
      refine j_iconst (v := 0) 143 dX7_image_142 rfl ic_0 ?_
      refine j_istore_n 144 [(1, .int 0), (0, .ref l0)] dX7_image_143 rfl rfl (by decide) rfl ?_
      refine j_sub [1, 0] rfl ?_
      exact okX7_image_L144 G fu l0 0 y8
    · refine j_aload_n 105 0 dX7_image_104 rfl rfl rfl ?_
      refine j_gR 108 kf_X7_102 dX7_image_105 rfl ?_
      intro v23
      refine j_iload_n 109 1 dX7_image_108 rfl rfl rfl ?_
      refine j_aload_n 110 0 dX7_image_109 rfl rfl rfl ?_
      refine j_gR 113 kf_X7_32 dX7_image_110 rfl ?_
      intro v24
      refine j_iload_n 114 1 dX7_image_113 rfl rfl rfl ?_
      refine j_aI 115 dX7_image_114 rfl ?_
      intro v25
      refine j_wI 116 dX7_image_115 rfl ?_
      intro y26
      refine j_aload_n 117 0 dX7_image_116 rfl rfl rfl ?_
      refine j_gR 120 kf_X7_105 dX7_image_117 rfl ?_
      intro v27
      refine j_iload_n 121 1 dX7_image_120 rfl rfl rfl ?_
      refine j_aload_n 122 0 dX7_image_121 rfl rfl rfl ?_
      refine j_gR 125 kf_X7_35 dX7_image_122 rfl ?_
      intro v28
      refine j_iload_n 126 1 dX7_image_125 rfl rfl rfl ?_
      refine j_aI 127 dX7_image_126 rfl ?_
      intro v29
      refine j_wI 128 dX7_image_127 rfl ?_
      intro y30
      refine j_iinc 131 1 [(1, .int (l1 + 1)), (0, .ref l0)] dX7_image_128 rfl rfl (ii_1 _) (by decide) rfl ?_
      refine j_goto 99 dX7_image_131 (by decide) ?_
      refine j_sub [1, 0] rfl ?_
      exact ih l0 (l1 + 1) y30
def X7_image_L15 : Nat → Nat → Int32 → Hs → Option (Int32 × Hs)
  | 0, _, _, _ => none
  | n + 1, l0, l1, x => (gI x 6 l0 0).bind fun v4 =>
  (if v4 ≤ l1 then (gL x 6 l0 6).bind fun v5 =>
  (pV x 6 l0 44 (.long v5)).bind fun y6 =>
  X7_image_L99 fu l0 0 y6 else
  (gR x 6 l0 39).bind fun v31 =>
  (gR x 6 l0 1).bind fun v32 =>
  (aI x v32 l1).bind fun v33 =>
  (wI x v31 l1 v33).bind fun y34 =>
  (gR y34 6 l0 40).bind fun v35 =>
  (gR y34 6 l0 2).bind fun v36 =>
  (aI y34 v36 l1).bind fun v37 =>
  (wI y34 v35 l1 v37).bind fun y38 =>
  (gR y38 6 l0 41).bind fun v39 =>
  (gR y38 6 l0 3).bind fun v40 =>
  (aI y38 v40 l1).bind fun v41 =>
  (wI y38 v39 l1 v41).bind fun y42 =>
  (gR y42 6 l0 42).bind fun v43 =>
  (gR y42 6 l0 4).bind fun v44 =>
  (aI y42 v44 l1).bind fun v45 =>
  (wI y42 v43 l1 v45).bind fun y46 =>
  (gR y46 6 l0 43).bind fun v47 =>
  (gR y46 6 l0 5).bind fun v48 =>
  (aL y46 v48 l1).bind fun v49 =>
  (wL y46 v47 l1 v49).bind fun y50 =>
  X7_image_L15 n l0 (l1 + 1) y50)
theorem okX7_image_L15 (G : JG) : ∀ (n : Nat), ∀ (l0 : Nat) (l1 : Int32) (x : Hs), JM G RX7 cX7_image 2 (jZ G (some .int) "image" (jR 1 0 0) 0 0) (fun r : Int32 × Hs => ((some (.int r.1), r.2) : JR)) 15 [(0, .ref l0), (1, .int l1)] [] x 0 0 (X7_image_L15 n l0 l1 x) := by
  intro n
  induction n with
  | zero => intro l0 l1 x; exact j_none
  | succ n ih =>
    intro l0 l1 x
    unfold X7_image_L15
    refine j_iload_n 16 1 dX7_image_15 rfl rfl rfl ?_
    refine j_aload_n 17 0 dX7_image_16 rfl rfl rfl ?_
    refine j_gI 20 kf_X7_129 dX7_image_17 rfl ?_
    intro v4
    refine j_icmp_ge 89 23 dX7_image_20 (by decide) rfl ?_ ?_
    · refine j_aload_n 90 0 dX7_image_89 rfl rfl rfl ?_
      refine j_aload_n 91 0 dX7_image_90 rfl rfl rfl ?_
      refine j_gL 94 kf_X7_28 dX7_image_91 rfl ?_
      intro v5
      refine j_put 97 kf_X7_393 dX7_image_94 rfl rfl rfl ?_
      intro y6
      refine j_iconst (v := 0) 98 dX7_image_97 rfl ic_0 ?_
      refine j_istore_n 99 [(1, .int 0), (0, .ref l0)] dX7_image_98 rfl rfl (by decide) rfl ?_
      refine j_sub [1, 0] rfl ?_
      exact okX7_image_L99 G fu l0 0 y6
    · refine j_aload_n 24 0 dX7_image_23 rfl rfl rfl ?_
      refine j_gR 27 kf_X7_87 dX7_image_24 rfl ?_
      intro v31
      refine j_iload_n 28 1 dX7_image_27 rfl rfl rfl ?_
      refine j_aload_n 29 0 dX7_image_28 rfl rfl rfl ?_
      refine j_gR 32 kf_X7_11 dX7_image_29 rfl ?_
      intro v32
      refine j_iload_n 33 1 dX7_image_32 rfl rfl rfl ?_
      refine j_aI 34 dX7_image_33 rfl ?_
      intro v33
      refine j_wI 35 dX7_image_34 rfl ?_
      intro y34
      refine j_aload_n 36 0 dX7_image_35 rfl rfl rfl ?_
      refine j_gR 39 kf_X7_90 dX7_image_36 rfl ?_
      intro v35
      refine j_iload_n 40 1 dX7_image_39 rfl rfl rfl ?_
      refine j_aload_n 41 0 dX7_image_40 rfl rfl rfl ?_
      refine j_gR 44 kf_X7_15 dX7_image_41 rfl ?_
      intro v36
      refine j_iload_n 45 1 dX7_image_44 rfl rfl rfl ?_
      refine j_aI 46 dX7_image_45 rfl ?_
      intro v37
      refine j_wI 47 dX7_image_46 rfl ?_
      intro y38
      refine j_aload_n 48 0 dX7_image_47 rfl rfl rfl ?_
      refine j_gR 51 kf_X7_93 dX7_image_48 rfl ?_
      intro v39
      refine j_iload_n 52 1 dX7_image_51 rfl rfl rfl ?_
      refine j_aload_n 53 0 dX7_image_52 rfl rfl rfl ?_
      refine j_gR 56 kf_X7_18 dX7_image_53 rfl ?_
      intro v40
      refine j_iload_n 57 1 dX7_image_56 rfl rfl rfl ?_
      refine j_aI 58 dX7_image_57 rfl ?_
      intro v41
      refine j_wI 59 dX7_image_58 rfl ?_
      intro y42
      refine j_aload_n 60 0 dX7_image_59 rfl rfl rfl ?_
      refine j_gR 63 kf_X7_96 dX7_image_60 rfl ?_
      intro v43
      refine j_iload_n 64 1 dX7_image_63 rfl rfl rfl ?_
      refine j_aload_n 65 0 dX7_image_64 rfl rfl rfl ?_
      refine j_gR 68 kf_X7_21 dX7_image_65 rfl ?_
      intro v44
      refine j_iload_n 69 1 dX7_image_68 rfl rfl rfl ?_
      refine j_aI 70 dX7_image_69 rfl ?_
      intro v45
      refine j_wI 71 dX7_image_70 rfl ?_
      intro y46
      refine j_aload_n 72 0 dX7_image_71 rfl rfl rfl ?_
      refine j_gR 75 kf_X7_99 dX7_image_72 rfl ?_
      intro v47
      refine j_iload_n 76 1 dX7_image_75 rfl rfl rfl ?_
      refine j_aload_n 77 0 dX7_image_76 rfl rfl rfl ?_
      refine j_gR 80 kf_X7_24 dX7_image_77 rfl ?_
      intro v48
      refine j_iload_n 81 1 dX7_image_80 rfl rfl rfl ?_
      refine j_aL 82 dX7_image_81 rfl ?_
      intro v49
      refine j_wL 83 dX7_image_82 rfl ?_
      intro y50
      refine j_iinc 86 1 [(1, .int (l1 + 1)), (0, .ref l0)] dX7_image_83 rfl rfl (ii_1 _) (by decide) rfl ?_
      refine j_goto 15 dX7_image_86 (by decide) ?_
      refine j_sub [1, 0] rfl ?_
      exact ih l0 (l1 + 1) y50
def X7_image (a0 : Nat) (x : Hs) : Option (Int32 × Hs) := (vO x 6 a0).bind fun _ =>
  (pV x 6 a0 37 (.int 1)).bind fun y1 =>
  (gI y1 6 a0 0).bind fun v2 =>
  (pV y1 6 a0 38 (.int v2)).bind fun y3 =>
  X7_image_L15 fu a0 0 y3
theorem rvX7_image {a0 : Nat} {x : Hs} {r : Int32 × Hs} (h : X7_image a0 x = some r) : ∃ fs, x.1 a0 = .inr (6, fs) := vO_bind h
theorem okX7_image (G : JG) (x : Hs) (a0 : Nat) : ∀ r, X7_image a0 x = some r → JC G yX7_image cX7_image 2 (some .int) (jR 1 0 0) 0 0 [.ref a0] x ((some (.int r.1), r.2)) := by
  refine jc_of (own := RX7) (E := (fun r : Int32 × Hs => ((some (.int r.1), r.2) : JR))) (by decide) rfl rfl (Nat.le_of_ble_eq_true rfl) rfl ?_
  unfold X7_image
  refine j_chk ?_
  refine j_aload_n 1 0 dX7_image_0 rfl rfl rfl ?_
  refine j_iconst (v := 1) 2 dX7_image_1 rfl ic_1 ?_
  refine j_put 5 kf_X7_386 dX7_image_2 rfl (by decide) (by decide) ?_
  intro y1
  refine j_aload_n 6 0 dX7_image_5 rfl rfl rfl ?_
  refine j_aload_n 7 0 dX7_image_6 rfl rfl rfl ?_
  refine j_gI 10 kf_X7_129 dX7_image_7 rfl ?_
  intro v2
  refine j_put 13 kf_X7_390 dX7_image_10 rfl rfl rfl ?_
  intro y3
  refine j_iconst (v := 0) 14 dX7_image_13 rfl ic_0 ?_
  refine j_istore_n 15 [(1, .int 0), (0, .ref a0)] dX7_image_14 rfl rfl (by decide) rfl ?_
  refine j_sub [1, 0] rfl ?_
  exact okX7_image_L15 G fu a0 0 y3
-- X7_back: ('BarStepsModel', 'back', '()I')
def X7_back_L149 : Nat → Nat → Int32 → Hs → Option (Int32 × Hs)
  | 0, _, _, _ => none
  | n + 1, l0, l1, x => (gI x 6 l0 9).bind fun v9 =>
  (if v9 ≤ l1 then (gI x 6 l0 0).bind fun v10 =>
  some (v10, x) else
  (gR x 6 l0 10).bind fun v11 =>
  (gR x 6 l0 48).bind fun v12 =>
  (aI x v12 l1).bind fun v13 =>
  (wI x v11 l1 v13).bind fun y14 =>
  (gR y14 6 l0 11).bind fun v15 =>
  (gR y14 6 l0 49).bind fun v16 =>
  (aI y14 v16 l1).bind fun v17 =>
  (wI y14 v15 l1 v17).bind fun y18 =>
  (gR y18 6 l0 12).bind fun v19 =>
  (gR y18 6 l0 50).bind fun v20 =>
  (aI y18 v20 l1).bind fun v21 =>
  (wI y18 v19 l1 v21).bind fun y22 =>
  X7_back_L149 n l0 (l1 + 1) y22)
theorem okX7_back_L149 (G : JG) : ∀ (n : Nat), ∀ (l0 : Nat) (l1 : Int32) (x : Hs), JM G RX7 cX7_back 2 (jZ G (some .int) "back" (jR 1 0 0) 0 0) (fun r : Int32 × Hs => ((some (.int r.1), r.2) : JR)) 149 [(0, .ref l0), (1, .int l1)] [] x 0 0 (X7_back_L149 n l0 l1 x) := by
  intro n
  induction n with
  | zero => intro l0 l1 x; exact j_none
  | succ n ih =>
    intro l0 l1 x
    unfold X7_back_L149
    refine j_iload_n 150 1 dX7_back_149 rfl rfl rfl ?_
    refine j_aload_n 151 0 dX7_back_150 rfl rfl rfl ?_
    refine j_gI 154 kf_X7_210 dX7_back_151 rfl ?_
    intro v9
    refine j_icmp_ge 199 157 dX7_back_154 (by decide) rfl ?_ ?_
    · refine j_aload_n 200 0 dX7_back_199 rfl rfl rfl ?_
      refine j_gI 203 kf_X7_129 dX7_back_200 rfl ?_
      intro v10
      exact j_iret dX7_back_203 rfl
    · refine j_aload_n 158 0 dX7_back_157 rfl rfl rfl ?_
      refine j_gR 161 kf_X7_38 dX7_back_158 rfl ?_
      intro v11
      refine j_iload_n 162 1 dX7_back_161 rfl rfl rfl ?_
      refine j_aload_n 163 0 dX7_back_162 rfl rfl rfl ?_
      refine j_gR 166 kf_X7_108 dX7_back_163 rfl ?_
      intro v12
      refine j_iload_n 167 1 dX7_back_166 rfl rfl rfl ?_
      refine j_aI 168 dX7_back_167 rfl ?_
      intro v13
      refine j_wI 169 dX7_back_168 rfl ?_
      intro y14
      refine j_aload_n 170 0 dX7_back_169 rfl rfl rfl ?_
      refine j_gR 173 kf_X7_41 dX7_back_170 rfl ?_
      intro v15
      refine j_iload_n 174 1 dX7_back_173 rfl rfl rfl ?_
      refine j_aload_n 175 0 dX7_back_174 rfl rfl rfl ?_
      refine j_gR 178 kf_X7_111 dX7_back_175 rfl ?_
      intro v16
      refine j_iload_n 179 1 dX7_back_178 rfl rfl rfl ?_
      refine j_aI 180 dX7_back_179 rfl ?_
      intro v17
      refine j_wI 181 dX7_back_180 rfl ?_
      intro y18
      refine j_aload_n 182 0 dX7_back_181 rfl rfl rfl ?_
      refine j_gR 185 kf_X7_44 dX7_back_182 rfl ?_
      intro v19
      refine j_iload_n 186 1 dX7_back_185 rfl rfl rfl ?_
      refine j_aload_n 187 0 dX7_back_186 rfl rfl rfl ?_
      refine j_gR 190 kf_X7_114 dX7_back_187 rfl ?_
      intro v20
      refine j_iload_n 191 1 dX7_back_190 rfl rfl rfl ?_
      refine j_aI 192 dX7_back_191 rfl ?_
      intro v21
      refine j_wI 193 dX7_back_192 rfl ?_
      intro y22
      refine j_iinc 196 1 [(1, .int (l1 + 1)), (0, .ref l0)] dX7_back_193 rfl rfl (ii_1 _) (by decide) rfl ?_
      refine j_goto 149 dX7_back_196 (by decide) ?_
      refine j_sub [1, 0] rfl ?_
      exact ih l0 (l1 + 1) y22
def X7_back_L104 : Nat → Nat → Int32 → Hs → Option (Int32 × Hs)
  | 0, _, _, _ => none
  | n + 1, l0, l1, x => (if 2 ≤ l1 then (gI x 6 l0 47).bind fun v7 =>
  (pV x 6 l0 9 (.int v7)).bind fun y8 =>
  X7_back_L149 fu l0 0 y8 else
  (gR x 6 l0 7).bind fun v23 =>
  (gR x 6 l0 45).bind fun v24 =>
  (aI x v24 l1).bind fun v25 =>
  (wI x v23 l1 v25).bind fun y26 =>
  (gR y26 6 l0 8).bind fun v27 =>
  (gR y26 6 l0 46).bind fun v28 =>
  (aI y26 v28 l1).bind fun v29 =>
  (wI y26 v27 l1 v29).bind fun y30 =>
  X7_back_L104 n l0 (l1 + 1) y30)
theorem okX7_back_L104 (G : JG) : ∀ (n : Nat), ∀ (l0 : Nat) (l1 : Int32) (x : Hs), JM G RX7 cX7_back 2 (jZ G (some .int) "back" (jR 1 0 0) 0 0) (fun r : Int32 × Hs => ((some (.int r.1), r.2) : JR)) 104 [(0, .ref l0), (1, .int l1)] [] x 0 0 (X7_back_L104 n l0 l1 x) := by
  intro n
  induction n with
  | zero => intro l0 l1 x; exact j_none
  | succ n ih =>
    intro l0 l1 x
    unfold X7_back_L104
    refine j_iload_n 105 1 dX7_back_104 rfl rfl rfl ?_
    refine j_iconst (v := 2) 106 dX7_back_105 rfl ic_2 ?_
    refine j_icmp_ge 139 109 dX7_back_106 (by decide) rfl ?_ ?_
    · refine j_aload_n 140 0 dX7_back_139 rfl rfl rfl ?_
      refine j_aload_n 141 0 dX7_back_140 rfl rfl rfl ?_
      refine j_gI 144 kf_X7_396 dX7_back_141 rfl ?_
      intro v7
      refine j_put 147 kf_X7_210 dX7_back_144 rfl rfl rfl ?_
      intro y8
      refine j_iconst (v := 0) 148 dX7_back_147 rfl ic_0 ?_
      refine j_istore_n 149 [(1, .int 0), (0, .ref l0)] dX7_back_148 rfl rfl (by decide) rfl ?_
      refine j_sub [1, 0] rfl ?_
      exact okX7_back_L149 G fu l0 0 y8
    · refine j_aload_n 110 0 dX7_back_109 rfl rfl rfl ?_
      refine j_gR 113 kf_X7_32 dX7_back_110 rfl ?_
      intro v23
      refine j_iload_n 114 1 dX7_back_113 rfl rfl rfl ?_
      refine j_aload_n 115 0 dX7_back_114 rfl rfl rfl ?_
      refine j_gR 118 kf_X7_102 dX7_back_115 rfl ?_
      intro v24
      refine j_iload_n 119 1 dX7_back_118 rfl rfl rfl ?_
      refine j_aI 120 dX7_back_119 rfl ?_
      intro v25
      refine j_wI 121 dX7_back_120 rfl ?_
      intro y26
      refine j_aload_n 122 0 dX7_back_121 rfl rfl rfl ?_
      refine j_gR 125 kf_X7_35 dX7_back_122 rfl ?_
      intro v27
      refine j_iload_n 126 1 dX7_back_125 rfl rfl rfl ?_
      refine j_aload_n 127 0 dX7_back_126 rfl rfl rfl ?_
      refine j_gR 130 kf_X7_105 dX7_back_127 rfl ?_
      intro v28
      refine j_iload_n 131 1 dX7_back_130 rfl rfl rfl ?_
      refine j_aI 132 dX7_back_131 rfl ?_
      intro v29
      refine j_wI 133 dX7_back_132 rfl ?_
      intro y30
      refine j_iinc 136 1 [(1, .int (l1 + 1)), (0, .ref l0)] dX7_back_133 rfl rfl (ii_1 _) (by decide) rfl ?_
      refine j_goto 104 dX7_back_136 (by decide) ?_
      refine j_sub [1, 0] rfl ?_
      exact ih l0 (l1 + 1) y30
def X7_back_L20 : Nat → Nat → Int32 → Hs → Option (Int32 × Hs)
  | 0, _, _, _ => none
  | n + 1, l0, l1, x => (gI x 6 l0 0).bind fun v4 =>
  (if v4 ≤ l1 then (gL x 6 l0 44).bind fun v5 =>
  (pV x 6 l0 6 (.long v5)).bind fun y6 =>
  X7_back_L104 fu l0 0 y6 else
  (gR x 6 l0 1).bind fun v31 =>
  (gR x 6 l0 39).bind fun v32 =>
  (aI x v32 l1).bind fun v33 =>
  (wI x v31 l1 v33).bind fun y34 =>
  (gR y34 6 l0 2).bind fun v35 =>
  (gR y34 6 l0 40).bind fun v36 =>
  (aI y34 v36 l1).bind fun v37 =>
  (wI y34 v35 l1 v37).bind fun y38 =>
  (gR y38 6 l0 3).bind fun v39 =>
  (gR y38 6 l0 41).bind fun v40 =>
  (aI y38 v40 l1).bind fun v41 =>
  (wI y38 v39 l1 v41).bind fun y42 =>
  (gR y42 6 l0 4).bind fun v43 =>
  (gR y42 6 l0 42).bind fun v44 =>
  (aI y42 v44 l1).bind fun v45 =>
  (wI y42 v43 l1 v45).bind fun y46 =>
  (gR y46 6 l0 5).bind fun v47 =>
  (gR y46 6 l0 43).bind fun v48 =>
  (aL y46 v48 l1).bind fun v49 =>
  (wL y46 v47 l1 v49).bind fun y50 =>
  X7_back_L20 n l0 (l1 + 1) y50)
theorem okX7_back_L20 (G : JG) : ∀ (n : Nat), ∀ (l0 : Nat) (l1 : Int32) (x : Hs), JM G RX7 cX7_back 2 (jZ G (some .int) "back" (jR 1 0 0) 0 0) (fun r : Int32 × Hs => ((some (.int r.1), r.2) : JR)) 20 [(0, .ref l0), (1, .int l1)] [] x 0 0 (X7_back_L20 n l0 l1 x) := by
  intro n
  induction n with
  | zero => intro l0 l1 x; exact j_none
  | succ n ih =>
    intro l0 l1 x
    unfold X7_back_L20
    refine j_iload_n 21 1 dX7_back_20 rfl rfl rfl ?_
    refine j_aload_n 22 0 dX7_back_21 rfl rfl rfl ?_
    refine j_gI 25 kf_X7_129 dX7_back_22 rfl ?_
    intro v4
    refine j_icmp_ge 94 28 dX7_back_25 (by decide) rfl ?_ ?_
    · refine j_aload_n 95 0 dX7_back_94 rfl rfl rfl ?_
      refine j_aload_n 96 0 dX7_back_95 rfl rfl rfl ?_
      refine j_gL 99 kf_X7_393 dX7_back_96 rfl ?_
      intro v5
      refine j_put 102 kf_X7_28 dX7_back_99 rfl rfl rfl ?_
      intro y6
      refine j_iconst (v := 0) 103 dX7_back_102 rfl ic_0 ?_
      refine j_istore_n 104 [(1, .int 0), (0, .ref l0)] dX7_back_103 rfl rfl (by decide) rfl ?_
      refine j_sub [1, 0] rfl ?_
      exact okX7_back_L104 G fu l0 0 y6
    · refine j_aload_n 29 0 dX7_back_28 rfl rfl rfl ?_
      refine j_gR 32 kf_X7_11 dX7_back_29 rfl ?_
      intro v31
      refine j_iload_n 33 1 dX7_back_32 rfl rfl rfl ?_
      refine j_aload_n 34 0 dX7_back_33 rfl rfl rfl ?_
      refine j_gR 37 kf_X7_87 dX7_back_34 rfl ?_
      intro v32
      refine j_iload_n 38 1 dX7_back_37 rfl rfl rfl ?_
      refine j_aI 39 dX7_back_38 rfl ?_
      intro v33
      refine j_wI 40 dX7_back_39 rfl ?_
      intro y34
      refine j_aload_n 41 0 dX7_back_40 rfl rfl rfl ?_
      refine j_gR 44 kf_X7_15 dX7_back_41 rfl ?_
      intro v35
      refine j_iload_n 45 1 dX7_back_44 rfl rfl rfl ?_
      refine j_aload_n 46 0 dX7_back_45 rfl rfl rfl ?_
      refine j_gR 49 kf_X7_90 dX7_back_46 rfl ?_
      intro v36
      refine j_iload_n 50 1 dX7_back_49 rfl rfl rfl ?_
      refine j_aI 51 dX7_back_50 rfl ?_
      intro v37
      refine j_wI 52 dX7_back_51 rfl ?_
      intro y38
      refine j_aload_n 53 0 dX7_back_52 rfl rfl rfl ?_
      refine j_gR 56 kf_X7_18 dX7_back_53 rfl ?_
      intro v39
      refine j_iload_n 57 1 dX7_back_56 rfl rfl rfl ?_
      refine j_aload_n 58 0 dX7_back_57 rfl rfl rfl ?_
      refine j_gR 61 kf_X7_93 dX7_back_58 rfl ?_
      intro v40
      refine j_iload_n 62 1 dX7_back_61 rfl rfl rfl ?_
      refine j_aI 63 dX7_back_62 rfl ?_
      intro v41
      refine j_wI 64 dX7_back_63 rfl ?_
      intro y42
      refine j_aload_n 65 0 dX7_back_64 rfl rfl rfl ?_
      refine j_gR 68 kf_X7_21 dX7_back_65 rfl ?_
      intro v43
      refine j_iload_n 69 1 dX7_back_68 rfl rfl rfl ?_
      refine j_aload_n 70 0 dX7_back_69 rfl rfl rfl ?_
      refine j_gR 73 kf_X7_96 dX7_back_70 rfl ?_
      intro v44
      refine j_iload_n 74 1 dX7_back_73 rfl rfl rfl ?_
      refine j_aI 75 dX7_back_74 rfl ?_
      intro v45
      refine j_wI 76 dX7_back_75 rfl ?_
      intro y46
      refine j_aload_n 77 0 dX7_back_76 rfl rfl rfl ?_
      refine j_gR 80 kf_X7_24 dX7_back_77 rfl ?_
      intro v47
      refine j_iload_n 81 1 dX7_back_80 rfl rfl rfl ?_
      refine j_aload_n 82 0 dX7_back_81 rfl rfl rfl ?_
      refine j_gR 85 kf_X7_99 dX7_back_82 rfl ?_
      intro v48
      refine j_iload_n 86 1 dX7_back_85 rfl rfl rfl ?_
      refine j_aL 87 dX7_back_86 rfl ?_
      intro v49
      refine j_wL 88 dX7_back_87 rfl ?_
      intro y50
      refine j_iinc 91 1 [(1, .int (l1 + 1)), (0, .ref l0)] dX7_back_88 rfl rfl (ii_1 _) (by decide) rfl ?_
      refine j_goto 20 dX7_back_91 (by decide) ?_
      refine j_sub [1, 0] rfl ?_
      exact ih l0 (l1 + 1) y50
def X7_back (a0 : Nat) (x : Hs) : Option (Int32 × Hs) := (vO x 6 a0).bind fun _ =>
  (gI x 6 a0 37).bind fun v1 =>
  (if v1 = 0 then some ((-3), x) else
  (gI x 6 a0 38).bind fun v2 =>
  (pV x 6 a0 0 (.int v2)).bind fun y3 =>
  X7_back_L20 fu a0 0 y3)
theorem rvX7_back {a0 : Nat} {x : Hs} {r : Int32 × Hs} (h : X7_back a0 x = some r) : ∃ fs, x.1 a0 = .inr (6, fs) := vO_bind h
theorem okX7_back (G : JG) (x : Hs) (a0 : Nat) : ∀ r, X7_back a0 x = some r → JC G yX7_back cX7_back 2 (some .int) (jR 1 0 0) 0 0 [.ref a0] x ((some (.int r.1), r.2)) := by
  refine jc_of (own := RX7) (E := (fun r : Int32 × Hs => ((some (.int r.1), r.2) : JR))) (by decide) rfl rfl (Nat.le_of_ble_eq_true rfl) rfl ?_
  unfold X7_back
  refine j_chk ?_
  refine j_aload_n 1 0 dX7_back_0 rfl rfl rfl ?_
  refine j_gI 4 kf_X7_386 dX7_back_1 rfl ?_
  intro v1
  refine j_if_ne 10 7 dX7_back_4 (by decide) rfl ?_ ?_
  · refine j_aload_n 11 0 dX7_back_10 rfl rfl rfl ?_
    refine j_aload_n 12 0 dX7_back_11 rfl rfl rfl ?_
    refine j_gI 15 kf_X7_390 dX7_back_12 rfl ?_
    intro v2
    refine j_put 18 kf_X7_129 dX7_back_15 rfl rfl rfl ?_
    intro y3
    refine j_iconst (v := 0) 19 dX7_back_18 rfl ic_0 ?_
    refine j_istore_n 20 [(1, .int 0), (0, .ref a0)] dX7_back_19 rfl rfl (by decide) rfl ?_
    refine j_sub [1, 0] rfl ?_
    exact okX7_back_L20 G fu a0 0 y3
  · refine j_bipush (v := -3) 9 dX7_back_7 rfl bc_m3 ?_
    exact j_iret dX7_back_9 rfl
