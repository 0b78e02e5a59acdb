/-! Each method as a pure term, and the machine's rows. Written by wip/whole/decomp.py. -/
-- X7_load: ('BarStepsModel', 'load', '(IIII)I')
def X7_load_J163 (r65 : Nat → Int32 → Int32 → Int32 → Int32 → Int32 → Hs → Option (Int32 × Hs)) (l0 : Nat) (l1 : Int32) (l3 : Int32) (l4 : Int32) (l6 : Int32) (s0 : Int32) (s1 : Int32) (x : Hs) : Option (Int32 × Hs) := r65 l0 l1 l3 l4 (s1 + s0) (l6 + 1) x
theorem okX7_load_J163 (G : JG) (r65 : Nat → Int32 → Int32 → Int32 → Int32 → Int32 → Hs → Option (Int32 × Hs)) (hr65 : ∀ (l0 : Nat) (l1 : Int32) (l3 : Int32) (l4 : Int32) (l5 : Int32) (l6 : Int32) (x : Hs), JM G RX7 cX7_load 10 (jZ G (some .int) "load" (jR 4 0 0) 0 0) (fun r : Int32 × Hs => ((some (.int r.1), r.2) : JR)) 65 [(0, .ref l0), (1, .int l1), (3, .int l3), (4, .int l4), (5, .int l5), (6, .int l6)] [] x 0 0 (r65 l0 l1 l3 l4 l5 l6 x)) : ∀ (l0 : Nat) (l1 : Int32) (l3 : Int32) (l4 : Int32) (l6 : Int32) (s0 : Int32) (s1 : Int32) (x : Hs), JM G RX7 cX7_load 10 (jZ G (some .int) "load" (jR 4 0 0) 0 0) (fun r : Int32 × Hs => ((some (.int r.1), r.2) : JR)) 163 [(0, .ref l0), (1, .int l1), (3, .int l3), (4, .int l4), (6, .int l6)] [.int s0, .int s1] x 0 0 (X7_load_J163 r65 l0 l1 l3 l4 l6 s0 s1 x) := by
  intro l0 l1 l3 l4 l6 s0 s1 x
  unfold X7_load_J163
  refine j_iadd 164 dX7_load_163 rfl ?_
  refine j_istore 166 [(5, .int (s1 + s0)), (0, .ref l0), (1, .int l1), (3, .int l3), (4, .int l4), (6, .int l6)] dX7_load_164 rfl (by decide) rfl ?_
  refine j_iinc 169 5 [(6, .int (l6 + 1)), (5, .int (s1 + s0)), (0, .ref l0), (1, .int l1), (3, .int l3), (4, .int l4)] dX7_load_166 rfl rfl (ii_1 _) (by decide) rfl ?_
  refine j_goto 65 dX7_load_169 (by decide) ?_
  refine j_sub [2, 3, 4, 5, 1, 0] rfl ?_
  exact hr65 l0 l1 l3 l4 (s1 + s0) (l6 + 1) x
def X7_load_L65 : Nat → Nat → Int32 → Int32 → Int32 → Int32 → Int32 → Hs → Option (Int32 × Hs)
  | 0, _, _, _, _, _, _, _ => none
  | n + 1, l0, l1, l3, l4, l5, l6, x => (if l4 ≤ l6 then some (l5, x) else
  (gR x 6 l0 52).bind fun v8 =>
  (aI x v8 l1).bind fun v9 =>
  (X7_isIn ((Int32.toInt64 l3) + (4 * (Int32.toInt64 l6))) 0 (Int32.toInt64 (v9 - 4))).bind fun v10 =>
  (if v10 = 0 then some ((-12), x) else
  (gR x 6 l0 53).bind fun v11 =>
  (aI x v11 ((40 * l1) + (Int64.toInt32 ((Int32.toInt64 l3) + (4 * (Int32.toInt64 l6)))))).bind fun v12 =>
  (gR x 6 l0 53).bind fun v13 =>
  (aI x v13 (((40 * l1) + (Int64.toInt32 ((Int32.toInt64 l3) + (4 * (Int32.toInt64 l6))))) + 1)).bind fun v14 =>
  (gR x 6 l0 53).bind fun v15 =>
  (aI x v15 (((40 * l1) + (Int64.toInt32 ((Int32.toInt64 l3) + (4 * (Int32.toInt64 l6))))) + 2)).bind fun v16 =>
  (gR x 6 l0 53).bind fun v17 =>
  (aI x v17 (((40 * l1) + (Int64.toInt32 ((Int32.toInt64 l3) + (4 * (Int32.toInt64 l6))))) + 3)).bind fun v18 =>
  (X7_cell l0 v12 v14 v16 v18 x).bind fun q19 =>
  (if q19.1 < 0 then X7_load_J163 (fun l0 l1 l3 l4 l5 l6 x => X7_load_L65 n l0 l1 l3 l4 l5 l6 x) l0 l1 l3 l4 l6 0 l5 q19.2 else
  X7_load_J163 (fun l0 l1 l3 l4 l5 l6 x => X7_load_L65 n l0 l1 l3 l4 l5 l6 x) l0 l1 l3 l4 l6 1 l5 q19.2)))
theorem okX7_load_L65 (G : JG) : ∀ (n : Nat), ∀ (l0 : Nat) (l1 : Int32) (l3 : Int32) (l4 : Int32) (l5 : Int32) (l6 : Int32) (x : Hs), JM G RX7 cX7_load 10 (jZ G (some .int) "load" (jR 4 0 0) 0 0) (fun r : Int32 × Hs => ((some (.int r.1), r.2) : JR)) 65 [(0, .ref l0), (1, .int l1), (3, .int l3), (4, .int l4), (5, .int l5), (6, .int l6)] [] x 0 0 (X7_load_L65 n l0 l1 l3 l4 l5 l6 x) := by
  intro n
  induction n with
  | zero => intro l0 l1 l3 l4 l5 l6 x; exact j_none
  | succ n ih =>
    intro l0 l1 l3 l4 l5 l6 x
    unfold X7_load_L65
    refine j_iload 67 5 dX7_load_65 rfl rfl ?_
    refine j_iload 69 3 dX7_load_67 rfl rfl ?_
    refine j_icmp_ge 172 72 dX7_load_69 (by decide) rfl ?_ ?_
    · refine j_iload 174 4 dX7_load_172 rfl rfl ?_
      exact j_iret dX7_load_174 rfl
    · refine j_iload_n 73 2 dX7_load_72 rfl rfl rfl ?_
      refine j_i2l 74 dX7_load_73 rfl ?_
      refine j_ldc2 77 kk_X7_163 dX7_load_74 rfl ?_
      refine j_iload 79 5 dX7_load_77 rfl rfl ?_
      refine j_i2l 80 dX7_load_79 rfl ?_
      refine j_lmul 81 dX7_load_80 rfl ?_
      refine j_ladd 82 dX7_load_81 rfl ?_
      refine j_lstore 84 [(7, .long ((Int32.toInt64 l3) + (4 * (Int32.toInt64 l6)))), (0, .ref l0), (1, .int l1), (3, .int l3), (4, .int l4), (5, .int l5), (6, .int l6)] dX7_load_82 rfl (by decide) rfl ?_
      refine j_lload 86 0 dX7_load_84 rfl rfl ?_
      refine j_lconst (v := 0) 87 dX7_load_86 rfl lc_0 ?_
      refine j_aload_n 88 1 dX7_load_87 rfl rfl rfl ?_
      refine j_gR 91 kf_X7_120 dX7_load_88 rfl ?_
      intro v8
      refine j_iload_n 92 2 dX7_load_91 rfl rfl rfl ?_
      refine j_aI 93 dX7_load_92 rfl ?_
      intro v9
      refine j_iconst (v := 4) 94 dX7_load_93 rfl ic_4 ?_
      refine j_isub 95 dX7_load_94 rfl ?_
      refine j_i2l 96 dX7_load_95 rfl ?_
      refine j_callS_i (As := [.long ((Int32.toInt64 l3) + (4 * (Int32.toInt64 l6))), .long 0, .long (Int32.toInt64 (v9 - 4))]) (st := []) 99 (okX7_isIn G x ((Int32.toInt64 l3) + (4 * (Int32.toInt64 l6))) 0 (Int32.toInt64 (v9 - 4))) kc_X7_isIn kl_X7_133 ks_X7_isIn ⟨rfl, rfl, Nat.le_of_ble_eq_true rfl, Nat.le_of_ble_eq_true rfl⟩ (Nat.le_of_ble_eq_true rfl) ⟨Nat.le_of_ble_eq_true rfl, Nat.le_of_ble_eq_true rfl⟩ rfl dX7_load_96 rfl rfl ?_
      intro v10
      refine j_if_ne 105 102 dX7_load_99 (by decide) rfl ?_ ?_
      · refine j_bipush (v := 40) 107 dX7_load_105 rfl bc_40 ?_
        refine j_iload_n 108 2 dX7_load_107 rfl rfl rfl ?_
        refine j_imul 109 dX7_load_108 rfl ?_
        refine j_lload 111 0 dX7_load_109 rfl rfl ?_
        refine j_l2i 112 dX7_load_111 rfl ?_
        refine j_iadd 113 dX7_load_112 rfl ?_
        refine j_istore 115 [(9, .int ((40 * l1) + (Int64.toInt32 ((Int32.toInt64 l3) + (4 * (Int32.toInt64 l6)))))), (7, .long ((Int32.toInt64 l3) + (4 * (Int32.toInt64 l6)))), (0, .ref l0), (1, .int l1), (3, .int l3), (4, .int l4), (5, .int l5), (6, .int l6)] dX7_load_113 rfl (by decide) rfl ?_
        refine j_iload 117 6 dX7_load_115 rfl rfl ?_
        refine j_aload_n 118 2 dX7_load_117 rfl rfl rfl ?_
        refine j_aload_n 119 2 dX7_load_118 rfl rfl rfl ?_
        refine j_gR 122 kf_X7_123 dX7_load_119 rfl ?_
        intro v11
        refine j_iload 124 0 dX7_load_122 rfl rfl ?_
        refine j_aI 125 dX7_load_124 rfl ?_
        intro v12
        refine j_aload_n 126 2 dX7_load_125 rfl rfl rfl ?_
        refine j_gR 129 kf_X7_123 dX7_load_126 rfl ?_
        intro v13
        refine j_iload 131 0 dX7_load_129 rfl rfl ?_
        refine j_iconst (v := 1) 132 dX7_load_131 rfl ic_1 ?_
        refine j_iadd 133 dX7_load_132 rfl ?_
        refine j_aI 134 dX7_load_133 rfl ?_
        intro v14
        refine j_aload_n 135 2 dX7_load_134 rfl rfl rfl ?_
        refine j_gR 138 kf_X7_123 dX7_load_135 rfl ?_
        intro v15
        refine j_iload 140 0 dX7_load_138 rfl rfl ?_
        refine j_iconst (v := 2) 141 dX7_load_140 rfl ic_2 ?_
        refine j_iadd 142 dX7_load_141 rfl ?_
        refine j_aI 143 dX7_load_142 rfl ?_
        intro v16
        refine j_aload_n 144 2 dX7_load_143 rfl rfl rfl ?_
        refine j_gR 147 kf_X7_123 dX7_load_144 rfl ?_
        intro v17
        refine j_iload 149 0 dX7_load_147 rfl rfl ?_
        refine j_iconst (v := 3) 150 dX7_load_149 rfl ic_3 ?_
        refine j_iadd 151 dX7_load_150 rfl ?_
        refine j_aI 152 dX7_load_151 rfl ?_
        intro v18
        refine j_callV_iw (ci := 6) (As := [.int v12, .int v14, .int v16, .int v18]) (st := [.int l5]) 155 (okX7_cell G x l0 v12 v14 v16 v18) kc_X7_cell kl_X7_355 ki_X7_cell kv_X7_cell kh_X7 (by decide) (fun _ h => rvX7_cell h) ⟨rfl, rfl, Nat.le_of_ble_eq_true rfl, Nat.le_of_ble_eq_true rfl⟩ (Nat.le_of_ble_eq_true rfl) ⟨Nat.le_of_ble_eq_true rfl, Nat.le_of_ble_eq_true rfl⟩ rfl dX7_load_152 rfl rfl ?_
        intro q19
        refine j_if_lt 162 158 dX7_load_155 (by decide) rfl ?_ ?_
        · refine j_iconst (v := 0) 163 dX7_load_162 rfl ic_0 ?_
          refine j_sub [2, 3, 4, 5, 7] rfl ?_
          exact okX7_load_J163 G (fun l0 l1 l3 l4 l5 l6 x => X7_load_L65 n l0 l1 l3 l4 l5 l6 x) ih l0 l1 l3 l4 l6 0 l5 q19.2
        · refine j_iconst (v := 1) 159 dX7_load_158 rfl ic_1 ?_
          refine j_goto 163 dX7_load_159 (by decide) ?_
          refine j_sub [2, 3, 4, 5, 7] rfl ?_
          exact okX7_load_J163 G (fun l0 l1 l3 l4 l5 l6 x => X7_load_L65 n l0 l1 l3 l4 l5 l6 x) ih l0 l1 l3 l4 l6 1 l5 q19.2
      · refine j_bipush (v := -12) 104 dX7_load_102 rfl bc_m12 ?_
        exact j_iret dX7_load_104 rfl
def X7_load (a0 : Nat) (a1 : Int32) (a2 : Int32) (a3 : Int32) (a4 : Int32) (x : Hs) : Option (Int32 × Hs) := (vO x 6 a0).bind fun _ =>
  (X7_isSheet a1).bind fun v1 =>
  (if v1 = 0 then some ((-2), x) else
  (X7_isIn (Int32.toInt64 a2) 0 1).bind fun v2 =>
  (if v2 = 0 then some ((-2), x) else
  (X7_isIn (Int32.toInt64 a4) 0 8).bind fun v3 =>
  (if v3 = 0 then some ((-2), x) else
  (gR x 6 a0 51).bind fun v4 =>
  (aI x v4 a1).bind fun v5 =>
  (if v5 = (-1) then some ((-11), x) else
  (gR x 6 a0 51).bind fun v6 =>
  (aI x v6 a1).bind fun v7 =>
  (if v7 = a2 then X7_load_L65 fu a0 a1 a3 a4 0 0 x else
  some ((-13), x))))))
theorem rvX7_load {a0 : Nat} {a1 : Int32} {a2 : Int32} {a3 : Int32} {a4 : Int32} {x : Hs} {r : Int32 × Hs} (h : X7_load a0 a1 a2 a3 a4 x = some r) : ∃ fs, x.1 a0 = .inr (6, fs) := vO_bind h
theorem okX7_load (G : JG) (x : Hs) (a0 : Nat) (a1 : Int32) (a2 : Int32) (a3 : Int32) (a4 : Int32) : ∀ r, X7_load a0 a1 a2 a3 a4 x = some r → JC G yX7_load cX7_load 10 (some .int) (jR 4 0 0) 0 0 [.ref a0, .int a1, .int a2, .int a3, .int a4] x ((some (.int r.1), r.2)) := by
  refine jc_of (own := RX7) (E := (fun r : Int32 × Hs => ((some (.int r.1), r.2) : JR))) (by decide) rfl rfl (Nat.le_of_ble_eq_true rfl) rfl ?_
  unfold X7_load
  refine j_chk ?_
  refine j_iload_n 1 1 dX7_load_0 rfl rfl rfl ?_
  refine j_callS_i (As := [.int a1]) (st := []) 4 (okX7_isSheet G x a1) kc_X7_isSheet kl_X7_292 ks_X7_isSheet ⟨rfl, rfl, Nat.le_of_ble_eq_true rfl, Nat.le_of_ble_eq_true rfl⟩ (Nat.le_of_ble_eq_true rfl) ⟨Nat.le_of_ble_eq_true rfl, Nat.le_of_ble_eq_true rfl⟩ rfl dX7_load_1 rfl rfl ?_
  intro v1
  refine j_if_eq 30 7 dX7_load_4 (by decide) rfl ?_ ?_
  · refine j_bipush (v := -2) 32 dX7_load_30 rfl bc_m2 ?_
    exact j_iret dX7_load_32 rfl
  · refine j_iload_n 8 2 dX7_load_7 rfl rfl rfl ?_
    refine j_i2l 9 dX7_load_8 rfl ?_
    refine j_lconst (v := 0) 10 dX7_load_9 rfl lc_0 ?_
    refine j_lconst (v := 1) 11 dX7_load_10 rfl lc_1 ?_
    refine j_callS_i (As := [.long (Int32.toInt64 a2), .long 0, .long 1]) (st := []) 14 (okX7_isIn G x (Int32.toInt64 a2) 0 1) kc_X7_isIn kl_X7_133 ks_X7_isIn ⟨rfl, rfl, Nat.le_of_ble_eq_true rfl, Nat.le_of_ble_eq_true rfl⟩ (Nat.le_of_ble_eq_true rfl) ⟨Nat.le_of_ble_eq_true rfl, Nat.le_of_ble_eq_true rfl⟩ rfl dX7_load_11 rfl rfl ?_
    intro v2
    refine j_if_eq 30 17 dX7_load_14 (by decide) rfl ?_ ?_
    · refine j_bipush (v := -2) 32 dX7_load_30 rfl bc_m2 ?_
      exact j_iret dX7_load_32 rfl
    · refine j_iload 19 4 dX7_load_17 rfl rfl ?_
      refine j_i2l 20 dX7_load_19 rfl ?_
      refine j_lconst (v := 0) 21 dX7_load_20 rfl lc_0 ?_
      refine j_ldc2 24 kk_X7_399 dX7_load_21 rfl ?_
      refine j_callS_i (As := [.long (Int32.toInt64 a4), .long 0, .long 8]) (st := []) 27 (okX7_isIn G x (Int32.toInt64 a4) 0 8) kc_X7_isIn kl_X7_133 ks_X7_isIn ⟨rfl, rfl, Nat.le_of_ble_eq_true rfl, Nat.le_of_ble_eq_true rfl⟩ (Nat.le_of_ble_eq_true rfl) ⟨Nat.le_of_ble_eq_true rfl, Nat.le_of_ble_eq_true rfl⟩ rfl dX7_load_24 rfl rfl ?_
      intro v3
      refine j_if_ne 33 30 dX7_load_27 (by decide) rfl ?_ ?_
      · refine j_aload_n 34 0 dX7_load_33 rfl rfl rfl ?_
        refine j_gR 37 kf_X7_117 dX7_load_34 rfl ?_
        intro v4
        refine j_iload_n 38 1 dX7_load_37 rfl rfl rfl ?_
        refine j_aI 39 dX7_load_38 rfl ?_
        intro v5
        refine j_iconst (v := -1) 40 dX7_load_39 rfl ic_m1 ?_
        refine j_icmp_ne 46 43 dX7_load_40 (by decide) rfl ?_ ?_
        · refine j_aload_n 47 0 dX7_load_46 rfl rfl rfl ?_
          refine j_gR 50 kf_X7_117 dX7_load_47 rfl ?_
          intro v6
          refine j_iload_n 51 1 dX7_load_50 rfl rfl rfl ?_
          refine j_aI 52 dX7_load_51 rfl ?_
          intro v7
          refine j_iload_n 53 2 dX7_load_52 rfl rfl rfl ?_
          refine j_icmp_eq 59 56 dX7_load_53 (by decide) rfl ?_ ?_
          · refine j_iconst (v := 0) 60 dX7_load_59 rfl ic_0 ?_
            refine j_istore 62 [(5, .int 0), (0, .ref a0), (1, .int a1), (2, .int a2), (3, .int a3), (4, .int a4)] dX7_load_60 rfl (by decide) rfl ?_
            refine j_iconst (v := 0) 63 dX7_load_62 rfl ic_0 ?_
            refine j_istore 65 [(6, .int 0), (5, .int 0), (0, .ref a0), (1, .int a1), (2, .int a2), (3, .int a3), (4, .int a4)] dX7_load_63 rfl (by decide) rfl ?_
            refine j_sub [2, 3, 5, 6, 1, 0] rfl ?_
            exact okX7_load_L65 G fu a0 a1 a3 a4 0 0 x
          · refine j_bipush (v := -13) 58 dX7_load_56 rfl bc_m13 ?_
            exact j_iret dX7_load_58 rfl
        · refine j_bipush (v := -11) 45 dX7_load_43 rfl bc_m11 ?_
          exact j_iret dX7_load_45 rfl
      · refine j_bipush (v := -2) 32 dX7_load_30 rfl bc_m2 ?_
        exact j_iret dX7_load_32 rfl
-- X7_count: ('BarStepsModel', 'count', '(I)I')
def X7_count_J91 (x : Hs) (r54 : Nat → Int32 → Int32 → Int32 → Option (Int32)) (l0 : Nat) (l1 : Int32) (l3 : Int32) (s0 : Int32) (s1 : Int32) : Option (Int32) := r54 l0 l1 (s1 + s0) (l3 + 1)
theorem okX7_count_J91 (G : JG) (x : Hs) (r54 : Nat → Int32 → Int32 → Int32 → Option (Int32)) (hr54 : ∀ (l0 : Nat) (l1 : Int32) (l2 : Int32) (l3 : Int32), JM G RX7 cX7_count 4 (jZ G (some .int) "count" (jR 2 0 0) 0 0) (fun r : Int32 => ((some (.int r), x) : JR)) 54 [(0, .ref l0), (1, .int l1), (2, .int l2), (3, .int l3)] [] x 0 0 (r54 l0 l1 l2 l3)) : ∀ (l0 : Nat) (l1 : Int32) (l3 : Int32) (s0 : Int32) (s1 : Int32), JM G RX7 cX7_count 4 (jZ G (some .int) "count" (jR 2 0 0) 0 0) (fun r : Int32 => ((some (.int r), x) : JR)) 91 [(0, .ref l0), (1, .int l1), (3, .int l3)] [.int s0, .int s1] x 0 0 (X7_count_J91 x r54 l0 l1 l3 s0 s1) := by
  intro l0 l1 l3 s0 s1
  unfold X7_count_J91
  refine j_iadd 92 dX7_count_91 rfl ?_
  refine j_istore_n 93 [(2, .int (s1 + s0)), (0, .ref l0), (1, .int l1), (3, .int l3)] dX7_count_92 rfl rfl (by decide) rfl ?_
  refine j_iinc 96 3 [(3, .int (l3 + 1)), (2, .int (s1 + s0)), (0, .ref l0), (1, .int l1)] dX7_count_93 rfl rfl (ii_1 _) (by decide) rfl ?_
  refine j_goto 54 dX7_count_96 (by decide) ?_
  refine j_sub [2, 3, 1, 0] rfl ?_
  exact hr54 l0 l1 (s1 + s0) (l3 + 1)
def X7_count_L54 (x : Hs) : Nat → Nat → Int32 → Int32 → Int32 → Option (Int32)
  | 0, _, _, _, _ => none
  | n + 1, l0, l1, l2, l3 => (gI x 6 l0 0).bind fun v3 =>
  (if v3 ≤ l3 then (if l1 = 0 then (gI x 6 l0 0).bind fun v6 =>
  some v6 else
  (if l1 = 1 then (gI x 6 l0 9).bind fun v5 =>
  some v5 else
  (if l1 = 2 then (gI x 6 l0 29).bind fun v4 =>
  some v4 else
  some l2))) else
  (if l1 = 4 then (X7_fin l0 l3 x).bind fun v9 =>
  X7_count_J91 x (fun l0 l1 l2 l3 => X7_count_L54 x n l0 l1 l2 l3) l0 l1 l3 v9 l2 else
  (if l1 = 5 then (gR x 6 l0 4).bind fun v7 =>
  (aI x v7 l3).bind fun v8 =>
  X7_count_J91 x (fun l0 l1 l2 l3 => X7_count_L54 x n l0 l1 l2 l3) l0 l1 l3 v8 l2 else
  X7_count_J91 x (fun l0 l1 l2 l3 => X7_count_L54 x n l0 l1 l2 l3) l0 l1 l3 0 l2)))
theorem okX7_count_L54 (G : JG) (x : Hs) : ∀ (n : Nat), ∀ (l0 : Nat) (l1 : Int32) (l2 : Int32) (l3 : Int32), JM G RX7 cX7_count 4 (jZ G (some .int) "count" (jR 2 0 0) 0 0) (fun r : Int32 => ((some (.int r), x) : JR)) 54 [(0, .ref l0), (1, .int l1), (2, .int l2), (3, .int l3)] [] x 0 0 (X7_count_L54 x n l0 l1 l2 l3) := by
  intro n
  induction n with
  | zero => intro l0 l1 l2 l3; exact j_none
  | succ n ih =>
    intro l0 l1 l2 l3
    unfold X7_count_L54
    refine j_iload_n 55 3 dX7_count_54 rfl rfl rfl ?_
    refine j_aload_n 56 0 dX7_count_55 rfl rfl rfl ?_
    refine j_gI 59 kf_X7_129 dX7_count_56 rfl ?_
    intro v3
    refine j_icmp_ge 99 62 dX7_count_59 (by decide) rfl ?_ ?_
    · refine j_iload_n 100 1 dX7_count_99 rfl rfl rfl ?_
      refine j_if_ne 110 103 dX7_count_100 (by decide) rfl ?_ ?_
      · refine j_iload_n 111 1 dX7_count_110 rfl rfl rfl ?_
        refine j_iconst (v := 1) 112 dX7_count_111 rfl ic_1 ?_
        refine j_icmp_ne 122 115 dX7_count_112 (by decide) rfl ?_ ?_
        · refine j_iload_n 123 1 dX7_count_122 rfl rfl rfl ?_
          refine j_iconst (v := 2) 124 dX7_count_123 rfl ic_2 ?_
          refine j_icmp_ne 134 127 dX7_count_124 (by decide) rfl ?_ ?_
          · refine j_iload_n 135 2 dX7_count_134 rfl rfl rfl ?_
            exact j_iret dX7_count_135 rfl
          · refine j_aload_n 128 0 dX7_count_127 rfl rfl rfl ?_
            refine j_gI 131 kf_X7_308 dX7_count_128 rfl ?_
            intro v4
            refine j_goto 135 dX7_count_131 (by decide) ?_
            exact j_iret dX7_count_135 rfl
        · refine j_aload_n 116 0 dX7_count_115 rfl rfl rfl ?_
          refine j_gI 119 kf_X7_210 dX7_count_116 rfl ?_
          intro v5
          refine j_goto 135 dX7_count_119 (by decide) ?_
          exact j_iret dX7_count_135 rfl
      · refine j_aload_n 104 0 dX7_count_103 rfl rfl rfl ?_
        refine j_gI 107 kf_X7_129 dX7_count_104 rfl ?_
        intro v6
        refine j_goto 135 dX7_count_107 (by decide) ?_
        exact j_iret dX7_count_135 rfl
    · refine j_iload_n 63 2 dX7_count_62 rfl rfl rfl ?_
      refine j_iload_n 64 1 dX7_count_63 rfl rfl rfl ?_
      refine j_iconst (v := 4) 65 dX7_count_64 rfl ic_4 ?_
      refine j_icmp_ne 76 68 dX7_count_65 (by decide) rfl ?_ ?_
      · refine j_iload_n 77 1 dX7_count_76 rfl rfl rfl ?_
        refine j_iconst (v := 5) 78 dX7_count_77 rfl ic_5 ?_
        refine j_icmp_ne 90 81 dX7_count_78 (by decide) rfl ?_ ?_
        · refine j_iconst (v := 0) 91 dX7_count_90 rfl ic_0 ?_
          refine j_sub [0, 1, 3] rfl ?_
          exact okX7_count_J91 G x (fun l0 l1 l2 l3 => X7_count_L54 x n l0 l1 l2 l3) ih l0 l1 l3 0 l2
        · refine j_aload_n 82 0 dX7_count_81 rfl rfl rfl ?_
          refine j_gR 85 kf_X7_21 dX7_count_82 rfl ?_
          intro v7
          refine j_iload_n 86 3 dX7_count_85 rfl rfl rfl ?_
          refine j_aI 87 dX7_count_86 rfl ?_
          intro v8
          refine j_goto 91 dX7_count_87 (by decide) ?_
          refine j_sub [0, 1, 3] rfl ?_
          exact okX7_count_J91 G x (fun l0 l1 l2 l3 => X7_count_L54 x n l0 l1 l2 l3) ih l0 l1 l3 v8 l2
      · refine j_aload_n 69 0 dX7_count_68 rfl rfl rfl ?_
        refine j_iload_n 70 3 dX7_count_69 rfl rfl rfl ?_
        refine j_callV_i (ci := 6) (As := [.int l3]) (st := [.int l2]) 73 (okX7_fin G x l0 l3) kc_X7_fin kl_X7_191 ki_X7_fin kv_X7_fin kh_X7 (by decide) (fun _ h => rvX7_fin h) ⟨rfl, rfl, Nat.le_of_ble_eq_true rfl, Nat.le_of_ble_eq_true rfl⟩ (Nat.le_of_ble_eq_true rfl) ⟨Nat.le_of_ble_eq_true rfl, Nat.le_of_ble_eq_true rfl⟩ rfl dX7_count_70 rfl rfl ?_
        intro v9
        refine j_goto 91 dX7_count_73 (by decide) ?_
        refine j_sub [0, 1, 3] rfl ?_
        exact okX7_count_J91 G x (fun l0 l1 l2 l3 => X7_count_L54 x n l0 l1 l2 l3) ih l0 l1 l3 v9 l2
def X7_count_J44 (x : Hs) (r20 : Nat → Int32 → Int32 → Int32 → Option (Int32)) (l0 : Nat) (l1 : Int32) (l3 : Int32) (s0 : Int32) (s1 : Int32) : Option (Int32) := r20 l0 l1 (s1 + s0) (l3 + 1)
theorem okX7_count_J44 (G : JG) (x : Hs) (r20 : Nat → Int32 → Int32 → Int32 → Option (Int32)) (hr20 : ∀ (l0 : Nat) (l1 : Int32) (l2 : Int32) (l3 : Int32), JM G RX7 cX7_count 4 (jZ G (some .int) "count" (jR 2 0 0) 0 0) (fun r : Int32 => ((some (.int r), x) : JR)) 20 [(0, .ref l0), (1, .int l1), (2, .int l2), (3, .int l3)] [] x 0 0 (r20 l0 l1 l2 l3)) : ∀ (l0 : Nat) (l1 : Int32) (l3 : Int32) (s0 : Int32) (s1 : Int32), JM G RX7 cX7_count 4 (jZ G (some .int) "count" (jR 2 0 0) 0 0) (fun r : Int32 => ((some (.int r), x) : JR)) 44 [(0, .ref l0), (1, .int l1), (3, .int l3)] [.int s0, .int s1] x 0 0 (X7_count_J44 x r20 l0 l1 l3 s0 s1) := by
  intro l0 l1 l3 s0 s1
  unfold X7_count_J44
  refine j_iadd 45 dX7_count_44 rfl ?_
  refine j_istore_n 46 [(2, .int (s1 + s0)), (0, .ref l0), (1, .int l1), (3, .int l3)] dX7_count_45 rfl rfl (by decide) rfl ?_
  refine j_iinc 49 3 [(3, .int (l3 + 1)), (2, .int (s1 + s0)), (0, .ref l0), (1, .int l1)] dX7_count_46 rfl rfl (ii_1 _) (by decide) rfl ?_
  refine j_goto 20 dX7_count_49 (by decide) ?_
  refine j_sub [2, 3, 1, 0] rfl ?_
  exact hr20 l0 l1 (s1 + s0) (l3 + 1)
def X7_count_L20 (x : Hs) : Nat → Nat → Int32 → Int32 → Int32 → Option (Int32)
  | 0, _, _, _, _ => none
  | n + 1, l0, l1, l2, l3 => (gI x 6 l0 9).bind fun v2 =>
  (if v2 ≤ l3 then X7_count_L54 x fu l0 l1 l2 0 else
  (if l1 = 3 then (gR x 6 l0 12).bind fun v10 =>
  (aI x v10 l3).bind fun v11 =>
  X7_count_J44 x (fun l0 l1 l2 l3 => X7_count_L20 x n l0 l1 l2 l3) l0 l1 l3 v11 l2 else
  X7_count_J44 x (fun l0 l1 l2 l3 => X7_count_L20 x n l0 l1 l2 l3) l0 l1 l3 0 l2))
theorem okX7_count_L20 (G : JG) (x : Hs) : ∀ (n : Nat), ∀ (l0 : Nat) (l1 : Int32) (l2 : Int32) (l3 : Int32), JM G RX7 cX7_count 4 (jZ G (some .int) "count" (jR 2 0 0) 0 0) (fun r : Int32 => ((some (.int r), x) : JR)) 20 [(0, .ref l0), (1, .int l1), (2, .int l2), (3, .int l3)] [] x 0 0 (X7_count_L20 x n l0 l1 l2 l3) := by
  intro n
  induction n with
  | zero => intro l0 l1 l2 l3; exact j_none
  | succ n ih =>
    intro l0 l1 l2 l3
    unfold X7_count_L20
    refine j_iload_n 21 3 dX7_count_20 rfl rfl rfl ?_
    refine j_aload_n 22 0 dX7_count_21 rfl rfl rfl ?_
    refine j_gI 25 kf_X7_210 dX7_count_22 rfl ?_
    intro v2
    refine j_icmp_ge 52 28 dX7_count_25 (by decide) rfl ?_ ?_
    · refine j_iconst (v := 0) 53 dX7_count_52 rfl ic_0 ?_
      refine j_istore_n 54 [(3, .int 0), (0, .ref l0), (1, .int l1), (2, .int l2)] dX7_count_53 rfl rfl (by decide) rfl ?_
      refine j_sub [1, 2, 3, 0] rfl ?_
      exact okX7_count_L54 G x fu l0 l1 l2 0
    · refine j_iload_n 29 2 dX7_count_28 rfl rfl rfl ?_
      refine j_iload_n 30 1 dX7_count_29 rfl rfl rfl ?_
      refine j_iconst (v := 3) 31 dX7_count_30 rfl ic_3 ?_
      refine j_icmp_ne 43 34 dX7_count_31 (by decide) rfl ?_ ?_
      · refine j_iconst (v := 0) 44 dX7_count_43 rfl ic_0 ?_
        refine j_sub [0, 1, 3] rfl ?_
        exact okX7_count_J44 G x (fun l0 l1 l2 l3 => X7_count_L20 x n l0 l1 l2 l3) ih l0 l1 l3 0 l2
      · refine j_aload_n 35 0 dX7_count_34 rfl rfl rfl ?_
        refine j_gR 38 kf_X7_44 dX7_count_35 rfl ?_
        intro v10
        refine j_iload_n 39 3 dX7_count_38 rfl rfl rfl ?_
        refine j_aI 40 dX7_count_39 rfl ?_
        intro v11
        refine j_goto 44 dX7_count_40 (by decide) ?_
        refine j_sub [0, 1, 3] rfl ?_
        exact okX7_count_J44 G x (fun l0 l1 l2 l3 => X7_count_L20 x n l0 l1 l2 l3) ih l0 l1 l3 v11 l2
def X7_count (a0 : Nat) (a1 : Int32) (x : Hs) : Option (Int32) := (vO x 6 a0).bind fun _ =>
  (X7_isIn (Int32.toInt64 a1) 0 5).bind fun v1 =>
  (if v1 = 0 then some (-1000) else
  X7_count_L20 x fu a0 a1 0 0)
theorem rvX7_count {a0 : Nat} {a1 : Int32} {x : Hs} {r : Int32} (h : X7_count a0 a1 x = some r) : ∃ fs, x.1 a0 = .inr (6, fs) := vO_bind h
theorem okX7_count (G : JG) (x : Hs) (a0 : Nat) (a1 : Int32) : ∀ r, X7_count a0 a1 x = some r → JC G yX7_count cX7_count 4 (some .int) (jR 2 0 0) 0 0 [.ref a0, .int a1] x ((some (.int r), x)) := by
  refine jc_of (own := RX7) (E := (fun r : Int32 => ((some (.int r), x) : JR))) (by decide) rfl rfl (Nat.le_of_ble_eq_true rfl) rfl ?_
  unfold X7_count
  refine j_chk ?_
  refine j_iload_n 1 1 dX7_count_0 rfl rfl rfl ?_
  refine j_i2l 2 dX7_count_1 rfl ?_
  refine j_lconst (v := 0) 3 dX7_count_2 rfl lc_0 ?_
  refine j_ldc2 6 kk_X7_159 dX7_count_3 rfl ?_
  refine j_callS_i (As := [.long (Int32.toInt64 a1), .long 0, .long 5]) (st := []) 9 (okX7_isIn G x (Int32.toInt64 a1) 0 5) kc_X7_isIn kl_X7_133 ks_X7_isIn ⟨rfl, rfl, Nat.le_of_ble_eq_true rfl, Nat.le_of_ble_eq_true rfl⟩ (Nat.le_of_ble_eq_true rfl) ⟨Nat.le_of_ble_eq_true rfl, Nat.le_of_ble_eq_true rfl⟩ rfl dX7_count_6 rfl rfl ?_
  intro v1
  refine j_if_ne 16 12 dX7_count_9 (by decide) rfl ?_ ?_
  · refine j_iconst (v := 0) 17 dX7_count_16 rfl ic_0 ?_
    refine j_istore_n 18 [(2, .int 0), (0, .ref a0), (1, .int a1)] dX7_count_17 rfl rfl (by decide) rfl ?_
    refine j_iconst (v := 0) 19 dX7_count_18 rfl ic_0 ?_
    refine j_istore_n 20 [(3, .int 0), (2, .int 0), (0, .ref a0), (1, .int a1)] dX7_count_19 rfl rfl (by decide) rfl ?_
    refine j_sub [2, 3, 1, 0] rfl ?_
    exact okX7_count_L20 G x fu a0 a1 0 0
  · refine j_sipush (v := -1000) 15 dX7_count_12 rfl sc_m1000 ?_
    exact j_iret dX7_count_15 rfl
-- X7_sheet: ('BarStepsModel', 'sheet', '(III)I')
def X7_sheet_L71 : Nat → Nat → Int32 → Int32 → Hs → Option (Int32 × Hs)
  | 0, _, _, _, _ => none
  | n + 1, l0, l1, l4, x => (gR x 6 l0 52).bind fun v7 =>
  (aI x v7 l1).bind fun v8 =>
  (if v8 ≤ l4 then some (1, x) else
  (gR x 6 l0 53).bind fun v9 =>
  (wI x v9 ((40 * l1) + l4) 0).bind fun y10 =>
  X7_sheet_L71 n l0 l1 (l4 + 1) y10)
theorem okX7_sheet_L71 (G : JG) : ∀ (n : Nat), ∀ (l0 : Nat) (l1 : Int32) (l4 : Int32) (x : Hs), JM G RX7 cX7_sheet 5 (jZ G (some .int) "sheet" (jR 3 0 0) 0 0) (fun r : Int32 × Hs => ((some (.int r.1), r.2) : JR)) 71 [(0, .ref l0), (1, .int l1), (4, .int l4)] [] x 0 0 (X7_sheet_L71 n l0 l1 l4 x) := by
  intro n
  induction n with
  | zero => intro l0 l1 l4 x; exact j_none
  | succ n ih =>
    intro l0 l1 l4 x
    unfold X7_sheet_L71
    refine j_iload 73 2 dX7_sheet_71 rfl rfl ?_
    refine j_aload_n 74 0 dX7_sheet_73 rfl rfl rfl ?_
    refine j_gR 77 kf_X7_120 dX7_sheet_74 rfl ?_
    intro v7
    refine j_iload_n 78 1 dX7_sheet_77 rfl rfl rfl ?_
    refine j_aI 79 dX7_sheet_78 rfl ?_
    intro v8
    refine j_icmp_ge 101 82 dX7_sheet_79 (by decide) rfl ?_ ?_
    · refine j_iconst (v := 1) 102 dX7_sheet_101 rfl ic_1 ?_
      exact j_iret dX7_sheet_102 rfl
    · refine j_aload_n 83 0 dX7_sheet_82 rfl rfl rfl ?_
      refine j_gR 86 kf_X7_123 dX7_sheet_83 rfl ?_
      intro v9
      refine j_bipush (v := 40) 88 dX7_sheet_86 rfl bc_40 ?_
      refine j_iload_n 89 1 dX7_sheet_88 rfl rfl rfl ?_
      refine j_imul 90 dX7_sheet_89 rfl ?_
      refine j_iload 92 2 dX7_sheet_90 rfl rfl ?_
      refine j_iadd 93 dX7_sheet_92 rfl ?_
      refine j_iconst (v := 0) 94 dX7_sheet_93 rfl ic_0 ?_
      refine j_wI 95 dX7_sheet_94 rfl ?_
      intro y10
      refine j_iinc 98 2 [(4, .int (l4 + 1)), (0, .ref l0), (1, .int l1)] dX7_sheet_95 rfl rfl (ii_1 _) (by decide) rfl ?_
      refine j_goto 71 dX7_sheet_98 (by decide) ?_
      refine j_sub [1, 2, 0] rfl ?_
      exact ih l0 l1 (l4 + 1) y10
def X7_sheet_J67 (l0 : Nat) (l1 : Int32) (s0 : Int32) (s1 : Int32) (s2 : Nat) (x : Hs) : Option (Int32 × Hs) := (wI x s2 s1 s0).bind fun y6 =>
  X7_sheet_L71 fu l0 l1 0 y6
theorem okX7_sheet_J67 (G : JG) : ∀ (l0 : Nat) (l1 : Int32) (s0 : Int32) (s1 : Int32) (s2 : Nat) (x : Hs), JM G RX7 cX7_sheet 5 (jZ G (some .int) "sheet" (jR 3 0 0) 0 0) (fun r : Int32 × Hs => ((some (.int r.1), r.2) : JR)) 67 [(0, .ref l0), (1, .int l1)] [.int s0, .int s1, .ref s2] x 0 0 (X7_sheet_J67 l0 l1 s0 s1 s2 x) := by
  intro l0 l1 s0 s1 s2 x
  unfold X7_sheet_J67
  refine j_wI 68 dX7_sheet_67 rfl ?_
  intro y6
  refine j_iconst (v := 0) 69 dX7_sheet_68 rfl ic_0 ?_
  refine j_istore 71 [(4, .int 0), (0, .ref l0), (1, .int l1)] dX7_sheet_69 rfl (by decide) rfl ?_
  refine j_sub [1, 2, 0] rfl ?_
  exact okX7_sheet_L71 G fu l0 l1 0 y6
def X7_sheet_J45 (l0 : Nat) (l1 : Int32) (l2 : Int32) (l3 : Int32) (x : Hs) : Option (Int32 × Hs) := (gR x 6 l0 51).bind fun v3 =>
  (wI x v3 l1 l2).bind fun y4 =>
  (gR y4 6 l0 52).bind fun v5 =>
  (if l2 = (-1) then X7_sheet_J67 l0 l1 0 l1 v5 y4 else
  X7_sheet_J67 l0 l1 l3 l1 v5 y4)
theorem okX7_sheet_J45 (G : JG) : ∀ (l0 : Nat) (l1 : Int32) (l2 : Int32) (l3 : Int32) (x : Hs), JM G RX7 cX7_sheet 5 (jZ G (some .int) "sheet" (jR 3 0 0) 0 0) (fun r : Int32 × Hs => ((some (.int r.1), r.2) : JR)) 45 [(0, .ref l0), (1, .int l1), (2, .int l2), (3, .int l3)] [] x 0 0 (X7_sheet_J45 l0 l1 l2 l3 x) := by
  intro l0 l1 l2 l3 x
  unfold X7_sheet_J45
  refine j_aload_n 46 0 dX7_sheet_45 rfl rfl rfl ?_
  refine j_gR 49 kf_X7_117 dX7_sheet_46 rfl ?_
  intro v3
  refine j_iload_n 50 1 dX7_sheet_49 rfl rfl rfl ?_
  refine j_iload_n 51 2 dX7_sheet_50 rfl rfl rfl ?_
  refine j_wI 52 dX7_sheet_51 rfl ?_
  intro y4
  refine j_aload_n 53 0 dX7_sheet_52 rfl rfl rfl ?_
  refine j_gR 56 kf_X7_120 dX7_sheet_53 rfl ?_
  intro v5
  refine j_iload_n 57 1 dX7_sheet_56 rfl rfl rfl ?_
  refine j_iload_n 58 2 dX7_sheet_57 rfl rfl rfl ?_
  refine j_iconst (v := -1) 59 dX7_sheet_58 rfl ic_m1 ?_
  refine j_icmp_ne 66 62 dX7_sheet_59 (by decide) rfl ?_ ?_
  · refine j_iload_n 67 3 dX7_sheet_66 rfl rfl rfl ?_
    refine j_sub [0, 1] rfl ?_
    exact okX7_sheet_J67 G l0 l1 l3 l1 v5 y4
  · refine j_iconst (v := 0) 63 dX7_sheet_62 rfl ic_0 ?_
    refine j_goto 67 dX7_sheet_63 (by decide) ?_
    refine j_sub [0, 1] rfl ?_
    exact okX7_sheet_J67 G l0 l1 0 l1 v5 y4
def X7_sheet_J33 (l0 : Nat) (l1 : Int32) (l2 : Int32) (l3 : Int32) (x : Hs) : Option (Int32 × Hs) := (if l2 = (-1) then X7_sheet_J45 l0 l1 l2 l3 x else
  (if 0 ≤ l3 then X7_sheet_J45 l0 l1 l2 l3 x else
  some ((-14), x)))
theorem okX7_sheet_J33 (G : JG) : ∀ (l0 : Nat) (l1 : Int32) (l2 : Int32) (l3 : Int32) (x : Hs), JM G RX7 cX7_sheet 5 (jZ G (some .int) "sheet" (jR 3 0 0) 0 0) (fun r : Int32 × Hs => ((some (.int r.1), r.2) : JR)) 33 [(0, .ref l0), (1, .int l1), (2, .int l2), (3, .int l3)] [] x 0 0 (X7_sheet_J33 l0 l1 l2 l3 x) := by
  intro l0 l1 l2 l3 x
  unfold X7_sheet_J33
  refine j_iload_n 34 2 dX7_sheet_33 rfl rfl rfl ?_
  refine j_iconst (v := -1) 35 dX7_sheet_34 rfl ic_m1 ?_
  refine j_icmp_eq 45 38 dX7_sheet_35 (by decide) rfl ?_ ?_
  · exact okX7_sheet_J45 G l0 l1 l2 l3 x
  · refine j_iload_n 39 3 dX7_sheet_38 rfl rfl rfl ?_
    refine j_if_ge 45 42 dX7_sheet_39 (by decide) rfl ?_ ?_
    · exact okX7_sheet_J45 G l0 l1 l2 l3 x
    · refine j_bipush (v := -14) 44 dX7_sheet_42 rfl bc_m14 ?_
      exact j_iret dX7_sheet_44 rfl
def X7_sheet (a0 : Nat) (a1 : Int32) (a2 : Int32) (a3 : Int32) (x : Hs) : Option (Int32 × Hs) := (vO x 6 a0).bind fun _ =>
  (X7_isSheet a1).bind fun v1 =>
  (if v1 = 0 then some ((-2), x) else
  (X7_isIn (Int32.toInt64 a2) (-1) 1).bind fun v2 =>
  (if v2 = 0 then some ((-2), x) else
  (if a2 = (-1) then X7_sheet_J33 a0 a1 a2 a3 x else
  (if a3 ≤ 40 then X7_sheet_J33 a0 a1 a2 a3 x else
  some ((-2), x)))))
theorem rvX7_sheet {a0 : Nat} {a1 : Int32} {a2 : Int32} {a3 : Int32} {x : Hs} {r : Int32 × Hs} (h : X7_sheet a0 a1 a2 a3 x = some r) : ∃ fs, x.1 a0 = .inr (6, fs) := vO_bind h
theorem okX7_sheet (G : JG) (x : Hs) (a0 : Nat) (a1 : Int32) (a2 : Int32) (a3 : Int32) : ∀ r, X7_sheet a0 a1 a2 a3 x = some r → JC G yX7_sheet cX7_sheet 5 (some .int) (jR 3 0 0) 0 0 [.ref a0, .int a1, .int a2, .int a3] x ((some (.int r.1), r.2)) := by
  refine jc_of (own := RX7) (E := (fun r : Int32 × Hs => ((some (.int r.1), r.2) : JR))) (by decide) rfl rfl (Nat.le_of_ble_eq_true rfl) rfl ?_
  unfold X7_sheet
  refine j_chk ?_
  refine j_iload_n 1 1 dX7_sheet_0 rfl rfl rfl ?_
  refine j_callS_i (As := [.int a1]) (st := []) 4 (okX7_isSheet G x a1) kc_X7_isSheet kl_X7_292 ks_X7_isSheet ⟨rfl, rfl, Nat.le_of_ble_eq_true rfl, Nat.le_of_ble_eq_true rfl⟩ (Nat.le_of_ble_eq_true rfl) ⟨Nat.le_of_ble_eq_true rfl, Nat.le_of_ble_eq_true rfl⟩ rfl dX7_sheet_1 rfl rfl ?_
  intro v1
  refine j_if_eq 30 7 dX7_sheet_4 (by decide) rfl ?_ ?_
  · refine j_bipush (v := -2) 32 dX7_sheet_30 rfl bc_m2 ?_
    exact j_iret dX7_sheet_32 rfl
  · refine j_iload_n 8 2 dX7_sheet_7 rfl rfl rfl ?_
    refine j_i2l 9 dX7_sheet_8 rfl ?_
    refine j_ldc2 12 kk_X7_197 dX7_sheet_9 rfl ?_
    refine j_lconst (v := 1) 13 dX7_sheet_12 rfl lc_1 ?_
    refine j_callS_i (As := [.long (Int32.toInt64 a2), .long (-1), .long 1]) (st := []) 16 (okX7_isIn G x (Int32.toInt64 a2) (-1) 1) kc_X7_isIn kl_X7_133 ks_X7_isIn ⟨rfl, rfl, Nat.le_of_ble_eq_true rfl, Nat.le_of_ble_eq_true rfl⟩ (Nat.le_of_ble_eq_true rfl) ⟨Nat.le_of_ble_eq_true rfl, Nat.le_of_ble_eq_true rfl⟩ rfl dX7_sheet_13 rfl rfl ?_
    intro v2
    refine j_if_eq 30 19 dX7_sheet_16 (by decide) rfl ?_ ?_
    · refine j_bipush (v := -2) 32 dX7_sheet_30 rfl bc_m2 ?_
      exact j_iret dX7_sheet_32 rfl
    · refine j_iload_n 20 2 dX7_sheet_19 rfl rfl rfl ?_
      refine j_iconst (v := -1) 21 dX7_sheet_20 rfl ic_m1 ?_
      refine j_icmp_eq 33 24 dX7_sheet_21 (by decide) rfl ?_ ?_
      · exact okX7_sheet_J33 G a0 a1 a2 a3 x
      · refine j_iload_n 25 3 dX7_sheet_24 rfl rfl rfl ?_
        refine j_bipush (v := 40) 27 dX7_sheet_25 rfl bc_40 ?_
        refine j_icmp_le 33 30 dX7_sheet_27 (by decide) rfl ?_ ?_
        · exact okX7_sheet_J33 G a0 a1 a2 a3 x
        · refine j_bipush (v := -2) 32 dX7_sheet_30 rfl bc_m2 ?_
          exact j_iret dX7_sheet_32 rfl
-- X7_put: ('BarStepsModel', 'put', '(III)I')
def X7_put (a0 : Nat) (a1 : Int32) (a2 : Int32) (a3 : Int32) (x : Hs) : Option (Int32 × Hs) := (vO x 6 a0).bind fun _ =>
  (X7_isSheet a1).bind fun v1 =>
  (if v1 = 0 then some ((-2), x) else
  (gR x 6 a0 51).bind fun v2 =>
  (aI x v2 a1).bind fun v3 =>
  (if v3 = (-1) then some ((-11), x) else
  (gR x 6 a0 52).bind fun v4 =>
  (aI x v4 a1).bind fun v5 =>
  (X7_isIn (Int32.toInt64 a2) 0 (Int32.toInt64 (v5 - 1))).bind fun v6 =>
  (if v6 = 0 then some ((-12), x) else
  (gR x 6 a0 53).bind fun v7 =>
  (gR x 6 a0 51).bind fun v8 =>
  (aI x v8 a1).bind fun v9 =>
  (if v9 = 0 then (wI x v7 ((40 * a1) + a2) ((Int32.toInt16 a3).toInt32)).bind fun y11 =>
  some (1, y11) else
  (wI x v7 ((40 * a1) + a2) a3).bind fun y10 =>
  some (1, y10)))))
theorem rvX7_put {a0 : Nat} {a1 : Int32} {a2 : Int32} {a3 : Int32} {x : Hs} {r : Int32 × Hs} (h : X7_put a0 a1 a2 a3 x = some r) : ∃ fs, x.1 a0 = .inr (6, fs) := vO_bind h
theorem okX7_put (G : JG) (x : Hs) (a0 : Nat) (a1 : Int32) (a2 : Int32) (a3 : Int32) : ∀ r, X7_put a0 a1 a2 a3 x = some r → JC G yX7_put cX7_put 4 (some .int) (jR 3 0 0) 0 0 [.ref a0, .int a1, .int a2, .int a3] x ((some (.int r.1), r.2)) := by
  refine jc_of (own := RX7) (E := (fun r : Int32 × Hs => ((some (.int r.1), r.2) : JR))) (by decide) rfl rfl (Nat.le_of_ble_eq_true rfl) rfl ?_
  unfold X7_put
  refine j_chk ?_
  refine j_iload_n 1 1 dX7_put_0 rfl rfl rfl ?_
  refine j_callS_i (As := [.int a1]) (st := []) 4 (okX7_isSheet G x a1) kc_X7_isSheet kl_X7_292 ks_X7_isSheet ⟨rfl, rfl, Nat.le_of_ble_eq_true rfl, Nat.le_of_ble_eq_true rfl⟩ (Nat.le_of_ble_eq_true rfl) ⟨Nat.le_of_ble_eq_true rfl, Nat.le_of_ble_eq_true rfl⟩ rfl dX7_put_1 rfl rfl ?_
  intro v1
  refine j_if_ne 10 7 dX7_put_4 (by decide) rfl ?_ ?_
  · refine j_aload_n 11 0 dX7_put_10 rfl rfl rfl ?_
    refine j_gR 14 kf_X7_117 dX7_put_11 rfl ?_
    intro v2
    refine j_iload_n 15 1 dX7_put_14 rfl rfl rfl ?_
    refine j_aI 16 dX7_put_15 rfl ?_
    intro v3
    refine j_iconst (v := -1) 17 dX7_put_16 rfl ic_m1 ?_
    refine j_icmp_ne 23 20 dX7_put_17 (by decide) rfl ?_ ?_
    · refine j_iload_n 24 2 dX7_put_23 rfl rfl rfl ?_
      refine j_i2l 25 dX7_put_24 rfl ?_
      refine j_lconst (v := 0) 26 dX7_put_25 rfl lc_0 ?_
      refine j_aload_n 27 0 dX7_put_26 rfl rfl rfl ?_
      refine j_gR 30 kf_X7_120 dX7_put_27 rfl ?_
      intro v4
      refine j_iload_n 31 1 dX7_put_30 rfl rfl rfl ?_
      refine j_aI 32 dX7_put_31 rfl ?_
      intro v5
      refine j_iconst (v := 1) 33 dX7_put_32 rfl ic_1 ?_
      refine j_isub 34 dX7_put_33 rfl ?_
      refine j_i2l 35 dX7_put_34 rfl ?_
      refine j_callS_i (As := [.long (Int32.toInt64 a2), .long 0, .long (Int32.toInt64 (v5 - 1))]) (st := []) 38 (okX7_isIn G x (Int32.toInt64 a2) 0 (Int32.toInt64 (v5 - 1))) kc_X7_isIn kl_X7_133 ks_X7_isIn ⟨rfl, rfl, Nat.le_of_ble_eq_true rfl, Nat.le_of_ble_eq_true rfl⟩ (Nat.le_of_ble_eq_true rfl) ⟨Nat.le_of_ble_eq_true rfl, Nat.le_of_ble_eq_true rfl⟩ rfl dX7_put_35 rfl rfl ?_
      intro v6
      refine j_if_ne 44 41 dX7_put_38 (by decide) rfl ?_ ?_
      · refine j_aload_n 45 0 dX7_put_44 rfl rfl rfl ?_
        refine j_gR 48 kf_X7_123 dX7_put_45 rfl ?_
        intro v7
        refine j_bipush (v := 40) 50 dX7_put_48 rfl bc_40 ?_
        refine j_iload_n 51 1 dX7_put_50 rfl rfl rfl ?_
        refine j_imul 52 dX7_put_51 rfl ?_
        refine j_iload_n 53 2 dX7_put_52 rfl rfl rfl ?_
        refine j_iadd 54 dX7_put_53 rfl ?_
        refine j_aload_n 55 0 dX7_put_54 rfl rfl rfl ?_
        refine j_gR 58 kf_X7_117 dX7_put_55 rfl ?_
        intro v8
        refine j_iload_n 59 1 dX7_put_58 rfl rfl rfl ?_
        refine j_aI 60 dX7_put_59 rfl ?_
        intro v9
        refine j_if_ne 68 63 dX7_put_60 (by decide) rfl ?_ ?_
        · refine j_iload_n 69 3 dX7_put_68 rfl rfl rfl ?_
          refine j_wI 70 dX7_put_69 rfl ?_
          intro y10
          refine j_iconst (v := 1) 71 dX7_put_70 rfl ic_1 ?_
          exact j_iret dX7_put_71 rfl
        · refine j_iload_n 64 3 dX7_put_63 rfl rfl rfl ?_
          refine j_i2s 65 dX7_put_64 rfl ?_
          refine j_goto 69 dX7_put_65 (by decide) ?_
          refine j_wI 70 dX7_put_69 rfl ?_
          intro y11
          refine j_iconst (v := 1) 71 dX7_put_70 rfl ic_1 ?_
          exact j_iret dX7_put_71 rfl
      · refine j_bipush (v := -12) 43 dX7_put_41 rfl bc_m12 ?_
        exact j_iret dX7_put_43 rfl
    · refine j_bipush (v := -11) 22 dX7_put_20 rfl bc_m11 ?_
      exact j_iret dX7_put_22 rfl
  · refine j_bipush (v := -2) 9 dX7_put_7 rfl bc_m2 ?_
    exact j_iret dX7_put_9 rfl
-- X7_copy: ('BarStepsModel', 'copy', '(IIIII)I')
def X7_copy_L154 : Nat → Nat → Int32 → Int32 → Int32 → Int32 → Hs → Option (Int32 × Hs)
  | 0, _, _, _, _, _, _ => none
  | n + 1, l0, l3, l4, l5, l7, x => (if l5 ≤ l7 then some (l5, x) else
  (gR x 6 l0 53).bind fun v11 =>
  (gR x 6 l0 54).bind fun v12 =>
  (aI x v12 l7).bind fun v13 =>
  (wI x v11 (((40 * l3) + l4) + l7) v13).bind fun y14 =>
  X7_copy_L154 n l0 l3 l4 l5 (l7 + 1) y14)
theorem okX7_copy_L154 (G : JG) : ∀ (n : Nat), ∀ (l0 : Nat) (l3 : Int32) (l4 : Int32) (l5 : Int32) (l7 : Int32) (x : Hs), JM G RX7 cX7_copy 8 (jZ G (some .int) "copy" (jR 3 0 0) 0 0) (fun r : Int32 × Hs => ((some (.int r.1), r.2) : JR)) 154 [(0, .ref l0), (3, .int l3), (4, .int l4), (5, .int l5), (7, .int l7)] [] x 0 0 (X7_copy_L154 n l0 l3 l4 l5 l7 x) := by
  intro n
  induction n with
  | zero => intro l0 l3 l4 l5 l7 x; exact j_none
  | succ n ih =>
    intro l0 l3 l4 l5 l7 x
    unfold X7_copy_L154
    refine j_iload 156 4 dX7_copy_154 rfl rfl ?_
    refine j_iload 158 3 dX7_copy_156 rfl rfl ?_
    refine j_icmp_ge 189 161 dX7_copy_158 (by decide) rfl ?_ ?_
    · refine j_iload 191 3 dX7_copy_189 rfl rfl ?_
      exact j_iret dX7_copy_191 rfl
    · refine j_aload_n 162 0 dX7_copy_161 rfl rfl rfl ?_
      refine j_gR 165 kf_X7_123 dX7_copy_162 rfl ?_
      intro v11
      refine j_bipush (v := 40) 167 dX7_copy_165 rfl bc_40 ?_
      refine j_iload_n 168 1 dX7_copy_167 rfl rfl rfl ?_
      refine j_imul 169 dX7_copy_168 rfl ?_
      refine j_iload 171 2 dX7_copy_169 rfl rfl ?_
      refine j_iadd 172 dX7_copy_171 rfl ?_
      refine j_iload 174 4 dX7_copy_172 rfl rfl ?_
      refine j_iadd 175 dX7_copy_174 rfl ?_
      refine j_aload_n 176 0 dX7_copy_175 rfl rfl rfl ?_
      refine j_gR 179 kf_X7_126 dX7_copy_176 rfl ?_
      intro v12
      refine j_iload 181 4 dX7_copy_179 rfl rfl ?_
      refine j_aI 182 dX7_copy_181 rfl ?_
      intro v13
      refine j_wI 183 dX7_copy_182 rfl ?_
      intro y14
      refine j_iinc 186 4 [(7, .int (l7 + 1)), (0, .ref l0), (3, .int l3), (4, .int l4), (5, .int l5)] dX7_copy_183 rfl rfl (ii_1 _) (by decide) rfl ?_
      refine j_goto 154 dX7_copy_186 (by decide) ?_
      refine j_sub [1, 2, 3, 4, 0] rfl ?_
      exact ih l0 l3 l4 l5 (l7 + 1) y14
def X7_copy_L117 : Nat → Nat → Int32 → Int32 → Int32 → Int32 → Int32 → Int32 → Hs → Option (Int32 × Hs)
  | 0, _, _, _, _, _, _, _, _ => none
  | n + 1, l0, l1, l2, l3, l4, l5, l7, x => (if l5 ≤ l7 then X7_copy_L154 fu l0 l3 l4 l5 0 x else
  (gR x 6 l0 54).bind fun v15 =>
  (gR x 6 l0 53).bind fun v16 =>
  (aI x v16 (((40 * l1) + l2) + l7)).bind fun v17 =>
  (wI x v15 l7 v17).bind fun y18 =>
  X7_copy_L117 n l0 l1 l2 l3 l4 l5 (l7 + 1) y18)
theorem okX7_copy_L117 (G : JG) : ∀ (n : Nat), ∀ (l0 : Nat) (l1 : Int32) (l2 : Int32) (l3 : Int32) (l4 : Int32) (l5 : Int32) (l7 : Int32) (x : Hs), JM G RX7 cX7_copy 8 (jZ G (some .int) "copy" (jR 3 0 0) 0 0) (fun r : Int32 × Hs => ((some (.int r.1), r.2) : JR)) 117 [(0, .ref l0), (1, .int l1), (2, .int l2), (3, .int l3), (4, .int l4), (5, .int l5), (7, .int l7)] [] x 0 0 (X7_copy_L117 n l0 l1 l2 l3 l4 l5 l7 x) := by
  intro n
  induction n with
  | zero => intro l0 l1 l2 l3 l4 l5 l7 x; exact j_none
  | succ n ih =>
    intro l0 l1 l2 l3 l4 l5 l7 x
    unfold X7_copy_L117
    refine j_iload 119 6 dX7_copy_117 rfl rfl ?_
    refine j_iload 121 5 dX7_copy_119 rfl rfl ?_
    refine j_icmp_ge 151 124 dX7_copy_121 (by decide) rfl ?_ ?_
    · refine j_iconst (v := 0) 152 dX7_copy_151 rfl ic_0 ?_
      refine j_istore 154 [(7, .int 0), (0, .ref l0), (1, .int l1), (2, .int l2), (3, .int l3), (4, .int l4), (5, .int l5)] dX7_copy_152 rfl (by decide) rfl ?_
      refine j_sub [1, 4, 5, 6, 0] rfl ?_
      exact okX7_copy_L154 G fu l0 l3 l4 l5 0 x
    · refine j_aload_n 125 0 dX7_copy_124 rfl rfl rfl ?_
      refine j_gR 128 kf_X7_126 dX7_copy_125 rfl ?_
      intro v15
      refine j_iload 130 6 dX7_copy_128 rfl rfl ?_
      refine j_aload_n 131 0 dX7_copy_130 rfl rfl rfl ?_
      refine j_gR 134 kf_X7_123 dX7_copy_131 rfl ?_
      intro v16
      refine j_bipush (v := 40) 136 dX7_copy_134 rfl bc_40 ?_
      refine j_iload_n 137 1 dX7_copy_136 rfl rfl rfl ?_
      refine j_imul 138 dX7_copy_137 rfl ?_
      refine j_iload_n 139 2 dX7_copy_138 rfl rfl rfl ?_
      refine j_iadd 140 dX7_copy_139 rfl ?_
      refine j_iload 142 6 dX7_copy_140 rfl rfl ?_
      refine j_iadd 143 dX7_copy_142 rfl ?_
      refine j_aI 144 dX7_copy_143 rfl ?_
      intro v17
      refine j_wI 145 dX7_copy_144 rfl ?_
      intro y18
      refine j_iinc 148 6 [(7, .int (l7 + 1)), (0, .ref l0), (1, .int l1), (2, .int l2), (3, .int l3), (4, .int l4), (5, .int l5)] dX7_copy_145 rfl rfl (ii_1 _) (by decide) rfl ?_
      refine j_goto 117 dX7_copy_148 (by decide) ?_
      refine j_sub [1, 2, 3, 4, 5, 6, 0] rfl ?_
      exact ih l0 l1 l2 l3 l4 l5 (l7 + 1) y18
def X7_copy_J104 (l0 : Nat) (l1 : Int32) (l2 : Int32) (l3 : Int32) (l4 : Int32) (l5 : Int32) (s0 : Int32) (x : Hs) : Option (Int32 × Hs) := (if s0 = 0 then some ((-12), x) else
  X7_copy_L117 fu l0 l1 l2 l3 l4 l5 0 x)
theorem okX7_copy_J104 (G : JG) : ∀ (l0 : Nat) (l1 : Int32) (l2 : Int32) (l3 : Int32) (l4 : Int32) (l5 : Int32) (s0 : Int32) (x : Hs), JM G RX7 cX7_copy 8 (jZ G (some .int) "copy" (jR 3 0 0) 0 0) (fun r : Int32 × Hs => ((some (.int r.1), r.2) : JR)) 104 [(0, .ref l0), (1, .int l1), (2, .int l2), (3, .int l3), (4, .int l4), (5, .int l5)] [.int s0] x 0 0 (X7_copy_J104 l0 l1 l2 l3 l4 l5 s0 x) := by
  intro l0 l1 l2 l3 l4 l5 s0 x
  unfold X7_copy_J104
  refine j_istore 106 [(6, .int s0), (0, .ref l0), (1, .int l1), (2, .int l2), (3, .int l3), (4, .int l4), (5, .int l5)] dX7_copy_104 rfl (by decide) rfl ?_
  refine j_iload 108 0 dX7_copy_106 rfl rfl ?_
  refine j_if_ne 114 111 dX7_copy_108 (by decide) rfl ?_ ?_
  · refine j_iconst (v := 0) 115 dX7_copy_114 rfl ic_0 ?_
    refine j_istore 117 [(7, .int 0), (6, .int s0), (0, .ref l0), (1, .int l1), (2, .int l2), (3, .int l3), (4, .int l4), (5, .int l5)] dX7_copy_115 rfl (by decide) rfl ?_
    refine j_sub [2, 3, 4, 5, 6, 7, 0] rfl ?_
    exact okX7_copy_L117 G fu l0 l1 l2 l3 l4 l5 0 x
  · refine j_bipush (v := -12) 113 dX7_copy_111 rfl bc_m12 ?_
    exact j_iret dX7_copy_113 rfl
def X7_copy (a0 : Nat) (a1 : Int32) (a2 : Int32) (a3 : Int32) (a4 : Int32) (a5 : Int32) (x : Hs) : Option (Int32 × Hs) := (vO x 6 a0).bind fun _ =>
  (X7_isSheet a1).bind fun v1 =>
  (if v1 = 0 then some ((-2), x) else
  (X7_isSheet a3).bind fun v2 =>
  (if v2 = 0 then some ((-2), x) else
  (gR x 6 a0 51).bind fun v3 =>
  (aI x v3 a1).bind fun v4 =>
  (if v4 = (-1) then some ((-11), x) else
  (gR x 6 a0 51).bind fun v5 =>
  (aI x v5 a3).bind fun v6 =>
  (if v6 = (-1) then some ((-11), x) else
  (gR x 6 a0 51).bind fun v7 =>
  (aI x v7 a1).bind fun v8 =>
  (gR x 6 a0 51).bind fun v9 =>
  (aI x v9 a3).bind fun v10 =>
  (if v8 = v10 then (if a5 < 0 then X7_copy_J104 a0 a1 a2 a3 a4 a5 0 x else
  (if a2 < 0 then X7_copy_J104 a0 a1 a2 a3 a4 a5 0 x else
  (if a4 < 0 then X7_copy_J104 a0 a1 a2 a3 a4 a5 0 x else
  (gR x 6 a0 52).bind fun v19 =>
  (aI x v19 a1).bind fun v20 =>
  (if (v20 - a2) < a5 then X7_copy_J104 a0 a1 a2 a3 a4 a5 0 x else
  (gR x 6 a0 52).bind fun v21 =>
  (aI x v21 a3).bind fun v22 =>
  (if (v22 - a4) < a5 then X7_copy_J104 a0 a1 a2 a3 a4 a5 0 x else
  X7_copy_J104 a0 a1 a2 a3 a4 a5 1 x))))) else
  some ((-13), x))))))
theorem rvX7_copy {a0 : Nat} {a1 : Int32} {a2 : Int32} {a3 : Int32} {a4 : Int32} {a5 : Int32} {x : Hs} {r : Int32 × Hs} (h : X7_copy a0 a1 a2 a3 a4 a5 x = some r) : ∃ fs, x.1 a0 = .inr (6, fs) := vO_bind h
theorem okX7_copy (G : JG) (x : Hs) (a0 : Nat) (a1 : Int32) (a2 : Int32) (a3 : Int32) (a4 : Int32) (a5 : Int32) : ∀ r, X7_copy a0 a1 a2 a3 a4 a5 x = some r → JC G yX7_copy cX7_copy 8 (some .int) (jR 3 0 0) 0 0 [.ref a0, .int a1, .int a2, .int a3, .int a4, .int a5] x ((some (.int r.1), r.2)) := by
  refine jc_of (own := RX7) (E := (fun r : Int32 × Hs => ((some (.int r.1), r.2) : JR))) (by decide) rfl rfl (Nat.le_of_ble_eq_true rfl) rfl ?_
  unfold X7_copy
  refine j_chk ?_
  refine j_iload_n 1 1 dX7_copy_0 rfl rfl rfl ?_
  refine j_callS_i (As := [.int a1]) (st := []) 4 (okX7_isSheet G x a1) kc_X7_isSheet kl_X7_292 ks_X7_isSheet ⟨rfl, rfl, Nat.le_of_ble_eq_true rfl, Nat.le_of_ble_eq_true rfl⟩ (Nat.le_of_ble_eq_true rfl) ⟨Nat.le_of_ble_eq_true rfl, Nat.le_of_ble_eq_true rfl⟩ rfl dX7_copy_1 rfl rfl ?_
  intro v1
  refine j_if_eq 14 7 dX7_copy_4 (by decide) rfl ?_ ?_
  · refine j_bipush (v := -2) 16 dX7_copy_14 rfl bc_m2 ?_
    exact j_iret dX7_copy_16 rfl
  · refine j_iload_n 8 3 dX7_copy_7 rfl rfl rfl ?_
    refine j_callS_i (As := [.int a3]) (st := []) 11 (okX7_isSheet G x a3) kc_X7_isSheet kl_X7_292 ks_X7_isSheet ⟨rfl, rfl, Nat.le_of_ble_eq_true rfl, Nat.le_of_ble_eq_true rfl⟩ (Nat.le_of_ble_eq_true rfl) ⟨Nat.le_of_ble_eq_true rfl, Nat.le_of_ble_eq_true rfl⟩ rfl dX7_copy_8 rfl rfl ?_
    intro v2
    refine j_if_ne 17 14 dX7_copy_11 (by decide) rfl ?_ ?_
    · refine j_aload_n 18 0 dX7_copy_17 rfl rfl rfl ?_
      refine j_gR 21 kf_X7_117 dX7_copy_18 rfl ?_
      intro v3
      refine j_iload_n 22 1 dX7_copy_21 rfl rfl rfl ?_
      refine j_aI 23 dX7_copy_22 rfl ?_
      intro v4
      refine j_iconst (v := -1) 24 dX7_copy_23 rfl ic_m1 ?_
      refine j_icmp_eq 37 27 dX7_copy_24 (by decide) rfl ?_ ?_
      · refine j_bipush (v := -11) 39 dX7_copy_37 rfl bc_m11 ?_
        exact j_iret dX7_copy_39 rfl
      · refine j_aload_n 28 0 dX7_copy_27 rfl rfl rfl ?_
        refine j_gR 31 kf_X7_117 dX7_copy_28 rfl ?_
        intro v5
        refine j_iload_n 32 3 dX7_copy_31 rfl rfl rfl ?_
        refine j_aI 33 dX7_copy_32 rfl ?_
        intro v6
        refine j_iconst (v := -1) 34 dX7_copy_33 rfl ic_m1 ?_
        refine j_icmp_ne 40 37 dX7_copy_34 (by decide) rfl ?_ ?_
        · refine j_aload_n 41 0 dX7_copy_40 rfl rfl rfl ?_
          refine j_gR 44 kf_X7_117 dX7_copy_41 rfl ?_
          intro v7
          refine j_iload_n 45 1 dX7_copy_44 rfl rfl rfl ?_
          refine j_aI 46 dX7_copy_45 rfl ?_
          intro v8
          refine j_aload_n 47 0 dX7_copy_46 rfl rfl rfl ?_
          refine j_gR 50 kf_X7_117 dX7_copy_47 rfl ?_
          intro v9
          refine j_iload_n 51 3 dX7_copy_50 rfl rfl rfl ?_
          refine j_aI 52 dX7_copy_51 rfl ?_
          intro v10
          refine j_icmp_eq 58 55 dX7_copy_52 (by decide) rfl ?_ ?_
          · refine j_iload 60 5 dX7_copy_58 rfl rfl ?_
            refine j_if_lt 103 63 dX7_copy_60 (by decide) rfl ?_ ?_
            · refine j_iconst (v := 0) 104 dX7_copy_103 rfl ic_0 ?_
              exact okX7_copy_J104 G a0 a1 a2 a3 a4 a5 0 x
            · refine j_iload_n 64 2 dX7_copy_63 rfl rfl rfl ?_
              refine j_if_lt 103 67 dX7_copy_64 (by decide) rfl ?_ ?_
              · refine j_iconst (v := 0) 104 dX7_copy_103 rfl ic_0 ?_
                exact okX7_copy_J104 G a0 a1 a2 a3 a4 a5 0 x
              · refine j_iload 69 4 dX7_copy_67 rfl rfl ?_
                refine j_if_lt 103 72 dX7_copy_69 (by decide) rfl ?_ ?_
                · refine j_iconst (v := 0) 104 dX7_copy_103 rfl ic_0 ?_
                  exact okX7_copy_J104 G a0 a1 a2 a3 a4 a5 0 x
                · refine j_iload 74 5 dX7_copy_72 rfl rfl ?_
                  refine j_aload_n 75 0 dX7_copy_74 rfl rfl rfl ?_
                  refine j_gR 78 kf_X7_120 dX7_copy_75 rfl ?_
                  intro v19
                  refine j_iload_n 79 1 dX7_copy_78 rfl rfl rfl ?_
                  refine j_aI 80 dX7_copy_79 rfl ?_
                  intro v20
                  refine j_iload_n 81 2 dX7_copy_80 rfl rfl rfl ?_
                  refine j_isub 82 dX7_copy_81 rfl ?_
                  refine j_icmp_gt 103 85 dX7_copy_82 (by decide) rfl ?_ ?_
                  · refine j_iconst (v := 0) 104 dX7_copy_103 rfl ic_0 ?_
                    exact okX7_copy_J104 G a0 a1 a2 a3 a4 a5 0 x
                  · refine j_iload 87 5 dX7_copy_85 rfl rfl ?_
                    refine j_aload_n 88 0 dX7_copy_87 rfl rfl rfl ?_
                    refine j_gR 91 kf_X7_120 dX7_copy_88 rfl ?_
                    intro v21
                    refine j_iload_n 92 3 dX7_copy_91 rfl rfl rfl ?_
                    refine j_aI 93 dX7_copy_92 rfl ?_
                    intro v22
                    refine j_iload 95 4 dX7_copy_93 rfl rfl ?_
                    refine j_isub 96 dX7_copy_95 rfl ?_
                    refine j_icmp_gt 103 99 dX7_copy_96 (by decide) rfl ?_ ?_
                    · refine j_iconst (v := 0) 104 dX7_copy_103 rfl ic_0 ?_
                      exact okX7_copy_J104 G a0 a1 a2 a3 a4 a5 0 x
                    · refine j_iconst (v := 1) 100 dX7_copy_99 rfl ic_1 ?_
                      refine j_goto 104 dX7_copy_100 (by decide) ?_
                      exact okX7_copy_J104 G a0 a1 a2 a3 a4 a5 1 x
          · refine j_bipush (v := -13) 57 dX7_copy_55 rfl bc_m13 ?_
            exact j_iret dX7_copy_57 rfl
        · refine j_bipush (v := -11) 39 dX7_copy_37 rfl bc_m11 ?_
          exact j_iret dX7_copy_39 rfl
    · refine j_bipush (v := -2) 16 dX7_copy_14 rfl bc_m2 ?_
      exact j_iret dX7_copy_16 rfl
