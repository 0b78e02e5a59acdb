/-! Places of the words. -/
theorem jt_at1 {i : Nat} {w : Cond} (h : tables_1_1[i]? = some w) (hg : goodWord w = true) : w ∈ jt := List.mem_filter.mpr ⟨List.mem_append_right _ (List.mem_append_left _ (List.mem_of_getElem? h)), hg⟩
theorem jt_at2 {i : Nat} {w : Cond} (h : tables_1_2[i]? = some w) (hg : goodWord w = true) : w ∈ jt := List.mem_filter.mpr ⟨List.mem_append_right _ (List.mem_append_right _ (List.mem_append_left _ (List.mem_of_getElem? h))), hg⟩
theorem jt_at3 {i : Nat} {w : Cond} (h : tables_1_3[i]? = some w) (hg : goodWord w = true) : w ∈ jt := List.mem_filter.mpr ⟨List.mem_append_right _ (List.mem_append_right _ (List.mem_append_right _ (List.mem_append_left _ (List.mem_of_getElem? h)))), hg⟩
theorem jt_at4 {i : Nat} {w : Cond} (h : tables_1_4[i]? = some w) (hg : goodWord w = true) : w ∈ jt := List.mem_filter.mpr ⟨List.mem_append_right _ (List.mem_append_right _ (List.mem_append_right _ (List.mem_append_right _ (List.mem_append_left _ (List.mem_of_getElem? h))))), hg⟩
theorem jt_at5 {i : Nat} {w : Cond} (h : tables_1_5[i]? = some w) (hg : goodWord w = true) : w ∈ jt := List.mem_filter.mpr ⟨List.mem_append_right _ (List.mem_append_right _ (List.mem_append_right _ (List.mem_append_right _ (List.mem_append_right _ (List.mem_append_left _ (List.mem_of_getElem? h)))))), hg⟩
theorem jt_at6 {i : Nat} {w : Cond} (h : tables_1_6[i]? = some w) (hg : goodWord w = true) : w ∈ jt := List.mem_filter.mpr ⟨List.mem_append_right _ (List.mem_append_right _ (List.mem_append_right _ (List.mem_append_right _ (List.mem_append_right _ (List.mem_append_right _ (List.mem_of_getElem? h)))))), hg⟩
theorem jt_in {ws : List Cond} (h : ws.all (fun w => decide (w ∈ tables_1) && goodWord w) = true) : ∀ w ∈ ws, w ∈ jt := fun w hw => by
  have h1 := List.all_eq_true.mp h w hw
  simp only [Bool.and_eq_true, decide_eq_true_eq] at h1
  exact List.mem_filter.mpr ⟨List.mem_append_right _ h1.1, h1.2⟩
theorem jt_sel {i : Nat} {q : MethodName × Nat} {y : MethodName} (h : lw_privs[i]? = some q) (hy : q.1 = y) (hg : goodWord (Cond.selects y.cls y y) = true) : Cond.selects y.cls y y ∈ jt := by
  subst hy
  exact List.mem_filter.mpr ⟨List.mem_append_left _ (List.mem_map.mpr ⟨q, List.mem_of_getElem? h, rfl⟩), hg⟩
theorem ku_X0 : ∀ w ∈ u_ws RX0 TX0 15, w ∈ jt := jt_in (by decide +kernel)
theorem kc_X0 : jcl 0 RX0 TX0 15 tyX0 := ⟨rfl, by decide, ku_X0, tyX0_ok, nmX0⟩
theorem ku_X2 : ∀ w ∈ u_ws RX2 TX2 4, w ∈ jt := jt_in (by decide +kernel)
theorem kc_X2 : jcl 1 RX2 TX2 4 tyX2 := ⟨rfl, by decide, ku_X2, tyX2_ok, nmX2⟩
theorem ku_X3 : ∀ w ∈ u_ws RX3 TX3 3, w ∈ jt := jt_in (by decide +kernel)
theorem kc_X3 : jcl 2 RX3 TX3 3 tyX3 := ⟨rfl, by decide, ku_X3, tyX3_ok, nmX3⟩
theorem ku_X4 : ∀ w ∈ u_ws RX4 TX4 6, w ∈ jt := jt_in (by decide +kernel)
theorem kc_X4 : jcl 3 RX4 TX4 6 tyX4 := ⟨rfl, by decide, ku_X4, tyX4_ok, nmX4⟩
theorem ku_X5 : ∀ w ∈ u_ws RX5 TX5 5, w ∈ jt := jt_in (by decide +kernel)
theorem kc_X5 : jcl 4 RX5 TX5 5 tyX5 := ⟨rfl, by decide, ku_X5, tyX5_ok, nmX5⟩
theorem ku_X6 : ∀ w ∈ u_ws RX6 TX6 8, w ∈ jt := jt_in (by decide +kernel)
theorem kc_X6 : jcl 5 RX6 TX6 8 tyX6 := ⟨rfl, by decide, ku_X6, tyX6_ok, nmX6⟩
theorem ku_X7 : ∀ w ∈ u_ws RX7 TX7 55, w ∈ jt := jt_in (by decide +kernel)
theorem kc_X7 : jcl 6 RX7 TX7 55 tyX7 := ⟨rfl, by decide, ku_X7, tyX7_ok, nmX7⟩
theorem kfw_X2_9 : Cond.fieldLink RX2 9 "BarSteps$Pulses" "cell" "[I" ∈ jt := jt_at1 (i := 35) rfl rfl
theorem kf_X2_9 : jf RX2 9 1 0 (.array .int) true := ⟨RX2, TX2, 4, tyX2, kc_X2, by decide, kfw_X2_9, rfl, rfl, rfl⟩
theorem kfw_X6_227 : Cond.fieldLink RX6 227 "BarSteps$Pulses" "cell" "[I" ∈ jt := jt_at1 (i := 36) rfl rfl
theorem kf_X6_227 : jf RX6 227 1 0 (.array .int) true := ⟨RX2, TX2, 4, tyX2, kc_X2, by decide, kfw_X6_227, rfl, rfl, rfl⟩
theorem kfw_X2_15 : Cond.fieldLink RX2 15 "BarSteps$Pulses" "due" "[I" ∈ jt := jt_at1 (i := 37) rfl rfl
theorem kf_X2_15 : jf RX2 15 1 1 (.array .int) true := ⟨RX2, TX2, 4, tyX2, kc_X2, by decide, kfw_X2_15, rfl, rfl, rfl⟩
theorem kfw_X6_230 : Cond.fieldLink RX6 230 "BarSteps$Pulses" "due" "[I" ∈ jt := jt_at1 (i := 38) rfl rfl
theorem kf_X6_230 : jf RX6 230 1 1 (.array .int) true := ⟨RX2, TX2, 4, tyX2, kc_X2, by decide, kfw_X6_230, rfl, rfl, rfl⟩
theorem kfw_X2_18 : Cond.fieldLink RX2 18 "BarSteps$Pulses" "heat" "[I" ∈ jt := jt_at1 (i := 39) rfl rfl
theorem kf_X2_18 : jf RX2 18 1 2 (.array .int) true := ⟨RX2, TX2, 4, tyX2, kc_X2, by decide, kfw_X2_18, rfl, rfl, rfl⟩
theorem kfw_X6_233 : Cond.fieldLink RX6 233 "BarSteps$Pulses" "heat" "[I" ∈ jt := jt_at1 (i := 40) rfl rfl
theorem kf_X6_233 : jf RX6 233 1 2 (.array .int) true := ⟨RX2, TX2, 4, tyX2, kc_X2, by decide, kfw_X6_233, rfl, rfl, rfl⟩
theorem kfw_X2_21 : Cond.fieldLink RX2 21 "BarSteps$Pulses" "size" "I" ∈ jt := jt_at1 (i := 41) rfl rfl
theorem kf_X2_21 : jf RX2 21 1 3 (.int) false := ⟨RX2, TX2, 4, tyX2, kc_X2, by decide, kfw_X2_21, rfl, rfl, rfl⟩
theorem kfw_X6_224 : Cond.fieldLink RX6 224 "BarSteps$Pulses" "size" "I" ∈ jt := jt_at1 (i := 42) rfl rfl
theorem kf_X6_224 : jf RX6 224 1 3 (.int) false := ⟨RX2, TX2, 4, tyX2, kc_X2, by decide, kfw_X6_224, rfl, rfl, rfl⟩
theorem kfw_X0_9 : Cond.fieldLink RX0 9 "BarSteps$Bar" "cells" "I" ∈ jt := jt_at1 (i := 54) rfl rfl
theorem kf_X0_9 : jf RX0 9 0 0 (.int) false := ⟨RX0, TX0, 15, tyX0, kc_X0, by decide, kfw_X0_9, rfl, rfl, rfl⟩
theorem kfw_X4_31 : Cond.fieldLink RX4 31 "BarSteps$Bar" "cells" "I" ∈ jt := jt_at1 (i := 55) rfl rfl
theorem kf_X4_31 : jf RX4 31 0 0 (.int) false := ⟨RX0, TX0, 15, tyX0, kc_X0, by decide, kfw_X4_31, rfl, rfl, rfl⟩
theorem kfw_X6_70 : Cond.fieldLink RX6 70 "BarSteps$Bar" "cells" "I" ∈ jt := jt_at1 (i := 56) rfl rfl
theorem kf_X6_70 : jf RX6 70 0 0 (.int) false := ⟨RX0, TX0, 15, tyX0, kc_X0, by decide, kfw_X6_70, rfl, rfl, rfl⟩
theorem kfw_X0_15 : Cond.fieldLink RX0 15 "BarSteps$Bar" "kind" "[I" ∈ jt := jt_at1 (i := 57) rfl rfl
theorem kf_X0_15 : jf RX0 15 0 1 (.array .int) true := ⟨RX0, TX0, 15, tyX0, kc_X0, by decide, kfw_X0_15, rfl, rfl, rfl⟩
theorem kfw_X6_100 : Cond.fieldLink RX6 100 "BarSteps$Bar" "kind" "[I" ∈ jt := jt_at1 (i := 58) rfl rfl
theorem kf_X6_100 : jf RX6 100 0 1 (.array .int) true := ⟨RX0, TX0, 15, tyX0, kc_X0, by decide, kfw_X6_100, rfl, rfl, rfl⟩
theorem kfw_X0_19 : Cond.fieldLink RX0 19 "BarSteps$Bar" "k" "[I" ∈ jt := jt_at1 (i := 59) rfl rfl
theorem kf_X0_19 : jf RX0 19 0 2 (.array .int) true := ⟨RX0, TX0, 15, tyX0, kc_X0, by decide, kfw_X0_19, rfl, rfl, rfl⟩
theorem kfw_X6_103 : Cond.fieldLink RX6 103 "BarSteps$Bar" "k" "[I" ∈ jt := jt_at1 (i := 60) rfl rfl
theorem kf_X6_103 : jf RX6 103 0 2 (.array .int) true := ⟨RX0, TX0, 15, tyX0, kc_X0, by decide, kfw_X6_103, rfl, rfl, rfl⟩
theorem kfw_X0_22 : Cond.fieldLink RX0 22 "BarSteps$Bar" "c" "[I" ∈ jt := jt_at1 (i := 61) rfl rfl
theorem kf_X0_22 : jf RX0 22 0 3 (.array .int) true := ⟨RX0, TX0, 15, tyX0, kc_X0, by decide, kfw_X0_22, rfl, rfl, rfl⟩
theorem kfw_X6_106 : Cond.fieldLink RX6 106 "BarSteps$Bar" "c" "[I" ∈ jt := jt_at1 (i := 62) rfl rfl
theorem kf_X6_106 : jf RX6 106 0 3 (.array .int) true := ⟨RX0, TX0, 15, tyX0, kc_X0, by decide, kfw_X6_106, rfl, rfl, rfl⟩
theorem kfw_X0_25 : Cond.fieldLink RX0 25 "BarSteps$Bar" "source" "[I" ∈ jt := jt_at1 (i := 63) rfl rfl
theorem kf_X0_25 : jf RX0 25 0 4 (.array .int) true := ⟨RX0, TX0, 15, tyX0, kc_X0, by decide, kfw_X0_25, rfl, rfl, rfl⟩
theorem kfw_X6_109 : Cond.fieldLink RX6 109 "BarSteps$Bar" "source" "[I" ∈ jt := jt_at1 (i := 64) rfl rfl
theorem kf_X6_109 : jf RX6 109 0 4 (.array .int) true := ⟨RX0, TX0, 15, tyX0, kc_X0, by decide, kfw_X6_109, rfl, rfl, rfl⟩
theorem kfw_X0_28 : Cond.fieldLink RX0 28 "BarSteps$Bar" "side" "[I" ∈ jt := jt_at1 (i := 65) rfl rfl
theorem kf_X0_28 : jf RX0 28 0 5 (.array .int) true := ⟨RX0, TX0, 15, tyX0, kc_X0, by decide, kfw_X0_28, rfl, rfl, rfl⟩
theorem kfw_X6_112 : Cond.fieldLink RX6 112 "BarSteps$Bar" "side" "[I" ∈ jt := jt_at1 (i := 66) rfl rfl
theorem kf_X6_112 : jf RX6 112 0 5 (.array .int) true := ⟨RX0, TX0, 15, tyX0, kc_X0, by decide, kfw_X6_112, rfl, rfl, rfl⟩
theorem kfw_X0_31 : Cond.fieldLink RX0 31 "BarSteps$Bar" "holds" "[I" ∈ jt := jt_at1 (i := 67) rfl rfl
theorem kf_X0_31 : jf RX0 31 0 6 (.array .int) true := ⟨RX0, TX0, 15, tyX0, kc_X0, by decide, kfw_X0_31, rfl, rfl, rfl⟩
theorem kfw_X6_115 : Cond.fieldLink RX6 115 "BarSteps$Bar" "holds" "[I" ∈ jt := jt_at1 (i := 68) rfl rfl
theorem kf_X6_115 : jf RX6 115 0 6 (.array .int) true := ⟨RX0, TX0, 15, tyX0, kc_X0, by decide, kfw_X6_115, rfl, rfl, rfl⟩
theorem kfw_X0_34 : Cond.fieldLink RX0 34 "BarSteps$Bar" "fin" "[I" ∈ jt := jt_at1 (i := 69) rfl rfl
theorem kf_X0_34 : jf RX0 34 0 7 (.array .int) true := ⟨RX0, TX0, 15, tyX0, kc_X0, by decide, kfw_X0_34, rfl, rfl, rfl⟩
theorem kfw_X6_118 : Cond.fieldLink RX6 118 "BarSteps$Bar" "fin" "[I" ∈ jt := jt_at1 (i := 70) rfl rfl
theorem kf_X6_118 : jf RX6 118 0 7 (.array .int) true := ⟨RX0, TX0, 15, tyX0, kc_X0, by decide, kfw_X6_118, rfl, rfl, rfl⟩
theorem kfw_X0_37 : Cond.fieldLink RX0 37 "BarSteps$Bar" "above" "[J" ∈ jt := jt_at1 (i := 71) rfl rfl
theorem kf_X0_37 : jf RX0 37 0 8 (.array .long) true := ⟨RX0, TX0, 15, tyX0, kc_X0, by decide, kfw_X0_37, rfl, rfl, rfl⟩
theorem kfw_X6_152 : Cond.fieldLink RX6 152 "BarSteps$Bar" "above" "[J" ∈ jt := jt_at1 (i := 72) rfl rfl
theorem kf_X6_152 : jf RX6 152 0 8 (.array .long) true := ⟨RX0, TX0, 15, tyX0, kc_X0, by decide, kfw_X6_152, rfl, rfl, rfl⟩
theorem kfw_X0_41 : Cond.fieldLink RX0 41 "BarSteps$Bar" "below" "J" ∈ jt := jt_at1 (i := 73) rfl rfl
theorem kf_X0_41 : jf RX0 41 0 9 (.long) false := ⟨RX0, TX0, 15, tyX0, kc_X0, by decide, kfw_X0_41, rfl, rfl, rfl⟩
theorem kfw_X6_156 : Cond.fieldLink RX6 156 "BarSteps$Bar" "below" "J" ∈ jt := jt_at1 (i := 74) rfl rfl
theorem kf_X6_156 : jf RX6 156 0 9 (.long) false := ⟨RX0, TX0, 15, tyX0, kc_X0, by decide, kfw_X6_156, rfl, rfl, rfl⟩
theorem kfw_X0_45 : Cond.fieldLink RX0 45 "BarSteps$Bar" "ends" "[I" ∈ jt := jt_at1 (i := 75) rfl rfl
theorem kf_X0_45 : jf RX0 45 0 10 (.array .int) true := ⟨RX0, TX0, 15, tyX0, kc_X0, by decide, kfw_X0_45, rfl, rfl, rfl⟩
theorem kfw_X6_141 : Cond.fieldLink RX6 141 "BarSteps$Bar" "ends" "[I" ∈ jt := jt_at1 (i := 76) rfl rfl
theorem kf_X6_141 : jf RX6 141 0 10 (.array .int) true := ⟨RX0, TX0, 15, tyX0, kc_X0, by decide, kfw_X6_141, rfl, rfl, rfl⟩
theorem kfw_X0_48 : Cond.fieldLink RX0 48 "BarSteps$Bar" "fine" "I" ∈ jt := jt_at1 (i := 77) rfl rfl
theorem kf_X0_48 : jf RX0 48 0 11 (.int) false := ⟨RX0, TX0, 15, tyX0, kc_X0, by decide, kfw_X0_48, rfl, rfl, rfl⟩
theorem kfw_X6_144 : Cond.fieldLink RX6 144 "BarSteps$Bar" "fine" "I" ∈ jt := jt_at1 (i := 78) rfl rfl
theorem kf_X6_144 : jf RX6 144 0 11 (.int) false := ⟨RX0, TX0, 15, tyX0, kc_X0, by decide, kfw_X6_144, rfl, rfl, rfl⟩
theorem kfw_X0_51 : Cond.fieldLink RX0 51 "BarSteps$Bar" "air" "I" ∈ jt := jt_at1 (i := 79) rfl rfl
theorem kf_X0_51 : jf RX0 51 0 12 (.int) false := ⟨RX0, TX0, 15, tyX0, kc_X0, by decide, kfw_X0_51, rfl, rfl, rfl⟩
theorem kfw_X6_147 : Cond.fieldLink RX6 147 "BarSteps$Bar" "air" "I" ∈ jt := jt_at1 (i := 80) rfl rfl
theorem kf_X6_147 : jf RX6 147 0 12 (.int) false := ⟨RX0, TX0, 15, tyX0, kc_X0, by decide, kfw_X6_147, rfl, rfl, rfl⟩
theorem kfw_X0_57 : Cond.fieldLink RX0 57 "BarSteps$Bar" "pulses" "LBarSteps$Pulses;" ∈ jt := jt_at1 (i := 81) rfl rfl
theorem kf_X0_57 : jf RX0 57 0 13 (.object "BarSteps$Pulses") true := ⟨RX0, TX0, 15, tyX0, kc_X0, by decide, kfw_X0_57, rfl, rfl, rfl⟩
theorem kfw_X6_215 : Cond.fieldLink RX6 215 "BarSteps$Bar" "pulses" "LBarSteps$Pulses;" ∈ jt := jt_at1 (i := 82) rfl rfl
theorem kf_X6_215 : jf RX6 215 0 13 (.object "BarSteps$Pulses") true := ⟨RX0, TX0, 15, tyX0, kc_X0, by decide, kfw_X6_215, rfl, rfl, rfl⟩
theorem kfw_X0_61 : Cond.fieldLink RX0 61 "BarSteps$Bar" "next" "[J" ∈ jt := jt_at1 (i := 83) rfl rfl
theorem kf_X0_61 : jf RX0 61 0 14 (.array .long) true := ⟨RX0, TX0, 15, tyX0, kc_X0, by decide, kfw_X0_61, rfl, rfl, rfl⟩
theorem kfw_X4_9 : Cond.fieldLink RX4 9 "BarSteps$Steady" "above" "[J" ∈ jt := jt_at1 (i := 121) rfl rfl
theorem kf_X4_9 : jf RX4 9 3 0 (.array .long) true := ⟨RX4, TX4, 6, tyX4, kc_X4, by decide, kfw_X4_9, rfl, rfl, rfl⟩
theorem kfw_X6_246 : Cond.fieldLink RX6 246 "BarSteps$Steady" "above" "[J" ∈ jt := jt_at1 (i := 122) rfl rfl
theorem kf_X6_246 : jf RX6 246 3 0 (.array .long) true := ⟨RX4, TX4, 6, tyX4, kc_X4, by decide, kfw_X6_246, rfl, rfl, rfl⟩
theorem kfw_X4_15 : Cond.fieldLink RX4 15 "BarSteps$Steady" "below" "J" ∈ jt := jt_at1 (i := 123) rfl rfl
theorem kf_X4_15 : jf RX4 15 3 1 (.long) false := ⟨RX4, TX4, 6, tyX4, kc_X4, by decide, kfw_X4_15, rfl, rfl, rfl⟩
theorem kfw_X6_247 : Cond.fieldLink RX6 247 "BarSteps$Steady" "below" "J" ∈ jt := jt_at1 (i := 124) rfl rfl
theorem kf_X6_247 : jf RX6 247 3 1 (.long) false := ⟨RX4, TX4, 6, tyX4, kc_X4, by decide, kfw_X6_247, rfl, rfl, rfl⟩
theorem kfw_X4_19 : Cond.fieldLink RX4 19 "BarSteps$Steady" "ahead" "[J" ∈ jt := jt_at1 (i := 125) rfl rfl
theorem kf_X4_19 : jf RX4 19 3 2 (.array .long) true := ⟨RX4, TX4, 6, tyX4, kc_X4, by decide, kfw_X4_19, rfl, rfl, rfl⟩
theorem kfw_X4_22 : Cond.fieldLink RX4 22 "BarSteps$Steady" "onward" "[J" ∈ jt := jt_at1 (i := 126) rfl rfl
theorem kf_X4_22 : jf RX4 22 3 3 (.array .long) true := ⟨RX4, TX4, 6, tyX4, kc_X4, by decide, kfw_X4_22, rfl, rfl, rfl⟩
theorem kfw_X4_25 : Cond.fieldLink RX4 25 "BarSteps$Steady" "fromLeft" "[J" ∈ jt := jt_at1 (i := 127) rfl rfl
theorem kf_X4_25 : jf RX4 25 3 4 (.array .long) true := ⟨RX4, TX4, 6, tyX4, kc_X4, by decide, kfw_X4_25, rfl, rfl, rfl⟩
theorem kfw_X4_28 : Cond.fieldLink RX4 28 "BarSteps$Steady" "fromRight" "[J" ∈ jt := jt_at1 (i := 128) rfl rfl
theorem kf_X4_28 : jf RX4 28 3 5 (.array .long) true := ⟨RX4, TX4, 6, tyX4, kc_X4, by decide, kfw_X4_28, rfl, rfl, rfl⟩
theorem kfw_X3_9 : Cond.fieldLink RX3 9 "BarSteps$Sheets" "sort" "[I" ∈ jt := jt_at1 (i := 150) rfl rfl
theorem kf_X3_9 : jf RX3 9 2 0 (.array .int) true := ⟨RX3, TX3, 3, tyX3, kc_X3, by decide, kfw_X3_9, rfl, rfl, rfl⟩
theorem kfw_X6_356 : Cond.fieldLink RX6 356 "BarSteps$Sheets" "sort" "[I" ∈ jt := jt_at1 (i := 151) rfl rfl
theorem kf_X6_356 : jf RX6 356 2 0 (.array .int) true := ⟨RX3, TX3, 3, tyX3, kc_X3, by decide, kfw_X6_356, rfl, rfl, rfl⟩
theorem kfw_X3_15 : Cond.fieldLink RX3 15 "BarSteps$Sheets" "size" "[I" ∈ jt := jt_at1 (i := 152) rfl rfl
theorem kf_X3_15 : jf RX3 15 2 1 (.array .int) true := ⟨RX3, TX3, 3, tyX3, kc_X3, by decide, kfw_X3_15, rfl, rfl, rfl⟩
theorem kfw_X6_266 : Cond.fieldLink RX6 266 "BarSteps$Sheets" "size" "[I" ∈ jt := jt_at1 (i := 153) rfl rfl
theorem kf_X6_266 : jf RX6 266 2 1 (.array .int) true := ⟨RX3, TX3, 3, tyX3, kc_X3, by decide, kfw_X6_266, rfl, rfl, rfl⟩
theorem kfw_X3_20 : Cond.fieldLink RX3 20 "BarSteps$Sheets" "items" "[[I" ∈ jt := jt_at1 (i := 154) rfl rfl
theorem kf_X3_20 : jf RX3 20 2 2 (.array (.array .int)) true := ⟨RX3, TX3, 3, tyX3, kc_X3, by decide, kfw_X3_20, rfl, rfl, rfl⟩
theorem kfw_X6_280 : Cond.fieldLink RX6 280 "BarSteps$Sheets" "items" "[[I" ∈ jt := jt_at1 (i := 155) rfl rfl
theorem kf_X6_280 : jf RX6 280 2 2 (.array (.array .int)) true := ⟨RX3, TX3, 3, tyX3, kc_X3, by decide, kfw_X6_280, rfl, rfl, rfl⟩
theorem kfw_X5_9 : Cond.fieldLink RX5 9 "BarSteps$Tape" "bytes" "[I" ∈ jt := jt_at1 (i := 169) rfl rfl
theorem kf_X5_9 : jf RX5 9 4 0 (.array .int) true := ⟨RX5, TX5, 5, tyX5, kc_X5, by decide, kfw_X5_9, rfl, rfl, rfl⟩
theorem kfw_X5_15 : Cond.fieldLink RX5 15 "BarSteps$Tape" "size" "I" ∈ jt := jt_at1 (i := 170) rfl rfl
theorem kf_X5_15 : jf RX5 15 4 1 (.int) false := ⟨RX5, TX5, 5, tyX5, kc_X5, by decide, kfw_X5_15, rfl, rfl, rfl⟩
theorem kfw_X6_316 : Cond.fieldLink RX6 316 "BarSteps$Tape" "size" "I" ∈ jt := jt_at1 (i := 171) rfl rfl
theorem kf_X6_316 : jf RX6 316 4 1 (.int) false := ⟨RX5, TX5, 5, tyX5, kc_X5, by decide, kfw_X6_316, rfl, rfl, rfl⟩
theorem kfw_X5_19 : Cond.fieldLink RX5 19 "BarSteps$Tape" "plan" "[I" ∈ jt := jt_at1 (i := 172) rfl rfl
theorem kf_X5_19 : jf RX5 19 4 2 (.array .int) true := ⟨RX5, TX5, 5, tyX5, kc_X5, by decide, kfw_X5_19, rfl, rfl, rfl⟩
theorem kfw_X5_22 : Cond.fieldLink RX5 22 "BarSteps$Tape" "planned" "I" ∈ jt := jt_at1 (i := 173) rfl rfl
theorem kf_X5_22 : jf RX5 22 4 3 (.int) false := ⟨RX5, TX5, 5, tyX5, kc_X5, by decide, kfw_X5_22, rfl, rfl, rfl⟩
theorem kfw_X6_325 : Cond.fieldLink RX6 325 "BarSteps$Tape" "planned" "I" ∈ jt := jt_at1 (i := 174) rfl rfl
theorem kf_X6_325 : jf RX6 325 4 3 (.int) false := ⟨RX5, TX5, 5, tyX5, kc_X5, by decide, kfw_X6_325, rfl, rfl, rfl⟩
theorem kfw_X5_25 : Cond.fieldLink RX5 25 "BarSteps$Tape" "at" "I" ∈ jt := jt_at1 (i := 175) rfl rfl
theorem kf_X5_25 : jf RX5 25 4 4 (.int) false := ⟨RX5, TX5, 5, tyX5, kc_X5, by decide, kfw_X5_25, rfl, rfl, rfl⟩
theorem kfw_X6_12 : Cond.fieldLink RX6 12 "BarSteps" "bar" "LBarSteps$Bar;" ∈ jt := jt_at1 (i := 187) rfl rfl
theorem kf_X6_12 : jf RX6 12 5 0 (.object "BarSteps$Bar") true := ⟨RX6, TX6, 8, tyX6, kc_X6, by decide, kfw_X6_12, rfl, rfl, rfl⟩
theorem kfw_X6_18 : Cond.fieldLink RX6 18 "BarSteps" "thought" "LBarSteps$Bar;" ∈ jt := jt_at1 (i := 188) rfl rfl
theorem kf_X6_18 : jf RX6 18 5 1 (.object "BarSteps$Bar") true := ⟨RX6, TX6, 8, tyX6, kc_X6, by decide, kfw_X6_18, rfl, rfl, rfl⟩
theorem kfw_X6_21 : Cond.fieldLink RX6 21 "BarSteps" "kept" "LBarSteps$Bar;" ∈ jt := jt_at1 (i := 189) rfl rfl
theorem kf_X6_21 : jf RX6 21 5 2 (.object "BarSteps$Bar") true := ⟨RX6, TX6, 8, tyX6, kc_X6, by decide, kfw_X6_21, rfl, rfl, rfl⟩
theorem kfw_X6_27 : Cond.fieldLink RX6 27 "BarSteps" "rest" "LBarSteps$Steady;" ∈ jt := jt_at1 (i := 190) rfl rfl
theorem kf_X6_27 : jf RX6 27 5 3 (.object "BarSteps$Steady") true := ⟨RX6, TX6, 8, tyX6, kc_X6, by decide, kfw_X6_27, rfl, rfl, rfl⟩
theorem kfw_X6_34 : Cond.fieldLink RX6 34 "BarSteps" "sheets" "LBarSteps$Sheets;" ∈ jt := jt_at1 (i := 191) rfl rfl
theorem kf_X6_34 : jf RX6 34 5 4 (.object "BarSteps$Sheets") true := ⟨RX6, TX6, 8, tyX6, kc_X6, by decide, kfw_X6_34, rfl, rfl, rfl⟩
theorem kfw_X6_41 : Cond.fieldLink RX6 41 "BarSteps" "tape" "LBarSteps$Tape;" ∈ jt := jt_at1 (i := 192) rfl rfl
theorem kf_X6_41 : jf RX6 41 5 5 (.object "BarSteps$Tape") true := ⟨RX6, TX6, 8, tyX6, kc_X6, by decide, kfw_X6_41, rfl, rfl, rfl⟩
theorem kfw_X6_45 : Cond.fieldLink RX6 45 "BarSteps" "filmed" "[I" ∈ jt := jt_at1 (i := 193) rfl rfl
theorem kf_X6_45 : jf RX6 45 5 6 (.array .int) true := ⟨RX6, TX6, 8, tyX6, kc_X6, by decide, kfw_X6_45, rfl, rfl, rfl⟩
theorem kfw_X6_49 : Cond.fieldLink RX6 49 "BarSteps" "hasImage" "Z" ∈ jt := jt_at1 (i := 194) rfl rfl
theorem kf_X6_49 : jf RX6 49 5 7 (.boolean) false := ⟨RX6, TX6, 8, tyX6, kc_X6, by decide, kfw_X6_49, rfl, rfl, rfl⟩
theorem kfj_J0_38 : Cond.fieldLink RJ0 38 "java/lang/String" "COMPACT_STRINGS" "Z" ∈ jt := jt_at3 (i := 200) rfl rfl
theorem kfj_J0_1053 : Cond.fieldLink RJ0 1053 "jdk/internal/util/Preconditions" "SIOOBE_FORMATTER" "Ljava/util/function/BiFunction;" ∈ jt := jt_at3 (i := 216) rfl rfl
theorem kfj_J2_44 : Cond.fieldLink RJ2 44 "java/lang/StringUTF16" "$assertionsDisabled" "Z" ∈ jt := jt_at3 (i := 234) rfl rfl
theorem kfj_J2_59 : Cond.fieldLink RJ2 59 "java/lang/StringUTF16" "HI_BYTE_SHIFT" "I" ∈ jt := jt_at3 (i := 236) rfl rfl
theorem kfj_J2_63 : Cond.fieldLink RJ2 63 "java/lang/StringUTF16" "LO_BYTE_SHIFT" "I" ∈ jt := jt_at3 (i := 238) rfl rfl
theorem kfw_X7_129 : Cond.fieldLink RX7 129 "BarStepsModel" "many" "I" ∈ jt := jt_at4 (i := 75) rfl rfl
theorem kf_X7_129 : jf RX7 129 6 0 (.int) false := ⟨RX7, TX7, 55, tyX7, kc_X7, by decide, kfw_X7_129, rfl, rfl, rfl⟩
theorem kfw_X7_11 : Cond.fieldLink RX7 11 "BarStepsModel" "kinds" "[I" ∈ jt := jt_at4 (i := 76) rfl rfl
theorem kf_X7_11 : jf RX7 11 6 1 (.array .int) true := ⟨RX7, TX7, 55, tyX7, kc_X7, by decide, kfw_X7_11, rfl, rfl, rfl⟩
theorem kfw_X7_15 : Cond.fieldLink RX7 15 "BarStepsModel" "ks" "[I" ∈ jt := jt_at4 (i := 77) rfl rfl
theorem kf_X7_15 : jf RX7 15 6 2 (.array .int) true := ⟨RX7, TX7, 55, tyX7, kc_X7, by decide, kfw_X7_15, rfl, rfl, rfl⟩
theorem kfw_X7_18 : Cond.fieldLink RX7 18 "BarStepsModel" "cs" "[I" ∈ jt := jt_at4 (i := 78) rfl rfl
theorem kf_X7_18 : jf RX7 18 6 3 (.array .int) true := ⟨RX7, TX7, 55, tyX7, kc_X7, by decide, kfw_X7_18, rfl, rfl, rfl⟩
theorem kfw_X7_21 : Cond.fieldLink RX7 21 "BarStepsModel" "sources" "[I" ∈ jt := jt_at4 (i := 79) rfl rfl
theorem kf_X7_21 : jf RX7 21 6 4 (.array .int) true := ⟨RX7, TX7, 55, tyX7, kc_X7, by decide, kfw_X7_21, rfl, rfl, rfl⟩
theorem kfw_X7_24 : Cond.fieldLink RX7 24 "BarStepsModel" "tops" "[J" ∈ jt := jt_at4 (i := 80) rfl rfl
theorem kf_X7_24 : jf RX7 24 6 5 (.array .long) true := ⟨RX7, TX7, 55, tyX7, kc_X7, by decide, kfw_X7_24, rfl, rfl, rfl⟩
theorem kfw_X7_28 : Cond.fieldLink RX7 28 "BarStepsModel" "line" "J" ∈ jt := jt_at4 (i := 81) rfl rfl
theorem kf_X7_28 : jf RX7 28 6 6 (.long) false := ⟨RX7, TX7, 55, tyX7, kc_X7, by decide, kfw_X7_28, rfl, rfl, rfl⟩
theorem kfw_X7_32 : Cond.fieldLink RX7 32 "BarStepsModel" "ends" "[I" ∈ jt := jt_at4 (i := 82) rfl rfl
theorem kf_X7_32 : jf RX7 32 6 7 (.array .int) true := ⟨RX7, TX7, 55, tyX7, kc_X7, by decide, kfw_X7_32, rfl, rfl, rfl⟩
theorem kfw_X7_35 : Cond.fieldLink RX7 35 "BarStepsModel" "rules" "[I" ∈ jt := jt_at4 (i := 83) rfl rfl
theorem kf_X7_35 : jf RX7 35 6 8 (.array .int) true := ⟨RX7, TX7, 55, tyX7, kc_X7, by decide, kfw_X7_35, rfl, rfl, rfl⟩
theorem kfw_X7_210 : Cond.fieldLink RX7 210 "BarStepsModel" "waiting" "I" ∈ jt := jt_at4 (i := 84) rfl rfl
theorem kf_X7_210 : jf RX7 210 6 9 (.int) false := ⟨RX7, TX7, 55, tyX7, kc_X7, by decide, kfw_X7_210, rfl, rfl, rfl⟩
theorem kfw_X7_38 : Cond.fieldLink RX7 38 "BarStepsModel" "whose" "[I" ∈ jt := jt_at4 (i := 85) rfl rfl
theorem kf_X7_38 : jf RX7 38 6 10 (.array .int) true := ⟨RX7, TX7, 55, tyX7, kc_X7, by decide, kfw_X7_38, rfl, rfl, rfl⟩
theorem kfw_X7_41 : Cond.fieldLink RX7 41 "BarStepsModel" "dues" "[I" ∈ jt := jt_at4 (i := 86) rfl rfl
theorem kf_X7_41 : jf RX7 41 6 11 (.array .int) true := ⟨RX7, TX7, 55, tyX7, kc_X7, by decide, kfw_X7_41, rfl, rfl, rfl⟩
theorem kfw_X7_44 : Cond.fieldLink RX7 44 "BarStepsModel" "heats" "[I" ∈ jt := jt_at4 (i := 87) rfl rfl
theorem kf_X7_44 : jf RX7 44 6 12 (.array .int) true := ⟨RX7, TX7, 55, tyX7, kc_X7, by decide, kfw_X7_44, rfl, rfl, rfl⟩
theorem kfw_X7_47 : Cond.fieldLink RX7 47 "BarStepsModel" "mind" "[J" ∈ jt := jt_at4 (i := 88) rfl rfl
theorem kf_X7_47 : jf RX7 47 6 13 (.array .long) true := ⟨RX7, TX7, 55, tyX7, kc_X7, by decide, kfw_X7_47, rfl, rfl, rfl⟩
theorem kfw_X7_207 : Cond.fieldLink RX7 207 "BarStepsModel" "mindLine" "J" ∈ jt := jt_at4 (i := 89) rfl rfl
theorem kf_X7_207 : jf RX7 207 6 14 (.long) false := ⟨RX7, TX7, 55, tyX7, kc_X7, by decide, kfw_X7_207, rfl, rfl, rfl⟩
theorem kfw_X7_213 : Cond.fieldLink RX7 213 "BarStepsModel" "minded" "I" ∈ jt := jt_at4 (i := 90) rfl rfl
theorem kf_X7_213 : jf RX7 213 6 15 (.int) false := ⟨RX7, TX7, 55, tyX7, kc_X7, by decide, kfw_X7_213, rfl, rfl, rfl⟩
theorem kfw_X7_50 : Cond.fieldLink RX7 50 "BarStepsModel" "mindWhose" "[I" ∈ jt := jt_at4 (i := 91) rfl rfl
theorem kf_X7_50 : jf RX7 50 6 16 (.array .int) true := ⟨RX7, TX7, 55, tyX7, kc_X7, by decide, kfw_X7_50, rfl, rfl, rfl⟩
theorem kfw_X7_53 : Cond.fieldLink RX7 53 "BarStepsModel" "mindDues" "[I" ∈ jt := jt_at4 (i := 92) rfl rfl
theorem kf_X7_53 : jf RX7 53 6 17 (.array .int) true := ⟨RX7, TX7, 55, tyX7, kc_X7, by decide, kfw_X7_53, rfl, rfl, rfl⟩
theorem kfw_X7_56 : Cond.fieldLink RX7 56 "BarStepsModel" "mindHeats" "[I" ∈ jt := jt_at4 (i := 93) rfl rfl
theorem kf_X7_56 : jf RX7 56 6 18 (.array .int) true := ⟨RX7, TX7, 55, tyX7, kc_X7, by decide, kfw_X7_56, rfl, rfl, rfl⟩
theorem kfw_X7_59 : Cond.fieldLink RX7 59 "BarStepsModel" "next" "[J" ∈ jt := jt_at4 (i := 94) rfl rfl
theorem kf_X7_59 : jf RX7 59 6 19 (.array .long) true := ⟨RX7, TX7, 55, tyX7, kc_X7, by decide, kfw_X7_59, rfl, rfl, rfl⟩
theorem kfw_X7_227 : Cond.fieldLink RX7 227 "BarStepsModel" "large" "I" ∈ jt := jt_at4 (i := 95) rfl rfl
theorem kf_X7_227 : jf RX7 227 6 20 (.int) false := ⟨RX7, TX7, 55, tyX7, kc_X7, by decide, kfw_X7_227, rfl, rfl, rfl⟩
theorem kfw_X7_62 : Cond.fieldLink RX7 62 "BarStepsModel" "ahead" "[J" ∈ jt := jt_at4 (i := 96) rfl rfl
theorem kf_X7_62 : jf RX7 62 6 21 (.array .long) true := ⟨RX7, TX7, 55, tyX7, kc_X7, by decide, kfw_X7_62, rfl, rfl, rfl⟩
theorem kfw_X7_65 : Cond.fieldLink RX7 65 "BarStepsModel" "behind" "[J" ∈ jt := jt_at4 (i := 97) rfl rfl
theorem kf_X7_65 : jf RX7 65 6 22 (.array .long) true := ⟨RX7, TX7, 55, tyX7, kc_X7, by decide, kfw_X7_65, rfl, rfl, rfl⟩
theorem kfw_X7_68 : Cond.fieldLink RX7 68 "BarStepsModel" "steady" "[J" ∈ jt := jt_at4 (i := 98) rfl rfl
theorem kf_X7_68 : jf RX7 68 6 23 (.array .long) true := ⟨RX7, TX7, 55, tyX7, kc_X7, by decide, kfw_X7_68, rfl, rfl, rfl⟩
theorem kfw_X7_282 : Cond.fieldLink RX7 282 "BarStepsModel" "whole" "J" ∈ jt := jt_at4 (i := 99) rfl rfl
theorem kf_X7_282 : jf RX7 282 6 24 (.long) false := ⟨RX7, TX7, 55, tyX7, kc_X7, by decide, kfw_X7_282, rfl, rfl, rfl⟩
theorem kfw_X7_71 : Cond.fieldLink RX7 71 "BarStepsModel" "films" "[I" ∈ jt := jt_at4 (i := 100) rfl rfl
theorem kf_X7_71 : jf RX7 71 6 25 (.array .int) true := ⟨RX7, TX7, 55, tyX7, kc_X7, by decide, kfw_X7_71, rfl, rfl, rfl⟩
theorem kfw_X7_74 : Cond.fieldLink RX7 74 "BarStepsModel" "words" "[C" ∈ jt := jt_at4 (i := 101) rfl rfl
theorem kf_X7_74 : jf RX7 74 6 26 (.array .char) true := ⟨RX7, TX7, 55, tyX7, kc_X7, by decide, kfw_X7_74, rfl, rfl, rfl⟩
theorem kfw_X7_78 : Cond.fieldLink RX7 78 "BarStepsModel" "numbers" "[I" ∈ jt := jt_at4 (i := 102) rfl rfl
theorem kf_X7_78 : jf RX7 78 6 27 (.array .int) true := ⟨RX7, TX7, 55, tyX7, kc_X7, by decide, kfw_X7_78, rfl, rfl, rfl⟩
theorem kfw_X7_81 : Cond.fieldLink RX7 81 "BarStepsModel" "tape" "[I" ∈ jt := jt_at4 (i := 103) rfl rfl
theorem kf_X7_81 : jf RX7 81 6 28 (.array .int) true := ⟨RX7, TX7, 55, tyX7, kc_X7, by decide, kfw_X7_81, rfl, rfl, rfl⟩
theorem kfw_X7_308 : Cond.fieldLink RX7 308 "BarStepsModel" "taped" "I" ∈ jt := jt_at4 (i := 104) rfl rfl
theorem kf_X7_308 : jf RX7 308 6 29 (.int) false := ⟨RX7, TX7, 55, tyX7, kc_X7, by decide, kfw_X7_308, rfl, rfl, rfl⟩
theorem kfw_X7_311 : Cond.fieldLink RX7 311 "BarStepsModel" "size" "I" ∈ jt := jt_at4 (i := 105) rfl rfl
theorem kf_X7_311 : jf RX7 311 6 30 (.int) false := ⟨RX7, TX7, 55, tyX7, kc_X7, by decide, kfw_X7_311, rfl, rfl, rfl⟩
theorem kfw_X7_322 : Cond.fieldLink RX7 322 "BarStepsModel" "at" "I" ∈ jt := jt_at4 (i := 106) rfl rfl
theorem kf_X7_322 : jf RX7 322 6 31 (.int) false := ⟨RX7, TX7, 55, tyX7, kc_X7, by decide, kfw_X7_322, rfl, rfl, rfl⟩
theorem kfw_X7_331 : Cond.fieldLink RX7 331 "BarStepsModel" "from" "I" ∈ jt := jt_at4 (i := 107) rfl rfl
theorem kf_X7_331 : jf RX7 331 6 32 (.int) false := ⟨RX7, TX7, 55, tyX7, kc_X7, by decide, kfw_X7_331, rfl, rfl, rfl⟩
theorem kfw_X7_328 : Cond.fieldLink RX7 328 "BarStepsModel" "token" "I" ∈ jt := jt_at4 (i := 108) rfl rfl
theorem kf_X7_328 : jf RX7 328 6 33 (.int) false := ⟨RX7, TX7, 55, tyX7, kc_X7, by decide, kfw_X7_328, rfl, rfl, rfl⟩
theorem kfw_X7_334 : Cond.fieldLink RX7 334 "BarStepsModel" "value" "I" ∈ jt := jt_at4 (i := 109) rfl rfl
theorem kf_X7_334 : jf RX7 334 6 34 (.int) false := ⟨RX7, TX7, 55, tyX7, kc_X7, by decide, kfw_X7_334, rfl, rfl, rfl⟩
theorem kfw_X7_84 : Cond.fieldLink RX7 84 "BarStepsModel" "told" "[I" ∈ jt := jt_at4 (i := 110) rfl rfl
theorem kf_X7_84 : jf RX7 84 6 35 (.array .int) true := ⟨RX7, TX7, 55, tyX7, kc_X7, by decide, kfw_X7_84, rfl, rfl, rfl⟩
theorem kfw_X7_349 : Cond.fieldLink RX7 349 "BarStepsModel" "clauses" "I" ∈ jt := jt_at4 (i := 111) rfl rfl
theorem kf_X7_349 : jf RX7 349 6 36 (.int) false := ⟨RX7, TX7, 55, tyX7, kc_X7, by decide, kfw_X7_349, rfl, rfl, rfl⟩
theorem kfw_X7_386 : Cond.fieldLink RX7 386 "BarStepsModel" "isKept" "Z" ∈ jt := jt_at4 (i := 112) rfl rfl
theorem kf_X7_386 : jf RX7 386 6 37 (.boolean) false := ⟨RX7, TX7, 55, tyX7, kc_X7, by decide, kfw_X7_386, rfl, rfl, rfl⟩
theorem kfw_X7_390 : Cond.fieldLink RX7 390 "BarStepsModel" "keptMany" "I" ∈ jt := jt_at4 (i := 113) rfl rfl
theorem kf_X7_390 : jf RX7 390 6 38 (.int) false := ⟨RX7, TX7, 55, tyX7, kc_X7, by decide, kfw_X7_390, rfl, rfl, rfl⟩
theorem kfw_X7_87 : Cond.fieldLink RX7 87 "BarStepsModel" "keptKinds" "[I" ∈ jt := jt_at4 (i := 114) rfl rfl
theorem kf_X7_87 : jf RX7 87 6 39 (.array .int) true := ⟨RX7, TX7, 55, tyX7, kc_X7, by decide, kfw_X7_87, rfl, rfl, rfl⟩
theorem kfw_X7_90 : Cond.fieldLink RX7 90 "BarStepsModel" "keptKs" "[I" ∈ jt := jt_at4 (i := 115) rfl rfl
theorem kf_X7_90 : jf RX7 90 6 40 (.array .int) true := ⟨RX7, TX7, 55, tyX7, kc_X7, by decide, kfw_X7_90, rfl, rfl, rfl⟩
theorem kfw_X7_93 : Cond.fieldLink RX7 93 "BarStepsModel" "keptCs" "[I" ∈ jt := jt_at4 (i := 116) rfl rfl
theorem kf_X7_93 : jf RX7 93 6 41 (.array .int) true := ⟨RX7, TX7, 55, tyX7, kc_X7, by decide, kfw_X7_93, rfl, rfl, rfl⟩
theorem kfw_X7_96 : Cond.fieldLink RX7 96 "BarStepsModel" "keptSources" "[I" ∈ jt := jt_at4 (i := 117) rfl rfl
theorem kf_X7_96 : jf RX7 96 6 42 (.array .int) true := ⟨RX7, TX7, 55, tyX7, kc_X7, by decide, kfw_X7_96, rfl, rfl, rfl⟩
theorem kfw_X7_99 : Cond.fieldLink RX7 99 "BarStepsModel" "keptTops" "[J" ∈ jt := jt_at4 (i := 118) rfl rfl
theorem kf_X7_99 : jf RX7 99 6 43 (.array .long) true := ⟨RX7, TX7, 55, tyX7, kc_X7, by decide, kfw_X7_99, rfl, rfl, rfl⟩
theorem kfw_X7_393 : Cond.fieldLink RX7 393 "BarStepsModel" "keptLine" "J" ∈ jt := jt_at4 (i := 119) rfl rfl
theorem kf_X7_393 : jf RX7 393 6 44 (.long) false := ⟨RX7, TX7, 55, tyX7, kc_X7, by decide, kfw_X7_393, rfl, rfl, rfl⟩
theorem kfw_X7_102 : Cond.fieldLink RX7 102 "BarStepsModel" "keptEnds" "[I" ∈ jt := jt_at4 (i := 120) rfl rfl
theorem kf_X7_102 : jf RX7 102 6 45 (.array .int) true := ⟨RX7, TX7, 55, tyX7, kc_X7, by decide, kfw_X7_102, rfl, rfl, rfl⟩
theorem kfw_X7_105 : Cond.fieldLink RX7 105 "BarStepsModel" "keptRules" "[I" ∈ jt := jt_at4 (i := 121) rfl rfl
theorem kf_X7_105 : jf RX7 105 6 46 (.array .int) true := ⟨RX7, TX7, 55, tyX7, kc_X7, by decide, kfw_X7_105, rfl, rfl, rfl⟩
theorem kfw_X7_396 : Cond.fieldLink RX7 396 "BarStepsModel" "keptWaiting" "I" ∈ jt := jt_at4 (i := 122) rfl rfl
theorem kf_X7_396 : jf RX7 396 6 47 (.int) false := ⟨RX7, TX7, 55, tyX7, kc_X7, by decide, kfw_X7_396, rfl, rfl, rfl⟩
theorem kfw_X7_108 : Cond.fieldLink RX7 108 "BarStepsModel" "keptWhose" "[I" ∈ jt := jt_at4 (i := 123) rfl rfl
theorem kf_X7_108 : jf RX7 108 6 48 (.array .int) true := ⟨RX7, TX7, 55, tyX7, kc_X7, by decide, kfw_X7_108, rfl, rfl, rfl⟩
theorem kfw_X7_111 : Cond.fieldLink RX7 111 "BarStepsModel" "keptDues" "[I" ∈ jt := jt_at4 (i := 124) rfl rfl
theorem kf_X7_111 : jf RX7 111 6 49 (.array .int) true := ⟨RX7, TX7, 55, tyX7, kc_X7, by decide, kfw_X7_111, rfl, rfl, rfl⟩
theorem kfw_X7_114 : Cond.fieldLink RX7 114 "BarStepsModel" "keptHeats" "[I" ∈ jt := jt_at4 (i := 125) rfl rfl
theorem kf_X7_114 : jf RX7 114 6 50 (.array .int) true := ⟨RX7, TX7, 55, tyX7, kc_X7, by decide, kfw_X7_114, rfl, rfl, rfl⟩
theorem kfw_X7_117 : Cond.fieldLink RX7 117 "BarStepsModel" "sorts" "[I" ∈ jt := jt_at4 (i := 126) rfl rfl
theorem kf_X7_117 : jf RX7 117 6 51 (.array .int) true := ⟨RX7, TX7, 55, tyX7, kc_X7, by decide, kfw_X7_117, rfl, rfl, rfl⟩
theorem kfw_X7_120 : Cond.fieldLink RX7 120 "BarStepsModel" "sizes" "[I" ∈ jt := jt_at4 (i := 127) rfl rfl
theorem kf_X7_120 : jf RX7 120 6 52 (.array .int) true := ⟨RX7, TX7, 55, tyX7, kc_X7, by decide, kfw_X7_120, rfl, rfl, rfl⟩
theorem kfw_X7_123 : Cond.fieldLink RX7 123 "BarStepsModel" "items" "[I" ∈ jt := jt_at4 (i := 128) rfl rfl
theorem kf_X7_123 : jf RX7 123 6 53 (.array .int) true := ⟨RX7, TX7, 55, tyX7, kc_X7, by decide, kfw_X7_123, rfl, rfl, rfl⟩
theorem kfw_X7_126 : Cond.fieldLink RX7 126 "BarStepsModel" "moved" "[I" ∈ jt := jt_at4 (i := 129) rfl rfl
theorem kf_X7_126 : jf RX7 126 6 54 (.array .int) true := ⟨RX7, TX7, 55, tyX7, kc_X7, by decide, kfw_X7_126, rfl, rfl, rfl⟩
theorem kfj_J0_9 : Cond.fieldLink RJ0 9 "java/lang/String" "value" "[B" ∈ jt := jt_at6 (i := 120) rfl rfl
theorem kfj_J0_15 : Cond.fieldLink RJ0 15 "java/lang/String" "coder" "B" ∈ jt := jt_at6 (i := 121) rfl rfl
theorem kcw_X6_init : Cond.code yX6_init cX6_init 1 (none) ∈ jt := jt_at1 (i := 19) rfl rfl
theorem kci_X6_init : Cond.initialized yX6_init.cls ∈ jt := jt_at1 (i := 1) rfl rfl
theorem kc_X6_init : jsC yX6_init cX6_init 1 (none) 0 := ⟨kcw_X6_init, kci_X6_init, by decide +kernel, by decide +kernel, by decide +kernel⟩
theorem ki_X6_init : Cond.instanceMethod yX6_init ∈ jt := jt_at1 (i := 18) rfl rfl
theorem kcw_X0_init : Cond.code yX0_init cX0_init 1 (none) ∈ jt := jt_at1 (i := 27) rfl rfl
theorem kci_X0_init : Cond.initialized yX0_init.cls ∈ jt := jt_at1 (i := 2) rfl rfl
theorem kc_X0_init : jsC yX0_init cX0_init 1 (none) 0 := ⟨kcw_X0_init, kci_X0_init, by decide +kernel, by decide +kernel, by decide +kernel⟩
theorem ki_X0_init : Cond.instanceMethod yX0_init ∈ jt := jt_at1 (i := 26) rfl rfl
theorem kcw_X2_init : Cond.code yX2_init cX2_init 1 (none) ∈ jt := jt_at1 (i := 33) rfl rfl
theorem kci_X2_init : Cond.initialized yX2_init.cls ∈ jt := jt_at1 (i := 3) rfl rfl
theorem kc_X2_init : jsC yX2_init cX2_init 1 (none) 0 := ⟨kcw_X2_init, kci_X2_init, by decide +kernel, by decide +kernel, by decide +kernel⟩
theorem ki_X2_init : Cond.instanceMethod yX2_init ∈ jt := jt_at1 (i := 32) rfl rfl
theorem kcw_X4_init : Cond.code yX4_init cX4_init 1 (none) ∈ jt := jt_at1 (i := 119) rfl rfl
theorem kci_X4_init : Cond.initialized yX4_init.cls ∈ jt := jt_at1 (i := 4) rfl rfl
theorem kc_X4_init : jsC yX4_init cX4_init 1 (none) 0 := ⟨kcw_X4_init, kci_X4_init, by decide +kernel, by decide +kernel, by decide +kernel⟩
theorem ki_X4_init : Cond.instanceMethod yX4_init ∈ jt := jt_at1 (i := 118) rfl rfl
theorem kcw_X3_init : Cond.code yX3_init cX3_init 1 (none) ∈ jt := jt_at1 (i := 146) rfl rfl
theorem kci_X3_init : Cond.initialized yX3_init.cls ∈ jt := jt_at1 (i := 5) rfl rfl
theorem kc_X3_init : jsC yX3_init cX3_init 1 (none) 0 := ⟨kcw_X3_init, kci_X3_init, by decide +kernel, by decide +kernel, by decide +kernel⟩
theorem ki_X3_init : Cond.instanceMethod yX3_init ∈ jt := jt_at1 (i := 145) rfl rfl
theorem kcw_X5_init : Cond.code yX5_init cX5_init 1 (none) ∈ jt := jt_at1 (i := 167) rfl rfl
theorem kci_X5_init : Cond.initialized yX5_init.cls ∈ jt := jt_at1 (i := 6) rfl rfl
theorem kc_X5_init : jsC yX5_init cX5_init 1 (none) 0 := ⟨kcw_X5_init, kci_X5_init, by decide +kernel, by decide +kernel, by decide +kernel⟩
theorem ki_X5_init : Cond.instanceMethod yX5_init ∈ jt := jt_at1 (i := 166) rfl rfl
theorem kcw_X6_cell : Cond.code yX6_cell cX6_cell 6 (some .int) ∈ jt := jt_at1 (i := 215) rfl rfl
theorem kci_X6_cell : Cond.initialized yX6_cell.cls ∈ jt := jt_at1 (i := 1) rfl rfl
theorem kc_X6_cell : jsC yX6_cell cX6_cell 6 (some .int) 4 := ⟨kcw_X6_cell, kci_X6_cell, by decide +kernel, by decide +kernel, by decide +kernel⟩
theorem ki_X6_cell : Cond.instanceMethod yX6_cell ∈ jt := jt_at1 (i := 213) rfl rfl
theorem kv_X6_cell : Cond.selects yX6_cell.cls yX6_cell yX6_cell ∈ jt := jt_at1 (i := 214) rfl rfl
theorem kcw_X6_isKind : Cond.code yX6_isKind cX6_isKind 1 (some .boolean) ∈ jt := jt_at1 (i := 218) rfl rfl
theorem kci_X6_isKind : Cond.initialized yX6_isKind.cls ∈ jt := jt_at1 (i := 1) rfl rfl
theorem kc_X6_isKind : jsC yX6_isKind cX6_isKind 1 (some .boolean) 1 := ⟨kcw_X6_isKind, kci_X6_isKind, by decide +kernel, by decide +kernel, by decide +kernel⟩
theorem ks_X6_isKind : Cond.static yX6_isKind ∈ jt := jt_at1 (i := 217) rfl rfl
theorem kcw_X6_between : Cond.code yX6_between cX6_between 3 (some .boolean) ∈ jt := jt_at1 (i := 221) rfl rfl
theorem kci_X6_between : Cond.initialized yX6_between.cls ∈ jt := jt_at1 (i := 1) rfl rfl
theorem kc_X6_between : jsC yX6_between cX6_between 3 (some .boolean) 3 := ⟨kcw_X6_between, kci_X6_between, by decide +kernel, by decide +kernel, by decide +kernel⟩
theorem ks_X6_between : Cond.static yX6_between ∈ jt := jt_at1 (i := 220) rfl rfl
theorem kcw_X6_isK : Cond.code yX6_isK cX6_isK 1 (some .boolean) ∈ jt := jt_at1 (i := 224) rfl rfl
theorem kci_X6_isK : Cond.initialized yX6_isK.cls ∈ jt := jt_at1 (i := 1) rfl rfl
theorem kc_X6_isK : jsC yX6_isK cX6_isK 1 (some .boolean) 1 := ⟨kcw_X6_isK, kci_X6_isK, by decide +kernel, by decide +kernel, by decide +kernel⟩
theorem ks_X6_isK : Cond.static yX6_isK ∈ jt := jt_at1 (i := 223) rfl rfl
theorem kcw_X6_isC : Cond.code yX6_isC cX6_isC 1 (some .boolean) ∈ jt := jt_at1 (i := 227) rfl rfl
theorem kci_X6_isC : Cond.initialized yX6_isC.cls ∈ jt := jt_at1 (i := 1) rfl rfl
theorem kc_X6_isC : jsC yX6_isC cX6_isC 1 (some .boolean) 1 := ⟨kcw_X6_isC, kci_X6_isC, by decide +kernel, by decide +kernel, by decide +kernel⟩
theorem ks_X6_isC : Cond.static yX6_isC ∈ jt := jt_at1 (i := 226) rfl rfl
theorem kcw_X6_isHeat : Cond.code yX6_isHeat cX6_isHeat 1 (some .boolean) ∈ jt := jt_at1 (i := 230) rfl rfl
theorem kci_X6_isHeat : Cond.initialized yX6_isHeat.cls ∈ jt := jt_at1 (i := 1) rfl rfl
theorem kc_X6_isHeat : jsC yX6_isHeat cX6_isHeat 1 (some .boolean) 1 := ⟨kcw_X6_isHeat, kci_X6_isHeat, by decide +kernel, by decide +kernel, by decide +kernel⟩
theorem ks_X6_isHeat : Cond.static yX6_isHeat ∈ jt := jt_at1 (i := 229) rfl rfl
theorem kcw_X0_append : Cond.code yX0_append cX0_append 6 (some .int) ∈ jt := jt_at1 (i := 234) rfl rfl
theorem kci_X0_append : Cond.initialized yX0_append.cls ∈ jt := jt_at1 (i := 2) rfl rfl
theorem kc_X0_append : jsC yX0_append cX0_append 6 (some .int) 4 := ⟨kcw_X0_append, kci_X0_append, by decide +kernel, by decide +kernel, by decide +kernel⟩
theorem ki_X0_append : Cond.instanceMethod yX0_append ∈ jt := jt_at1 (i := 232) rfl rfl
theorem kv_X0_append : Cond.selects yX0_append.cls yX0_append yX0_append ∈ jt := jt_at1 (i := 233) rfl rfl
theorem kcw_X0_make : Cond.code yX0_make cX0_make 2 (none) ∈ jt := jt_at1 (i := 238) rfl rfl
theorem kci_X0_make : Cond.initialized yX0_make.cls ∈ jt := jt_at1 (i := 2) rfl rfl
theorem kc_X0_make : jsC yX0_make cX0_make 2 (none) 1 := ⟨kcw_X0_make, kci_X0_make, by decide +kernel, by decide +kernel, by decide +kernel⟩
theorem ki_X0_make : Cond.instanceMethod yX0_make ∈ jt := jt_at1 (i := 237) rfl rfl
theorem kv_X0_make : Cond.selects yX0_make.cls yX0_make yX0_make ∈ jt := jt_sel (i := 0) (q := (yX0_make, 15)) rfl rfl rfl
theorem kcw_X1_sideOf : Cond.code yX1_sideOf cX1_sideOf 3 (some .int) ∈ jt := jt_at2 (i := 1) rfl rfl
theorem kci_X1_sideOf : Cond.initialized yX1_sideOf.cls ∈ jt := jt_at1 (i := 8) rfl rfl
theorem kc_X1_sideOf : jsC yX1_sideOf cX1_sideOf 3 (some .int) 2 := ⟨kcw_X1_sideOf, kci_X1_sideOf, by decide +kernel, by decide +kernel, by decide +kernel⟩
theorem ks_X1_sideOf : Cond.static yX1_sideOf ∈ jt := jt_at2 (i := 0) rfl rfl
theorem kcw_J9_min_7cf53 : Cond.code yJ9_min_7cf53 cJ9_min_7cf53 2 (some .int) ∈ jt := jt_at2 (i := 4) rfl rfl
theorem kci_J9_min_7cf53 : Cond.initialized yJ9_min_7cf53.cls ∈ jt := jt_at1 (i := 9) rfl rfl
theorem kc_J9_min_7cf53 : jsC yJ9_min_7cf53 cJ9_min_7cf53 2 (some .int) 2 := ⟨kcw_J9_min_7cf53, kci_J9_min_7cf53, by decide +kernel, by decide +kernel, by decide +kernel⟩
theorem ks_J9_min_7cf53 : Cond.static yJ9_min_7cf53 ∈ jt := jt_at2 (i := 3) rfl rfl
theorem kcw_X1_holdsOf : Cond.code yX1_holdsOf cX1_holdsOf 2 (some .int) ∈ jt := jt_at2 (i := 7) rfl rfl
theorem kci_X1_holdsOf : Cond.initialized yX1_holdsOf.cls ∈ jt := jt_at1 (i := 8) rfl rfl
theorem kc_X1_holdsOf : jsC yX1_holdsOf cX1_holdsOf 2 (some .int) 2 := ⟨kcw_X1_holdsOf, kci_X1_holdsOf, by decide +kernel, by decide +kernel, by decide +kernel⟩
theorem ks_X1_holdsOf : Cond.static yX1_holdsOf ∈ jt := jt_at2 (i := 6) rfl rfl
theorem kcw_X1_finOf : Cond.code yX1_finOf cX1_finOf 1 (some .int) ∈ jt := jt_at2 (i := 10) rfl rfl
theorem kci_X1_finOf : Cond.initialized yX1_finOf.cls ∈ jt := jt_at1 (i := 8) rfl rfl
theorem kc_X1_finOf : jsC yX1_finOf cX1_finOf 1 (some .int) 1 := ⟨kcw_X1_finOf, kci_X1_finOf, by decide +kernel, by decide +kernel, by decide +kernel⟩
theorem ks_X1_finOf : Cond.static yX1_finOf ∈ jt := jt_at2 (i := 9) rfl rfl
theorem kcw_X6_drop : Cond.code yX6_drop cX6_drop 1 (some .int) ∈ jt := jt_at2 (i := 14) rfl rfl
theorem kci_X6_drop : Cond.initialized yX6_drop.cls ∈ jt := jt_at1 (i := 1) rfl rfl
theorem kc_X6_drop : jsC yX6_drop cX6_drop 1 (some .int) 0 := ⟨kcw_X6_drop, kci_X6_drop, by decide +kernel, by decide +kernel, by decide +kernel⟩
theorem ki_X6_drop : Cond.instanceMethod yX6_drop ∈ jt := jt_at2 (i := 12) rfl rfl
theorem kv_X6_drop : Cond.selects yX6_drop.cls yX6_drop yX6_drop ∈ jt := jt_at2 (i := 13) rfl rfl
theorem kcw_X0_removeLatest : Cond.code yX0_removeLatest cX0_removeLatest 1 (none) ∈ jt := jt_at2 (i := 18) rfl rfl
theorem kci_X0_removeLatest : Cond.initialized yX0_removeLatest.cls ∈ jt := jt_at1 (i := 2) rfl rfl
theorem kc_X0_removeLatest : jsC yX0_removeLatest cX0_removeLatest 1 (none) 0 := ⟨kcw_X0_removeLatest, kci_X0_removeLatest, by decide +kernel, by decide +kernel, by decide +kernel⟩
theorem ki_X0_removeLatest : Cond.instanceMethod yX0_removeLatest ∈ jt := jt_at2 (i := 16) rfl rfl
theorem kv_X0_removeLatest : Cond.selects yX0_removeLatest.cls yX0_removeLatest yX0_removeLatest ∈ jt := jt_at2 (i := 17) rfl rfl
theorem kcw_X2_removeOf : Cond.code yX2_removeOf cX2_removeOf 4 (some .int) ∈ jt := jt_at2 (i := 22) rfl rfl
theorem kci_X2_removeOf : Cond.initialized yX2_removeOf.cls ∈ jt := jt_at1 (i := 3) rfl rfl
theorem kc_X2_removeOf : jsC yX2_removeOf cX2_removeOf 4 (some .int) 1 := ⟨kcw_X2_removeOf, kci_X2_removeOf, by decide +kernel, by decide +kernel, by decide +kernel⟩
theorem ki_X2_removeOf : Cond.instanceMethod yX2_removeOf ∈ jt := jt_at2 (i := 20) rfl rfl
theorem kv_X2_removeOf : Cond.selects yX2_removeOf.cls yX2_removeOf yX2_removeOf ∈ jt := jt_at2 (i := 21) rfl rfl
theorem kcw_X2_append : Cond.code yX2_append cX2_append 4 (some .int) ∈ jt := jt_at2 (i := 26) rfl rfl
theorem kci_X2_append : Cond.initialized yX2_append.cls ∈ jt := jt_at1 (i := 3) rfl rfl
theorem kc_X2_append : jsC yX2_append cX2_append 4 (some .int) 3 := ⟨kcw_X2_append, kci_X2_append, by decide +kernel, by decide +kernel, by decide +kernel⟩
theorem ki_X2_append : Cond.instanceMethod yX2_append ∈ jt := jt_at2 (i := 24) rfl rfl
theorem kv_X2_append : Cond.selects yX2_append.cls yX2_append yX2_append ∈ jt := jt_at2 (i := 25) rfl rfl
theorem kcw_X0_reduce : Cond.code yX0_reduce cX0_reduce 7 (some .long) ∈ jt := jt_at2 (i := 30) rfl rfl
theorem kci_X0_reduce : Cond.initialized yX0_reduce.cls ∈ jt := jt_at1 (i := 2) rfl rfl
theorem kc_X0_reduce : jsC yX0_reduce cX0_reduce 7 (some .long) 2 := ⟨kcw_X0_reduce, kci_X0_reduce, by decide +kernel, by decide +kernel, by decide +kernel⟩
theorem ki_X0_reduce : Cond.instanceMethod yX0_reduce ∈ jt := jt_at2 (i := 29) rfl rfl
theorem kv_X0_reduce : Cond.selects yX0_reduce.cls yX0_reduce yX0_reduce ∈ jt := jt_sel (i := 1) (q := (yX0_reduce, 15)) rfl rfl rfl
theorem kcw_X6_commonDivisor : Cond.code yX6_commonDivisor cX6_commonDivisor 11 (some .long) ∈ jt := jt_at2 (i := 33) rfl rfl
theorem kci_X6_commonDivisor : Cond.initialized yX6_commonDivisor.cls ∈ jt := jt_at1 (i := 1) rfl rfl
theorem kc_X6_commonDivisor : jsC yX6_commonDivisor cX6_commonDivisor 11 (some .long) 2 := ⟨kcw_X6_commonDivisor, kci_X6_commonDivisor, by decide +kernel, by decide +kernel, by decide +kernel⟩
theorem ks_X6_commonDivisor : Cond.static yX6_commonDivisor ∈ jt := jt_at2 (i := 32) rfl rfl
theorem kcw_J9_abs_067f4 : Cond.code yJ9_abs_067f4 cJ9_abs_067f4 2 (some .long) ∈ jt := jt_at2 (i := 36) rfl rfl
theorem kci_J9_abs_067f4 : Cond.initialized yJ9_abs_067f4.cls ∈ jt := jt_at1 (i := 9) rfl rfl
theorem kc_J9_abs_067f4 : jsC yJ9_abs_067f4 cJ9_abs_067f4 2 (some .long) 1 := ⟨kcw_J9_abs_067f4, kci_J9_abs_067f4, by decide +kernel, by decide +kernel, by decide +kernel⟩
theorem ks_J9_abs_067f4 : Cond.static yJ9_abs_067f4 ∈ jt := jt_at2 (i := 35) rfl rfl
theorem kcw_X6_quotient : Cond.code yX6_quotient cX6_quotient 4 (some .long) ∈ jt := jt_at2 (i := 39) rfl rfl
theorem kci_X6_quotient : Cond.initialized yX6_quotient.cls ∈ jt := jt_at1 (i := 1) rfl rfl
theorem kc_X6_quotient : jsC yX6_quotient cX6_quotient 4 (some .long) 2 := ⟨kcw_X6_quotient, kci_X6_quotient, by decide +kernel, by decide +kernel, by decide +kernel⟩
theorem ks_X6_quotient : Cond.static yX6_quotient ∈ jt := jt_at2 (i := 38) rfl rfl
theorem kcw_X6_set : Cond.code yX6_set cX6_set 4 (some .int) ∈ jt := jt_at2 (i := 43) rfl rfl
theorem kci_X6_set : Cond.initialized yX6_set.cls ∈ jt := jt_at1 (i := 1) rfl rfl
theorem kc_X6_set : jsC yX6_set cX6_set 4 (some .int) 3 := ⟨kcw_X6_set, kci_X6_set, by decide +kernel, by decide +kernel, by decide +kernel⟩
theorem ki_X6_set : Cond.instanceMethod yX6_set ∈ jt := jt_at2 (i := 41) rfl rfl
theorem kv_X6_set : Cond.selects yX6_set.cls yX6_set yX6_set ∈ jt := jt_at2 (i := 42) rfl rfl
theorem kcw_X0_has : Cond.code yX0_has cX0_has 2 (some .boolean) ∈ jt := jt_at2 (i := 47) rfl rfl
theorem kci_X0_has : Cond.initialized yX0_has.cls ∈ jt := jt_at1 (i := 2) rfl rfl
theorem kc_X0_has : jsC yX0_has cX0_has 2 (some .boolean) 1 := ⟨kcw_X0_has, kci_X0_has, by decide +kernel, by decide +kernel, by decide +kernel⟩
theorem ki_X0_has : Cond.instanceMethod yX0_has ∈ jt := jt_at2 (i := 45) rfl rfl
theorem kv_X0_has : Cond.selects yX0_has.cls yX0_has yX0_has ∈ jt := jt_at2 (i := 46) rfl rfl
theorem kcw_X0_changeK : Cond.code yX0_changeK cX0_changeK 4 (some .int) ∈ jt := jt_at2 (i := 51) rfl rfl
theorem kci_X0_changeK : Cond.initialized yX0_changeK.cls ∈ jt := jt_at1 (i := 2) rfl rfl
theorem kc_X0_changeK : jsC yX0_changeK cX0_changeK 4 (some .int) 2 := ⟨kcw_X0_changeK, kci_X0_changeK, by decide +kernel, by decide +kernel, by decide +kernel⟩
theorem ki_X0_changeK : Cond.instanceMethod yX0_changeK ∈ jt := jt_at2 (i := 49) rfl rfl
theorem kv_X0_changeK : Cond.selects yX0_changeK.cls yX0_changeK yX0_changeK ∈ jt := jt_at2 (i := 50) rfl rfl
theorem kcw_X0_changeC : Cond.code yX0_changeC cX0_changeC 4 (some .int) ∈ jt := jt_at2 (i := 55) rfl rfl
theorem kci_X0_changeC : Cond.initialized yX0_changeC.cls ∈ jt := jt_at1 (i := 2) rfl rfl
theorem kc_X0_changeC : jsC yX0_changeC cX0_changeC 4 (some .int) 2 := ⟨kcw_X0_changeC, kci_X0_changeC, by decide +kernel, by decide +kernel, by decide +kernel⟩
theorem ki_X0_changeC : Cond.instanceMethod yX0_changeC ∈ jt := jt_at2 (i := 53) rfl rfl
theorem kv_X0_changeC : Cond.selects yX0_changeC.cls yX0_changeC yX0_changeC ∈ jt := jt_at2 (i := 54) rfl rfl
theorem kcw_X0_changeKind : Cond.code yX0_changeKind cX0_changeKind 4 (some .int) ∈ jt := jt_at2 (i := 59) rfl rfl
theorem kci_X0_changeKind : Cond.initialized yX0_changeKind.cls ∈ jt := jt_at1 (i := 2) rfl rfl
theorem kc_X0_changeKind : jsC yX0_changeKind cX0_changeKind 4 (some .int) 2 := ⟨kcw_X0_changeKind, kci_X0_changeKind, by decide +kernel, by decide +kernel, by decide +kernel⟩
theorem ki_X0_changeKind : Cond.instanceMethod yX0_changeKind ∈ jt := jt_at2 (i := 57) rfl rfl
theorem kv_X0_changeKind : Cond.selects yX0_changeKind.cls yX0_changeKind yX0_changeKind ∈ jt := jt_at2 (i := 58) rfl rfl
theorem kcw_X6_isSource : Cond.code yX6_isSource cX6_isSource 1 (some .boolean) ∈ jt := jt_at2 (i := 62) rfl rfl
theorem kci_X6_isSource : Cond.initialized yX6_isSource.cls ∈ jt := jt_at1 (i := 1) rfl rfl
theorem kc_X6_isSource : jsC yX6_isSource cX6_isSource 1 (some .boolean) 1 := ⟨kcw_X6_isSource, kci_X6_isSource, by decide +kernel, by decide +kernel, by decide +kernel⟩
theorem ks_X6_isSource : Cond.static yX6_isSource ∈ jt := jt_at2 (i := 61) rfl rfl
theorem kcw_X0_changeSource : Cond.code yX0_changeSource cX0_changeSource 4 (some .int) ∈ jt := jt_at2 (i := 66) rfl rfl
theorem kci_X0_changeSource : Cond.initialized yX0_changeSource.cls ∈ jt := jt_at1 (i := 2) rfl rfl
theorem kc_X0_changeSource : jsC yX0_changeSource cX0_changeSource 4 (some .int) 2 := ⟨kcw_X0_changeSource, kci_X0_changeSource, by decide +kernel, by decide +kernel, by decide +kernel⟩
theorem ki_X0_changeSource : Cond.instanceMethod yX0_changeSource ∈ jt := jt_at2 (i := 64) rfl rfl
theorem kv_X0_changeSource : Cond.selects yX0_changeSource.cls yX0_changeSource yX0_changeSource ∈ jt := jt_at2 (i := 65) rfl rfl
theorem kcw_X6_heat : Cond.code yX6_heat cX6_heat 3 (some .int) ∈ jt := jt_at2 (i := 70) rfl rfl
theorem kci_X6_heat : Cond.initialized yX6_heat.cls ∈ jt := jt_at1 (i := 1) rfl rfl
theorem kc_X6_heat : jsC yX6_heat cX6_heat 3 (some .int) 2 := ⟨kcw_X6_heat, kci_X6_heat, by decide +kernel, by decide +kernel, by decide +kernel⟩
theorem ki_X6_heat : Cond.instanceMethod yX6_heat ∈ jt := jt_at2 (i := 68) rfl rfl
theorem kv_X6_heat : Cond.selects yX6_heat.cls yX6_heat yX6_heat ∈ jt := jt_at2 (i := 69) rfl rfl
theorem kcw_X0_changeHeat : Cond.code yX0_changeHeat cX0_changeHeat 3 (none) ∈ jt := jt_at2 (i := 74) rfl rfl
theorem kci_X0_changeHeat : Cond.initialized yX0_changeHeat.cls ∈ jt := jt_at1 (i := 2) rfl rfl
theorem kc_X0_changeHeat : jsC yX0_changeHeat cX0_changeHeat 3 (none) 2 := ⟨kcw_X0_changeHeat, kci_X0_changeHeat, by decide +kernel, by decide +kernel, by decide +kernel⟩
theorem ki_X0_changeHeat : Cond.instanceMethod yX0_changeHeat ∈ jt := jt_at2 (i := 72) rfl rfl
theorem kv_X0_changeHeat : Cond.selects yX0_changeHeat.cls yX0_changeHeat yX0_changeHeat ∈ jt := jt_at2 (i := 73) rfl rfl
theorem kcw_X6_of : Cond.code yX6_of cX6_of 3 (some .int) ∈ jt := jt_at2 (i := 78) rfl rfl
theorem kci_X6_of : Cond.initialized yX6_of.cls ∈ jt := jt_at1 (i := 1) rfl rfl
theorem kc_X6_of : jsC yX6_of cX6_of 3 (some .int) 2 := ⟨kcw_X6_of, kci_X6_of, by decide +kernel, by decide +kernel, by decide +kernel⟩
theorem ki_X6_of : Cond.instanceMethod yX6_of ∈ jt := jt_at2 (i := 76) rfl rfl
theorem kv_X6_of : Cond.selects yX6_of.cls yX6_of yX6_of ∈ jt := jt_at2 (i := 77) rfl rfl
theorem kcw_X1_madeOf : Cond.code yX1_madeOf cX1_madeOf 3 (some .int) ∈ jt := jt_at2 (i := 81) rfl rfl
theorem kci_X1_madeOf : Cond.initialized yX1_madeOf.cls ∈ jt := jt_at1 (i := 8) rfl rfl
theorem kc_X1_madeOf : jsC yX1_madeOf cX1_madeOf 3 (some .int) 2 := ⟨kcw_X1_madeOf, kci_X1_madeOf, by decide +kernel, by decide +kernel, by decide +kernel⟩
theorem ks_X1_madeOf : Cond.static yX1_madeOf ∈ jt := jt_at2 (i := 80) rfl rfl
theorem kcw_X1_isUnder : Cond.code yX1_isUnder cX1_isUnder 2 (some .boolean) ∈ jt := jt_at2 (i := 84) rfl rfl
theorem kci_X1_isUnder : Cond.initialized yX1_isUnder.cls ∈ jt := jt_at1 (i := 8) rfl rfl
theorem kc_X1_isUnder : jsC yX1_isUnder cX1_isUnder 2 (some .boolean) 2 := ⟨kcw_X1_isUnder, kci_X1_isUnder, by decide +kernel, by decide +kernel, by decide +kernel⟩
theorem ks_X1_isUnder : Cond.static yX1_isUnder ∈ jt := jt_at2 (i := 83) rfl rfl
theorem kcw_X1_lineOf : Cond.code yX1_lineOf cX1_lineOf 1 (some .int) ∈ jt := jt_at2 (i := 87) rfl rfl
theorem kci_X1_lineOf : Cond.initialized yX1_lineOf.cls ∈ jt := jt_at1 (i := 8) rfl rfl
theorem kc_X1_lineOf : jsC yX1_lineOf cX1_lineOf 1 (some .int) 1 := ⟨kcw_X1_lineOf, kci_X1_lineOf, by decide +kernel, by decide +kernel, by decide +kernel⟩
theorem ks_X1_lineOf : Cond.static yX1_lineOf ∈ jt := jt_at2 (i := 86) rfl rfl
theorem kcw_X6_taken : Cond.code yX6_taken cX6_taken 3 (some .int) ∈ jt := jt_at2 (i := 91) rfl rfl
theorem kci_X6_taken : Cond.initialized yX6_taken.cls ∈ jt := jt_at1 (i := 1) rfl rfl
theorem kc_X6_taken : jsC yX6_taken cX6_taken 3 (some .int) 2 := ⟨kcw_X6_taken, kci_X6_taken, by decide +kernel, by decide +kernel, by decide +kernel⟩
theorem ki_X6_taken : Cond.instanceMethod yX6_taken ∈ jt := jt_at2 (i := 89) rfl rfl
theorem kv_X6_taken : Cond.selects yX6_taken.cls yX6_taken yX6_taken ∈ jt := jt_at2 (i := 90) rfl rfl
theorem kcw_X6_kin : Cond.code yX6_kin cX6_kin 2 (some .int) ∈ jt := jt_at2 (i := 96) rfl rfl
theorem kci_X6_kin : Cond.initialized yX6_kin.cls ∈ jt := jt_at1 (i := 1) rfl rfl
theorem kc_X6_kin : jsC yX6_kin cX6_kin 2 (some .int) 1 := ⟨kcw_X6_kin, kci_X6_kin, by decide +kernel, by decide +kernel, by decide +kernel⟩
theorem ki_X6_kin : Cond.instanceMethod yX6_kin ∈ jt := jt_at2 (i := 94) rfl rfl
theorem kv_X6_kin : Cond.selects yX6_kin.cls yX6_kin yX6_kin ∈ jt := jt_at2 (i := 95) rfl rfl
theorem kcw_X6_end : Cond.code yX6_end cX6_end 4 (some .int) ∈ jt := jt_at2 (i := 101) rfl rfl
theorem kci_X6_end : Cond.initialized yX6_end.cls ∈ jt := jt_at1 (i := 1) rfl rfl
theorem kc_X6_end : jsC yX6_end cX6_end 4 (some .int) 2 := ⟨kcw_X6_end, kci_X6_end, by decide +kernel, by decide +kernel, by decide +kernel⟩
theorem ki_X6_end : Cond.instanceMethod yX6_end ∈ jt := jt_at2 (i := 99) rfl rfl
theorem kv_X6_end : Cond.selects yX6_end.cls yX6_end yX6_end ∈ jt := jt_at2 (i := 100) rfl rfl
theorem kcw_X6_isBit : Cond.code yX6_isBit cX6_isBit 1 (some .boolean) ∈ jt := jt_at2 (i := 104) rfl rfl
theorem kci_X6_isBit : Cond.initialized yX6_isBit.cls ∈ jt := jt_at1 (i := 1) rfl rfl
theorem kc_X6_isBit : jsC yX6_isBit cX6_isBit 1 (some .boolean) 1 := ⟨kcw_X6_isBit, kci_X6_isBit, by decide +kernel, by decide +kernel, by decide +kernel⟩
theorem ks_X6_isBit : Cond.static yX6_isBit ∈ jt := jt_at2 (i := 103) rfl rfl
theorem kcw_X6_rule : Cond.code yX6_rule cX6_rule 4 (some .int) ∈ jt := jt_at2 (i := 108) rfl rfl
theorem kci_X6_rule : Cond.initialized yX6_rule.cls ∈ jt := jt_at1 (i := 1) rfl rfl
theorem kc_X6_rule : jsC yX6_rule cX6_rule 4 (some .int) 2 := ⟨kcw_X6_rule, kci_X6_rule, by decide +kernel, by decide +kernel, by decide +kernel⟩
theorem ki_X6_rule : Cond.instanceMethod yX6_rule ∈ jt := jt_at2 (i := 106) rfl rfl
theorem kv_X6_rule : Cond.selects yX6_rule.cls yX6_rule yX6_rule ∈ jt := jt_at2 (i := 107) rfl rfl
theorem kcw_X6_t : Cond.code yX6_t cX6_t 3 (some .long) ∈ jt := jt_at2 (i := 112) rfl rfl
theorem kci_X6_t : Cond.initialized yX6_t.cls ∈ jt := jt_at1 (i := 1) rfl rfl
theorem kc_X6_t : jsC yX6_t cX6_t 3 (some .long) 2 := ⟨kcw_X6_t, kci_X6_t, by decide +kernel, by decide +kernel, by decide +kernel⟩
theorem ki_X6_t : Cond.instanceMethod yX6_t ∈ jt := jt_at2 (i := 110) rfl rfl
theorem kv_X6_t : Cond.selects yX6_t.cls yX6_t yX6_t ∈ jt := jt_at2 (i := 111) rfl rfl
theorem kcw_X6_partOf : Cond.code yX6_partOf cX6_partOf 5 (some .long) ∈ jt := jt_at2 (i := 116) rfl rfl
theorem kci_X6_partOf : Cond.initialized yX6_partOf.cls ∈ jt := jt_at1 (i := 1) rfl rfl
theorem kc_X6_partOf : jsC yX6_partOf cX6_partOf 5 (some .long) 3 := ⟨kcw_X6_partOf, kci_X6_partOf, by decide +kernel, by decide +kernel, by decide +kernel⟩
theorem ks_X6_partOf : Cond.static yX6_partOf ∈ jt := jt_at2 (i := 115) rfl rfl
theorem kcw_X6_line : Cond.code yX6_line cX6_line 1 (some .long) ∈ jt := jt_at2 (i := 122) rfl rfl
theorem kci_X6_line : Cond.initialized yX6_line.cls ∈ jt := jt_at1 (i := 1) rfl rfl
theorem kc_X6_line : jsC yX6_line cX6_line 1 (some .long) 0 := ⟨kcw_X6_line, kci_X6_line, by decide +kernel, by decide +kernel, by decide +kernel⟩
theorem ki_X6_line : Cond.instanceMethod yX6_line ∈ jt := jt_at2 (i := 120) rfl rfl
theorem kv_X6_line : Cond.selects yX6_line.cls yX6_line yX6_line ∈ jt := jt_at2 (i := 121) rfl rfl
theorem kcw_X6_joint : Cond.code yX6_joint cX6_joint 2 (some .int) ∈ jt := jt_at2 (i := 126) rfl rfl
theorem kci_X6_joint : Cond.initialized yX6_joint.cls ∈ jt := jt_at1 (i := 1) rfl rfl
theorem kc_X6_joint : jsC yX6_joint cX6_joint 2 (some .int) 1 := ⟨kcw_X6_joint, kci_X6_joint, by decide +kernel, by decide +kernel, by decide +kernel⟩
theorem ki_X6_joint : Cond.instanceMethod yX6_joint ∈ jt := jt_at2 (i := 124) rfl rfl
theorem kv_X6_joint : Cond.selects yX6_joint.cls yX6_joint yX6_joint ∈ jt := jt_at2 (i := 125) rfl rfl
theorem kcw_X0_leads : Cond.code yX0_leads cX0_leads 2 (some .int) ∈ jt := jt_at2 (i := 130) rfl rfl
theorem kci_X0_leads : Cond.initialized yX0_leads.cls ∈ jt := jt_at1 (i := 2) rfl rfl
theorem kc_X0_leads : jsC yX0_leads cX0_leads 2 (some .int) 1 := ⟨kcw_X0_leads, kci_X0_leads, by decide +kernel, by decide +kernel, by decide +kernel⟩
theorem ki_X0_leads : Cond.instanceMethod yX0_leads ∈ jt := jt_at2 (i := 128) rfl rfl
theorem kv_X0_leads : Cond.selects yX0_leads.cls yX0_leads yX0_leads ∈ jt := jt_at2 (i := 129) rfl rfl
theorem kcw_X0_hasJoint : Cond.code yX0_hasJoint cX0_hasJoint 2 (some .boolean) ∈ jt := jt_at2 (i := 134) rfl rfl
theorem kci_X0_hasJoint : Cond.initialized yX0_hasJoint.cls ∈ jt := jt_at1 (i := 2) rfl rfl
theorem kc_X0_hasJoint : jsC yX0_hasJoint cX0_hasJoint 2 (some .boolean) 1 := ⟨kcw_X0_hasJoint, kci_X0_hasJoint, by decide +kernel, by decide +kernel, by decide +kernel⟩
theorem ki_X0_hasJoint : Cond.instanceMethod yX0_hasJoint ∈ jt := jt_at2 (i := 132) rfl rfl
theorem kv_X0_hasJoint : Cond.selects yX0_hasJoint.cls yX0_hasJoint yX0_hasJoint ∈ jt := jt_at2 (i := 133) rfl rfl
theorem kcw_X6_flow : Cond.code yX6_flow cX6_flow 3 (some .long) ∈ jt := jt_at2 (i := 139) rfl rfl
theorem kci_X6_flow : Cond.initialized yX6_flow.cls ∈ jt := jt_at1 (i := 1) rfl rfl
theorem kc_X6_flow : jsC yX6_flow cX6_flow 3 (some .long) 2 := ⟨kcw_X6_flow, kci_X6_flow, by decide +kernel, by decide +kernel, by decide +kernel⟩
theorem ki_X6_flow : Cond.instanceMethod yX6_flow ∈ jt := jt_at2 (i := 137) rfl rfl
theorem kv_X6_flow : Cond.selects yX6_flow.cls yX6_flow yX6_flow ∈ jt := jt_at2 (i := 138) rfl rfl
theorem kcw_X0_flowAbove : Cond.code yX0_flowAbove cX0_flowAbove 9 (some .long) ∈ jt := jt_at2 (i := 144) rfl rfl
theorem kci_X0_flowAbove : Cond.initialized yX0_flowAbove.cls ∈ jt := jt_at1 (i := 2) rfl rfl
theorem kc_X0_flowAbove : jsC yX0_flowAbove cX0_flowAbove 9 (some .long) 3 := ⟨kcw_X0_flowAbove, kci_X0_flowAbove, by decide +kernel, by decide +kernel, by decide +kernel⟩
theorem ki_X0_flowAbove : Cond.instanceMethod yX0_flowAbove ∈ jt := jt_at2 (i := 142) rfl rfl
theorem kv_X0_flowAbove : Cond.selects yX0_flowAbove.cls yX0_flowAbove yX0_flowAbove ∈ jt := jt_at2 (i := 143) rfl rfl
theorem kcw_X6_stable : Cond.code yX6_stable cX6_stable 5 (some .int) ∈ jt := jt_at2 (i := 149) rfl rfl
theorem kci_X6_stable : Cond.initialized yX6_stable.cls ∈ jt := jt_at1 (i := 1) rfl rfl
theorem kc_X6_stable : jsC yX6_stable cX6_stable 5 (some .int) 1 := ⟨kcw_X6_stable, kci_X6_stable, by decide +kernel, by decide +kernel, by decide +kernel⟩
theorem ki_X6_stable : Cond.instanceMethod yX6_stable ∈ jt := jt_at2 (i := 147) rfl rfl
theorem kv_X6_stable : Cond.selects yX6_stable.cls yX6_stable yX6_stable ∈ jt := jt_at2 (i := 148) rfl rfl
theorem kcw_X0_loss : Cond.code yX0_loss cX0_loss 2 (some .int) ∈ jt := jt_at2 (i := 153) rfl rfl
theorem kci_X0_loss : Cond.initialized yX0_loss.cls ∈ jt := jt_at1 (i := 2) rfl rfl
theorem kc_X0_loss : jsC yX0_loss cX0_loss 2 (some .int) 1 := ⟨kcw_X0_loss, kci_X0_loss, by decide +kernel, by decide +kernel, by decide +kernel⟩
theorem ki_X0_loss : Cond.instanceMethod yX0_loss ∈ jt := jt_at2 (i := 151) rfl rfl
theorem kv_X0_loss : Cond.selects yX0_loss.cls yX0_loss yX0_loss ∈ jt := jt_at2 (i := 152) rfl rfl
theorem kcw_X6_need : Cond.code yX6_need cX6_need 5 (some .int) ∈ jt := jt_at2 (i := 157) rfl rfl
theorem kci_X6_need : Cond.initialized yX6_need.cls ∈ jt := jt_at1 (i := 1) rfl rfl
theorem kc_X6_need : jsC yX6_need cX6_need 5 (some .int) 0 := ⟨kcw_X6_need, kci_X6_need, by decide +kernel, by decide +kernel, by decide +kernel⟩
theorem ki_X6_need : Cond.instanceMethod yX6_need ∈ jt := jt_at2 (i := 155) rfl rfl
theorem kv_X6_need : Cond.selects yX6_need.cls yX6_need yX6_need ∈ jt := jt_at2 (i := 156) rfl rfl
theorem kcw_J9_max_7cf53 : Cond.code yJ9_max_7cf53 cJ9_max_7cf53 2 (some .int) ∈ jt := jt_at2 (i := 160) rfl rfl
theorem kci_J9_max_7cf53 : Cond.initialized yJ9_max_7cf53.cls ∈ jt := jt_at1 (i := 9) rfl rfl
theorem kc_J9_max_7cf53 : jsC yJ9_max_7cf53 cJ9_max_7cf53 2 (some .int) 2 := ⟨kcw_J9_max_7cf53, kci_J9_max_7cf53, by decide +kernel, by decide +kernel, by decide +kernel⟩
theorem ks_J9_max_7cf53 : Cond.static yJ9_max_7cf53 ∈ jt := jt_at2 (i := 159) rfl rfl
theorem kcw_X6_sum : Cond.code yX6_sum cX6_sum 5 (some .long) ∈ jt := jt_at2 (i := 164) rfl rfl
theorem kci_X6_sum : Cond.initialized yX6_sum.cls ∈ jt := jt_at1 (i := 1) rfl rfl
theorem kc_X6_sum : jsC yX6_sum cX6_sum 5 (some .long) 1 := ⟨kcw_X6_sum, kci_X6_sum, by decide +kernel, by decide +kernel, by decide +kernel⟩
theorem ki_X6_sum : Cond.instanceMethod yX6_sum ∈ jt := jt_at2 (i := 162) rfl rfl
theorem kv_X6_sum : Cond.selects yX6_sum.cls yX6_sum yX6_sum ∈ jt := jt_at2 (i := 163) rfl rfl
theorem kcw_X6_most : Cond.code yX6_most cX6_most 2 (some .int) ∈ jt := jt_at2 (i := 168) rfl rfl
theorem kci_X6_most : Cond.initialized yX6_most.cls ∈ jt := jt_at1 (i := 1) rfl rfl
theorem kc_X6_most : jsC yX6_most cX6_most 2 (some .int) 1 := ⟨kcw_X6_most, kci_X6_most, by decide +kernel, by decide +kernel, by decide +kernel⟩
theorem ki_X6_most : Cond.instanceMethod yX6_most ∈ jt := jt_at2 (i := 166) rfl rfl
theorem kv_X6_most : Cond.selects yX6_most.cls yX6_most yX6_most ∈ jt := jt_at2 (i := 167) rfl rfl
theorem kcw_X0_hottestCell : Cond.code yX0_hottestCell cX0_hottestCell 1 (some .int) ∈ jt := jt_at2 (i := 172) rfl rfl
theorem kci_X0_hottestCell : Cond.initialized yX0_hottestCell.cls ∈ jt := jt_at1 (i := 2) rfl rfl
theorem kc_X0_hottestCell : jsC yX0_hottestCell cX0_hottestCell 1 (some .int) 0 := ⟨kcw_X0_hottestCell, kci_X0_hottestCell, by decide +kernel, by decide +kernel, by decide +kernel⟩
theorem ki_X0_hottestCell : Cond.instanceMethod yX0_hottestCell ∈ jt := jt_at2 (i := 170) rfl rfl
theorem kv_X0_hottestCell : Cond.selects yX0_hottestCell.cls yX0_hottestCell yX0_hottestCell ∈ jt := jt_at2 (i := 171) rfl rfl
theorem kcw_X6_firstGreatest : Cond.code yX6_firstGreatest cX6_firstGreatest 4 (some .int) ∈ jt := jt_at2 (i := 175) rfl rfl
theorem kci_X6_firstGreatest : Cond.initialized yX6_firstGreatest.cls ∈ jt := jt_at1 (i := 1) rfl rfl
theorem kc_X6_firstGreatest : jsC yX6_firstGreatest cX6_firstGreatest 4 (some .int) 2 := ⟨kcw_X6_firstGreatest, kci_X6_firstGreatest, by decide +kernel, by decide +kernel, by decide +kernel⟩
theorem ks_X6_firstGreatest : Cond.static yX6_firstGreatest ∈ jt := jt_at2 (i := 174) rfl rfl
theorem kcw_X0_coldestCell : Cond.code yX0_coldestCell cX0_coldestCell 3 (some .int) ∈ jt := jt_at2 (i := 179) rfl rfl
theorem kci_X0_coldestCell : Cond.initialized yX0_coldestCell.cls ∈ jt := jt_at1 (i := 2) rfl rfl
theorem kc_X0_coldestCell : jsC yX0_coldestCell cX0_coldestCell 3 (some .int) 0 := ⟨kcw_X0_coldestCell, kci_X0_coldestCell, by decide +kernel, by decide +kernel, by decide +kernel⟩
theorem ki_X0_coldestCell : Cond.instanceMethod yX0_coldestCell ∈ jt := jt_at2 (i := 177) rfl rfl
theorem kv_X0_coldestCell : Cond.selects yX0_coldestCell.cls yX0_coldestCell yX0_coldestCell ∈ jt := jt_at2 (i := 178) rfl rfl
theorem kcw_X6_step : Cond.code yX6_step cX6_step 2 (some .int) ∈ jt := jt_at2 (i := 183) rfl rfl
theorem kci_X6_step : Cond.initialized yX6_step.cls ∈ jt := jt_at1 (i := 1) rfl rfl
theorem kc_X6_step : jsC yX6_step cX6_step 2 (some .int) 1 := ⟨kcw_X6_step, kci_X6_step, by decide +kernel, by decide +kernel, by decide +kernel⟩
theorem ki_X6_step : Cond.instanceMethod yX6_step ∈ jt := jt_at2 (i := 181) rfl rfl
theorem kv_X6_step : Cond.selects yX6_step.cls yX6_step yX6_step ∈ jt := jt_at2 (i := 182) rfl rfl
theorem kcw_X6_stepsDone : Cond.code yX6_stepsDone cX6_stepsDone 3 (some .int) ∈ jt := jt_at2 (i := 186) rfl rfl
theorem kci_X6_stepsDone : Cond.initialized yX6_stepsDone.cls ∈ jt := jt_at1 (i := 1) rfl rfl
theorem kc_X6_stepsDone : jsC yX6_stepsDone cX6_stepsDone 3 (some .int) 2 := ⟨kcw_X6_stepsDone, kci_X6_stepsDone, by decide +kernel, by decide +kernel, by decide +kernel⟩
theorem ks_X6_stepsDone : Cond.static yX6_stepsDone ∈ jt := jt_at2 (i := 185) rfl rfl
theorem kcw_X0_advance : Cond.code yX0_advance cX0_advance 4 (some .int) ∈ jt := jt_at2 (i := 190) rfl rfl
theorem kci_X0_advance : Cond.initialized yX0_advance.cls ∈ jt := jt_at1 (i := 2) rfl rfl
theorem kc_X0_advance : jsC yX0_advance cX0_advance 4 (some .int) 0 := ⟨kcw_X0_advance, kci_X0_advance, by decide +kernel, by decide +kernel, by decide +kernel⟩
theorem ki_X0_advance : Cond.instanceMethod yX0_advance ∈ jt := jt_at2 (i := 188) rfl rfl
theorem kv_X0_advance : Cond.selects yX0_advance.cls yX0_advance yX0_advance ∈ jt := jt_at2 (i := 189) rfl rfl
theorem kcw_X0_gain : Cond.code yX0_gain cX0_gain 4 (some .long) ∈ jt := jt_at2 (i := 194) rfl rfl
theorem kci_X0_gain : Cond.initialized yX0_gain.cls ∈ jt := jt_at1 (i := 2) rfl rfl
theorem kc_X0_gain : jsC yX0_gain cX0_gain 4 (some .long) 1 := ⟨kcw_X0_gain, kci_X0_gain, by decide +kernel, by decide +kernel, by decide +kernel⟩
theorem ki_X0_gain : Cond.instanceMethod yX0_gain ∈ jt := jt_at2 (i := 192) rfl rfl
theorem kv_X0_gain : Cond.selects yX0_gain.cls yX0_gain yX0_gain ∈ jt := jt_at2 (i := 193) rfl rfl
theorem kcw_X2_warmNext : Cond.code yX2_warmNext cX2_warmNext 6 (none) ∈ jt := jt_at2 (i := 200) rfl rfl
theorem kci_X2_warmNext : Cond.initialized yX2_warmNext.cls ∈ jt := jt_at1 (i := 3) rfl rfl
theorem kc_X2_warmNext : jsC yX2_warmNext cX2_warmNext 6 (none) 2 := ⟨kcw_X2_warmNext, kci_X2_warmNext, by decide +kernel, by decide +kernel, by decide +kernel⟩
theorem ki_X2_warmNext : Cond.instanceMethod yX2_warmNext ∈ jt := jt_at2 (i := 198) rfl rfl
theorem kv_X2_warmNext : Cond.selects yX2_warmNext.cls yX2_warmNext yX2_warmNext ∈ jt := jt_at2 (i := 199) rfl rfl
theorem kcw_X0_takeHeats : Cond.code yX0_takeHeats cX0_takeHeats 7 (some .int) ∈ jt := jt_at2 (i := 204) rfl rfl
theorem kci_X0_takeHeats : Cond.initialized yX0_takeHeats.cls ∈ jt := jt_at1 (i := 2) rfl rfl
theorem kc_X0_takeHeats : jsC yX0_takeHeats cX0_takeHeats 7 (some .int) 2 := ⟨kcw_X0_takeHeats, kci_X0_takeHeats, by decide +kernel, by decide +kernel, by decide +kernel⟩
theorem ki_X0_takeHeats : Cond.instanceMethod yX0_takeHeats ∈ jt := jt_at2 (i := 202) rfl rfl
theorem kv_X0_takeHeats : Cond.selects yX0_takeHeats.cls yX0_takeHeats yX0_takeHeats ∈ jt := jt_at2 (i := 203) rfl rfl
theorem kcw_X2_passOne : Cond.code yX2_passOne cX2_passOne 3 (none) ∈ jt := jt_at2 (i := 213) rfl rfl
theorem kci_X2_passOne : Cond.initialized yX2_passOne.cls ∈ jt := jt_at1 (i := 3) rfl rfl
theorem kc_X2_passOne : jsC yX2_passOne cX2_passOne 3 (none) 0 := ⟨kcw_X2_passOne, kci_X2_passOne, by decide +kernel, by decide +kernel, by decide +kernel⟩
theorem ki_X2_passOne : Cond.instanceMethod yX2_passOne ∈ jt := jt_at2 (i := 211) rfl rfl
theorem kv_X2_passOne : Cond.selects yX2_passOne.cls yX2_passOne yX2_passOne ∈ jt := jt_at2 (i := 212) rfl rfl
theorem kcw_X6_then : Cond.code yX6_then cX6_then 4 (some .long) ∈ jt := jt_at2 (i := 217) rfl rfl
theorem kci_X6_then : Cond.initialized yX6_then.cls ∈ jt := jt_at1 (i := 1) rfl rfl
theorem kc_X6_then : jsC yX6_then cX6_then 4 (some .long) 3 := ⟨kcw_X6_then, kci_X6_then, by decide +kernel, by decide +kernel, by decide +kernel⟩
theorem ki_X6_then : Cond.instanceMethod yX6_then ∈ jt := jt_at2 (i := 215) rfl rfl
theorem kv_X6_then : Cond.selects yX6_then.cls yX6_then yX6_then ∈ jt := jt_at2 (i := 216) rfl rfl
theorem kcw_X0_become : Cond.code yX0_become cX0_become 2 (none) ∈ jt := jt_at2 (i := 221) rfl rfl
theorem kci_X0_become : Cond.initialized yX0_become.cls ∈ jt := jt_at1 (i := 2) rfl rfl
theorem kc_X0_become : jsC yX0_become cX0_become 2 (none) 1 := ⟨kcw_X0_become, kci_X0_become, by decide +kernel, by decide +kernel, by decide +kernel⟩
theorem ki_X0_become : Cond.instanceMethod yX0_become ∈ jt := jt_at2 (i := 219) rfl rfl
theorem kv_X0_become : Cond.selects yX0_become.cls yX0_become yX0_become ∈ jt := jt_at2 (i := 220) rfl rfl
theorem kcw_X2_become : Cond.code yX2_become cX2_become 2 (none) ∈ jt := jt_at2 (i := 225) rfl rfl
theorem kci_X2_become : Cond.initialized yX2_become.cls ∈ jt := jt_at1 (i := 3) rfl rfl
theorem kc_X2_become : jsC yX2_become cX2_become 2 (none) 1 := ⟨kcw_X2_become, kci_X2_become, by decide +kernel, by decide +kernel, by decide +kernel⟩
theorem ki_X2_become : Cond.instanceMethod yX2_become ∈ jt := jt_at2 (i := 223) rfl rfl
theorem kv_X2_become : Cond.selects yX2_become.cls yX2_become yX2_become ∈ jt := jt_at2 (i := 224) rfl rfl
theorem kcw_X6_spent : Cond.code yX6_spent cX6_spent 4 (some .int) ∈ jt := jt_at2 (i := 230) rfl rfl
theorem kci_X6_spent : Cond.initialized yX6_spent.cls ∈ jt := jt_at1 (i := 1) rfl rfl
theorem kc_X6_spent : jsC yX6_spent cX6_spent 4 (some .int) 1 := ⟨kcw_X6_spent, kci_X6_spent, by decide +kernel, by decide +kernel, by decide +kernel⟩
theorem ki_X6_spent : Cond.instanceMethod yX6_spent ∈ jt := jt_at2 (i := 228) rfl rfl
theorem kv_X6_spent : Cond.selects yX6_spent.cls yX6_spent yX6_spent ∈ jt := jt_at2 (i := 229) rfl rfl
theorem kcw_X6_rises : Cond.code yX6_rises cX6_rises 7 (some .int) ∈ jt := jt_at2 (i := 234) rfl rfl
theorem kci_X6_rises : Cond.initialized yX6_rises.cls ∈ jt := jt_at1 (i := 1) rfl rfl
theorem kc_X6_rises : jsC yX6_rises cX6_rises 7 (some .int) 1 := ⟨kcw_X6_rises, kci_X6_rises, by decide +kernel, by decide +kernel, by decide +kernel⟩
theorem ki_X6_rises : Cond.instanceMethod yX6_rises ∈ jt := jt_at2 (i := 232) rfl rfl
theorem kv_X6_rises : Cond.selects yX6_rises.cls yX6_rises yX6_rises ∈ jt := jt_at2 (i := 233) rfl rfl
theorem kcw_X0_greatest : Cond.code yX0_greatest cX0_greatest 2 (some .long) ∈ jt := jt_at2 (i := 238) rfl rfl
theorem kci_X0_greatest : Cond.initialized yX0_greatest.cls ∈ jt := jt_at1 (i := 2) rfl rfl
theorem kc_X0_greatest : jsC yX0_greatest cX0_greatest 2 (some .long) 0 := ⟨kcw_X0_greatest, kci_X0_greatest, by decide +kernel, by decide +kernel, by decide +kernel⟩
theorem ki_X0_greatest : Cond.instanceMethod yX0_greatest ∈ jt := jt_at2 (i := 236) rfl rfl
theorem kv_X0_greatest : Cond.selects yX0_greatest.cls yX0_greatest yX0_greatest ∈ jt := jt_at2 (i := 237) rfl rfl
theorem kcw_X0_isRisenFrom : Cond.code yX0_isRisenFrom cX0_isRisenFrom 7 (some .boolean) ∈ jt := jt_at3 (i := 3) rfl rfl
theorem kci_X0_isRisenFrom : Cond.initialized yX0_isRisenFrom.cls ∈ jt := jt_at1 (i := 2) rfl rfl
theorem kc_X0_isRisenFrom : jsC yX0_isRisenFrom cX0_isRisenFrom 7 (some .boolean) 2 := ⟨kcw_X0_isRisenFrom, kci_X0_isRisenFrom, by decide +kernel, by decide +kernel, by decide +kernel⟩
theorem ki_X0_isRisenFrom : Cond.instanceMethod yX0_isRisenFrom ∈ jt := jt_at3 (i := 1) rfl rfl
theorem kv_X0_isRisenFrom : Cond.selects yX0_isRisenFrom.cls yX0_isRisenFrom yX0_isRisenFrom ∈ jt := jt_at3 (i := 2) rfl rfl
theorem kcw_X6_calm : Cond.code yX6_calm cX6_calm 3 (some .int) ∈ jt := jt_at3 (i := 8) rfl rfl
theorem kci_X6_calm : Cond.initialized yX6_calm.cls ∈ jt := jt_at1 (i := 1) rfl rfl
theorem kc_X6_calm : jsC yX6_calm cX6_calm 3 (some .int) 1 := ⟨kcw_X6_calm, kci_X6_calm, by decide +kernel, by decide +kernel, by decide +kernel⟩
theorem ki_X6_calm : Cond.instanceMethod yX6_calm ∈ jt := jt_at3 (i := 6) rfl rfl
theorem kv_X6_calm : Cond.selects yX6_calm.cls yX6_calm yX6_calm ∈ jt := jt_at3 (i := 7) rfl rfl
theorem kcw_X0_least : Cond.code yX0_least cX0_least 2 (some .long) ∈ jt := jt_at3 (i := 12) rfl rfl
theorem kci_X0_least : Cond.initialized yX0_least.cls ∈ jt := jt_at1 (i := 2) rfl rfl
theorem kc_X0_least : jsC yX0_least cX0_least 2 (some .long) 0 := ⟨kcw_X0_least, kci_X0_least, by decide +kernel, by decide +kernel, by decide +kernel⟩
theorem ki_X0_least : Cond.instanceMethod yX0_least ∈ jt := jt_at3 (i := 10) rfl rfl
theorem kv_X0_least : Cond.selects yX0_least.cls yX0_least yX0_least ∈ jt := jt_at3 (i := 11) rfl rfl
theorem kcw_X6_pulse : Cond.code yX6_pulse cX6_pulse 5 (some .int) ∈ jt := jt_at3 (i := 17) rfl rfl
theorem kci_X6_pulse : Cond.initialized yX6_pulse.cls ∈ jt := jt_at1 (i := 1) rfl rfl
theorem kc_X6_pulse : jsC yX6_pulse cX6_pulse 5 (some .int) 3 := ⟨kcw_X6_pulse, kci_X6_pulse, by decide +kernel, by decide +kernel, by decide +kernel⟩
theorem ki_X6_pulse : Cond.instanceMethod yX6_pulse ∈ jt := jt_at3 (i := 15) rfl rfl
theorem kv_X6_pulse : Cond.selects yX6_pulse.cls yX6_pulse yX6_pulse ∈ jt := jt_at3 (i := 16) rfl rfl
theorem kcw_X6_pulseOf : Cond.code yX6_pulseOf cX6_pulseOf 3 (some .int) ∈ jt := jt_at3 (i := 22) rfl rfl
theorem kci_X6_pulseOf : Cond.initialized yX6_pulseOf.cls ∈ jt := jt_at1 (i := 1) rfl rfl
theorem kc_X6_pulseOf : jsC yX6_pulseOf cX6_pulseOf 3 (some .int) 2 := ⟨kcw_X6_pulseOf, kci_X6_pulseOf, by decide +kernel, by decide +kernel, by decide +kernel⟩
theorem ki_X6_pulseOf : Cond.instanceMethod yX6_pulseOf ∈ jt := jt_at3 (i := 20) rfl rfl
theorem kv_X6_pulseOf : Cond.selects yX6_pulseOf.cls yX6_pulseOf yX6_pulseOf ∈ jt := jt_at3 (i := 21) rfl rfl
theorem kcw_X6_hush : Cond.code yX6_hush cX6_hush 2 (some .int) ∈ jt := jt_at3 (i := 26) rfl rfl
theorem kci_X6_hush : Cond.initialized yX6_hush.cls ∈ jt := jt_at1 (i := 1) rfl rfl
theorem kc_X6_hush : jsC yX6_hush cX6_hush 2 (some .int) 1 := ⟨kcw_X6_hush, kci_X6_hush, by decide +kernel, by decide +kernel, by decide +kernel⟩
theorem ki_X6_hush : Cond.instanceMethod yX6_hush ∈ jt := jt_at3 (i := 24) rfl rfl
theorem kv_X6_hush : Cond.selects yX6_hush.cls yX6_hush yX6_hush ∈ jt := jt_at3 (i := 25) rfl rfl
theorem kcw_X6_steady : Cond.code yX6_steady cX6_steady 3 (some .long) ∈ jt := jt_at3 (i := 31) rfl rfl
theorem kci_X6_steady : Cond.initialized yX6_steady.cls ∈ jt := jt_at1 (i := 1) rfl rfl
theorem kc_X6_steady : jsC yX6_steady cX6_steady 3 (some .long) 2 := ⟨kcw_X6_steady, kci_X6_steady, by decide +kernel, by decide +kernel, by decide +kernel⟩
theorem ki_X6_steady : Cond.instanceMethod yX6_steady ∈ jt := jt_at3 (i := 29) rfl rfl
theorem kv_X6_steady : Cond.selects yX6_steady.cls yX6_steady yX6_steady ∈ jt := jt_at3 (i := 30) rfl rfl
theorem kcw_X0_canRest : Cond.code yX0_canRest cX0_canRest 2 (some .boolean) ∈ jt := jt_at3 (i := 35) rfl rfl
theorem kci_X0_canRest : Cond.initialized yX0_canRest.cls ∈ jt := jt_at1 (i := 2) rfl rfl
theorem kc_X0_canRest : jsC yX0_canRest cX0_canRest 2 (some .boolean) 0 := ⟨kcw_X0_canRest, kci_X0_canRest, by decide +kernel, by decide +kernel, by decide +kernel⟩
theorem ki_X0_canRest : Cond.instanceMethod yX0_canRest ∈ jt := jt_at3 (i := 33) rfl rfl
theorem kv_X0_canRest : Cond.selects yX0_canRest.cls yX0_canRest yX0_canRest ∈ jt := jt_at3 (i := 34) rfl rfl
theorem kcw_X6_total : Cond.code yX6_total cX6_total 4 (some .int) ∈ jt := jt_at3 (i := 38) rfl rfl
theorem kci_X6_total : Cond.initialized yX6_total.cls ∈ jt := jt_at1 (i := 1) rfl rfl
theorem kc_X6_total : jsC yX6_total cX6_total 4 (some .int) 2 := ⟨kcw_X6_total, kci_X6_total, by decide +kernel, by decide +kernel, by decide +kernel⟩
theorem ks_X6_total : Cond.static yX6_total ∈ jt := jt_at3 (i := 37) rfl rfl
theorem kcw_X4_solve : Cond.code yX4_solve cX4_solve 4 (none) ∈ jt := jt_at3 (i := 42) rfl rfl
theorem kci_X4_solve : Cond.initialized yX4_solve.cls ∈ jt := jt_at1 (i := 4) rfl rfl
theorem kc_X4_solve : jsC yX4_solve cX4_solve 4 (none) 1 := ⟨kcw_X4_solve, kci_X4_solve, by decide +kernel, by decide +kernel, by decide +kernel⟩
theorem ki_X4_solve : Cond.instanceMethod yX4_solve ∈ jt := jt_at3 (i := 40) rfl rfl
theorem kv_X4_solve : Cond.selects yX4_solve.cls yX4_solve yX4_solve ∈ jt := jt_at3 (i := 41) rfl rfl
theorem kcw_X4_sweepRight : Cond.code yX4_sweepRight cX4_sweepRight 8 (none) ∈ jt := jt_at3 (i := 46) rfl rfl
theorem kci_X4_sweepRight : Cond.initialized yX4_sweepRight.cls ∈ jt := jt_at1 (i := 4) rfl rfl
theorem kc_X4_sweepRight : jsC yX4_sweepRight cX4_sweepRight 8 (none) 2 := ⟨kcw_X4_sweepRight, kci_X4_sweepRight, by decide +kernel, by decide +kernel, by decide +kernel⟩
theorem ki_X4_sweepRight : Cond.instanceMethod yX4_sweepRight ∈ jt := jt_at3 (i := 45) rfl rfl
theorem kv_X4_sweepRight : Cond.selects yX4_sweepRight.cls yX4_sweepRight yX4_sweepRight ∈ jt := jt_sel (i := 2) (q := (yX4_sweepRight, 6)) rfl rfl rfl
theorem kcw_X0_supply : Cond.code yX0_supply cX0_supply 4 (some .int) ∈ jt := jt_at3 (i := 52) rfl rfl
theorem kci_X0_supply : Cond.initialized yX0_supply.cls ∈ jt := jt_at1 (i := 2) rfl rfl
theorem kc_X0_supply : jsC yX0_supply cX0_supply 4 (some .int) 1 := ⟨kcw_X0_supply, kci_X0_supply, by decide +kernel, by decide +kernel, by decide +kernel⟩
theorem ki_X0_supply : Cond.instanceMethod yX0_supply ∈ jt := jt_at3 (i := 50) rfl rfl
theorem kv_X0_supply : Cond.selects yX0_supply.cls yX0_supply yX0_supply ∈ jt := jt_at3 (i := 51) rfl rfl
theorem kcw_X4_sweepLeft : Cond.code yX4_sweepLeft cX4_sweepLeft 6 (none) ∈ jt := jt_at3 (i := 56) rfl rfl
theorem kci_X4_sweepLeft : Cond.initialized yX4_sweepLeft.cls ∈ jt := jt_at1 (i := 4) rfl rfl
theorem kc_X4_sweepLeft : jsC yX4_sweepLeft cX4_sweepLeft 6 (none) 2 := ⟨kcw_X4_sweepLeft, kci_X4_sweepLeft, by decide +kernel, by decide +kernel, by decide +kernel⟩
theorem ki_X4_sweepLeft : Cond.instanceMethod yX4_sweepLeft ∈ jt := jt_at3 (i := 55) rfl rfl
theorem kv_X4_sweepLeft : Cond.selects yX4_sweepLeft.cls yX4_sweepLeft yX4_sweepLeft ∈ jt := jt_sel (i := 3) (q := (yX4_sweepLeft, 6)) rfl rfl rfl
theorem kcw_X6_steadyFlow : Cond.code yX6_steadyFlow cX6_steadyFlow 3 (some .long) ∈ jt := jt_at3 (i := 60) rfl rfl
theorem kci_X6_steadyFlow : Cond.initialized yX6_steadyFlow.cls ∈ jt := jt_at1 (i := 1) rfl rfl
theorem kc_X6_steadyFlow : jsC yX6_steadyFlow cX6_steadyFlow 3 (some .long) 2 := ⟨kcw_X6_steadyFlow, kci_X6_steadyFlow, by decide +kernel, by decide +kernel, by decide +kernel⟩
theorem ki_X6_steadyFlow : Cond.instanceMethod yX6_steadyFlow ∈ jt := jt_at3 (i := 58) rfl rfl
theorem kv_X6_steadyFlow : Cond.selects yX6_steadyFlow.cls yX6_steadyFlow yX6_steadyFlow ∈ jt := jt_at3 (i := 59) rfl rfl
theorem kcw_X6_hottest : Cond.code yX6_hottest cX6_hottest 1 (some .int) ∈ jt := jt_at3 (i := 64) rfl rfl
theorem kci_X6_hottest : Cond.initialized yX6_hottest.cls ∈ jt := jt_at1 (i := 1) rfl rfl
theorem kc_X6_hottest : jsC yX6_hottest cX6_hottest 1 (some .int) 0 := ⟨kcw_X6_hottest, kci_X6_hottest, by decide +kernel, by decide +kernel, by decide +kernel⟩
theorem ki_X6_hottest : Cond.instanceMethod yX6_hottest ∈ jt := jt_at3 (i := 62) rfl rfl
theorem kv_X6_hottest : Cond.selects yX6_hottest.cls yX6_hottest yX6_hottest ∈ jt := jt_at3 (i := 63) rfl rfl
theorem kcw_X6_lay : Cond.code yX6_lay cX6_lay 1 (some .int) ∈ jt := jt_at3 (i := 69) rfl rfl
theorem kci_X6_lay : Cond.initialized yX6_lay.cls ∈ jt := jt_at1 (i := 1) rfl rfl
theorem kc_X6_lay : jsC yX6_lay cX6_lay 1 (some .int) 0 := ⟨kcw_X6_lay, kci_X6_lay, by decide +kernel, by decide +kernel, by decide +kernel⟩
theorem ki_X6_lay : Cond.instanceMethod yX6_lay ∈ jt := jt_at3 (i := 67) rfl rfl
theorem kv_X6_lay : Cond.selects yX6_lay.cls yX6_lay yX6_lay ∈ jt := jt_at3 (i := 68) rfl rfl
theorem kcw_X6_isSteady : Cond.code yX6_isSteady cX6_isSteady 2 (some .int) ∈ jt := jt_at3 (i := 74) rfl rfl
theorem kci_X6_isSteady : Cond.initialized yX6_isSteady.cls ∈ jt := jt_at1 (i := 1) rfl rfl
theorem kc_X6_isSteady : jsC yX6_isSteady cX6_isSteady 2 (some .int) 0 := ⟨kcw_X6_isSteady, kci_X6_isSteady, by decide +kernel, by decide +kernel, by decide +kernel⟩
theorem ki_X6_isSteady : Cond.instanceMethod yX6_isSteady ∈ jt := jt_at3 (i := 72) rfl rfl
theorem kv_X6_isSteady : Cond.selects yX6_isSteady.cls yX6_isSteady yX6_isSteady ∈ jt := jt_at3 (i := 73) rfl rfl
theorem kcw_X6_buried : Cond.code yX6_buried cX6_buried 3 (some .int) ∈ jt := jt_at3 (i := 79) rfl rfl
theorem kci_X6_buried : Cond.initialized yX6_buried.cls ∈ jt := jt_at1 (i := 1) rfl rfl
theorem kc_X6_buried : jsC yX6_buried cX6_buried 3 (some .int) 2 := ⟨kcw_X6_buried, kci_X6_buried, by decide +kernel, by decide +kernel, by decide +kernel⟩
theorem ki_X6_buried : Cond.instanceMethod yX6_buried ∈ jt := jt_at3 (i := 77) rfl rfl
theorem kv_X6_buried : Cond.selects yX6_buried.cls yX6_buried yX6_buried ∈ jt := jt_at3 (i := 78) rfl rfl
theorem kcw_X6_isSheet : Cond.code yX6_isSheet cX6_isSheet 1 (some .boolean) ∈ jt := jt_at3 (i := 82) rfl rfl
theorem kci_X6_isSheet : Cond.initialized yX6_isSheet.cls ∈ jt := jt_at1 (i := 1) rfl rfl
theorem kc_X6_isSheet : jsC yX6_isSheet cX6_isSheet 1 (some .boolean) 1 := ⟨kcw_X6_isSheet, kci_X6_isSheet, by decide +kernel, by decide +kernel, by decide +kernel⟩
theorem ks_X6_isSheet : Cond.static yX6_isSheet ∈ jt := jt_at3 (i := 81) rfl rfl
theorem kcw_X3_isMissing : Cond.code yX3_isMissing cX3_isMissing 2 (some .boolean) ∈ jt := jt_at3 (i := 86) rfl rfl
theorem kci_X3_isMissing : Cond.initialized yX3_isMissing.cls ∈ jt := jt_at1 (i := 5) rfl rfl
theorem kc_X3_isMissing : jsC yX3_isMissing cX3_isMissing 2 (some .boolean) 1 := ⟨kcw_X3_isMissing, kci_X3_isMissing, by decide +kernel, by decide +kernel, by decide +kernel⟩
theorem ki_X3_isMissing : Cond.instanceMethod yX3_isMissing ∈ jt := jt_at3 (i := 84) rfl rfl
theorem kv_X3_isMissing : Cond.selects yX3_isMissing.cls yX3_isMissing yX3_isMissing ∈ jt := jt_at3 (i := 85) rfl rfl
theorem kcw_X6_firstBuried : Cond.code yX6_firstBuried cX6_firstBuried 4 (some .int) ∈ jt := jt_at3 (i := 90) rfl rfl
theorem kci_X6_firstBuried : Cond.initialized yX6_firstBuried.cls ∈ jt := jt_at1 (i := 1) rfl rfl
theorem kc_X6_firstBuried : jsC yX6_firstBuried cX6_firstBuried 4 (some .int) 1 := ⟨kcw_X6_firstBuried, kci_X6_firstBuried, by decide +kernel, by decide +kernel, by decide +kernel⟩
theorem ki_X6_firstBuried : Cond.instanceMethod yX6_firstBuried ∈ jt := jt_at3 (i := 89) rfl rfl
theorem kv_X6_firstBuried : Cond.selects yX6_firstBuried.cls yX6_firstBuried yX6_firstBuried ∈ jt := jt_sel (i := 4) (q := (yX6_firstBuried, 8)) rfl rfl rfl
theorem kcw_X6_mayBeBuried : Cond.code yX6_mayBeBuried cX6_mayBeBuried 5 (some .boolean) ∈ jt := jt_at3 (i := 94) rfl rfl
theorem kci_X6_mayBeBuried : Cond.initialized yX6_mayBeBuried.cls ∈ jt := jt_at1 (i := 1) rfl rfl
theorem kc_X6_mayBeBuried : jsC yX6_mayBeBuried cX6_mayBeBuried 5 (some .boolean) 3 := ⟨kcw_X6_mayBeBuried, kci_X6_mayBeBuried, by decide +kernel, by decide +kernel, by decide +kernel⟩
theorem ki_X6_mayBeBuried : Cond.instanceMethod yX6_mayBeBuried ∈ jt := jt_at3 (i := 93) rfl rfl
theorem kv_X6_mayBeBuried : Cond.selects yX6_mayBeBuried.cls yX6_mayBeBuried yX6_mayBeBuried ∈ jt := jt_sel (i := 5) (q := (yX6_mayBeBuried, 8)) rfl rfl rfl
theorem kcw_X6_wholePart : Cond.code yX6_wholePart cX6_wholePart 4 (some .long) ∈ jt := jt_at3 (i := 97) rfl rfl
theorem kci_X6_wholePart : Cond.initialized yX6_wholePart.cls ∈ jt := jt_at1 (i := 1) rfl rfl
theorem kc_X6_wholePart : jsC yX6_wholePart cX6_wholePart 4 (some .long) 2 := ⟨kcw_X6_wholePart, kci_X6_wholePart, by decide +kernel, by decide +kernel, by decide +kernel⟩
theorem ks_X6_wholePart : Cond.static yX6_wholePart ∈ jt := jt_at3 (i := 96) rfl rfl
theorem kcw_J9_floorDiv_f86c9 : Cond.code yJ9_floorDiv_f86c9 cJ9_floorDiv_f86c9 6 (some .long) ∈ jt := jt_at3 (i := 100) rfl rfl
theorem kci_J9_floorDiv_f86c9 : Cond.initialized yJ9_floorDiv_f86c9.cls ∈ jt := jt_at1 (i := 9) rfl rfl
theorem kc_J9_floorDiv_f86c9 : jsC yJ9_floorDiv_f86c9 cJ9_floorDiv_f86c9 6 (some .long) 2 := ⟨kcw_J9_floorDiv_f86c9, kci_J9_floorDiv_f86c9, by decide +kernel, by decide +kernel, by decide +kernel⟩
theorem ks_J9_floorDiv_f86c9 : Cond.static yJ9_floorDiv_f86c9 ∈ jt := jt_at3 (i := 99) rfl rfl
theorem kcw_X6_howManyBuried : Cond.code yX6_howManyBuried cX6_howManyBuried 5 (some .int) ∈ jt := jt_at3 (i := 104) rfl rfl
theorem kci_X6_howManyBuried : Cond.initialized yX6_howManyBuried.cls ∈ jt := jt_at1 (i := 1) rfl rfl
theorem kc_X6_howManyBuried : jsC yX6_howManyBuried cX6_howManyBuried 5 (some .int) 1 := ⟨kcw_X6_howManyBuried, kci_X6_howManyBuried, by decide +kernel, by decide +kernel, by decide +kernel⟩
theorem ki_X6_howManyBuried : Cond.instanceMethod yX6_howManyBuried ∈ jt := jt_at3 (i := 103) rfl rfl
theorem kv_X6_howManyBuried : Cond.selects yX6_howManyBuried.cls yX6_howManyBuried yX6_howManyBuried ∈ jt := jt_sel (i := 6) (q := (yX6_howManyBuried, 8)) rfl rfl rfl
theorem kcw_X6_tells : Cond.code yX6_tells cX6_tells 6 (some .int) ∈ jt := jt_at3 (i := 108) rfl rfl
theorem kci_X6_tells : Cond.initialized yX6_tells.cls ∈ jt := jt_at1 (i := 1) rfl rfl
theorem kc_X6_tells : jsC yX6_tells cX6_tells 6 (some .int) 3 := ⟨kcw_X6_tells, kci_X6_tells, by decide +kernel, by decide +kernel, by decide +kernel⟩
theorem ki_X6_tells : Cond.instanceMethod yX6_tells ∈ jt := jt_at3 (i := 106) rfl rfl
theorem kv_X6_tells : Cond.selects yX6_tells.cls yX6_tells yX6_tells ∈ jt := jt_at3 (i := 107) rfl rfl
theorem kcw_X6_firstOtherwise : Cond.code yX6_firstOtherwise cX6_firstOtherwise 5 (some .int) ∈ jt := jt_at3 (i := 112) rfl rfl
theorem kci_X6_firstOtherwise : Cond.initialized yX6_firstOtherwise.cls ∈ jt := jt_at1 (i := 1) rfl rfl
theorem kc_X6_firstOtherwise : jsC yX6_firstOtherwise cX6_firstOtherwise 5 (some .int) 3 := ⟨kcw_X6_firstOtherwise, kci_X6_firstOtherwise, by decide +kernel, by decide +kernel, by decide +kernel⟩
theorem ki_X6_firstOtherwise : Cond.instanceMethod yX6_firstOtherwise ∈ jt := jt_at3 (i := 111) rfl rfl
theorem kv_X6_firstOtherwise : Cond.selects yX6_firstOtherwise.cls yX6_firstOtherwise yX6_firstOtherwise ∈ jt := jt_sel (i := 7) (q := (yX6_firstOtherwise, 8)) rfl rfl rfl
theorem kcw_X6_film : Cond.code yX6_film cX6_film 7 (some .int) ∈ jt := jt_at3 (i := 116) rfl rfl
theorem kci_X6_film : Cond.initialized yX6_film.cls ∈ jt := jt_at1 (i := 1) rfl rfl
theorem kc_X6_film : jsC yX6_film cX6_film 7 (some .int) 3 := ⟨kcw_X6_film, kci_X6_film, by decide +kernel, by decide +kernel, by decide +kernel⟩
theorem ki_X6_film : Cond.instanceMethod yX6_film ∈ jt := jt_at3 (i := 114) rfl rfl
theorem kv_X6_film : Cond.selects yX6_film.cls yX6_film yX6_film ∈ jt := jt_at3 (i := 115) rfl rfl
theorem kcw_J9_min_f86c9 : Cond.code yJ9_min_f86c9 cJ9_min_f86c9 4 (some .long) ∈ jt := jt_at3 (i := 121) rfl rfl
theorem kci_J9_min_f86c9 : Cond.initialized yJ9_min_f86c9.cls ∈ jt := jt_at1 (i := 9) rfl rfl
theorem kc_J9_min_f86c9 : jsC yJ9_min_f86c9 cJ9_min_f86c9 4 (some .long) 2 := ⟨kcw_J9_min_f86c9, kci_J9_min_f86c9, by decide +kernel, by decide +kernel, by decide +kernel⟩
theorem ks_J9_min_f86c9 : Cond.static yJ9_min_f86c9 ∈ jt := jt_at3 (i := 120) rfl rfl
theorem kcw_J9_max_f86c9 : Cond.code yJ9_max_f86c9 cJ9_max_f86c9 4 (some .long) ∈ jt := jt_at3 (i := 124) rfl rfl
theorem kci_J9_max_f86c9 : Cond.initialized yJ9_max_f86c9.cls ∈ jt := jt_at1 (i := 9) rfl rfl
theorem kc_J9_max_f86c9 : jsC yJ9_max_f86c9 cJ9_max_f86c9 4 (some .long) 2 := ⟨kcw_J9_max_f86c9, kci_J9_max_f86c9, by decide +kernel, by decide +kernel, by decide +kernel⟩
theorem ks_J9_max_f86c9 : Cond.static yJ9_max_f86c9 ∈ jt := jt_at3 (i := 123) rfl rfl
theorem kcw_X3_renew : Cond.code yX3_renew cX3_renew 5 (none) ∈ jt := jt_at3 (i := 128) rfl rfl
theorem kci_X3_renew : Cond.initialized yX3_renew.cls ∈ jt := jt_at1 (i := 5) rfl rfl
theorem kc_X3_renew : jsC yX3_renew cX3_renew 5 (none) 3 := ⟨kcw_X3_renew, kci_X3_renew, by decide +kernel, by decide +kernel, by decide +kernel⟩
theorem ki_X3_renew : Cond.instanceMethod yX3_renew ∈ jt := jt_at3 (i := 126) rfl rfl
theorem kv_X3_renew : Cond.selects yX3_renew.cls yX3_renew yX3_renew ∈ jt := jt_at3 (i := 127) rfl rfl
theorem kcw_X6_drawn : Cond.code yX6_drawn cX6_drawn 5 (some .long) ∈ jt := jt_at3 (i := 133) rfl rfl
theorem kci_X6_drawn : Cond.initialized yX6_drawn.cls ∈ jt := jt_at1 (i := 1) rfl rfl
theorem kc_X6_drawn : jsC yX6_drawn cX6_drawn 5 (some .long) 2 := ⟨kcw_X6_drawn, kci_X6_drawn, by decide +kernel, by decide +kernel, by decide +kernel⟩
theorem ki_X6_drawn : Cond.instanceMethod yX6_drawn ∈ jt := jt_at3 (i := 131) rfl rfl
theorem kv_X6_drawn : Cond.selects yX6_drawn.cls yX6_drawn yX6_drawn ∈ jt := jt_at3 (i := 132) rfl rfl
theorem kcw_X6_remainder : Cond.code yX6_remainder cX6_remainder 4 (some .long) ∈ jt := jt_at3 (i := 137) rfl rfl
theorem kci_X6_remainder : Cond.initialized yX6_remainder.cls ∈ jt := jt_at1 (i := 1) rfl rfl
theorem kc_X6_remainder : jsC yX6_remainder cX6_remainder 4 (some .long) 2 := ⟨kcw_X6_remainder, kci_X6_remainder, by decide +kernel, by decide +kernel, by decide +kernel⟩
theorem ks_X6_remainder : Cond.static yX6_remainder ∈ jt := jt_at3 (i := 136) rfl rfl
theorem kcw_X0_warm : Cond.code yX0_warm cX0_warm 3 (none) ∈ jt := jt_at3 (i := 141) rfl rfl
theorem kci_X0_warm : Cond.initialized yX0_warm.cls ∈ jt := jt_at1 (i := 2) rfl rfl
theorem kc_X0_warm : jsC yX0_warm cX0_warm 3 (none) 2 := ⟨kcw_X0_warm, kci_X0_warm, by decide +kernel, by decide +kernel, by decide +kernel⟩
theorem ki_X0_warm : Cond.instanceMethod yX0_warm ∈ jt := jt_at3 (i := 139) rfl rfl
theorem kv_X0_warm : Cond.selects yX0_warm.cls yX0_warm yX0_warm ∈ jt := jt_at3 (i := 140) rfl rfl
theorem kcw_X6_feed : Cond.code yX6_feed cX6_feed 9 (some .int) ∈ jt := jt_at3 (i := 145) rfl rfl
theorem kci_X6_feed : Cond.initialized yX6_feed.cls ∈ jt := jt_at1 (i := 1) rfl rfl
theorem kc_X6_feed : jsC yX6_feed cX6_feed 9 (some .int) 6 := ⟨kcw_X6_feed, kci_X6_feed, by decide +kernel, by decide +kernel, by decide +kernel⟩
theorem ki_X6_feed : Cond.instanceMethod yX6_feed ∈ jt := jt_at3 (i := 143) rfl rfl
theorem kv_X6_feed : Cond.selects yX6_feed.cls yX6_feed yX6_feed ∈ jt := jt_at3 (i := 144) rfl rfl
theorem kcw_X6_isByte : Cond.code yX6_isByte cX6_isByte 1 (some .boolean) ∈ jt := jt_at3 (i := 148) rfl rfl
theorem kci_X6_isByte : Cond.initialized yX6_isByte.cls ∈ jt := jt_at1 (i := 1) rfl rfl
theorem kc_X6_isByte : jsC yX6_isByte cX6_isByte 1 (some .boolean) 1 := ⟨kcw_X6_isByte, kci_X6_isByte, by decide +kernel, by decide +kernel, by decide +kernel⟩
theorem ks_X6_isByte : Cond.static yX6_isByte ∈ jt := jt_at3 (i := 147) rfl rfl
theorem kcw_X5_append : Cond.code yX5_append cX5_append 3 (none) ∈ jt := jt_at3 (i := 152) rfl rfl
theorem kci_X5_append : Cond.initialized yX5_append.cls ∈ jt := jt_at1 (i := 6) rfl rfl
theorem kc_X5_append : jsC yX5_append cX5_append 3 (none) 2 := ⟨kcw_X5_append, kci_X5_append, by decide +kernel, by decide +kernel, by decide +kernel⟩
theorem ki_X5_append : Cond.instanceMethod yX5_append ∈ jt := jt_at3 (i := 150) rfl rfl
theorem kv_X5_append : Cond.selects yX5_append.cls yX5_append yX5_append ∈ jt := jt_at3 (i := 151) rfl rfl
theorem kcw_X6_text : Cond.code yX6_text cX6_text 2 (some .int) ∈ jt := jt_at3 (i := 156) rfl rfl
theorem kci_X6_text : Cond.initialized yX6_text.cls ∈ jt := jt_at1 (i := 1) rfl rfl
theorem kc_X6_text : jsC yX6_text cX6_text 2 (some .int) 0 := ⟨kcw_X6_text, kci_X6_text, by decide +kernel, by decide +kernel, by decide +kernel⟩
theorem ki_X6_text : Cond.instanceMethod yX6_text ∈ jt := jt_at3 (i := 154) rfl rfl
theorem kv_X6_text : Cond.selects yX6_text.cls yX6_text yX6_text ∈ jt := jt_at3 (i := 155) rfl rfl
theorem kcw_X5_read : Cond.code yX5_read cX5_read 2 (some .int) ∈ jt := jt_at3 (i := 160) rfl rfl
theorem kci_X5_read : Cond.initialized yX5_read.cls ∈ jt := jt_at1 (i := 6) rfl rfl
theorem kc_X5_read : jsC yX5_read cX5_read 2 (some .int) 0 := ⟨kcw_X5_read, kci_X5_read, by decide +kernel, by decide +kernel, by decide +kernel⟩
theorem ki_X5_read : Cond.instanceMethod yX5_read ∈ jt := jt_at3 (i := 158) rfl rfl
theorem kv_X5_read : Cond.selects yX5_read.cls yX5_read yX5_read ∈ jt := jt_at3 (i := 159) rfl rfl
theorem kcw_X5_readClause : Cond.code yX5_readClause cX5_readClause 4 (some .boolean) ∈ jt := jt_at3 (i := 164) rfl rfl
theorem kci_X5_readClause : Cond.initialized yX5_readClause.cls ∈ jt := jt_at1 (i := 6) rfl rfl
theorem kc_X5_readClause : jsC yX5_readClause cX5_readClause 4 (some .boolean) 0 := ⟨kcw_X5_readClause, kci_X5_readClause, by decide +kernel, by decide +kernel, by decide +kernel⟩
theorem ki_X5_readClause : Cond.instanceMethod yX5_readClause ∈ jt := jt_at3 (i := 163) rfl rfl
theorem kv_X5_readClause : Cond.selects yX5_readClause.cls yX5_readClause yX5_readClause ∈ jt := jt_sel (i := 8) (q := (yX5_readClause, 5)) rfl rfl rfl
theorem kcw_X5_skipBlanks : Cond.code yX5_skipBlanks cX5_skipBlanks 1 (none) ∈ jt := jt_at3 (i := 168) rfl rfl
theorem kci_X5_skipBlanks : Cond.initialized yX5_skipBlanks.cls ∈ jt := jt_at1 (i := 6) rfl rfl
theorem kc_X5_skipBlanks : jsC yX5_skipBlanks cX5_skipBlanks 1 (none) 0 := ⟨kcw_X5_skipBlanks, kci_X5_skipBlanks, by decide +kernel, by decide +kernel, by decide +kernel⟩
theorem ki_X5_skipBlanks : Cond.instanceMethod yX5_skipBlanks ∈ jt := jt_at3 (i := 167) rfl rfl
theorem kv_X5_skipBlanks : Cond.selects yX5_skipBlanks.cls yX5_skipBlanks yX5_skipBlanks ∈ jt := jt_sel (i := 9) (q := (yX5_skipBlanks, 5)) rfl rfl rfl
theorem kcw_X5_lettersHere : Cond.code yX5_lettersHere cX5_lettersHere 2 (some .int) ∈ jt := jt_at3 (i := 172) rfl rfl
theorem kci_X5_lettersHere : Cond.initialized yX5_lettersHere.cls ∈ jt := jt_at1 (i := 6) rfl rfl
theorem kc_X5_lettersHere : jsC yX5_lettersHere cX5_lettersHere 2 (some .int) 0 := ⟨kcw_X5_lettersHere, kci_X5_lettersHere, by decide +kernel, by decide +kernel, by decide +kernel⟩
theorem ki_X5_lettersHere : Cond.instanceMethod yX5_lettersHere ∈ jt := jt_at3 (i := 171) rfl rfl
theorem kv_X5_lettersHere : Cond.selects yX5_lettersHere.cls yX5_lettersHere yX5_lettersHere ∈ jt := jt_sel (i := 10) (q := (yX5_lettersHere, 5)) rfl rfl rfl
theorem kcw_X5_wordHere : Cond.code yX5_wordHere cX5_wordHere 3 (some .int) ∈ jt := jt_at3 (i := 176) rfl rfl
theorem kci_X5_wordHere : Cond.initialized yX5_wordHere.cls ∈ jt := jt_at1 (i := 6) rfl rfl
theorem kc_X5_wordHere : jsC yX5_wordHere cX5_wordHere 3 (some .int) 1 := ⟨kcw_X5_wordHere, kci_X5_wordHere, by decide +kernel, by decide +kernel, by decide +kernel⟩
theorem ki_X5_wordHere : Cond.instanceMethod yX5_wordHere ∈ jt := jt_at3 (i := 175) rfl rfl
theorem kv_X5_wordHere : Cond.selects yX5_wordHere.cls yX5_wordHere yX5_wordHere ∈ jt := jt_sel (i := 11) (q := (yX5_wordHere, 5)) rfl rfl rfl
theorem kcw_X5_nameOf : Cond.code yX5_nameOf cX5_nameOf 1 (some (.object "java/lang/String")) ∈ jt := jt_at3 (i := 179) rfl rfl
theorem kci_X5_nameOf : Cond.initialized yX5_nameOf.cls ∈ jt := jt_at1 (i := 6) rfl rfl
theorem kc_X5_nameOf : jsC yX5_nameOf cX5_nameOf 1 (some (.object "java/lang/String")) 1 := ⟨kcw_X5_nameOf, kci_X5_nameOf, by decide +kernel, by decide +kernel, by decide +kernel⟩
theorem ks_X5_nameOf : Cond.static yX5_nameOf ∈ jt := jt_at3 (i := 178) rfl rfl
theorem kcw_X5_isHere : Cond.code yX5_isHere cX5_isHere 4 (some .boolean) ∈ jt := jt_at3 (i := 191) rfl rfl
theorem kci_X5_isHere : Cond.initialized yX5_isHere.cls ∈ jt := jt_at1 (i := 6) rfl rfl
theorem kc_X5_isHere : jsC yX5_isHere cX5_isHere 4 (some .boolean) 2 := ⟨kcw_X5_isHere, kci_X5_isHere, by decide +kernel, by decide +kernel, by decide +kernel⟩
theorem ki_X5_isHere : Cond.instanceMethod yX5_isHere ∈ jt := jt_at3 (i := 190) rfl rfl
theorem kv_X5_isHere : Cond.selects yX5_isHere.cls yX5_isHere yX5_isHere ∈ jt := jt_sel (i := 12) (q := (yX5_isHere, 5)) rfl rfl rfl
theorem kcw_J0_length_8abf5 : Cond.code yJ0_length_8abf5 cJ0_length_8abf5 1 (some .int) ∈ jt := jt_at3 (i := 195) rfl rfl
theorem kci_J0_length_8abf5 : Cond.initialized yJ0_length_8abf5.cls ∈ jt := jt_at1 (i := 11) rfl rfl
theorem kc_J0_length_8abf5 : jsC yJ0_length_8abf5 cJ0_length_8abf5 1 (some .int) 0 := ⟨kcw_J0_length_8abf5, kci_J0_length_8abf5, by decide +kernel, by decide +kernel, by decide +kernel⟩
theorem ki_J0_length_8abf5 : Cond.instanceMethod yJ0_length_8abf5 ∈ jt := jt_at3 (i := 193) rfl rfl
theorem kv_J0_length_8abf5 : Cond.selects yJ0_length_8abf5.cls yJ0_length_8abf5 yJ0_length_8abf5 ∈ jt := jt_at3 (i := 194) rfl rfl
theorem kcw_J0_coder_7d493 : Cond.code yJ0_coder_7d493 cJ0_coder_7d493 1 (some .byte) ∈ jt := jt_at3 (i := 199) rfl rfl
theorem kci_J0_coder_7d493 : Cond.initialized yJ0_coder_7d493.cls ∈ jt := jt_at1 (i := 11) rfl rfl
theorem kc_J0_coder_7d493 : jsC yJ0_coder_7d493 cJ0_coder_7d493 1 (some .byte) 0 := ⟨kcw_J0_coder_7d493, kci_J0_coder_7d493, by decide +kernel, by decide +kernel, by decide +kernel⟩
theorem ki_J0_coder_7d493 : Cond.instanceMethod yJ0_coder_7d493 ∈ jt := jt_at3 (i := 197) rfl rfl
theorem kv_J0_coder_7d493 : Cond.selects yJ0_coder_7d493.cls yJ0_coder_7d493 yJ0_coder_7d493 ∈ jt := jt_at3 (i := 198) rfl rfl
theorem kcw_J0_charAt_5068e : Cond.code yJ0_charAt_5068e cJ0_charAt_5068e 2 (some .char) ∈ jt := jt_at3 (i := 205) rfl rfl
theorem kci_J0_charAt_5068e : Cond.initialized yJ0_charAt_5068e.cls ∈ jt := jt_at1 (i := 11) rfl rfl
theorem kc_J0_charAt_5068e : jsC yJ0_charAt_5068e cJ0_charAt_5068e 2 (some .char) 1 := ⟨kcw_J0_charAt_5068e, kci_J0_charAt_5068e, by decide +kernel, by decide +kernel, by decide +kernel⟩
theorem ki_J0_charAt_5068e : Cond.instanceMethod yJ0_charAt_5068e ∈ jt := jt_at3 (i := 203) rfl rfl
theorem kv_J0_charAt_5068e : Cond.selects yJ0_charAt_5068e.cls yJ0_charAt_5068e yJ0_charAt_5068e ∈ jt := jt_at3 (i := 204) rfl rfl
theorem kcw_J0_isLatin1_aae02 : Cond.code yJ0_isLatin1_aae02 cJ0_isLatin1_aae02 1 (some .boolean) ∈ jt := jt_at3 (i := 209) rfl rfl
theorem kci_J0_isLatin1_aae02 : Cond.initialized yJ0_isLatin1_aae02.cls ∈ jt := jt_at1 (i := 11) rfl rfl
theorem kc_J0_isLatin1_aae02 : jsC yJ0_isLatin1_aae02 cJ0_isLatin1_aae02 1 (some .boolean) 0 := ⟨kcw_J0_isLatin1_aae02, kci_J0_isLatin1_aae02, by decide +kernel, by decide +kernel, by decide +kernel⟩
theorem ki_J0_isLatin1_aae02 : Cond.instanceMethod yJ0_isLatin1_aae02 ∈ jt := jt_at3 (i := 207) rfl rfl
theorem kv_J0_isLatin1_aae02 : Cond.selects yJ0_isLatin1_aae02.cls yJ0_isLatin1_aae02 yJ0_isLatin1_aae02 ∈ jt := jt_at3 (i := 208) rfl rfl
theorem kcw_J1_charAt_3b067 : Cond.code yJ1_charAt_3b067 cJ1_charAt_3b067 2 (some .char) ∈ jt := jt_at3 (i := 212) rfl rfl
theorem kci_J1_charAt_3b067 : Cond.initialized yJ1_charAt_3b067.cls ∈ jt := jt_at1 (i := 12) rfl rfl
theorem kc_J1_charAt_3b067 : jsC yJ1_charAt_3b067 cJ1_charAt_3b067 2 (some .char) 2 := ⟨kcw_J1_charAt_3b067, kci_J1_charAt_3b067, by decide +kernel, by decide +kernel, by decide +kernel⟩
theorem ks_J1_charAt_3b067 : Cond.static yJ1_charAt_3b067 ∈ jt := jt_at3 (i := 211) rfl rfl
theorem kcw_J0_checkIndex_df160 : Cond.code yJ0_checkIndex_df160 cJ0_checkIndex_df160 2 (none) ∈ jt := jt_at3 (i := 215) rfl rfl
theorem kci_J0_checkIndex_df160 : Cond.initialized yJ0_checkIndex_df160.cls ∈ jt := jt_at1 (i := 11) rfl rfl
theorem kc_J0_checkIndex_df160 : jsC yJ0_checkIndex_df160 cJ0_checkIndex_df160 2 (none) 2 := ⟨kcw_J0_checkIndex_df160, kci_J0_checkIndex_df160, by decide +kernel, by decide +kernel, by decide +kernel⟩
theorem ks_J0_checkIndex_df160 : Cond.static yJ0_checkIndex_df160 ∈ jt := jt_at3 (i := 214) rfl rfl
theorem kcw_J3_checkIndex_8e157 : Cond.code yJ3_checkIndex_8e157 cJ3_checkIndex_8e157 3 (some .int) ∈ jt := jt_at3 (i := 220) rfl rfl
theorem kci_J3_checkIndex_8e157 : Cond.initialized yJ3_checkIndex_8e157.cls ∈ jt := jt_at1 (i := 13) rfl rfl
theorem kc_J3_checkIndex_8e157 : jsC yJ3_checkIndex_8e157 cJ3_checkIndex_8e157 3 (some .int) 3 := ⟨kcw_J3_checkIndex_8e157, kci_J3_checkIndex_8e157, by decide +kernel, by decide +kernel, by decide +kernel⟩
theorem ks_J3_checkIndex_8e157 : Cond.static yJ3_checkIndex_8e157 ∈ jt := jt_at3 (i := 219) rfl rfl
theorem kcw_J2_charAt_3b067 : Cond.code yJ2_charAt_3b067 cJ2_charAt_3b067 2 (some .char) ∈ jt := jt_at3 (i := 223) rfl rfl
theorem kci_J2_charAt_3b067 : Cond.initialized yJ2_charAt_3b067.cls ∈ jt := jt_at1 (i := 14) rfl rfl
theorem kc_J2_charAt_3b067 : jsC yJ2_charAt_3b067 cJ2_charAt_3b067 2 (some .char) 2 := ⟨kcw_J2_charAt_3b067, kci_J2_charAt_3b067, by decide +kernel, by decide +kernel, by decide +kernel⟩
theorem ks_J2_charAt_3b067 : Cond.static yJ2_charAt_3b067 ∈ jt := jt_at3 (i := 222) rfl rfl
theorem kcw_J2_checkIndex_2214a : Cond.code yJ2_checkIndex_2214a cJ2_checkIndex_2214a 2 (none) ∈ jt := jt_at3 (i := 226) rfl rfl
theorem kci_J2_checkIndex_2214a : Cond.initialized yJ2_checkIndex_2214a.cls ∈ jt := jt_at1 (i := 14) rfl rfl
theorem kc_J2_checkIndex_2214a : jsC yJ2_checkIndex_2214a cJ2_checkIndex_2214a 2 (none) 2 := ⟨kcw_J2_checkIndex_2214a, kci_J2_checkIndex_2214a, by decide +kernel, by decide +kernel, by decide +kernel⟩
theorem ks_J2_checkIndex_2214a : Cond.static yJ2_checkIndex_2214a ∈ jt := jt_at3 (i := 225) rfl rfl
theorem kcw_J2_length_9d52b : Cond.code yJ2_length_9d52b cJ2_length_9d52b 1 (some .int) ∈ jt := jt_at3 (i := 229) rfl rfl
theorem kci_J2_length_9d52b : Cond.initialized yJ2_length_9d52b.cls ∈ jt := jt_at1 (i := 14) rfl rfl
theorem kc_J2_length_9d52b : jsC yJ2_length_9d52b cJ2_length_9d52b 1 (some .int) 1 := ⟨kcw_J2_length_9d52b, kci_J2_length_9d52b, by decide +kernel, by decide +kernel, by decide +kernel⟩
theorem ks_J2_length_9d52b : Cond.static yJ2_length_9d52b ∈ jt := jt_at3 (i := 228) rfl rfl
theorem kcw_J2_getChar_3b067 : Cond.code yJ2_getChar_3b067 cJ2_getChar_3b067 2 (some .char) ∈ jt := jt_at3 (i := 233) rfl rfl
theorem kci_J2_getChar_3b067 : Cond.initialized yJ2_getChar_3b067.cls ∈ jt := jt_at1 (i := 14) rfl rfl
theorem kc_J2_getChar_3b067 : jsC yJ2_getChar_3b067 cJ2_getChar_3b067 2 (some .char) 2 := ⟨kcw_J2_getChar_3b067, kci_J2_getChar_3b067, by decide +kernel, by decide +kernel, by decide +kernel⟩
theorem ks_J2_getChar_3b067 : Cond.static yJ2_getChar_3b067 ∈ jt := jt_at3 (i := 232) rfl rfl
theorem kcw_X5_planNext : Cond.code yX5_planNext cX5_planNext 2 (none) ∈ jt := jt_at4 (i := 3) rfl rfl
theorem kci_X5_planNext : Cond.initialized yX5_planNext.cls ∈ jt := jt_at1 (i := 6) rfl rfl
theorem kc_X5_planNext : jsC yX5_planNext cX5_planNext 2 (none) 1 := ⟨kcw_X5_planNext, kci_X5_planNext, by decide +kernel, by decide +kernel, by decide +kernel⟩
theorem ki_X5_planNext : Cond.instanceMethod yX5_planNext ∈ jt := jt_at4 (i := 2) rfl rfl
theorem kv_X5_planNext : Cond.selects yX5_planNext.cls yX5_planNext yX5_planNext ∈ jt := jt_sel (i := 13) (q := (yX5_planNext, 5)) rfl rfl rfl
theorem kcw_X5_numbersOf : Cond.code yX5_numbersOf cX5_numbersOf 1 (some .int) ∈ jt := jt_at4 (i := 6) rfl rfl
theorem kci_X5_numbersOf : Cond.initialized yX5_numbersOf.cls ∈ jt := jt_at1 (i := 6) rfl rfl
theorem kc_X5_numbersOf : jsC yX5_numbersOf cX5_numbersOf 1 (some .int) 1 := ⟨kcw_X5_numbersOf, kci_X5_numbersOf, by decide +kernel, by decide +kernel, by decide +kernel⟩
theorem ks_X5_numbersOf : Cond.static yX5_numbersOf ∈ jt := jt_at4 (i := 5) rfl rfl
theorem kcw_X5_readNumber : Cond.code yX5_readNumber cX5_readNumber 5 (some .boolean) ∈ jt := jt_at4 (i := 10) rfl rfl
theorem kci_X5_readNumber : Cond.initialized yX5_readNumber.cls ∈ jt := jt_at1 (i := 6) rfl rfl
theorem kc_X5_readNumber : jsC yX5_readNumber cX5_readNumber 5 (some .boolean) 0 := ⟨kcw_X5_readNumber, kci_X5_readNumber, by decide +kernel, by decide +kernel, by decide +kernel⟩
theorem ki_X5_readNumber : Cond.instanceMethod yX5_readNumber ∈ jt := jt_at4 (i := 9) rfl rfl
theorem kv_X5_readNumber : Cond.selects yX5_readNumber.cls yX5_readNumber yX5_readNumber ∈ jt := jt_sel (i := 14) (q := (yX5_readNumber, 5)) rfl rfl rfl
theorem kcw_X6_clausesDone : Cond.code yX6_clausesDone cX6_clausesDone 4 (some .int) ∈ jt := jt_at4 (i := 14) rfl rfl
theorem kci_X6_clausesDone : Cond.initialized yX6_clausesDone.cls ∈ jt := jt_at1 (i := 1) rfl rfl
theorem kc_X6_clausesDone : jsC yX6_clausesDone cX6_clausesDone 4 (some .int) 0 := ⟨kcw_X6_clausesDone, kci_X6_clausesDone, by decide +kernel, by decide +kernel, by decide +kernel⟩
theorem ki_X6_clausesDone : Cond.instanceMethod yX6_clausesDone ∈ jt := jt_at4 (i := 13) rfl rfl
theorem kv_X6_clausesDone : Cond.selects yX6_clausesDone.cls yX6_clausesDone yX6_clausesDone ∈ jt := jt_sel (i := 15) (q := (yX6_clausesDone, 8)) rfl rfl rfl
theorem kcw_X6_isClauseDone : Cond.code yX6_isClauseDone cX6_isClauseDone 5 (some .boolean) ∈ jt := jt_at4 (i := 18) rfl rfl
theorem kci_X6_isClauseDone : Cond.initialized yX6_isClauseDone.cls ∈ jt := jt_at1 (i := 1) rfl rfl
theorem kc_X6_isClauseDone : jsC yX6_isClauseDone cX6_isClauseDone 5 (some .boolean) 1 := ⟨kcw_X6_isClauseDone, kci_X6_isClauseDone, by decide +kernel, by decide +kernel, by decide +kernel⟩
theorem ki_X6_isClauseDone : Cond.instanceMethod yX6_isClauseDone ∈ jt := jt_at4 (i := 17) rfl rfl
theorem kv_X6_isClauseDone : Cond.selects yX6_isClauseDone.cls yX6_isClauseDone yX6_isClauseDone ∈ jt := jt_sel (i := 16) (q := (yX6_isClauseDone, 8)) rfl rfl rfl
theorem kcw_X5_planAt : Cond.code yX5_planAt cX5_planAt 2 (some .int) ∈ jt := jt_at4 (i := 22) rfl rfl
theorem kci_X5_planAt : Cond.initialized yX5_planAt.cls ∈ jt := jt_at1 (i := 6) rfl rfl
theorem kc_X5_planAt : jsC yX5_planAt cX5_planAt 2 (some .int) 1 := ⟨kcw_X5_planAt, kci_X5_planAt, by decide +kernel, by decide +kernel, by decide +kernel⟩
theorem ki_X5_planAt : Cond.instanceMethod yX5_planAt ∈ jt := jt_at4 (i := 20) rfl rfl
theorem kv_X5_planAt : Cond.selects yX5_planAt.cls yX5_planAt yX5_planAt ∈ jt := jt_at4 (i := 21) rfl rfl
theorem kcw_X6_image : Cond.code yX6_image cX6_image 1 (some .int) ∈ jt := jt_at4 (i := 35) rfl rfl
theorem kci_X6_image : Cond.initialized yX6_image.cls ∈ jt := jt_at1 (i := 1) rfl rfl
theorem kc_X6_image : jsC yX6_image cX6_image 1 (some .int) 0 := ⟨kcw_X6_image, kci_X6_image, by decide +kernel, by decide +kernel, by decide +kernel⟩
theorem ki_X6_image : Cond.instanceMethod yX6_image ∈ jt := jt_at4 (i := 33) rfl rfl
theorem kv_X6_image : Cond.selects yX6_image.cls yX6_image yX6_image ∈ jt := jt_at4 (i := 34) rfl rfl
theorem kcw_X6_back : Cond.code yX6_back cX6_back 1 (some .int) ∈ jt := jt_at4 (i := 39) rfl rfl
theorem kci_X6_back : Cond.initialized yX6_back.cls ∈ jt := jt_at1 (i := 1) rfl rfl
theorem kc_X6_back : jsC yX6_back cX6_back 1 (some .int) 0 := ⟨kcw_X6_back, kci_X6_back, by decide +kernel, by decide +kernel, by decide +kernel⟩
theorem ki_X6_back : Cond.instanceMethod yX6_back ∈ jt := jt_at4 (i := 37) rfl rfl
theorem kv_X6_back : Cond.selects yX6_back.cls yX6_back yX6_back ∈ jt := jt_at4 (i := 38) rfl rfl
theorem kcw_X6_load : Cond.code yX6_load cX6_load 9 (some .int) ∈ jt := jt_at4 (i := 43) rfl rfl
theorem kci_X6_load : Cond.initialized yX6_load.cls ∈ jt := jt_at1 (i := 1) rfl rfl
theorem kc_X6_load : jsC yX6_load cX6_load 9 (some .int) 4 := ⟨kcw_X6_load, kci_X6_load, by decide +kernel, by decide +kernel, by decide +kernel⟩
theorem ki_X6_load : Cond.instanceMethod yX6_load ∈ jt := jt_at4 (i := 41) rfl rfl
theorem kv_X6_load : Cond.selects yX6_load.cls yX6_load yX6_load ∈ jt := jt_at4 (i := 42) rfl rfl
theorem kcw_X3_has : Cond.code yX3_has cX3_has 3 (some .boolean) ∈ jt := jt_at4 (i := 47) rfl rfl
theorem kci_X3_has : Cond.initialized yX3_has.cls ∈ jt := jt_at1 (i := 5) rfl rfl
theorem kc_X3_has : jsC yX3_has cX3_has 3 (some .boolean) 2 := ⟨kcw_X3_has, kci_X3_has, by decide +kernel, by decide +kernel, by decide +kernel⟩
theorem ki_X3_has : Cond.instanceMethod yX3_has ∈ jt := jt_at4 (i := 45) rfl rfl
theorem kv_X3_has : Cond.selects yX3_has.cls yX3_has yX3_has ∈ jt := jt_at4 (i := 46) rfl rfl
theorem kcw_X6_count : Cond.code yX6_count cX6_count 2 (some .int) ∈ jt := jt_at4 (i := 51) rfl rfl
theorem kci_X6_count : Cond.initialized yX6_count.cls ∈ jt := jt_at1 (i := 1) rfl rfl
theorem kc_X6_count : jsC yX6_count cX6_count 2 (some .int) 1 := ⟨kcw_X6_count, kci_X6_count, by decide +kernel, by decide +kernel, by decide +kernel⟩
theorem ki_X6_count : Cond.instanceMethod yX6_count ∈ jt := jt_at4 (i := 49) rfl rfl
theorem kv_X6_count : Cond.selects yX6_count.cls yX6_count yX6_count ∈ jt := jt_at4 (i := 50) rfl rfl
theorem kcw_X6_sheet : Cond.code yX6_sheet cX6_sheet 4 (some .int) ∈ jt := jt_at4 (i := 56) rfl rfl
theorem kci_X6_sheet : Cond.initialized yX6_sheet.cls ∈ jt := jt_at1 (i := 1) rfl rfl
theorem kc_X6_sheet : jsC yX6_sheet cX6_sheet 4 (some .int) 3 := ⟨kcw_X6_sheet, kci_X6_sheet, by decide +kernel, by decide +kernel, by decide +kernel⟩
theorem ki_X6_sheet : Cond.instanceMethod yX6_sheet ∈ jt := jt_at4 (i := 54) rfl rfl
theorem kv_X6_sheet : Cond.selects yX6_sheet.cls yX6_sheet yX6_sheet ∈ jt := jt_at4 (i := 55) rfl rfl
theorem kcw_X6_put : Cond.code yX6_put cX6_put 4 (some .int) ∈ jt := jt_at4 (i := 60) rfl rfl
theorem kci_X6_put : Cond.initialized yX6_put.cls ∈ jt := jt_at1 (i := 1) rfl rfl
theorem kc_X6_put : jsC yX6_put cX6_put 4 (some .int) 3 := ⟨kcw_X6_put, kci_X6_put, by decide +kernel, by decide +kernel, by decide +kernel⟩
theorem ki_X6_put : Cond.instanceMethod yX6_put ∈ jt := jt_at4 (i := 58) rfl rfl
theorem kv_X6_put : Cond.selects yX6_put.cls yX6_put yX6_put ∈ jt := jt_at4 (i := 59) rfl rfl
theorem kcw_X6_copy : Cond.code yX6_copy cX6_copy 6 (some .int) ∈ jt := jt_at4 (i := 64) rfl rfl
theorem kci_X6_copy : Cond.initialized yX6_copy.cls ∈ jt := jt_at1 (i := 1) rfl rfl
theorem kc_X6_copy : jsC yX6_copy cX6_copy 6 (some .int) 5 := ⟨kcw_X6_copy, kci_X6_copy, by decide +kernel, by decide +kernel, by decide +kernel⟩
theorem ki_X6_copy : Cond.instanceMethod yX6_copy ∈ jt := jt_at4 (i := 62) rfl rfl
theorem kv_X6_copy : Cond.selects yX6_copy.cls yX6_copy yX6_copy ∈ jt := jt_at4 (i := 63) rfl rfl
theorem kcw_X3_hasRun : Cond.code yX3_hasRun cX3_hasRun 4 (some .boolean) ∈ jt := jt_at4 (i := 68) rfl rfl
theorem kci_X3_hasRun : Cond.initialized yX3_hasRun.cls ∈ jt := jt_at1 (i := 5) rfl rfl
theorem kc_X3_hasRun : jsC yX3_hasRun cX3_hasRun 4 (some .boolean) 3 := ⟨kcw_X3_hasRun, kci_X3_hasRun, by decide +kernel, by decide +kernel, by decide +kernel⟩
theorem ki_X3_hasRun : Cond.instanceMethod yX3_hasRun ∈ jt := jt_at4 (i := 66) rfl rfl
theorem kv_X3_hasRun : Cond.selects yX3_hasRun.cls yX3_hasRun yX3_hasRun ∈ jt := jt_at4 (i := 67) rfl rfl
theorem kcw_X7_init : Cond.code yX7_init cX7_init 1 (none) ∈ jt := jt_at4 (i := 73) rfl rfl
theorem kci_X7_init : Cond.initialized yX7_init.cls ∈ jt := jt_at1 (i := 7) rfl rfl
theorem kc_X7_init : jsC yX7_init cX7_init 1 (none) 0 := ⟨kcw_X7_init, kci_X7_init, by decide +kernel, by decide +kernel, by decide +kernel⟩
theorem ki_X7_init : Cond.instanceMethod yX7_init ∈ jt := jt_at4 (i := 72) rfl rfl
theorem kcw_X7_cell : Cond.code yX7_cell cX7_cell 5 (some .int) ∈ jt := jt_at5 (i := 5) rfl rfl
theorem kci_X7_cell : Cond.initialized yX7_cell.cls ∈ jt := jt_at1 (i := 7) rfl rfl
theorem kc_X7_cell : jsC yX7_cell cX7_cell 5 (some .int) 4 := ⟨kcw_X7_cell, kci_X7_cell, by decide +kernel, by decide +kernel, by decide +kernel⟩
theorem ki_X7_cell : Cond.instanceMethod yX7_cell ∈ jt := jt_at5 (i := 3) rfl rfl
theorem kv_X7_cell : Cond.selects yX7_cell.cls yX7_cell yX7_cell ∈ jt := jt_at5 (i := 4) rfl rfl
theorem kcw_X7_isMade : Cond.code yX7_isMade cX7_isMade 3 (some .boolean) ∈ jt := jt_at5 (i := 8) rfl rfl
theorem kci_X7_isMade : Cond.initialized yX7_isMade.cls ∈ jt := jt_at1 (i := 7) rfl rfl
theorem kc_X7_isMade : jsC yX7_isMade cX7_isMade 3 (some .boolean) 3 := ⟨kcw_X7_isMade, kci_X7_isMade, by decide +kernel, by decide +kernel, by decide +kernel⟩
theorem ks_X7_isMade : Cond.static yX7_isMade ∈ jt := jt_at5 (i := 7) rfl rfl
theorem kcw_X7_isIn : Cond.code yX7_isIn cX7_isIn 6 (some .boolean) ∈ jt := jt_at5 (i := 12) rfl rfl
theorem kci_X7_isIn : Cond.initialized yX7_isIn.cls ∈ jt := jt_at1 (i := 7) rfl rfl
theorem kc_X7_isIn : jsC yX7_isIn cX7_isIn 6 (some .boolean) 3 := ⟨kcw_X7_isIn, kci_X7_isIn, by decide +kernel, by decide +kernel, by decide +kernel⟩
theorem ks_X7_isIn : Cond.static yX7_isIn ∈ jt := jt_at5 (i := 11) rfl rfl
theorem kcw_X7_drop : Cond.code yX7_drop cX7_drop 1 (some .int) ∈ jt := jt_at5 (i := 19) rfl rfl
theorem kci_X7_drop : Cond.initialized yX7_drop.cls ∈ jt := jt_at1 (i := 7) rfl rfl
theorem kc_X7_drop : jsC yX7_drop cX7_drop 1 (some .int) 0 := ⟨kcw_X7_drop, kci_X7_drop, by decide +kernel, by decide +kernel, by decide +kernel⟩
theorem ki_X7_drop : Cond.instanceMethod yX7_drop ∈ jt := jt_at5 (i := 17) rfl rfl
theorem kv_X7_drop : Cond.selects yX7_drop.cls yX7_drop yX7_drop ∈ jt := jt_at5 (i := 18) rfl rfl
theorem kcw_X7_hushed : Cond.code yX7_hushed cX7_hushed 4 (some .int) ∈ jt := jt_at5 (i := 23) rfl rfl
theorem kci_X7_hushed : Cond.initialized yX7_hushed.cls ∈ jt := jt_at1 (i := 7) rfl rfl
theorem kc_X7_hushed : jsC yX7_hushed cX7_hushed 4 (some .int) 1 := ⟨kcw_X7_hushed, kci_X7_hushed, by decide +kernel, by decide +kernel, by decide +kernel⟩
theorem ki_X7_hushed : Cond.instanceMethod yX7_hushed ∈ jt := jt_at5 (i := 22) rfl rfl
theorem kv_X7_hushed : Cond.selects yX7_hushed.cls yX7_hushed yX7_hushed ∈ jt := jt_sel (i := 17) (q := (yX7_hushed, 55)) rfl rfl rfl
theorem kcw_X7_shorten : Cond.code yX7_shorten cX7_shorten 4 (none) ∈ jt := jt_at5 (i := 27) rfl rfl
theorem kci_X7_shorten : Cond.initialized yX7_shorten.cls ∈ jt := jt_at1 (i := 7) rfl rfl
theorem kc_X7_shorten : jsC yX7_shorten cX7_shorten 4 (none) 0 := ⟨kcw_X7_shorten, kci_X7_shorten, by decide +kernel, by decide +kernel, by decide +kernel⟩
theorem ki_X7_shorten : Cond.instanceMethod yX7_shorten ∈ jt := jt_at5 (i := 26) rfl rfl
theorem kv_X7_shorten : Cond.selects yX7_shorten.cls yX7_shorten yX7_shorten ∈ jt := jt_sel (i := 18) (q := (yX7_shorten, 55)) rfl rfl rfl
theorem kcw_X7_divisor : Cond.code yX7_divisor cX7_divisor 10 (some .long) ∈ jt := jt_at5 (i := 30) rfl rfl
theorem kci_X7_divisor : Cond.initialized yX7_divisor.cls ∈ jt := jt_at1 (i := 7) rfl rfl
theorem kc_X7_divisor : jsC yX7_divisor cX7_divisor 10 (some .long) 2 := ⟨kcw_X7_divisor, kci_X7_divisor, by decide +kernel, by decide +kernel, by decide +kernel⟩
theorem ks_X7_divisor : Cond.static yX7_divisor ∈ jt := jt_at5 (i := 29) rfl rfl
theorem kcw_X7_set : Cond.code yX7_set cX7_set 6 (some .int) ∈ jt := jt_at5 (i := 35) rfl rfl
theorem kci_X7_set : Cond.initialized yX7_set.cls ∈ jt := jt_at1 (i := 7) rfl rfl
theorem kc_X7_set : jsC yX7_set cX7_set 6 (some .int) 3 := ⟨kcw_X7_set, kci_X7_set, by decide +kernel, by decide +kernel, by decide +kernel⟩
theorem ki_X7_set : Cond.instanceMethod yX7_set ∈ jt := jt_at5 (i := 33) rfl rfl
theorem kv_X7_set : Cond.selects yX7_set.cls yX7_set yX7_set ∈ jt := jt_at5 (i := 34) rfl rfl
theorem kcw_X7_isCell : Cond.code yX7_isCell cX7_isCell 2 (some .boolean) ∈ jt := jt_at5 (i := 39) rfl rfl
theorem kci_X7_isCell : Cond.initialized yX7_isCell.cls ∈ jt := jt_at1 (i := 7) rfl rfl
theorem kc_X7_isCell : jsC yX7_isCell cX7_isCell 2 (some .boolean) 1 := ⟨kcw_X7_isCell, kci_X7_isCell, by decide +kernel, by decide +kernel, by decide +kernel⟩
theorem ki_X7_isCell : Cond.instanceMethod yX7_isCell ∈ jt := jt_at5 (i := 38) rfl rfl
theorem kv_X7_isCell : Cond.selects yX7_isCell.cls yX7_isCell yX7_isCell ∈ jt := jt_sel (i := 19) (q := (yX7_isCell, 55)) rfl rfl rfl
theorem kcw_X7_heat : Cond.code yX7_heat cX7_heat 3 (some .int) ∈ jt := jt_at5 (i := 45) rfl rfl
theorem kci_X7_heat : Cond.initialized yX7_heat.cls ∈ jt := jt_at1 (i := 7) rfl rfl
theorem kc_X7_heat : jsC yX7_heat cX7_heat 3 (some .int) 2 := ⟨kcw_X7_heat, kci_X7_heat, by decide +kernel, by decide +kernel, by decide +kernel⟩
theorem ki_X7_heat : Cond.instanceMethod yX7_heat ∈ jt := jt_at5 (i := 43) rfl rfl
theorem kv_X7_heat : Cond.selects yX7_heat.cls yX7_heat yX7_heat ∈ jt := jt_at5 (i := 44) rfl rfl
theorem kcw_X7_of : Cond.code yX7_of cX7_of 3 (some .int) ∈ jt := jt_at5 (i := 49) rfl rfl
theorem kci_X7_of : Cond.initialized yX7_of.cls ∈ jt := jt_at1 (i := 7) rfl rfl
theorem kc_X7_of : jsC yX7_of cX7_of 3 (some .int) 2 := ⟨kcw_X7_of, kci_X7_of, by decide +kernel, by decide +kernel, by decide +kernel⟩
theorem ki_X7_of : Cond.instanceMethod yX7_of ∈ jt := jt_at5 (i := 47) rfl rfl
theorem kv_X7_of : Cond.selects yX7_of.cls yX7_of yX7_of ∈ jt := jt_at5 (i := 48) rfl rfl
theorem kcw_X7_side : Cond.code yX7_side cX7_side 3 (some .int) ∈ jt := jt_at5 (i := 53) rfl rfl
theorem kci_X7_side : Cond.initialized yX7_side.cls ∈ jt := jt_at1 (i := 7) rfl rfl
theorem kc_X7_side : jsC yX7_side cX7_side 3 (some .int) 1 := ⟨kcw_X7_side, kci_X7_side, by decide +kernel, by decide +kernel, by decide +kernel⟩
theorem ki_X7_side : Cond.instanceMethod yX7_side ∈ jt := jt_at5 (i := 52) rfl rfl
theorem kv_X7_side : Cond.selects yX7_side.cls yX7_side yX7_side ∈ jt := jt_sel (i := 20) (q := (yX7_side, 55)) rfl rfl rfl
theorem kcw_X7_holds : Cond.code yX7_holds cX7_holds 2 (some .int) ∈ jt := jt_at5 (i := 58) rfl rfl
theorem kci_X7_holds : Cond.initialized yX7_holds.cls ∈ jt := jt_at1 (i := 7) rfl rfl
theorem kc_X7_holds : jsC yX7_holds cX7_holds 2 (some .int) 1 := ⟨kcw_X7_holds, kci_X7_holds, by decide +kernel, by decide +kernel, by decide +kernel⟩
theorem ki_X7_holds : Cond.instanceMethod yX7_holds ∈ jt := jt_at5 (i := 57) rfl rfl
theorem kv_X7_holds : Cond.selects yX7_holds.cls yX7_holds yX7_holds ∈ jt := jt_sel (i := 21) (q := (yX7_holds, 55)) rfl rfl rfl
theorem kcw_X7_isUnder : Cond.code yX7_isUnder cX7_isUnder 3 (some .boolean) ∈ jt := jt_at5 (i := 61) rfl rfl
theorem kci_X7_isUnder : Cond.initialized yX7_isUnder.cls ∈ jt := jt_at1 (i := 7) rfl rfl
theorem kc_X7_isUnder : jsC yX7_isUnder cX7_isUnder 3 (some .boolean) 2 := ⟨kcw_X7_isUnder, kci_X7_isUnder, by decide +kernel, by decide +kernel, by decide +kernel⟩
theorem ks_X7_isUnder : Cond.static yX7_isUnder ∈ jt := jt_at5 (i := 60) rfl rfl
theorem kcw_X7_above : Cond.code yX7_above cX7_above 1 (some .int) ∈ jt := jt_at5 (i := 64) rfl rfl
theorem kci_X7_above : Cond.initialized yX7_above.cls ∈ jt := jt_at1 (i := 7) rfl rfl
theorem kc_X7_above : jsC yX7_above cX7_above 1 (some .int) 1 := ⟨kcw_X7_above, kci_X7_above, by decide +kernel, by decide +kernel, by decide +kernel⟩
theorem ks_X7_above : Cond.static yX7_above ∈ jt := jt_at5 (i := 63) rfl rfl
theorem kcw_X7_fin : Cond.code yX7_fin cX7_fin 2 (some .int) ∈ jt := jt_at5 (i := 68) rfl rfl
theorem kci_X7_fin : Cond.initialized yX7_fin.cls ∈ jt := jt_at1 (i := 7) rfl rfl
theorem kc_X7_fin : jsC yX7_fin cX7_fin 2 (some .int) 1 := ⟨kcw_X7_fin, kci_X7_fin, by decide +kernel, by decide +kernel, by decide +kernel⟩
theorem ki_X7_fin : Cond.instanceMethod yX7_fin ∈ jt := jt_at5 (i := 67) rfl rfl
theorem kv_X7_fin : Cond.selects yX7_fin.cls yX7_fin yX7_fin ∈ jt := jt_sel (i := 22) (q := (yX7_fin, 55)) rfl rfl rfl
theorem kcw_X7_made : Cond.code yX7_made cX7_made 4 (some .int) ∈ jt := jt_at5 (i := 72) rfl rfl
theorem kci_X7_made : Cond.initialized yX7_made.cls ∈ jt := jt_at1 (i := 7) rfl rfl
theorem kc_X7_made : jsC yX7_made cX7_made 4 (some .int) 1 := ⟨kcw_X7_made, kci_X7_made, by decide +kernel, by decide +kernel, by decide +kernel⟩
theorem ki_X7_made : Cond.instanceMethod yX7_made ∈ jt := jt_at5 (i := 71) rfl rfl
theorem kv_X7_made : Cond.selects yX7_made.cls yX7_made yX7_made ∈ jt := jt_sel (i := 23) (q := (yX7_made, 55)) rfl rfl rfl
theorem kcw_X7_taken : Cond.code yX7_taken cX7_taken 3 (some .int) ∈ jt := jt_at5 (i := 76) rfl rfl
theorem kci_X7_taken : Cond.initialized yX7_taken.cls ∈ jt := jt_at1 (i := 7) rfl rfl
theorem kc_X7_taken : jsC yX7_taken cX7_taken 3 (some .int) 2 := ⟨kcw_X7_taken, kci_X7_taken, by decide +kernel, by decide +kernel, by decide +kernel⟩
theorem ki_X7_taken : Cond.instanceMethod yX7_taken ∈ jt := jt_at5 (i := 74) rfl rfl
theorem kv_X7_taken : Cond.selects yX7_taken.cls yX7_taken yX7_taken ∈ jt := jt_at5 (i := 75) rfl rfl
theorem kcw_X7_kin : Cond.code yX7_kin cX7_kin 4 (some .int) ∈ jt := jt_at5 (i := 80) rfl rfl
theorem kci_X7_kin : Cond.initialized yX7_kin.cls ∈ jt := jt_at1 (i := 7) rfl rfl
theorem kc_X7_kin : jsC yX7_kin cX7_kin 4 (some .int) 1 := ⟨kcw_X7_kin, kci_X7_kin, by decide +kernel, by decide +kernel, by decide +kernel⟩
theorem ki_X7_kin : Cond.instanceMethod yX7_kin ∈ jt := jt_at5 (i := 78) rfl rfl
theorem kv_X7_kin : Cond.selects yX7_kin.cls yX7_kin yX7_kin ∈ jt := jt_at5 (i := 79) rfl rfl
theorem kcw_X7_end : Cond.code yX7_end cX7_end 4 (some .int) ∈ jt := jt_at5 (i := 84) rfl rfl
theorem kci_X7_end : Cond.initialized yX7_end.cls ∈ jt := jt_at1 (i := 7) rfl rfl
theorem kc_X7_end : jsC yX7_end cX7_end 4 (some .int) 2 := ⟨kcw_X7_end, kci_X7_end, by decide +kernel, by decide +kernel, by decide +kernel⟩
theorem ki_X7_end : Cond.instanceMethod yX7_end ∈ jt := jt_at5 (i := 82) rfl rfl
theorem kv_X7_end : Cond.selects yX7_end.cls yX7_end yX7_end ∈ jt := jt_at5 (i := 83) rfl rfl
theorem kcw_X7_rule : Cond.code yX7_rule cX7_rule 4 (some .int) ∈ jt := jt_at5 (i := 89) rfl rfl
theorem kci_X7_rule : Cond.initialized yX7_rule.cls ∈ jt := jt_at1 (i := 7) rfl rfl
theorem kc_X7_rule : jsC yX7_rule cX7_rule 4 (some .int) 2 := ⟨kcw_X7_rule, kci_X7_rule, by decide +kernel, by decide +kernel, by decide +kernel⟩
theorem ki_X7_rule : Cond.instanceMethod yX7_rule ∈ jt := jt_at5 (i := 87) rfl rfl
theorem kv_X7_rule : Cond.selects yX7_rule.cls yX7_rule yX7_rule ∈ jt := jt_at5 (i := 88) rfl rfl
theorem kcw_X7_joint : Cond.code yX7_joint cX7_joint 2 (some .int) ∈ jt := jt_at5 (i := 94) rfl rfl
theorem kci_X7_joint : Cond.initialized yX7_joint.cls ∈ jt := jt_at1 (i := 7) rfl rfl
theorem kc_X7_joint : jsC yX7_joint cX7_joint 2 (some .int) 1 := ⟨kcw_X7_joint, kci_X7_joint, by decide +kernel, by decide +kernel, by decide +kernel⟩
theorem ki_X7_joint : Cond.instanceMethod yX7_joint ∈ jt := jt_at5 (i := 92) rfl rfl
theorem kv_X7_joint : Cond.selects yX7_joint.cls yX7_joint yX7_joint ∈ jt := jt_at5 (i := 93) rfl rfl
theorem kcw_X7_isJoint : Cond.code yX7_isJoint cX7_isJoint 2 (some .boolean) ∈ jt := jt_at5 (i := 98) rfl rfl
theorem kci_X7_isJoint : Cond.initialized yX7_isJoint.cls ∈ jt := jt_at1 (i := 7) rfl rfl
theorem kc_X7_isJoint : jsC yX7_isJoint cX7_isJoint 2 (some .boolean) 1 := ⟨kcw_X7_isJoint, kci_X7_isJoint, by decide +kernel, by decide +kernel, by decide +kernel⟩
theorem ki_X7_isJoint : Cond.instanceMethod yX7_isJoint ∈ jt := jt_at5 (i := 97) rfl rfl
theorem kv_X7_isJoint : Cond.selects yX7_isJoint.cls yX7_isJoint yX7_isJoint ∈ jt := jt_sel (i := 24) (q := (yX7_isJoint, 55)) rfl rfl rfl
theorem kcw_X7_leads : Cond.code yX7_leads cX7_leads 2 (some .int) ∈ jt := jt_at5 (i := 102) rfl rfl
theorem kci_X7_leads : Cond.initialized yX7_leads.cls ∈ jt := jt_at1 (i := 7) rfl rfl
theorem kc_X7_leads : jsC yX7_leads cX7_leads 2 (some .int) 1 := ⟨kcw_X7_leads, kci_X7_leads, by decide +kernel, by decide +kernel, by decide +kernel⟩
theorem ki_X7_leads : Cond.instanceMethod yX7_leads ∈ jt := jt_at5 (i := 101) rfl rfl
theorem kv_X7_leads : Cond.selects yX7_leads.cls yX7_leads yX7_leads ∈ jt := jt_sel (i := 25) (q := (yX7_leads, 55)) rfl rfl rfl
theorem kcw_X7_t : Cond.code yX7_t cX7_t 3 (some .long) ∈ jt := jt_at5 (i := 106) rfl rfl
theorem kci_X7_t : Cond.initialized yX7_t.cls ∈ jt := jt_at1 (i := 7) rfl rfl
theorem kc_X7_t : jsC yX7_t cX7_t 3 (some .long) 2 := ⟨kcw_X7_t, kci_X7_t, by decide +kernel, by decide +kernel, by decide +kernel⟩
theorem ki_X7_t : Cond.instanceMethod yX7_t ∈ jt := jt_at5 (i := 104) rfl rfl
theorem kv_X7_t : Cond.selects yX7_t.cls yX7_t yX7_t ∈ jt := jt_at5 (i := 105) rfl rfl
theorem kcw_X7_part : Cond.code yX7_part cX7_part 7 (some .long) ∈ jt := jt_at5 (i := 109) rfl rfl
theorem kci_X7_part : Cond.initialized yX7_part.cls ∈ jt := jt_at1 (i := 7) rfl rfl
theorem kc_X7_part : jsC yX7_part cX7_part 7 (some .long) 3 := ⟨kcw_X7_part, kci_X7_part, by decide +kernel, by decide +kernel, by decide +kernel⟩
theorem ks_X7_part : Cond.static yX7_part ∈ jt := jt_at5 (i := 108) rfl rfl
theorem kcw_X7_line : Cond.code yX7_line cX7_line 1 (some .long) ∈ jt := jt_at5 (i := 114) rfl rfl
theorem kci_X7_line : Cond.initialized yX7_line.cls ∈ jt := jt_at1 (i := 7) rfl rfl
theorem kc_X7_line : jsC yX7_line cX7_line 1 (some .long) 0 := ⟨kcw_X7_line, kci_X7_line, by decide +kernel, by decide +kernel, by decide +kernel⟩
theorem ki_X7_line : Cond.instanceMethod yX7_line ∈ jt := jt_at5 (i := 112) rfl rfl
theorem kv_X7_line : Cond.selects yX7_line.cls yX7_line yX7_line ∈ jt := jt_at5 (i := 113) rfl rfl
theorem kcw_X7_flow : Cond.code yX7_flow cX7_flow 3 (some .long) ∈ jt := jt_at5 (i := 118) rfl rfl
theorem kci_X7_flow : Cond.initialized yX7_flow.cls ∈ jt := jt_at1 (i := 7) rfl rfl
theorem kc_X7_flow : jsC yX7_flow cX7_flow 3 (some .long) 2 := ⟨kcw_X7_flow, kci_X7_flow, by decide +kernel, by decide +kernel, by decide +kernel⟩
theorem ki_X7_flow : Cond.instanceMethod yX7_flow ∈ jt := jt_at5 (i := 116) rfl rfl
theorem kv_X7_flow : Cond.selects yX7_flow.cls yX7_flow yX7_flow ∈ jt := jt_at5 (i := 117) rfl rfl
theorem kcw_X7_think : Cond.code yX7_think cX7_think 2 (none) ∈ jt := jt_at5 (i := 122) rfl rfl
theorem kci_X7_think : Cond.initialized yX7_think.cls ∈ jt := jt_at1 (i := 7) rfl rfl
theorem kc_X7_think : jsC yX7_think cX7_think 2 (none) 0 := ⟨kcw_X7_think, kci_X7_think, by decide +kernel, by decide +kernel, by decide +kernel⟩
theorem ki_X7_think : Cond.instanceMethod yX7_think ∈ jt := jt_at5 (i := 121) rfl rfl
theorem kv_X7_think : Cond.selects yX7_think.cls yX7_think yX7_think ∈ jt := jt_sel (i := 26) (q := (yX7_think, 55)) rfl rfl rfl
theorem kcw_X7_flows : Cond.code yX7_flows cX7_flows 6 (some .long) ∈ jt := jt_at5 (i := 126) rfl rfl
theorem kci_X7_flows : Cond.initialized yX7_flows.cls ∈ jt := jt_at1 (i := 7) rfl rfl
theorem kc_X7_flows : jsC yX7_flows cX7_flows 6 (some .long) 1 := ⟨kcw_X7_flows, kci_X7_flows, by decide +kernel, by decide +kernel, by decide +kernel⟩
theorem ki_X7_flows : Cond.instanceMethod yX7_flows ∈ jt := jt_at5 (i := 125) rfl rfl
theorem kv_X7_flows : Cond.selects yX7_flows.cls yX7_flows yX7_flows ∈ jt := jt_sel (i := 27) (q := (yX7_flows, 55)) rfl rfl rfl
theorem kcw_X7_stable : Cond.code yX7_stable cX7_stable 4 (some .int) ∈ jt := jt_at5 (i := 130) rfl rfl
theorem kci_X7_stable : Cond.initialized yX7_stable.cls ∈ jt := jt_at1 (i := 7) rfl rfl
theorem kc_X7_stable : jsC yX7_stable cX7_stable 4 (some .int) 1 := ⟨kcw_X7_stable, kci_X7_stable, by decide +kernel, by decide +kernel, by decide +kernel⟩
theorem ki_X7_stable : Cond.instanceMethod yX7_stable ∈ jt := jt_at5 (i := 128) rfl rfl
theorem kv_X7_stable : Cond.selects yX7_stable.cls yX7_stable yX7_stable ∈ jt := jt_at5 (i := 129) rfl rfl
theorem kcw_X7_together : Cond.code yX7_together cX7_together 2 (some .int) ∈ jt := jt_at5 (i := 134) rfl rfl
theorem kci_X7_together : Cond.initialized yX7_together.cls ∈ jt := jt_at1 (i := 7) rfl rfl
theorem kc_X7_together : jsC yX7_together cX7_together 2 (some .int) 1 := ⟨kcw_X7_together, kci_X7_together, by decide +kernel, by decide +kernel, by decide +kernel⟩
theorem ki_X7_together : Cond.instanceMethod yX7_together ∈ jt := jt_at5 (i := 133) rfl rfl
theorem kv_X7_together : Cond.selects yX7_together.cls yX7_together yX7_together ∈ jt := jt_sel (i := 28) (q := (yX7_together, 55)) rfl rfl rfl
theorem kcw_X7_need : Cond.code yX7_need cX7_need 3 (some .int) ∈ jt := jt_at5 (i := 138) rfl rfl
theorem kci_X7_need : Cond.initialized yX7_need.cls ∈ jt := jt_at1 (i := 7) rfl rfl
theorem kc_X7_need : jsC yX7_need cX7_need 3 (some .int) 0 := ⟨kcw_X7_need, kci_X7_need, by decide +kernel, by decide +kernel, by decide +kernel⟩
theorem ki_X7_need : Cond.instanceMethod yX7_need ∈ jt := jt_at5 (i := 136) rfl rfl
theorem kv_X7_need : Cond.selects yX7_need.cls yX7_need yX7_need ∈ jt := jt_at5 (i := 137) rfl rfl
theorem kcw_X7_sum : Cond.code yX7_sum cX7_sum 5 (some .long) ∈ jt := jt_at5 (i := 143) rfl rfl
theorem kci_X7_sum : Cond.initialized yX7_sum.cls ∈ jt := jt_at1 (i := 7) rfl rfl
theorem kc_X7_sum : jsC yX7_sum cX7_sum 5 (some .long) 1 := ⟨kcw_X7_sum, kci_X7_sum, by decide +kernel, by decide +kernel, by decide +kernel⟩
theorem ki_X7_sum : Cond.instanceMethod yX7_sum ∈ jt := jt_at5 (i := 141) rfl rfl
theorem kv_X7_sum : Cond.selects yX7_sum.cls yX7_sum yX7_sum ∈ jt := jt_at5 (i := 142) rfl rfl
theorem kcw_X7_most : Cond.code yX7_most cX7_most 5 (some .int) ∈ jt := jt_at5 (i := 147) rfl rfl
theorem kci_X7_most : Cond.initialized yX7_most.cls ∈ jt := jt_at1 (i := 7) rfl rfl
theorem kc_X7_most : jsC yX7_most cX7_most 5 (some .int) 1 := ⟨kcw_X7_most, kci_X7_most, by decide +kernel, by decide +kernel, by decide +kernel⟩
theorem ki_X7_most : Cond.instanceMethod yX7_most ∈ jt := jt_at5 (i := 145) rfl rfl
theorem kv_X7_most : Cond.selects yX7_most.cls yX7_most yX7_most ∈ jt := jt_at5 (i := 146) rfl rfl
theorem kcw_X7_step : Cond.code yX7_step cX7_step 3 (some .int) ∈ jt := jt_at5 (i := 151) rfl rfl
theorem kci_X7_step : Cond.initialized yX7_step.cls ∈ jt := jt_at1 (i := 7) rfl rfl
theorem kc_X7_step : jsC yX7_step cX7_step 3 (some .int) 1 := ⟨kcw_X7_step, kci_X7_step, by decide +kernel, by decide +kernel, by decide +kernel⟩
theorem ki_X7_step : Cond.instanceMethod yX7_step ∈ jt := jt_at5 (i := 149) rfl rfl
theorem kv_X7_step : Cond.selects yX7_step.cls yX7_step yX7_step ∈ jt := jt_at5 (i := 150) rfl rfl
theorem kcw_X7_goes : Cond.code yX7_goes cX7_goes 5 (some .boolean) ∈ jt := jt_at5 (i := 156) rfl rfl
theorem kci_X7_goes : Cond.initialized yX7_goes.cls ∈ jt := jt_at1 (i := 7) rfl rfl
theorem kc_X7_goes : jsC yX7_goes cX7_goes 5 (some .boolean) 0 := ⟨kcw_X7_goes, kci_X7_goes, by decide +kernel, by decide +kernel, by decide +kernel⟩
theorem ki_X7_goes : Cond.instanceMethod yX7_goes ∈ jt := jt_at5 (i := 155) rfl rfl
theorem kv_X7_goes : Cond.selects yX7_goes.cls yX7_goes yX7_goes ∈ jt := jt_sel (i := 29) (q := (yX7_goes, 55)) rfl rfl rfl
theorem kcw_X7_reckons : Cond.code yX7_reckons cX7_reckons 6 (some .long) ∈ jt := jt_at5 (i := 160) rfl rfl
theorem kci_X7_reckons : Cond.initialized yX7_reckons.cls ∈ jt := jt_at1 (i := 7) rfl rfl
theorem kc_X7_reckons : jsC yX7_reckons cX7_reckons 6 (some .long) 0 := ⟨kcw_X7_reckons, kci_X7_reckons, by decide +kernel, by decide +kernel, by decide +kernel⟩
theorem ki_X7_reckons : Cond.instanceMethod yX7_reckons ∈ jt := jt_at5 (i := 159) rfl rfl
theorem kv_X7_reckons : Cond.selects yX7_reckons.cls yX7_reckons yX7_reckons ∈ jt := jt_sel (i := 30) (q := (yX7_reckons, 55)) rfl rfl rfl
theorem kcw_X7_change : Cond.code yX7_change cX7_change 2 (some .long) ∈ jt := jt_at5 (i := 164) rfl rfl
theorem kci_X7_change : Cond.initialized yX7_change.cls ∈ jt := jt_at1 (i := 7) rfl rfl
theorem kc_X7_change : jsC yX7_change cX7_change 2 (some .long) 1 := ⟨kcw_X7_change, kci_X7_change, by decide +kernel, by decide +kernel, by decide +kernel⟩
theorem ki_X7_change : Cond.instanceMethod yX7_change ∈ jt := jt_at5 (i := 163) rfl rfl
theorem kv_X7_change : Cond.selects yX7_change.cls yX7_change yX7_change ∈ jt := jt_sel (i := 31) (q := (yX7_change, 55)) rfl rfl rfl
theorem kcw_X7_keep : Cond.code yX7_keep cX7_keep 2 (none) ∈ jt := jt_at5 (i := 169) rfl rfl
theorem kci_X7_keep : Cond.initialized yX7_keep.cls ∈ jt := jt_at1 (i := 7) rfl rfl
theorem kc_X7_keep : jsC yX7_keep cX7_keep 2 (none) 0 := ⟨kcw_X7_keep, kci_X7_keep, by decide +kernel, by decide +kernel, by decide +kernel⟩
theorem ki_X7_keep : Cond.instanceMethod yX7_keep ∈ jt := jt_at5 (i := 168) rfl rfl
theorem kv_X7_keep : Cond.selects yX7_keep.cls yX7_keep yX7_keep ∈ jt := jt_sel (i := 32) (q := (yX7_keep, 55)) rfl rfl rfl
theorem kcw_X7_then : Cond.code yX7_then cX7_then 4 (some .long) ∈ jt := jt_at5 (i := 173) rfl rfl
theorem kci_X7_then : Cond.initialized yX7_then.cls ∈ jt := jt_at1 (i := 7) rfl rfl
theorem kc_X7_then : jsC yX7_then cX7_then 4 (some .long) 3 := ⟨kcw_X7_then, kci_X7_then, by decide +kernel, by decide +kernel, by decide +kernel⟩
theorem ki_X7_then : Cond.instanceMethod yX7_then ∈ jt := jt_at5 (i := 171) rfl rfl
theorem kv_X7_then : Cond.selects yX7_then.cls yX7_then yX7_then ∈ jt := jt_at5 (i := 172) rfl rfl
theorem kcw_X7_goes_ : Cond.code yX7_goes_ cX7_goes_ 4 (some .boolean) ∈ jt := jt_at5 (i := 177) rfl rfl
theorem kci_X7_goes_ : Cond.initialized yX7_goes_.cls ∈ jt := jt_at1 (i := 7) rfl rfl
theorem kc_X7_goes_ : jsC yX7_goes_ cX7_goes_ 4 (some .boolean) 1 := ⟨kcw_X7_goes_, kci_X7_goes_, by decide +kernel, by decide +kernel, by decide +kernel⟩
theorem ki_X7_goes_ : Cond.instanceMethod yX7_goes_ ∈ jt := jt_at5 (i := 176) rfl rfl
theorem kv_X7_goes_ : Cond.selects yX7_goes_.cls yX7_goes_ yX7_goes_ ∈ jt := jt_sel (i := 33) (q := (yX7_goes_, 55)) rfl rfl rfl
theorem kcw_X7_spent : Cond.code yX7_spent cX7_spent 3 (some .int) ∈ jt := jt_at5 (i := 181) rfl rfl
theorem kci_X7_spent : Cond.initialized yX7_spent.cls ∈ jt := jt_at1 (i := 7) rfl rfl
theorem kc_X7_spent : jsC yX7_spent cX7_spent 3 (some .int) 1 := ⟨kcw_X7_spent, kci_X7_spent, by decide +kernel, by decide +kernel, by decide +kernel⟩
theorem ki_X7_spent : Cond.instanceMethod yX7_spent ∈ jt := jt_at5 (i := 179) rfl rfl
theorem kv_X7_spent : Cond.selects yX7_spent.cls yX7_spent yX7_spent ∈ jt := jt_at5 (i := 180) rfl rfl
theorem kcw_X7_rises : Cond.code yX7_rises cX7_rises 7 (some .int) ∈ jt := jt_at5 (i := 185) rfl rfl
theorem kci_X7_rises : Cond.initialized yX7_rises.cls ∈ jt := jt_at1 (i := 7) rfl rfl
theorem kc_X7_rises : jsC yX7_rises cX7_rises 7 (some .int) 1 := ⟨kcw_X7_rises, kci_X7_rises, by decide +kernel, by decide +kernel, by decide +kernel⟩
theorem ki_X7_rises : Cond.instanceMethod yX7_rises ∈ jt := jt_at5 (i := 183) rfl rfl
theorem kv_X7_rises : Cond.selects yX7_rises.cls yX7_rises yX7_rises ∈ jt := jt_at5 (i := 184) rfl rfl
theorem kcw_X7_greatest : Cond.code yX7_greatest cX7_greatest 4 (some .long) ∈ jt := jt_at5 (i := 189) rfl rfl
theorem kci_X7_greatest : Cond.initialized yX7_greatest.cls ∈ jt := jt_at1 (i := 7) rfl rfl
theorem kc_X7_greatest : jsC yX7_greatest cX7_greatest 4 (some .long) 0 := ⟨kcw_X7_greatest, kci_X7_greatest, by decide +kernel, by decide +kernel, by decide +kernel⟩
theorem ki_X7_greatest : Cond.instanceMethod yX7_greatest ∈ jt := jt_at5 (i := 188) rfl rfl
theorem kv_X7_greatest : Cond.selects yX7_greatest.cls yX7_greatest yX7_greatest ∈ jt := jt_sel (i := 34) (q := (yX7_greatest, 55)) rfl rfl rfl
theorem kcw_X7_isMore : Cond.code yX7_isMore cX7_isMore 16 (some .boolean) ∈ jt := jt_at5 (i := 193) rfl rfl
theorem kci_X7_isMore : Cond.initialized yX7_isMore.cls ∈ jt := jt_at1 (i := 7) rfl rfl
theorem kc_X7_isMore : jsC yX7_isMore cX7_isMore 16 (some .boolean) 4 := ⟨kcw_X7_isMore, kci_X7_isMore, by decide +kernel, by decide +kernel, by decide +kernel⟩
theorem ks_X7_isMore : Cond.static yX7_isMore ∈ jt := jt_at5 (i := 192) rfl rfl
theorem kcw_X7_calm : Cond.code yX7_calm cX7_calm 3 (some .int) ∈ jt := jt_at5 (i := 198) rfl rfl
theorem kci_X7_calm : Cond.initialized yX7_calm.cls ∈ jt := jt_at1 (i := 7) rfl rfl
theorem kc_X7_calm : jsC yX7_calm cX7_calm 3 (some .int) 1 := ⟨kcw_X7_calm, kci_X7_calm, by decide +kernel, by decide +kernel, by decide +kernel⟩
theorem ki_X7_calm : Cond.instanceMethod yX7_calm ∈ jt := jt_at5 (i := 196) rfl rfl
theorem kv_X7_calm : Cond.selects yX7_calm.cls yX7_calm yX7_calm ∈ jt := jt_at5 (i := 197) rfl rfl
theorem kcw_X7_least : Cond.code yX7_least cX7_least 4 (some .long) ∈ jt := jt_at5 (i := 202) rfl rfl
theorem kci_X7_least : Cond.initialized yX7_least.cls ∈ jt := jt_at1 (i := 7) rfl rfl
theorem kc_X7_least : jsC yX7_least cX7_least 4 (some .long) 0 := ⟨kcw_X7_least, kci_X7_least, by decide +kernel, by decide +kernel, by decide +kernel⟩
theorem ki_X7_least : Cond.instanceMethod yX7_least ∈ jt := jt_at5 (i := 201) rfl rfl
theorem kv_X7_least : Cond.selects yX7_least.cls yX7_least yX7_least ∈ jt := jt_sel (i := 35) (q := (yX7_least, 55)) rfl rfl rfl
theorem kcw_X7_lesser : Cond.code yX7_lesser cX7_lesser 4 (some .long) ∈ jt := jt_at5 (i := 205) rfl rfl
theorem kci_X7_lesser : Cond.initialized yX7_lesser.cls ∈ jt := jt_at1 (i := 7) rfl rfl
theorem kc_X7_lesser : jsC yX7_lesser cX7_lesser 4 (some .long) 2 := ⟨kcw_X7_lesser, kci_X7_lesser, by decide +kernel, by decide +kernel, by decide +kernel⟩
theorem ks_X7_lesser : Cond.static yX7_lesser ∈ jt := jt_at5 (i := 204) rfl rfl
theorem kcw_X7_pulse : Cond.code yX7_pulse cX7_pulse 4 (some .int) ∈ jt := jt_at5 (i := 209) rfl rfl
theorem kci_X7_pulse : Cond.initialized yX7_pulse.cls ∈ jt := jt_at1 (i := 7) rfl rfl
theorem kc_X7_pulse : jsC yX7_pulse cX7_pulse 4 (some .int) 3 := ⟨kcw_X7_pulse, kci_X7_pulse, by decide +kernel, by decide +kernel, by decide +kernel⟩
theorem ki_X7_pulse : Cond.instanceMethod yX7_pulse ∈ jt := jt_at5 (i := 207) rfl rfl
theorem kv_X7_pulse : Cond.selects yX7_pulse.cls yX7_pulse yX7_pulse ∈ jt := jt_at5 (i := 208) rfl rfl
theorem kcw_X7_pulseOf : Cond.code yX7_pulseOf cX7_pulseOf 3 (some .int) ∈ jt := jt_at5 (i := 215) rfl rfl
theorem kci_X7_pulseOf : Cond.initialized yX7_pulseOf.cls ∈ jt := jt_at1 (i := 7) rfl rfl
theorem kc_X7_pulseOf : jsC yX7_pulseOf cX7_pulseOf 3 (some .int) 2 := ⟨kcw_X7_pulseOf, kci_X7_pulseOf, by decide +kernel, by decide +kernel, by decide +kernel⟩
theorem ki_X7_pulseOf : Cond.instanceMethod yX7_pulseOf ∈ jt := jt_at5 (i := 213) rfl rfl
theorem kv_X7_pulseOf : Cond.selects yX7_pulseOf.cls yX7_pulseOf yX7_pulseOf ∈ jt := jt_at5 (i := 214) rfl rfl
theorem kcw_X7_hush : Cond.code yX7_hush cX7_hush 2 (some .int) ∈ jt := jt_at5 (i := 220) rfl rfl
theorem kci_X7_hush : Cond.initialized yX7_hush.cls ∈ jt := jt_at1 (i := 7) rfl rfl
theorem kc_X7_hush : jsC yX7_hush cX7_hush 2 (some .int) 1 := ⟨kcw_X7_hush, kci_X7_hush, by decide +kernel, by decide +kernel, by decide +kernel⟩
theorem ki_X7_hush : Cond.instanceMethod yX7_hush ∈ jt := jt_at5 (i := 218) rfl rfl
theorem kv_X7_hush : Cond.selects yX7_hush.cls yX7_hush yX7_hush ∈ jt := jt_at5 (i := 219) rfl rfl
theorem kcw_X7_steady : Cond.code yX7_steady cX7_steady 3 (some .long) ∈ jt := jt_at5 (i := 224) rfl rfl
theorem kci_X7_steady : Cond.initialized yX7_steady.cls ∈ jt := jt_at1 (i := 7) rfl rfl
theorem kc_X7_steady : jsC yX7_steady cX7_steady 3 (some .long) 2 := ⟨kcw_X7_steady, kci_X7_steady, by decide +kernel, by decide +kernel, by decide +kernel⟩
theorem ki_X7_steady : Cond.instanceMethod yX7_steady ∈ jt := jt_at5 (i := 222) rfl rfl
theorem kv_X7_steady : Cond.selects yX7_steady.cls yX7_steady yX7_steady ∈ jt := jt_at5 (i := 223) rfl rfl
theorem kcw_X7_steadies : Cond.code yX7_steadies cX7_steadies 9 (some .boolean) ∈ jt := jt_at5 (i := 228) rfl rfl
theorem kci_X7_steadies : Cond.initialized yX7_steadies.cls ∈ jt := jt_at1 (i := 7) rfl rfl
theorem kc_X7_steadies : jsC yX7_steadies cX7_steadies 9 (some .boolean) 2 := ⟨kcw_X7_steadies, kci_X7_steadies, by decide +kernel, by decide +kernel, by decide +kernel⟩
theorem ki_X7_steadies : Cond.instanceMethod yX7_steadies ∈ jt := jt_at5 (i := 227) rfl rfl
theorem kv_X7_steadies : Cond.selects yX7_steadies.cls yX7_steadies yX7_steadies ∈ jt := jt_sel (i := 36) (q := (yX7_steadies, 55)) rfl rfl rfl
theorem kcw_X7_brings : Cond.code yX7_brings cX7_brings 8 (some .long) ∈ jt := jt_at5 (i := 232) rfl rfl
theorem kci_X7_brings : Cond.initialized yX7_brings.cls ∈ jt := jt_at1 (i := 7) rfl rfl
theorem kc_X7_brings : jsC yX7_brings cX7_brings 8 (some .long) 3 := ⟨kcw_X7_brings, kci_X7_brings, by decide +kernel, by decide +kernel, by decide +kernel⟩
theorem ki_X7_brings : Cond.instanceMethod yX7_brings ∈ jt := jt_at5 (i := 231) rfl rfl
theorem kv_X7_brings : Cond.selects yX7_brings.cls yX7_brings yX7_brings ∈ jt := jt_sel (i := 37) (q := (yX7_brings, 55)) rfl rfl rfl
theorem kcw_X7_steadyFlow : Cond.code yX7_steadyFlow cX7_steadyFlow 7 (some .long) ∈ jt := jt_at5 (i := 236) rfl rfl
theorem kci_X7_steadyFlow : Cond.initialized yX7_steadyFlow.cls ∈ jt := jt_at1 (i := 7) rfl rfl
theorem kc_X7_steadyFlow : jsC yX7_steadyFlow cX7_steadyFlow 7 (some .long) 2 := ⟨kcw_X7_steadyFlow, kci_X7_steadyFlow, by decide +kernel, by decide +kernel, by decide +kernel⟩
theorem ki_X7_steadyFlow : Cond.instanceMethod yX7_steadyFlow ∈ jt := jt_at5 (i := 234) rfl rfl
theorem kv_X7_steadyFlow : Cond.selects yX7_steadyFlow.cls yX7_steadyFlow yX7_steadyFlow ∈ jt := jt_at5 (i := 235) rfl rfl
theorem kcw_X7_hottest : Cond.code yX7_hottest cX7_hottest 3 (some .int) ∈ jt := jt_at6 (i := 0) rfl rfl
theorem kci_X7_hottest : Cond.initialized yX7_hottest.cls ∈ jt := jt_at1 (i := 7) rfl rfl
theorem kc_X7_hottest : jsC yX7_hottest cX7_hottest 3 (some .int) 0 := ⟨kcw_X7_hottest, kci_X7_hottest, by decide +kernel, by decide +kernel, by decide +kernel⟩
theorem ki_X7_hottest : Cond.instanceMethod yX7_hottest ∈ jt := jt_at5 (i := 238) rfl rfl
theorem kv_X7_hottest : Cond.selects yX7_hottest.cls yX7_hottest yX7_hottest ∈ jt := jt_at5 (i := 239) rfl rfl
theorem kcw_X7_lay : Cond.code yX7_lay cX7_lay 5 (some .int) ∈ jt := jt_at6 (i := 4) rfl rfl
theorem kci_X7_lay : Cond.initialized yX7_lay.cls ∈ jt := jt_at1 (i := 7) rfl rfl
theorem kc_X7_lay : jsC yX7_lay cX7_lay 5 (some .int) 0 := ⟨kcw_X7_lay, kci_X7_lay, by decide +kernel, by decide +kernel, by decide +kernel⟩
theorem ki_X7_lay : Cond.instanceMethod yX7_lay ∈ jt := jt_at6 (i := 2) rfl rfl
theorem kv_X7_lay : Cond.selects yX7_lay.cls yX7_lay yX7_lay ∈ jt := jt_at6 (i := 3) rfl rfl
theorem kcw_X7_isSteady : Cond.code yX7_isSteady cX7_isSteady 3 (some .int) ∈ jt := jt_at6 (i := 8) rfl rfl
theorem kci_X7_isSteady : Cond.initialized yX7_isSteady.cls ∈ jt := jt_at1 (i := 7) rfl rfl
theorem kc_X7_isSteady : jsC yX7_isSteady cX7_isSteady 3 (some .int) 0 := ⟨kcw_X7_isSteady, kci_X7_isSteady, by decide +kernel, by decide +kernel, by decide +kernel⟩
theorem ki_X7_isSteady : Cond.instanceMethod yX7_isSteady ∈ jt := jt_at6 (i := 6) rfl rfl
theorem kv_X7_isSteady : Cond.selects yX7_isSteady.cls yX7_isSteady yX7_isSteady ∈ jt := jt_at6 (i := 7) rfl rfl
theorem kcw_X7_buried : Cond.code yX7_buried cX7_buried 7 (some .int) ∈ jt := jt_at6 (i := 12) rfl rfl
theorem kci_X7_buried : Cond.initialized yX7_buried.cls ∈ jt := jt_at1 (i := 7) rfl rfl
theorem kc_X7_buried : jsC yX7_buried cX7_buried 7 (some .int) 2 := ⟨kcw_X7_buried, kci_X7_buried, by decide +kernel, by decide +kernel, by decide +kernel⟩
theorem ki_X7_buried : Cond.instanceMethod yX7_buried ∈ jt := jt_at6 (i := 10) rfl rfl
theorem kv_X7_buried : Cond.selects yX7_buried.cls yX7_buried yX7_buried ∈ jt := jt_at6 (i := 11) rfl rfl
theorem kcw_X7_isSheet : Cond.code yX7_isSheet cX7_isSheet 1 (some .boolean) ∈ jt := jt_at6 (i := 15) rfl rfl
theorem kci_X7_isSheet : Cond.initialized yX7_isSheet.cls ∈ jt := jt_at1 (i := 7) rfl rfl
theorem kc_X7_isSheet : jsC yX7_isSheet cX7_isSheet 1 (some .boolean) 1 := ⟨kcw_X7_isSheet, kci_X7_isSheet, by decide +kernel, by decide +kernel, by decide +kernel⟩
theorem ks_X7_isSheet : Cond.static yX7_isSheet ∈ jt := jt_at6 (i := 14) rfl rfl
theorem kcw_X7_isSo : Cond.code yX7_isSo cX7_isSo 4 (some .boolean) ∈ jt := jt_at6 (i := 19) rfl rfl
theorem kci_X7_isSo : Cond.initialized yX7_isSo.cls ∈ jt := jt_at1 (i := 7) rfl rfl
theorem kc_X7_isSo : jsC yX7_isSo cX7_isSo 4 (some .boolean) 1 := ⟨kcw_X7_isSo, kci_X7_isSo, by decide +kernel, by decide +kernel, by decide +kernel⟩
theorem ki_X7_isSo : Cond.instanceMethod yX7_isSo ∈ jt := jt_at6 (i := 18) rfl rfl
theorem kv_X7_isSo : Cond.selects yX7_isSo.cls yX7_isSo yX7_isSo ∈ jt := jt_sel (i := 38) (q := (yX7_isSo, 55)) rfl rfl rfl
theorem kcw_X7_tells : Cond.code yX7_tells cX7_tells 7 (some .int) ∈ jt := jt_at6 (i := 23) rfl rfl
theorem kci_X7_tells : Cond.initialized yX7_tells.cls ∈ jt := jt_at1 (i := 7) rfl rfl
theorem kc_X7_tells : jsC yX7_tells cX7_tells 7 (some .int) 3 := ⟨kcw_X7_tells, kci_X7_tells, by decide +kernel, by decide +kernel, by decide +kernel⟩
theorem ki_X7_tells : Cond.instanceMethod yX7_tells ∈ jt := jt_at6 (i := 21) rfl rfl
theorem kv_X7_tells : Cond.selects yX7_tells.cls yX7_tells yX7_tells ∈ jt := jt_at6 (i := 22) rfl rfl
theorem kcw_X7_otherwise : Cond.code yX7_otherwise cX7_otherwise 4 (some .int) ∈ jt := jt_at6 (i := 27) rfl rfl
theorem kci_X7_otherwise : Cond.initialized yX7_otherwise.cls ∈ jt := jt_at1 (i := 7) rfl rfl
theorem kc_X7_otherwise : jsC yX7_otherwise cX7_otherwise 4 (some .int) 2 := ⟨kcw_X7_otherwise, kci_X7_otherwise, by decide +kernel, by decide +kernel, by decide +kernel⟩
theorem ki_X7_otherwise : Cond.instanceMethod yX7_otherwise ∈ jt := jt_at6 (i := 26) rfl rfl
theorem kv_X7_otherwise : Cond.selects yX7_otherwise.cls yX7_otherwise yX7_otherwise ∈ jt := jt_sel (i := 39) (q := (yX7_otherwise, 55)) rfl rfl rfl
theorem kcw_X7_film : Cond.code yX7_film cX7_film 7 (some .int) ∈ jt := jt_at6 (i := 31) rfl rfl
theorem kci_X7_film : Cond.initialized yX7_film.cls ∈ jt := jt_at1 (i := 7) rfl rfl
theorem kc_X7_film : jsC yX7_film cX7_film 7 (some .int) 3 := ⟨kcw_X7_film, kci_X7_film, by decide +kernel, by decide +kernel, by decide +kernel⟩
theorem ki_X7_film : Cond.instanceMethod yX7_film ∈ jt := jt_at6 (i := 29) rfl rfl
theorem kv_X7_film : Cond.selects yX7_film.cls yX7_film yX7_film ∈ jt := jt_at6 (i := 30) rfl rfl
theorem kcw_X7_drawn : Cond.code yX7_drawn cX7_drawn 5 (some .long) ∈ jt := jt_at6 (i := 37) rfl rfl
theorem kci_X7_drawn : Cond.initialized yX7_drawn.cls ∈ jt := jt_at1 (i := 7) rfl rfl
theorem kc_X7_drawn : jsC yX7_drawn cX7_drawn 5 (some .long) 2 := ⟨kcw_X7_drawn, kci_X7_drawn, by decide +kernel, by decide +kernel, by decide +kernel⟩
theorem ki_X7_drawn : Cond.instanceMethod yX7_drawn ∈ jt := jt_at6 (i := 35) rfl rfl
theorem kv_X7_drawn : Cond.selects yX7_drawn.cls yX7_drawn yX7_drawn ∈ jt := jt_at6 (i := 36) rfl rfl
theorem kcw_X7_feed : Cond.code yX7_feed cX7_feed 9 (some .int) ∈ jt := jt_at6 (i := 42) rfl rfl
theorem kci_X7_feed : Cond.initialized yX7_feed.cls ∈ jt := jt_at1 (i := 7) rfl rfl
theorem kc_X7_feed : jsC yX7_feed cX7_feed 9 (some .int) 6 := ⟨kcw_X7_feed, kci_X7_feed, by decide +kernel, by decide +kernel, by decide +kernel⟩
theorem ki_X7_feed : Cond.instanceMethod yX7_feed ∈ jt := jt_at6 (i := 40) rfl rfl
theorem kv_X7_feed : Cond.selects yX7_feed.cls yX7_feed yX7_feed ∈ jt := jt_at6 (i := 41) rfl rfl
theorem kcw_X7_text : Cond.code yX7_text cX7_text 1 (some .int) ∈ jt := jt_at6 (i := 47) rfl rfl
theorem kci_X7_text : Cond.initialized yX7_text.cls ∈ jt := jt_at1 (i := 7) rfl rfl
theorem kc_X7_text : jsC yX7_text cX7_text 1 (some .int) 0 := ⟨kcw_X7_text, kci_X7_text, by decide +kernel, by decide +kernel, by decide +kernel⟩
theorem ki_X7_text : Cond.instanceMethod yX7_text ∈ jt := jt_at6 (i := 45) rfl rfl
theorem kv_X7_text : Cond.selects yX7_text.cls yX7_text yX7_text ∈ jt := jt_at6 (i := 46) rfl rfl
theorem kcw_X7_isText : Cond.code yX7_isText cX7_isText 3 (some .boolean) ∈ jt := jt_at6 (i := 51) rfl rfl
theorem kci_X7_isText : Cond.initialized yX7_isText.cls ∈ jt := jt_at1 (i := 7) rfl rfl
theorem kc_X7_isText : jsC yX7_isText cX7_isText 3 (some .boolean) 1 := ⟨kcw_X7_isText, kci_X7_isText, by decide +kernel, by decide +kernel, by decide +kernel⟩
theorem ki_X7_isText : Cond.instanceMethod yX7_isText ∈ jt := jt_at6 (i := 50) rfl rfl
theorem kv_X7_isText : Cond.selects yX7_isText.cls yX7_isText yX7_isText ∈ jt := jt_sel (i := 40) (q := (yX7_isText, 55)) rfl rfl rfl
theorem kcw_X7_isClause : Cond.code yX7_isClause cX7_isClause 4 (some .boolean) ∈ jt := jt_at6 (i := 55) rfl rfl
theorem kci_X7_isClause : Cond.initialized yX7_isClause.cls ∈ jt := jt_at1 (i := 7) rfl rfl
theorem kc_X7_isClause : jsC yX7_isClause cX7_isClause 4 (some .boolean) 1 := ⟨kcw_X7_isClause, kci_X7_isClause, by decide +kernel, by decide +kernel, by decide +kernel⟩
theorem ki_X7_isClause : Cond.instanceMethod yX7_isClause ∈ jt := jt_at6 (i := 54) rfl rfl
theorem kv_X7_isClause : Cond.selects yX7_isClause.cls yX7_isClause yX7_isClause ∈ jt := jt_sel (i := 41) (q := (yX7_isClause, 55)) rfl rfl rfl
theorem kcw_X7_reads : Cond.code yX7_reads cX7_reads 1 (none) ∈ jt := jt_at6 (i := 59) rfl rfl
theorem kci_X7_reads : Cond.initialized yX7_reads.cls ∈ jt := jt_at1 (i := 7) rfl rfl
theorem kc_X7_reads : jsC yX7_reads cX7_reads 1 (none) 0 := ⟨kcw_X7_reads, kci_X7_reads, by decide +kernel, by decide +kernel, by decide +kernel⟩
theorem ki_X7_reads : Cond.instanceMethod yX7_reads ∈ jt := jt_at6 (i := 58) rfl rfl
theorem kv_X7_reads : Cond.selects yX7_reads.cls yX7_reads yX7_reads ∈ jt := jt_sel (i := 42) (q := (yX7_reads, 55)) rfl rfl rfl
theorem kcw_X7_isLetter : Cond.code yX7_isLetter cX7_isLetter 2 (some .boolean) ∈ jt := jt_at6 (i := 63) rfl rfl
theorem kci_X7_isLetter : Cond.initialized yX7_isLetter.cls ∈ jt := jt_at1 (i := 7) rfl rfl
theorem kc_X7_isLetter : jsC yX7_isLetter cX7_isLetter 2 (some .boolean) 1 := ⟨kcw_X7_isLetter, kci_X7_isLetter, by decide +kernel, by decide +kernel, by decide +kernel⟩
theorem ki_X7_isLetter : Cond.instanceMethod yX7_isLetter ∈ jt := jt_at6 (i := 62) rfl rfl
theorem kv_X7_isLetter : Cond.selects yX7_isLetter.cls yX7_isLetter yX7_isLetter ∈ jt := jt_sel (i := 43) (q := (yX7_isLetter, 55)) rfl rfl rfl
theorem kcw_X7_readsWord : Cond.code yX7_readsWord cX7_readsWord 6 (none) ∈ jt := jt_at6 (i := 69) rfl rfl
theorem kci_X7_readsWord : Cond.initialized yX7_readsWord.cls ∈ jt := jt_at1 (i := 7) rfl rfl
theorem kc_X7_readsWord : jsC yX7_readsWord cX7_readsWord 6 (none) 0 := ⟨kcw_X7_readsWord, kci_X7_readsWord, by decide +kernel, by decide +kernel, by decide +kernel⟩
theorem ki_X7_readsWord : Cond.instanceMethod yX7_readsWord ∈ jt := jt_at6 (i := 68) rfl rfl
theorem kv_X7_readsWord : Cond.selects yX7_readsWord.cls yX7_readsWord yX7_readsWord ∈ jt := jt_sel (i := 44) (q := (yX7_readsWord, 55)) rfl rfl rfl
theorem kcw_X7_isDigit : Cond.code yX7_isDigit cX7_isDigit 2 (some .boolean) ∈ jt := jt_at6 (i := 73) rfl rfl
theorem kci_X7_isDigit : Cond.initialized yX7_isDigit.cls ∈ jt := jt_at1 (i := 7) rfl rfl
theorem kc_X7_isDigit : jsC yX7_isDigit cX7_isDigit 2 (some .boolean) 1 := ⟨kcw_X7_isDigit, kci_X7_isDigit, by decide +kernel, by decide +kernel, by decide +kernel⟩
theorem ki_X7_isDigit : Cond.instanceMethod yX7_isDigit ∈ jt := jt_at6 (i := 72) rfl rfl
theorem kv_X7_isDigit : Cond.selects yX7_isDigit.cls yX7_isDigit yX7_isDigit ∈ jt := jt_sel (i := 45) (q := (yX7_isDigit, 55)) rfl rfl rfl
theorem kcw_X7_readsNumber : Cond.code yX7_readsNumber cX7_readsNumber 3 (none) ∈ jt := jt_at6 (i := 79) rfl rfl
theorem kci_X7_readsNumber : Cond.initialized yX7_readsNumber.cls ∈ jt := jt_at1 (i := 7) rfl rfl
theorem kc_X7_readsNumber : jsC yX7_readsNumber cX7_readsNumber 3 (none) 0 := ⟨kcw_X7_readsNumber, kci_X7_readsNumber, by decide +kernel, by decide +kernel, by decide +kernel⟩
theorem ki_X7_readsNumber : Cond.instanceMethod yX7_readsNumber ∈ jt := jt_at6 (i := 78) rfl rfl
theorem kv_X7_readsNumber : Cond.selects yX7_readsNumber.cls yX7_readsNumber yX7_readsNumber ∈ jt := jt_sel (i := 46) (q := (yX7_readsNumber, 55)) rfl rfl rfl
theorem kcw_X7_isDone : Cond.code yX7_isDone cX7_isDone 2 (some .boolean) ∈ jt := jt_at6 (i := 83) rfl rfl
theorem kci_X7_isDone : Cond.initialized yX7_isDone.cls ∈ jt := jt_at1 (i := 7) rfl rfl
theorem kc_X7_isDone : jsC yX7_isDone cX7_isDone 2 (some .boolean) 1 := ⟨kcw_X7_isDone, kci_X7_isDone, by decide +kernel, by decide +kernel, by decide +kernel⟩
theorem ki_X7_isDone : Cond.instanceMethod yX7_isDone ∈ jt := jt_at6 (i := 82) rfl rfl
theorem kv_X7_isDone : Cond.selects yX7_isDone.cls yX7_isDone yX7_isDone ∈ jt := jt_sel (i := 47) (q := (yX7_isDone, 55)) rfl rfl rfl
theorem kcw_X7_image : Cond.code yX7_image cX7_image 2 (some .int) ∈ jt := jt_at6 (i := 94) rfl rfl
theorem kci_X7_image : Cond.initialized yX7_image.cls ∈ jt := jt_at1 (i := 7) rfl rfl
theorem kc_X7_image : jsC yX7_image cX7_image 2 (some .int) 0 := ⟨kcw_X7_image, kci_X7_image, by decide +kernel, by decide +kernel, by decide +kernel⟩
theorem ki_X7_image : Cond.instanceMethod yX7_image ∈ jt := jt_at6 (i := 92) rfl rfl
theorem kv_X7_image : Cond.selects yX7_image.cls yX7_image yX7_image ∈ jt := jt_at6 (i := 93) rfl rfl
theorem kcw_X7_back : Cond.code yX7_back cX7_back 2 (some .int) ∈ jt := jt_at6 (i := 98) rfl rfl
theorem kci_X7_back : Cond.initialized yX7_back.cls ∈ jt := jt_at1 (i := 7) rfl rfl
theorem kc_X7_back : jsC yX7_back cX7_back 2 (some .int) 0 := ⟨kcw_X7_back, kci_X7_back, by decide +kernel, by decide +kernel, by decide +kernel⟩
theorem ki_X7_back : Cond.instanceMethod yX7_back ∈ jt := jt_at6 (i := 96) rfl rfl
theorem kv_X7_back : Cond.selects yX7_back.cls yX7_back yX7_back ∈ jt := jt_at6 (i := 97) rfl rfl
theorem kcw_X7_load : Cond.code yX7_load cX7_load 10 (some .int) ∈ jt := jt_at6 (i := 102) rfl rfl
theorem kci_X7_load : Cond.initialized yX7_load.cls ∈ jt := jt_at1 (i := 7) rfl rfl
theorem kc_X7_load : jsC yX7_load cX7_load 10 (some .int) 4 := ⟨kcw_X7_load, kci_X7_load, by decide +kernel, by decide +kernel, by decide +kernel⟩
theorem ki_X7_load : Cond.instanceMethod yX7_load ∈ jt := jt_at6 (i := 100) rfl rfl
theorem kv_X7_load : Cond.selects yX7_load.cls yX7_load yX7_load ∈ jt := jt_at6 (i := 101) rfl rfl
theorem kcw_X7_count : Cond.code yX7_count cX7_count 4 (some .int) ∈ jt := jt_at6 (i := 107) rfl rfl
theorem kci_X7_count : Cond.initialized yX7_count.cls ∈ jt := jt_at1 (i := 7) rfl rfl
theorem kc_X7_count : jsC yX7_count cX7_count 4 (some .int) 1 := ⟨kcw_X7_count, kci_X7_count, by decide +kernel, by decide +kernel, by decide +kernel⟩
theorem ki_X7_count : Cond.instanceMethod yX7_count ∈ jt := jt_at6 (i := 105) rfl rfl
theorem kv_X7_count : Cond.selects yX7_count.cls yX7_count yX7_count ∈ jt := jt_at6 (i := 106) rfl rfl
theorem kcw_X7_sheet : Cond.code yX7_sheet cX7_sheet 5 (some .int) ∈ jt := jt_at6 (i := 111) rfl rfl
theorem kci_X7_sheet : Cond.initialized yX7_sheet.cls ∈ jt := jt_at1 (i := 7) rfl rfl
theorem kc_X7_sheet : jsC yX7_sheet cX7_sheet 5 (some .int) 3 := ⟨kcw_X7_sheet, kci_X7_sheet, by decide +kernel, by decide +kernel, by decide +kernel⟩
theorem ki_X7_sheet : Cond.instanceMethod yX7_sheet ∈ jt := jt_at6 (i := 109) rfl rfl
theorem kv_X7_sheet : Cond.selects yX7_sheet.cls yX7_sheet yX7_sheet ∈ jt := jt_at6 (i := 110) rfl rfl
theorem kcw_X7_put : Cond.code yX7_put cX7_put 4 (some .int) ∈ jt := jt_at6 (i := 115) rfl rfl
theorem kci_X7_put : Cond.initialized yX7_put.cls ∈ jt := jt_at1 (i := 7) rfl rfl
theorem kc_X7_put : jsC yX7_put cX7_put 4 (some .int) 3 := ⟨kcw_X7_put, kci_X7_put, by decide +kernel, by decide +kernel, by decide +kernel⟩
theorem ki_X7_put : Cond.instanceMethod yX7_put ∈ jt := jt_at6 (i := 113) rfl rfl
theorem kv_X7_put : Cond.selects yX7_put.cls yX7_put yX7_put ∈ jt := jt_at6 (i := 114) rfl rfl
theorem kcw_X7_copy : Cond.code yX7_copy cX7_copy 8 (some .int) ∈ jt := jt_at6 (i := 119) rfl rfl
theorem kci_X7_copy : Cond.initialized yX7_copy.cls ∈ jt := jt_at1 (i := 7) rfl rfl
theorem kc_X7_copy : jsC yX7_copy cX7_copy 8 (some .int) 5 := ⟨kcw_X7_copy, kci_X7_copy, by decide +kernel, by decide +kernel, by decide +kernel⟩
theorem ki_X7_copy : Cond.instanceMethod yX7_copy ∈ jt := jt_at6 (i := 117) rfl rfl
theorem kv_X7_copy : Cond.selects yX7_copy.cls yX7_copy yX7_copy ∈ jt := jt_at6 (i := 118) rfl rfl
theorem kl_L_9 : Cond.methodLink RL 9 yX6_init ∈ jt := jt_at1 (i := 17) rfl rfl
theorem kl_X6_3 : Cond.methodLink RX6 3 Lib.objectInit ∈ jt := jt_at1 (i := 20) rfl rfl
theorem kl_X0_3 : Cond.methodLink RX0 3 Lib.objectInit ∈ jt := jt_at1 (i := 28) rfl rfl
theorem kl_X2_3 : Cond.methodLink RX2 3 Lib.objectInit ∈ jt := jt_at1 (i := 34) rfl rfl
theorem kl_X4_3 : Cond.methodLink RX4 3 Lib.objectInit ∈ jt := jt_at1 (i := 120) rfl rfl
theorem kl_X3_3 : Cond.methodLink RX3 3 Lib.objectInit ∈ jt := jt_at1 (i := 147) rfl rfl
theorem kl_X5_3 : Cond.methodLink RX5 3 Lib.objectInit ∈ jt := jt_at1 (i := 168) rfl rfl
theorem kl_L_13 : Cond.methodLink RL 13 yX6_cell ∈ jt := jt_at1 (i := 212) rfl rfl
theorem kl_X6_53 : Cond.methodLink RX6 53 yX6_isKind ∈ jt := jt_at1 (i := 216) rfl rfl
theorem kl_X6_137 : Cond.methodLink RX6 137 yX6_between ∈ jt := jt_at1 (i := 219) rfl rfl
theorem kl_X6_57 : Cond.methodLink RX6 57 yX6_isK ∈ jt := jt_at1 (i := 222) rfl rfl
theorem kl_X6_60 : Cond.methodLink RX6 60 yX6_isC ∈ jt := jt_at1 (i := 225) rfl rfl
theorem kl_X6_63 : Cond.methodLink RX6 63 yX6_isHeat ∈ jt := jt_at1 (i := 228) rfl rfl
theorem kl_X6_66 : Cond.methodLink RX6 66 yX0_append ∈ jt := jt_at1 (i := 231) rfl rfl
theorem kl_X0_74 : Cond.methodLink RX0 74 yX0_make ∈ jt := jt_at1 (i := 235) rfl rfl
theorem kl_X0_78 : Cond.methodLink RX0 78 yX1_sideOf ∈ jt := jt_at1 (i := 239) rfl rfl
theorem kl_X1_13 : Cond.methodLink RX1 13 yJ9_min_7cf53 ∈ jt := jt_at2 (i := 2) rfl rfl
theorem kl_X0_84 : Cond.methodLink RX0 84 yX1_holdsOf ∈ jt := jt_at2 (i := 5) rfl rfl
theorem kl_X0_87 : Cond.methodLink RX0 87 yX1_finOf ∈ jt := jt_at2 (i := 8) rfl rfl
theorem kl_L_18 : Cond.methodLink RL 18 yX6_drop ∈ jt := jt_at2 (i := 11) rfl rfl
theorem kl_X6_74 : Cond.methodLink RX6 74 yX0_removeLatest ∈ jt := jt_at2 (i := 15) rfl rfl
theorem kl_X0_91 : Cond.methodLink RX0 91 yX2_removeOf ∈ jt := jt_at2 (i := 19) rfl rfl
theorem kl_X2_31 : Cond.methodLink RX2 31 yX2_append ∈ jt := jt_at2 (i := 23) rfl rfl
theorem kl_X0_94 : Cond.methodLink RX0 94 yX0_reduce ∈ jt := jt_at2 (i := 27) rfl rfl
theorem kl_X6_371 : Cond.methodLink RX6 371 yJ9_abs_067f4 ∈ jt := jt_at2 (i := 34) rfl rfl
theorem kl_L_23 : Cond.methodLink RL 23 yX6_set ∈ jt := jt_at2 (i := 40) rfl rfl
theorem kl_X6_77 : Cond.methodLink RX6 77 yX0_has ∈ jt := jt_at2 (i := 44) rfl rfl
theorem kl_X6_80 : Cond.methodLink RX6 80 yX0_changeK ∈ jt := jt_at2 (i := 48) rfl rfl
theorem kl_X6_84 : Cond.methodLink RX6 84 yX0_changeC ∈ jt := jt_at2 (i := 52) rfl rfl
theorem kl_X6_87 : Cond.methodLink RX6 87 yX0_changeKind ∈ jt := jt_at2 (i := 56) rfl rfl
theorem kl_X6_90 : Cond.methodLink RX6 90 yX6_isSource ∈ jt := jt_at2 (i := 60) rfl rfl
theorem kl_X6_93 : Cond.methodLink RX6 93 yX0_changeSource ∈ jt := jt_at2 (i := 63) rfl rfl
theorem kl_L_28 : Cond.methodLink RL 28 yX6_heat ∈ jt := jt_at2 (i := 67) rfl rfl
theorem kl_X6_96 : Cond.methodLink RX6 96 yX0_changeHeat ∈ jt := jt_at2 (i := 71) rfl rfl
theorem kl_L_33 : Cond.methodLink RL 33 yX6_of ∈ jt := jt_at2 (i := 75) rfl rfl
theorem kl_X6_121 : Cond.methodLink RX6 121 yX1_madeOf ∈ jt := jt_at2 (i := 79) rfl rfl
theorem kl_X1_19 : Cond.methodLink RX1 19 yX1_isUnder ∈ jt := jt_at2 (i := 82) rfl rfl
theorem kl_X1_9 : Cond.methodLink RX1 9 yX1_lineOf ∈ jt := jt_at2 (i := 85) rfl rfl
theorem kl_L_37 : Cond.methodLink RL 37 yX6_taken ∈ jt := jt_at2 (i := 88) rfl rfl
theorem kl_X6_126 : Cond.methodLink RX6 126 yX1_isUnder ∈ jt := jt_at2 (i := 92) rfl rfl
theorem kl_L_41 : Cond.methodLink RL 41 yX6_kin ∈ jt := jt_at2 (i := 93) rfl rfl
theorem kl_X6_130 : Cond.methodLink RX6 130 yX1_lineOf ∈ jt := jt_at2 (i := 97) rfl rfl
theorem kl_L_46 : Cond.methodLink RL 46 yX6_end ∈ jt := jt_at2 (i := 98) rfl rfl
theorem kl_X6_134 : Cond.methodLink RX6 134 yX6_isBit ∈ jt := jt_at2 (i := 102) rfl rfl
theorem kl_L_50 : Cond.methodLink RL 50 yX6_rule ∈ jt := jt_at2 (i := 105) rfl rfl
theorem kl_L_54 : Cond.methodLink RL 54 yX6_t ∈ jt := jt_at2 (i := 109) rfl rfl
theorem kl_X6_160 : Cond.methodLink RX6 160 yX6_partOf ∈ jt := jt_at2 (i := 114) rfl rfl
theorem kl_X6_375 : Cond.methodLink RX6 375 yX6_commonDivisor ∈ jt := jt_at2 (i := 117) rfl rfl
theorem kl_X6_177 : Cond.methodLink RX6 177 yX6_quotient ∈ jt := jt_at2 (i := 118) rfl rfl
theorem kl_L_59 : Cond.methodLink RL 59 yX6_line ∈ jt := jt_at2 (i := 119) rfl rfl
theorem kl_L_64 : Cond.methodLink RL 64 yX6_joint ∈ jt := jt_at2 (i := 123) rfl rfl
theorem kl_X6_164 : Cond.methodLink RX6 164 yX0_leads ∈ jt := jt_at2 (i := 127) rfl rfl
theorem kl_X0_109 : Cond.methodLink RX0 109 yX0_hasJoint ∈ jt := jt_at2 (i := 131) rfl rfl
theorem kl_X0_113 : Cond.methodLink RX0 113 yJ9_min_7cf53 ∈ jt := jt_at2 (i := 135) rfl rfl
theorem kl_L_68 : Cond.methodLink RL 68 yX6_flow ∈ jt := jt_at2 (i := 136) rfl rfl
theorem kl_X6_167 : Cond.methodLink RX6 167 yX0_hasJoint ∈ jt := jt_at2 (i := 140) rfl rfl
theorem kl_X6_170 : Cond.methodLink RX6 170 yX0_flowAbove ∈ jt := jt_at2 (i := 141) rfl rfl
theorem kl_X0_118 : Cond.methodLink RX0 118 yX0_leads ∈ jt := jt_at2 (i := 145) rfl rfl
theorem kl_L_72 : Cond.methodLink RL 72 yX6_stable ∈ jt := jt_at2 (i := 146) rfl rfl
theorem kl_X6_174 : Cond.methodLink RX6 174 yX0_loss ∈ jt := jt_at2 (i := 150) rfl rfl
theorem kl_L_76 : Cond.methodLink RL 76 yX6_need ∈ jt := jt_at2 (i := 154) rfl rfl
theorem kl_X6_181 : Cond.methodLink RX6 181 yJ9_max_7cf53 ∈ jt := jt_at2 (i := 158) rfl rfl
theorem kl_L_80 : Cond.methodLink RL 80 yX6_sum ∈ jt := jt_at2 (i := 161) rfl rfl
theorem kl_L_85 : Cond.methodLink RL 85 yX6_most ∈ jt := jt_at2 (i := 165) rfl rfl
theorem kl_X6_186 : Cond.methodLink RX6 186 yX0_hottestCell ∈ jt := jt_at2 (i := 169) rfl rfl
theorem kl_X6_190 : Cond.methodLink RX6 190 yX0_coldestCell ∈ jt := jt_at2 (i := 176) rfl rfl
theorem kl_L_89 : Cond.methodLink RL 89 yX6_step ∈ jt := jt_at2 (i := 180) rfl rfl
theorem kl_X6_193 : Cond.methodLink RX6 193 yX6_stepsDone ∈ jt := jt_at2 (i := 184) rfl rfl
theorem kl_X6_201 : Cond.methodLink RX6 201 yX0_advance ∈ jt := jt_at2 (i := 187) rfl rfl
theorem kl_X0_125 : Cond.methodLink RX0 125 yX0_gain ∈ jt := jt_at2 (i := 191) rfl rfl
theorem kl_X0_121 : Cond.methodLink RX0 121 yX0_flowAbove ∈ jt := jt_at2 (i := 195) rfl rfl
theorem kl_X0_135 : Cond.methodLink RX0 135 yX2_warmNext ∈ jt := jt_at2 (i := 197) rfl rfl
theorem kl_X0_139 : Cond.methodLink RX0 139 yX0_takeHeats ∈ jt := jt_at2 (i := 201) rfl rfl
theorem kl_X0_148 : Cond.methodLink RX0 148 yJ9_abs_067f4 ∈ jt := jt_at2 (i := 206) rfl rfl
theorem kl_X0_64 : Cond.methodLink RX0 64 arraycopyName ∈ jt := jt_at2 (i := 207) rfl rfl
theorem kl_X0_143 : Cond.methodLink RX0 143 yX2_passOne ∈ jt := jt_at2 (i := 210) rfl rfl
theorem kl_L_93 : Cond.methodLink RL 93 yX6_then ∈ jt := jt_at2 (i := 214) rfl rfl
theorem kl_X6_197 : Cond.methodLink RX6 197 yX0_become ∈ jt := jt_at2 (i := 218) rfl rfl
theorem kl_X0_70 : Cond.methodLink RX0 70 yX2_become ∈ jt := jt_at2 (i := 222) rfl rfl
theorem kl_X2_25 : Cond.methodLink RX2 25 arraycopyName ∈ jt := jt_at2 (i := 226) rfl rfl
theorem kl_L_98 : Cond.methodLink RL 98 yX6_spent ∈ jt := jt_at2 (i := 227) rfl rfl
theorem kl_L_102 : Cond.methodLink RL 102 yX6_rises ∈ jt := jt_at2 (i := 231) rfl rfl
theorem kl_X6_204 : Cond.methodLink RX6 204 yX0_greatest ∈ jt := jt_at2 (i := 235) rfl rfl
theorem kl_X0_102 : Cond.methodLink RX0 102 yX0_hottestCell ∈ jt := jt_at2 (i := 239) rfl rfl
theorem kl_X6_208 : Cond.methodLink RX6 208 yX0_isRisenFrom ∈ jt := jt_at3 (i := 0) rfl rfl
theorem kl_X0_155 : Cond.methodLink RX0 155 yX0_greatest ∈ jt := jt_at3 (i := 4) rfl rfl
theorem kl_L_106 : Cond.methodLink RL 106 yX6_calm ∈ jt := jt_at3 (i := 5) rfl rfl
theorem kl_X6_212 : Cond.methodLink RX6 212 yX0_least ∈ jt := jt_at3 (i := 9) rfl rfl
theorem kl_X0_106 : Cond.methodLink RX0 106 yX0_coldestCell ∈ jt := jt_at3 (i := 13) rfl rfl
theorem kl_L_110 : Cond.methodLink RL 110 yX6_pulse ∈ jt := jt_at3 (i := 14) rfl rfl
theorem kl_X6_219 : Cond.methodLink RX6 219 yX2_append ∈ jt := jt_at3 (i := 18) rfl rfl
theorem kl_L_114 : Cond.methodLink RL 114 yX6_pulseOf ∈ jt := jt_at3 (i := 19) rfl rfl
theorem kl_L_118 : Cond.methodLink RL 118 yX6_hush ∈ jt := jt_at3 (i := 23) rfl rfl
theorem kl_X6_236 : Cond.methodLink RX6 236 yX2_removeOf ∈ jt := jt_at3 (i := 27) rfl rfl
theorem kl_L_122 : Cond.methodLink RL 122 yX6_steady ∈ jt := jt_at3 (i := 28) rfl rfl
theorem kl_X6_239 : Cond.methodLink RX6 239 yX0_canRest ∈ jt := jt_at3 (i := 32) rfl rfl
theorem kl_X6_243 : Cond.methodLink RX6 243 yX4_solve ∈ jt := jt_at3 (i := 39) rfl rfl
theorem kl_X4_37 : Cond.methodLink RX4 37 yX4_sweepRight ∈ jt := jt_at3 (i := 43) rfl rfl
theorem kl_X4_44 : Cond.methodLink RX4 44 yX0_leads ∈ jt := jt_at3 (i := 47) rfl rfl
theorem kl_X4_48 : Cond.methodLink RX4 48 yX0_loss ∈ jt := jt_at3 (i := 48) rfl rfl
theorem kl_X4_51 : Cond.methodLink RX4 51 yX0_supply ∈ jt := jt_at3 (i := 49) rfl rfl
theorem kl_X4_41 : Cond.methodLink RX4 41 yX4_sweepLeft ∈ jt := jt_at3 (i := 53) rfl rfl
theorem kl_L_126 : Cond.methodLink RL 126 yX6_steadyFlow ∈ jt := jt_at3 (i := 57) rfl rfl
theorem kl_L_130 : Cond.methodLink RL 130 yX6_hottest ∈ jt := jt_at3 (i := 61) rfl rfl
theorem kl_X6_248 : Cond.methodLink RX6 248 yX6_firstGreatest ∈ jt := jt_at3 (i := 65) rfl rfl
theorem kl_L_134 : Cond.methodLink RL 134 yX6_lay ∈ jt := jt_at3 (i := 66) rfl rfl
theorem kl_X6_252 : Cond.methodLink RX6 252 yX0_takeHeats ∈ jt := jt_at3 (i := 70) rfl rfl
theorem kl_L_138 : Cond.methodLink RL 138 yX6_isSteady ∈ jt := jt_at3 (i := 71) rfl rfl
theorem kl_X6_256 : Cond.methodLink RX6 256 yX0_gain ∈ jt := jt_at3 (i := 75) rfl rfl
theorem kl_L_142 : Cond.methodLink RL 142 yX6_buried ∈ jt := jt_at3 (i := 76) rfl rfl
theorem kl_X6_260 : Cond.methodLink RX6 260 yX6_isSheet ∈ jt := jt_at3 (i := 80) rfl rfl
theorem kl_X6_263 : Cond.methodLink RX6 263 yX3_isMissing ∈ jt := jt_at3 (i := 83) rfl rfl
theorem kl_X6_268 : Cond.methodLink RX6 268 yX6_firstBuried ∈ jt := jt_at3 (i := 87) rfl rfl
theorem kl_X6_274 : Cond.methodLink RX6 274 yX6_mayBeBuried ∈ jt := jt_at3 (i := 91) rfl rfl
theorem kl_X6_277 : Cond.methodLink RX6 277 yX6_wholePart ∈ jt := jt_at3 (i := 95) rfl rfl
theorem kl_X6_368 : Cond.methodLink RX6 368 yJ9_floorDiv_f86c9 ∈ jt := jt_at3 (i := 98) rfl rfl
theorem kl_X6_271 : Cond.methodLink RX6 271 yX6_howManyBuried ∈ jt := jt_at3 (i := 101) rfl rfl
theorem kl_L_146 : Cond.methodLink RL 146 yX6_tells ∈ jt := jt_at3 (i := 105) rfl rfl
theorem kl_X6_284 : Cond.methodLink RX6 284 yX6_firstOtherwise ∈ jt := jt_at3 (i := 109) rfl rfl
theorem kl_L_150 : Cond.methodLink RL 150 yX6_film ∈ jt := jt_at3 (i := 113) rfl rfl
theorem kl_X6_291 : Cond.methodLink RX6 291 yJ9_min_f86c9 ∈ jt := jt_at3 (i := 119) rfl rfl
theorem kl_X6_294 : Cond.methodLink RX6 294 yJ9_max_f86c9 ∈ jt := jt_at3 (i := 122) rfl rfl
theorem kl_X6_296 : Cond.methodLink RX6 296 yX3_renew ∈ jt := jt_at3 (i := 125) rfl rfl
theorem kl_X6_300 : Cond.methodLink RX6 300 arraycopyName ∈ jt := jt_at3 (i := 129) rfl rfl
theorem kl_L_154 : Cond.methodLink RL 154 yX6_drawn ∈ jt := jt_at3 (i := 130) rfl rfl
theorem kl_X6_307 : Cond.methodLink RX6 307 yX6_remainder ∈ jt := jt_at3 (i := 135) rfl rfl
theorem kl_X6_310 : Cond.methodLink RX6 310 yX0_warm ∈ jt := jt_at3 (i := 138) rfl rfl
theorem kl_L_158 : Cond.methodLink RL 158 yX6_feed ∈ jt := jt_at3 (i := 142) rfl rfl
theorem kl_X6_313 : Cond.methodLink RX6 313 yX6_isByte ∈ jt := jt_at3 (i := 146) rfl rfl
theorem kl_X6_317 : Cond.methodLink RX6 317 yX5_append ∈ jt := jt_at3 (i := 149) rfl rfl
theorem kl_L_163 : Cond.methodLink RL 163 yX6_text ∈ jt := jt_at3 (i := 153) rfl rfl
theorem kl_X6_319 : Cond.methodLink RX6 319 yX5_read ∈ jt := jt_at3 (i := 157) rfl rfl
theorem kl_X5_44 : Cond.methodLink RX5 44 yX5_readClause ∈ jt := jt_at3 (i := 161) rfl rfl
theorem kl_X5_48 : Cond.methodLink RX5 48 yX5_skipBlanks ∈ jt := jt_at3 (i := 165) rfl rfl
theorem kl_X5_51 : Cond.methodLink RX5 51 yX5_lettersHere ∈ jt := jt_at3 (i := 169) rfl rfl
theorem kl_X5_55 : Cond.methodLink RX5 55 yX5_wordHere ∈ jt := jt_at3 (i := 173) rfl rfl
theorem kl_X5_69 : Cond.methodLink RX5 69 yX5_nameOf ∈ jt := jt_at3 (i := 177) rfl rfl
theorem kl_X5_73 : Cond.methodLink RX5 73 yX5_isHere ∈ jt := jt_at3 (i := 188) rfl rfl
theorem kl_X5_77 : Cond.methodLink RX5 77 yJ0_length_8abf5 ∈ jt := jt_at3 (i := 192) rfl rfl
theorem kl_J0_335 : Cond.methodLink RJ0 335 yJ0_coder_7d493 ∈ jt := jt_at3 (i := 196) rfl rfl
theorem kl_X5_82 : Cond.methodLink RX5 82 yJ0_charAt_5068e ∈ jt := jt_at3 (i := 202) rfl rfl
theorem kl_J0_492 : Cond.methodLink RJ0 492 yJ0_isLatin1_aae02 ∈ jt := jt_at3 (i := 206) rfl rfl
theorem kl_J0_495 : Cond.methodLink RJ0 495 yJ1_charAt_3b067 ∈ jt := jt_at3 (i := 210) rfl rfl
theorem kl_J1_9 : Cond.methodLink RJ1 9 yJ0_checkIndex_df160 ∈ jt := jt_at3 (i := 213) rfl rfl
theorem kl_J0_1059 : Cond.methodLink RJ0 1059 yJ3_checkIndex_8e157 ∈ jt := jt_at3 (i := 218) rfl rfl
theorem kl_J0_498 : Cond.methodLink RJ0 498 yJ2_charAt_3b067 ∈ jt := jt_at3 (i := 221) rfl rfl
theorem kl_J2_67 : Cond.methodLink RJ2 67 yJ2_checkIndex_2214a ∈ jt := jt_at3 (i := 224) rfl rfl
theorem kl_J2_48 : Cond.methodLink RJ2 48 yJ2_length_9d52b ∈ jt := jt_at3 (i := 227) rfl rfl
theorem kl_J2_414 : Cond.methodLink RJ2 414 yJ0_checkIndex_df160 ∈ jt := jt_at3 (i := 230) rfl rfl
theorem kl_J2_71 : Cond.methodLink RJ2 71 yJ2_getChar_3b067 ∈ jt := jt_at3 (i := 231) rfl rfl
theorem kl_X5_59 : Cond.methodLink RX5 59 yX5_planNext ∈ jt := jt_at4 (i := 0) rfl rfl
theorem kl_X5_63 : Cond.methodLink RX5 63 yX5_numbersOf ∈ jt := jt_at4 (i := 4) rfl rfl
theorem kl_X5_66 : Cond.methodLink RX5 66 yX5_readNumber ∈ jt := jt_at4 (i := 7) rfl rfl
theorem kl_X6_322 : Cond.methodLink RX6 322 yX6_clausesDone ∈ jt := jt_at4 (i := 11) rfl rfl
theorem kl_X6_328 : Cond.methodLink RX6 328 yX6_isClauseDone ∈ jt := jt_at4 (i := 15) rfl rfl
theorem kl_X6_331 : Cond.methodLink RX6 331 yX5_planAt ∈ jt := jt_at4 (i := 19) rfl rfl
theorem kl_X6_337 : Cond.methodLink RX6 337 yX6_cell ∈ jt := jt_at4 (i := 23) rfl rfl
theorem kl_X6_339 : Cond.methodLink RX6 339 yX6_heat ∈ jt := jt_at4 (i := 24) rfl rfl
theorem kl_X6_341 : Cond.methodLink RX6 341 yX6_set ∈ jt := jt_at4 (i := 25) rfl rfl
theorem kl_X6_344 : Cond.methodLink RX6 344 yX6_end ∈ jt := jt_at4 (i := 26) rfl rfl
theorem kl_X6_347 : Cond.methodLink RX6 347 yX6_rule ∈ jt := jt_at4 (i := 27) rfl rfl
theorem kl_X6_350 : Cond.methodLink RX6 350 yX6_pulse ∈ jt := jt_at4 (i := 28) rfl rfl
theorem kl_X6_353 : Cond.methodLink RX6 353 yX6_drop ∈ jt := jt_at4 (i := 29) rfl rfl
theorem kl_X6_334 : Cond.methodLink RX6 334 yX5_numbersOf ∈ jt := jt_at4 (i := 30) rfl rfl
theorem kl_L_167 : Cond.methodLink RL 167 yX6_image ∈ jt := jt_at4 (i := 32) rfl rfl
theorem kl_L_171 : Cond.methodLink RL 171 yX6_back ∈ jt := jt_at4 (i := 36) rfl rfl
theorem kl_L_175 : Cond.methodLink RL 175 yX6_load ∈ jt := jt_at4 (i := 40) rfl rfl
theorem kl_X6_359 : Cond.methodLink RX6 359 yX3_has ∈ jt := jt_at4 (i := 44) rfl rfl
theorem kl_L_179 : Cond.methodLink RL 179 yX6_count ∈ jt := jt_at4 (i := 48) rfl rfl
theorem kl_X6_361 : Cond.methodLink RX6 361 yX6_total ∈ jt := jt_at4 (i := 52) rfl rfl
theorem kl_L_183 : Cond.methodLink RL 183 yX6_sheet ∈ jt := jt_at4 (i := 53) rfl rfl
theorem kl_L_187 : Cond.methodLink RL 187 yX6_put ∈ jt := jt_at4 (i := 57) rfl rfl
theorem kl_L_191 : Cond.methodLink RL 191 yX6_copy ∈ jt := jt_at4 (i := 61) rfl rfl
theorem kl_X6_365 : Cond.methodLink RX6 365 yX3_hasRun ∈ jt := jt_at4 (i := 65) rfl rfl
theorem kl_L_12 : Cond.methodLink RL 12 yX7_init ∈ jt := jt_at4 (i := 71) rfl rfl
theorem kl_X7_3 : Cond.methodLink RX7 3 Lib.objectInit ∈ jt := jt_at4 (i := 74) rfl rfl
theorem kl_L_17 : Cond.methodLink RL 17 yX7_cell ∈ jt := jt_at5 (i := 2) rfl rfl
theorem kl_X7_165 : Cond.methodLink RX7 165 yX7_isMade ∈ jt := jt_at5 (i := 6) rfl rfl
theorem kl_X7_133 : Cond.methodLink RX7 133 yX7_isIn ∈ jt := jt_at5 (i := 10) rfl rfl
theorem kl_L_22 : Cond.methodLink RL 22 yX7_drop ∈ jt := jt_at5 (i := 16) rfl rfl
theorem kl_X7_171 : Cond.methodLink RX7 171 yX7_hushed ∈ jt := jt_at5 (i := 20) rfl rfl
theorem kl_X7_174 : Cond.methodLink RX7 174 yX7_shorten ∈ jt := jt_at5 (i := 24) rfl rfl
theorem kl_X7_143 : Cond.methodLink RX7 143 yX7_divisor ∈ jt := jt_at5 (i := 28) rfl rfl
theorem kl_X7_137 : Cond.methodLink RX7 137 yJ9_abs_067f4 ∈ jt := jt_at5 (i := 31) rfl rfl
theorem kl_L_27 : Cond.methodLink RL 27 yX7_set ∈ jt := jt_at5 (i := 32) rfl rfl
theorem kl_X7_177 : Cond.methodLink RX7 177 yX7_isCell ∈ jt := jt_at5 (i := 36) rfl rfl
theorem kl_L_32 : Cond.methodLink RL 32 yX7_heat ∈ jt := jt_at5 (i := 42) rfl rfl
theorem kl_L_36 : Cond.methodLink RL 36 yX7_of ∈ jt := jt_at5 (i := 46) rfl rfl
theorem kl_X7_185 : Cond.methodLink RX7 185 yX7_side ∈ jt := jt_at5 (i := 50) rfl rfl
theorem kl_X7_151 : Cond.methodLink RX7 151 yJ9_min_7cf53 ∈ jt := jt_at5 (i := 54) rfl rfl
theorem kl_X7_188 : Cond.methodLink RX7 188 yX7_holds ∈ jt := jt_at5 (i := 55) rfl rfl
theorem kl_X7_155 : Cond.methodLink RX7 155 yX7_isUnder ∈ jt := jt_at5 (i := 59) rfl rfl
theorem kl_X7_147 : Cond.methodLink RX7 147 yX7_above ∈ jt := jt_at5 (i := 62) rfl rfl
theorem kl_X7_191 : Cond.methodLink RX7 191 yX7_fin ∈ jt := jt_at5 (i := 65) rfl rfl
theorem kl_X7_194 : Cond.methodLink RX7 194 yX7_made ∈ jt := jt_at5 (i := 69) rfl rfl
theorem kl_L_40 : Cond.methodLink RL 40 yX7_taken ∈ jt := jt_at5 (i := 73) rfl rfl
theorem kl_L_45 : Cond.methodLink RL 45 yX7_kin ∈ jt := jt_at5 (i := 77) rfl rfl
theorem kl_L_49 : Cond.methodLink RL 49 yX7_end ∈ jt := jt_at5 (i := 81) rfl rfl
theorem kl_L_53 : Cond.methodLink RL 53 yX7_rule ∈ jt := jt_at5 (i := 86) rfl rfl
theorem kl_L_67 : Cond.methodLink RL 67 yX7_joint ∈ jt := jt_at5 (i := 91) rfl rfl
theorem kl_X7_201 : Cond.methodLink RX7 201 yX7_isJoint ∈ jt := jt_at5 (i := 95) rfl rfl
theorem kl_X7_204 : Cond.methodLink RX7 204 yX7_leads ∈ jt := jt_at5 (i := 99) rfl rfl
theorem kl_L_58 : Cond.methodLink RL 58 yX7_t ∈ jt := jt_at5 (i := 103) rfl rfl
theorem kl_X7_252 : Cond.methodLink RX7 252 yX7_part ∈ jt := jt_at5 (i := 107) rfl rfl
theorem kl_L_63 : Cond.methodLink RL 63 yX7_line ∈ jt := jt_at5 (i := 111) rfl rfl
theorem kl_L_71 : Cond.methodLink RL 71 yX7_flow ∈ jt := jt_at5 (i := 115) rfl rfl
theorem kl_X7_232 : Cond.methodLink RX7 232 yX7_think ∈ jt := jt_at5 (i := 119) rfl rfl
theorem kl_X7_216 : Cond.methodLink RX7 216 yX7_flows ∈ jt := jt_at5 (i := 123) rfl rfl
theorem kl_L_75 : Cond.methodLink RL 75 yX7_stable ∈ jt := jt_at5 (i := 127) rfl rfl
theorem kl_X7_258 : Cond.methodLink RX7 258 yX7_together ∈ jt := jt_at5 (i := 131) rfl rfl
theorem kl_L_79 : Cond.methodLink RL 79 yX7_need ∈ jt := jt_at5 (i := 135) rfl rfl
theorem kl_X7_261 : Cond.methodLink RX7 261 yJ9_max_7cf53 ∈ jt := jt_at5 (i := 139) rfl rfl
theorem kl_L_84 : Cond.methodLink RL 84 yX7_sum ∈ jt := jt_at5 (i := 140) rfl rfl
theorem kl_L_88 : Cond.methodLink RL 88 yX7_most ∈ jt := jt_at5 (i := 144) rfl rfl
theorem kl_L_92 : Cond.methodLink RL 92 yX7_step ∈ jt := jt_at5 (i := 148) rfl rfl
theorem kl_X7_235 : Cond.methodLink RX7 235 yX7_goes ∈ jt := jt_at5 (i := 153) rfl rfl
theorem kl_X7_223 : Cond.methodLink RX7 223 yX7_reckons ∈ jt := jt_at5 (i := 157) rfl rfl
theorem kl_X7_220 : Cond.methodLink RX7 220 yX7_change ∈ jt := jt_at5 (i := 161) rfl rfl
theorem kl_X7_265 : Cond.methodLink RX7 265 yX7_keep ∈ jt := jt_at5 (i := 166) rfl rfl
theorem kl_L_97 : Cond.methodLink RL 97 yX7_then ∈ jt := jt_at5 (i := 170) rfl rfl
theorem kl_X7_268 : Cond.methodLink RX7 268 yX7_goes_ ∈ jt := jt_at5 (i := 174) rfl rfl
theorem kl_L_101 : Cond.methodLink RL 101 yX7_spent ∈ jt := jt_at5 (i := 178) rfl rfl
theorem kl_L_105 : Cond.methodLink RL 105 yX7_rises ∈ jt := jt_at5 (i := 182) rfl rfl
theorem kl_X7_270 : Cond.methodLink RX7 270 yX7_greatest ∈ jt := jt_at5 (i := 186) rfl rfl
theorem kl_X7_239 : Cond.methodLink RX7 239 yJ9_max_f86c9 ∈ jt := jt_at5 (i := 190) rfl rfl
theorem kl_X7_248 : Cond.methodLink RX7 248 yX7_isMore ∈ jt := jt_at5 (i := 191) rfl rfl
theorem kl_X7_245 : Cond.methodLink RX7 245 yJ9_floorDiv_f86c9 ∈ jt := jt_at5 (i := 194) rfl rfl
theorem kl_L_109 : Cond.methodLink RL 109 yX7_calm ∈ jt := jt_at5 (i := 195) rfl rfl
theorem kl_X7_273 : Cond.methodLink RX7 273 yX7_least ∈ jt := jt_at5 (i := 199) rfl rfl
theorem kl_X7_242 : Cond.methodLink RX7 242 yX7_lesser ∈ jt := jt_at5 (i := 203) rfl rfl
theorem kl_L_113 : Cond.methodLink RL 113 yX7_pulse ∈ jt := jt_at5 (i := 206) rfl rfl
theorem kl_L_117 : Cond.methodLink RL 117 yX7_pulseOf ∈ jt := jt_at5 (i := 212) rfl rfl
theorem kl_L_121 : Cond.methodLink RL 121 yX7_hush ∈ jt := jt_at5 (i := 217) rfl rfl
theorem kl_L_125 : Cond.methodLink RL 125 yX7_steady ∈ jt := jt_at5 (i := 221) rfl rfl
theorem kl_X7_289 : Cond.methodLink RX7 289 yX7_steadies ∈ jt := jt_at5 (i := 225) rfl rfl
theorem kl_X7_285 : Cond.methodLink RX7 285 yX7_brings ∈ jt := jt_at5 (i := 229) rfl rfl
theorem kl_L_129 : Cond.methodLink RL 129 yX7_steadyFlow ∈ jt := jt_at5 (i := 233) rfl rfl
theorem kl_L_133 : Cond.methodLink RL 133 yX7_hottest ∈ jt := jt_at5 (i := 237) rfl rfl
theorem kl_L_137 : Cond.methodLink RL 137 yX7_lay ∈ jt := jt_at6 (i := 1) rfl rfl
theorem kl_L_141 : Cond.methodLink RL 141 yX7_isSteady ∈ jt := jt_at6 (i := 5) rfl rfl
theorem kl_L_145 : Cond.methodLink RL 145 yX7_buried ∈ jt := jt_at6 (i := 9) rfl rfl
theorem kl_X7_292 : Cond.methodLink RX7 292 yX7_isSheet ∈ jt := jt_at6 (i := 13) rfl rfl
theorem kl_X7_295 : Cond.methodLink RX7 295 yX7_isSo ∈ jt := jt_at6 (i := 16) rfl rfl
theorem kl_L_149 : Cond.methodLink RL 149 yX7_tells ∈ jt := jt_at6 (i := 20) rfl rfl
theorem kl_X7_298 : Cond.methodLink RX7 298 yX7_otherwise ∈ jt := jt_at6 (i := 24) rfl rfl
theorem kl_L_153 : Cond.methodLink RL 153 yX7_film ∈ jt := jt_at6 (i := 28) rfl rfl
theorem kl_L_157 : Cond.methodLink RL 157 yX7_drawn ∈ jt := jt_at6 (i := 34) rfl rfl
theorem kl_L_162 : Cond.methodLink RL 162 yX7_feed ∈ jt := jt_at6 (i := 39) rfl rfl
theorem kl_L_166 : Cond.methodLink RL 166 yX7_text ∈ jt := jt_at6 (i := 44) rfl rfl
theorem kl_X7_383 : Cond.methodLink RX7 383 yX7_isText ∈ jt := jt_at6 (i := 48) rfl rfl
theorem kl_X7_379 : Cond.methodLink RX7 379 yX7_isClause ∈ jt := jt_at6 (i := 52) rfl rfl
theorem kl_X7_346 : Cond.methodLink RX7 346 yX7_reads ∈ jt := jt_at6 (i := 56) rfl rfl
theorem kl_X7_325 : Cond.methodLink RX7 325 yX7_isLetter ∈ jt := jt_at6 (i := 60) rfl rfl
theorem kl_X7_340 : Cond.methodLink RX7 340 yX7_readsWord ∈ jt := jt_at6 (i := 66) rfl rfl
theorem kl_X7_337 : Cond.methodLink RX7 337 yX7_isDigit ∈ jt := jt_at6 (i := 70) rfl rfl
theorem kl_X7_343 : Cond.methodLink RX7 343 yX7_readsNumber ∈ jt := jt_at6 (i := 76) rfl rfl
theorem kl_X7_352 : Cond.methodLink RX7 352 yX7_isDone ∈ jt := jt_at6 (i := 80) rfl rfl
theorem kl_X7_355 : Cond.methodLink RX7 355 yX7_cell ∈ jt := jt_at6 (i := 84) rfl rfl
theorem kl_X7_359 : Cond.methodLink RX7 359 yX7_heat ∈ jt := jt_at6 (i := 85) rfl rfl
theorem kl_X7_362 : Cond.methodLink RX7 362 yX7_set ∈ jt := jt_at6 (i := 86) rfl rfl
theorem kl_X7_366 : Cond.methodLink RX7 366 yX7_end ∈ jt := jt_at6 (i := 87) rfl rfl
theorem kl_X7_369 : Cond.methodLink RX7 369 yX7_rule ∈ jt := jt_at6 (i := 88) rfl rfl
theorem kl_X7_372 : Cond.methodLink RX7 372 yX7_pulse ∈ jt := jt_at6 (i := 89) rfl rfl
theorem kl_X7_375 : Cond.methodLink RX7 375 yX7_drop ∈ jt := jt_at6 (i := 90) rfl rfl
theorem kl_L_170 : Cond.methodLink RL 170 yX7_image ∈ jt := jt_at6 (i := 91) rfl rfl
theorem kl_L_174 : Cond.methodLink RL 174 yX7_back ∈ jt := jt_at6 (i := 95) rfl rfl
theorem kl_L_178 : Cond.methodLink RL 178 yX7_load ∈ jt := jt_at6 (i := 99) rfl rfl
theorem kl_L_182 : Cond.methodLink RL 182 yX7_count ∈ jt := jt_at6 (i := 104) rfl rfl
theorem kl_L_186 : Cond.methodLink RL 186 yX7_sheet ∈ jt := jt_at6 (i := 108) rfl rfl
theorem kl_L_190 : Cond.methodLink RL 190 yX7_put ∈ jt := jt_at6 (i := 112) rfl rfl
theorem kl_L_195 : Cond.methodLink RL 195 yX7_copy ∈ jt := jt_at6 (i := 116) rfl rfl
theorem kl_X6_11 : (RX6, 11, yX0_init, RX6) ∈ jnl := by decide +kernel
theorem kl_X0_56 : (RX0, 56, yX2_init, RX6) ∈ jnl := by decide +kernel
theorem kl_X6_26 : (RX6, 26, yX4_init, RX6) ∈ jnl := by decide +kernel
theorem kl_X6_33 : (RX6, 33, yX3_init, RX6) ∈ jnl := by decide +kernel
theorem kl_X6_40 : (RX6, 40, yX5_init, RX6) ∈ jnl := by decide +kernel
theorem kl_X0_152 : (RX0, 152, yX6_commonDivisor, RX6) ∈ jnl := by decide +kernel
theorem kl_X0_131 : (RX0, 131, yX6_quotient, RX6) ∈ jnl := by decide +kernel
theorem kl_X0_98 : (RX0, 98, yX6_firstGreatest, RX6) ∈ jnl := by decide +kernel
theorem kl_X0_159 : (RX0, 159, yX6_total, RX6) ∈ jnl := by decide +kernel
theorem kac_n : Cond.native arraycopyName ∈ jt := jt_at2 (i := 209) rfl rfl
theorem kac_s : Cond.static arraycopyName ∈ jt := jt_at2 (i := 208) rfl rfl
theorem kac_i : Cond.initialized "java/lang/System" ∈ jt := jt_at1 (i := 10) rfl rfl
theorem koi_i : Cond.instanceMethod Lib.objectInit ∈ jt := jt_at1 (i := 21) rfl rfl
theorem koi_c : Cond.code Lib.objectInit ⟨#[0xb1]⟩ 1 none ∈ jt := jt_at1 (i := 22) rfl rfl
theorem kk_X6_306 : Cond.constant RX6 306 (1103515245) ∈ jt := jt_at3 (i := 134) rfl rfl
theorem kk_X7_305 : Cond.constant RX7 305 (1103515245) ∈ jt := jt_at6 (i := 38) rfl rfl
theorem kk_X6_150 : Cond.constantLong RX6 150 (-9223372036854775808) ∈ jt := jt_at2 (i := 113) rfl rfl
theorem kk_X0_129 : Cond.constantLong RX0 129 (24) ∈ jt := jt_at2 (i := 196) rfl rfl
theorem kk_X0_146 : Cond.constantLong RX0 146 (1000000000000) ∈ jt := jt_at2 (i := 205) rfl rfl
theorem kk_X6_287 : Cond.constantLong RX6 287 (-999) ∈ jt := jt_at3 (i := 117) rfl rfl
theorem kk_X6_289 : Cond.constantLong RX6 289 (999) ∈ jt := jt_at3 (i := 118) rfl rfl
theorem kk_X7_159 : Cond.constantLong RX7 159 (5) ∈ jt := jt_at5 (i := 9) rfl rfl
theorem kk_X7_161 : Cond.constantLong RX7 161 (9) ∈ jt := jt_at5 (i := 13) rfl rfl
theorem kk_X7_163 : Cond.constantLong RX7 163 (4) ∈ jt := jt_at5 (i := 14) rfl rfl
theorem kk_X7_169 : Cond.constantLong RX7 169 (999) ∈ jt := jt_at5 (i := 15) rfl rfl
theorem kk_X7_181 : Cond.constantLong RX7 181 (3) ∈ jt := jt_at5 (i := 40) rfl rfl
theorem kk_X7_183 : Cond.constantLong RX7 183 (-9) ∈ jt := jt_at5 (i := 41) rfl rfl
theorem kk_X7_197 : Cond.constantLong RX7 197 (-1) ∈ jt := jt_at5 (i := 85) rfl rfl
theorem kk_X7_199 : Cond.constantLong RX7 199 (20) ∈ jt := jt_at5 (i := 90) rfl rfl
theorem kk_X7_256 : Cond.constantLong RX7 256 (-9223372036854775808) ∈ jt := jt_at5 (i := 110) rfl rfl
theorem kk_X7_263 : Cond.constantLong RX7 263 (40) ∈ jt := jt_at5 (i := 152) rfl rfl
theorem kk_X7_230 : Cond.constantLong RX7 230 (1000000000000) ∈ jt := jt_at5 (i := 165) rfl rfl
theorem kk_X7_276 : Cond.constantLong RX7 276 (-99) ∈ jt := jt_at5 (i := 210) rfl rfl
theorem kk_X7_278 : Cond.constantLong RX7 278 (99) ∈ jt := jt_at5 (i := 211) rfl rfl
theorem kk_X7_280 : Cond.constantLong RX7 280 (2) ∈ jt := jt_at5 (i := 216) rfl rfl
theorem kk_X7_301 : Cond.constantLong RX7 301 (10) ∈ jt := jt_at6 (i := 32) rfl rfl
theorem kk_X7_303 : Cond.constantLong RX7 303 (-999) ∈ jt := jt_at6 (i := 33) rfl rfl
theorem kk_X7_306 : Cond.constantLong RX7 306 (255) ∈ jt := jt_at6 (i := 43) rfl rfl
theorem kk_X7_318 : Cond.constantLong RX7 318 (97) ∈ jt := jt_at6 (i := 64) rfl rfl
theorem kk_X7_320 : Cond.constantLong RX7 320 (122) ∈ jt := jt_at6 (i := 65) rfl rfl
theorem kk_X7_314 : Cond.constantLong RX7 314 (48) ∈ jt := jt_at6 (i := 74) rfl rfl
theorem kk_X7_316 : Cond.constantLong RX7 316 (57) ∈ jt := jt_at6 (i := 75) rfl rfl
theorem kk_X7_399 : Cond.constantLong RX7 399 (8) ∈ jt := jt_at6 (i := 103) rfl rfl
theorem kcl_L_7 : Cond.classLink RL 7 RX6 ∈ jt := jt_at1 (i := 15) rfl rfl
theorem kcl_X6_9 : Cond.classLink RX6 9 RX0 ∈ jt := jt_at1 (i := 23) rfl rfl
theorem kcl_X0_54 : Cond.classLink RX0 54 RX2 ∈ jt := jt_at1 (i := 29) rfl rfl
theorem kcl_X6_24 : Cond.classLink RX6 24 RX4 ∈ jt := jt_at1 (i := 115) rfl rfl
theorem kcl_X6_31 : Cond.classLink RX6 31 RX3 ∈ jt := jt_at1 (i := 142) rfl rfl
theorem kcl_X3_18 : Cond.classLink RX3 18 "[[I" ∈ jt := jt_at1 (i := 148) rfl rfl
theorem kcl_X6_38 : Cond.classLink RX6 38 RX5 ∈ jt := jt_at1 (i := 163) rfl rfl
theorem kcl_L_10 : Cond.classLink RL 10 RX7 ∈ jt := jt_at4 (i := 69) rfl rfl
theorem kin_X6 : Cond.instantiable RX6 8 ∈ jt := jt_at1 (i := 16) rfl rfl
theorem kini_X6 : Cond.initialized RX6 ∈ jt := jt_at1 (i := 1) rfl rfl
theorem kin_X0 : Cond.instantiable RX0 15 ∈ jt := jt_at1 (i := 24) rfl rfl
theorem kini_X0 : Cond.initialized RX0 ∈ jt := jt_at1 (i := 2) rfl rfl
theorem kin_X2 : Cond.instantiable RX2 4 ∈ jt := jt_at1 (i := 30) rfl rfl
theorem kini_X2 : Cond.initialized RX2 ∈ jt := jt_at1 (i := 3) rfl rfl
theorem kin_X4 : Cond.instantiable RX4 6 ∈ jt := jt_at1 (i := 116) rfl rfl
theorem kini_X4 : Cond.initialized RX4 ∈ jt := jt_at1 (i := 4) rfl rfl
theorem kin_X3 : Cond.instantiable RX3 3 ∈ jt := jt_at1 (i := 143) rfl rfl
theorem kini_X3 : Cond.initialized RX3 ∈ jt := jt_at1 (i := 5) rfl rfl
theorem kin_X5 : Cond.instantiable RX5 5 ∈ jt := jt_at1 (i := 164) rfl rfl
theorem kini_X5 : Cond.initialized RX5 ∈ jt := jt_at1 (i := 6) rfl rfl
theorem kin_X7 : Cond.instantiable RX7 55 ∈ jt := jt_at4 (i := 70) rfl rfl
theorem kini_X7 : Cond.initialized RX7 ∈ jt := jt_at1 (i := 7) rfl rfl
theorem kar_int : Cond.arrayClass .int ∈ jt := jt_at1 (i := 52) rfl rfl
theorem kar_long : Cond.arrayClass .long ∈ jt := jt_at1 (i := 53) rfl rfl
theorem kar_byte : Cond.arrayClass .byte ∈ jt := jt_at4 (i := 31) rfl rfl
theorem kar_char : Cond.arrayClass .char ∈ jt := jt_at5 (i := 1) rfl rfl
def df_X0 : List Value := [.int 0, .null, .null, .null, .null, .null, .null, .null, .null, .long 0, .null, .int 0, .int 0, .null, .null]
theorem kd_X0 : ∀ j, j < 15 → defaultValue (tyX0 j) = vp_V df_X0 j := by decide +kernel
def df_X2 : List Value := [.null, .null, .null, .int 0]
theorem kd_X2 : ∀ j, j < 4 → defaultValue (tyX2 j) = vp_V df_X2 j := by decide +kernel
def df_X3 : List Value := [.null, .null, .null]
theorem kd_X3 : ∀ j, j < 3 → defaultValue (tyX3 j) = vp_V df_X3 j := by decide +kernel
def df_X4 : List Value := [.null, .long 0, .null, .null, .null, .null]
theorem kd_X4 : ∀ j, j < 6 → defaultValue (tyX4 j) = vp_V df_X4 j := by decide +kernel
def df_X5 : List Value := [.null, .int 0, .null, .int 0, .int 0]
theorem kd_X5 : ∀ j, j < 5 → defaultValue (tyX5 j) = vp_V df_X5 j := by decide +kernel
def df_X6 : List Value := [.null, .null, .null, .null, .null, .null, .null, .int 0]
theorem kd_X6 : ∀ j, j < 8 → defaultValue (tyX6 j) = vp_V df_X6 j := by decide +kernel
def df_X7 : List Value := [.int 0, .null, .null, .null, .null, .null, .long 0, .null, .null, .int 0, .null, .null, .null, .null, .long 0, .int 0, .null, .null, .null, .null, .int 0, .null, .null, .null, .long 0, .null, .null, .null, .null, .int 0, .int 0, .int 0, .int 0, .int 0, .int 0, .null, .int 0, .int 0, .int 0, .null, .null, .null, .null, .null, .long 0, .null, .null, .int 0, .null, .null, .null, .null, .null, .null, .null]
theorem kd_X7 : ∀ j, j < 55 → defaultValue (tyX7 j) = vp_V df_X7 j := by decide +kernel
theorem ic_m1 : Int32.ofInt (-1) = -1 := by decide
theorem ic_0 : Int32.ofInt (0) = 0 := by decide
theorem ic_1 : Int32.ofInt (1) = 1 := by decide
theorem ic_2 : Int32.ofInt (2) = 2 := by decide
theorem ic_3 : Int32.ofInt (3) = 3 := by decide
theorem ic_4 : Int32.ofInt (4) = 4 := by decide
theorem ic_5 : Int32.ofInt (5) = 5 := by decide
theorem bc_m100 : (Int8.ofInt (-100)).toInt32 = -100 := by decide
theorem bc_m99 : (Int8.ofInt (-99)).toInt32 = -99 := by decide
theorem bc_m14 : (Int8.ofInt (-14)).toInt32 = -14 := by decide
theorem bc_m13 : (Int8.ofInt (-13)).toInt32 = -13 := by decide
theorem bc_m12 : (Int8.ofInt (-12)).toInt32 = -12 := by decide
theorem bc_m11 : (Int8.ofInt (-11)).toInt32 = -11 := by decide
theorem bc_m9 : (Int8.ofInt (-9)).toInt32 = -9 := by decide
theorem bc_m4 : (Int8.ofInt (-4)).toInt32 = -4 := by decide
theorem bc_m3 : (Int8.ofInt (-3)).toInt32 = -3 := by decide
theorem bc_m2 : (Int8.ofInt (-2)).toInt32 = -2 := by decide
theorem bc_6 : (Int8.ofInt (6)).toInt32 = 6 := by decide
theorem bc_7 : (Int8.ofInt (7)).toInt32 = 7 := by decide
theorem bc_8 : (Int8.ofInt (8)).toInt32 = 8 := by decide
theorem bc_9 : (Int8.ofInt (9)).toInt32 = 9 := by decide
theorem bc_10 : (Int8.ofInt (10)).toInt32 = 10 := by decide
theorem bc_11 : (Int8.ofInt (11)).toInt32 = 11 := by decide
theorem bc_12 : (Int8.ofInt (12)).toInt32 = 12 := by decide
theorem bc_13 : (Int8.ofInt (13)).toInt32 = 13 := by decide
theorem bc_14 : (Int8.ofInt (14)).toInt32 = 14 := by decide
theorem bc_15 : (Int8.ofInt (15)).toInt32 = 15 := by decide
theorem bc_16 : (Int8.ofInt (16)).toInt32 = 16 := by decide
theorem bc_17 : (Int8.ofInt (17)).toInt32 = 17 := by decide
theorem bc_18 : (Int8.ofInt (18)).toInt32 = 18 := by decide
theorem bc_19 : (Int8.ofInt (19)).toInt32 = 19 := by decide
theorem bc_20 : (Int8.ofInt (20)).toInt32 = 20 := by decide
theorem bc_21 : (Int8.ofInt (21)).toInt32 = 21 := by decide
theorem bc_22 : (Int8.ofInt (22)).toInt32 = 22 := by decide
theorem bc_23 : (Int8.ofInt (23)).toInt32 = 23 := by decide
theorem bc_24 : (Int8.ofInt (24)).toInt32 = 24 := by decide
theorem bc_25 : (Int8.ofInt (25)).toInt32 = 25 := by decide
theorem bc_26 : (Int8.ofInt (26)).toInt32 = 26 := by decide
theorem bc_27 : (Int8.ofInt (27)).toInt32 = 27 := by decide
theorem bc_28 : (Int8.ofInt (28)).toInt32 = 28 := by decide
theorem bc_29 : (Int8.ofInt (29)).toInt32 = 29 := by decide
theorem bc_30 : (Int8.ofInt (30)).toInt32 = 30 := by decide
theorem bc_31 : (Int8.ofInt (31)).toInt32 = 31 := by decide
theorem bc_32 : (Int8.ofInt (32)).toInt32 = 32 := by decide
theorem bc_33 : (Int8.ofInt (33)).toInt32 = 33 := by decide
theorem bc_34 : (Int8.ofInt (34)).toInt32 = 34 := by decide
theorem bc_35 : (Int8.ofInt (35)).toInt32 = 35 := by decide
theorem bc_36 : (Int8.ofInt (36)).toInt32 = 36 := by decide
theorem bc_37 : (Int8.ofInt (37)).toInt32 = 37 := by decide
theorem bc_38 : (Int8.ofInt (38)).toInt32 = 38 := by decide
theorem bc_39 : (Int8.ofInt (39)).toInt32 = 39 := by decide
theorem bc_40 : (Int8.ofInt (40)).toInt32 = 40 := by decide
theorem bc_41 : (Int8.ofInt (41)).toInt32 = 41 := by decide
theorem bc_42 : (Int8.ofInt (42)).toInt32 = 42 := by decide
theorem bc_43 : (Int8.ofInt (43)).toInt32 = 43 := by decide
theorem bc_44 : (Int8.ofInt (44)).toInt32 = 44 := by decide
theorem bc_45 : (Int8.ofInt (45)).toInt32 = 45 := by decide
theorem bc_48 : (Int8.ofInt (48)).toInt32 = 48 := by decide
theorem bc_57 : (Int8.ofInt (57)).toInt32 = 57 := by decide
theorem bc_59 : (Int8.ofInt (59)).toInt32 = 59 := by decide
theorem bc_60 : (Int8.ofInt (60)).toInt32 = 60 := by decide
theorem bc_63 : (Int8.ofInt (63)).toInt32 = 63 := by decide
theorem bc_97 : (Int8.ofInt (97)).toInt32 = 97 := by decide
theorem bc_99 : (Int8.ofInt (99)).toInt32 = 99 := by decide
theorem bc_100 : (Int8.ofInt (100)).toInt32 = 100 := by decide
theorem bc_101 : (Int8.ofInt (101)).toInt32 = 101 := by decide
theorem bc_102 : (Int8.ofInt (102)).toInt32 = 102 := by decide
theorem bc_103 : (Int8.ofInt (103)).toInt32 = 103 := by decide
theorem bc_104 : (Int8.ofInt (104)).toInt32 = 104 := by decide
theorem bc_105 : (Int8.ofInt (105)).toInt32 = 105 := by decide
theorem bc_108 : (Int8.ofInt (108)).toInt32 = 108 := by decide
theorem bc_110 : (Int8.ofInt (110)).toInt32 = 110 := by decide
theorem bc_111 : (Int8.ofInt (111)).toInt32 = 111 := by decide
theorem bc_112 : (Int8.ofInt (112)).toInt32 = 112 := by decide
theorem bc_114 : (Int8.ofInt (114)).toInt32 = 114 := by decide
theorem bc_115 : (Int8.ofInt (115)).toInt32 = 115 := by decide
theorem bc_116 : (Int8.ofInt (116)).toInt32 = 116 := by decide
theorem bc_117 : (Int8.ofInt (117)).toInt32 = 117 := by decide
theorem bc_122 : (Int8.ofInt (122)).toInt32 = 122 := by decide
theorem sc_m1000 : (Int16.ofInt (-1000)).toInt32 = -1000 := by decide
theorem sc_m999 : (Int16.ofInt (-999)).toInt32 = -999 := by decide
theorem sc_132 : (Int16.ofInt (132)).toInt32 = 132 := by decide
theorem sc_160 : (Int16.ofInt (160)).toInt32 = 160 := by decide
theorem sc_255 : (Int16.ofInt (255)).toInt32 = 255 := by decide
theorem sc_999 : (Int16.ofInt (999)).toInt32 = 999 := by decide
theorem sc_1000 : (Int16.ofInt (1000)).toInt32 = 1000 := by decide
theorem sc_12345 : (Int16.ofInt (12345)).toInt32 = 12345 := by decide
theorem ii_m1 (u : Int32) : u + Int32.ofInt (-1) = u + (-1) := by rw [show Int32.ofInt (-1) = (-1) by decide]
theorem ii_1 (u : Int32) : u + Int32.ofInt (1) = u + (1) := by rw [show Int32.ofInt (1) = (1) by decide]
theorem ii_7 (u : Int32) : u + Int32.ofInt (7) = u + (7) := by rw [show Int32.ofInt (7) = (7) by decide]
theorem lc_0 : Int64.ofNat ((0 : Fin 2) : Nat) = 0 := by decide
theorem lc_1 : Int64.ofNat ((1 : Fin 2) : Nat) = 1 := by decide
