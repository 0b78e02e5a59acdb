/-! The JDK's own methods over the tape's String constants. -/
theorem okS_coder (G : JG) (x : Hs) (q : Nat) (hq : q < 8) : JC G yJ0_coder_7d493 cJ0_coder_7d493 1 (some .byte) (jR 1 0 0) 0 0 [.ref (x.2.2 (100 + q))] x (some (.int 0), x) := by
  refine jc_ofF (own := RJ0) (E := (fun r : Int32 => ((some (.int r), x) : JR))) (t := (if (1 : Int32) = 0 then none else some 0)) (by decide +kernel) rfl rfl (Nat.le_of_ble_eq_true rfl) rfl ?_ 0 rfl
  refine j_compact 3 kfj_J0_38 dJ0_coder_7d493_0 rfl ?_
  refine j_if_eq 13 6 dJ0_coder_7d493_3 (by decide) rfl ?_ ?_
  · exact j_none
  · refine j_aload_n 7 0 dJ0_coder_7d493_6 rfl rfl rfl ?_
    refine j_scod 10 q hq kfj_J0_15 dJ0_coder_7d493_7 rfl ?_
    refine j_goto 14 dJ0_coder_7d493_10 (by decide) ?_
    exact j_nret rfl dJ0_coder_7d493_14 rfl
theorem okS_latin (G : JG) (x : Hs) (q : Nat) (hq : q < 8) : JC G yJ0_isLatin1_aae02 cJ0_isLatin1_aae02 1 (some .boolean) (jR 1 0 0) 0 0 [.ref (x.2.2 (100 + q))] x (some (.int 1), x) := by
  refine jc_ofF (own := RJ0) (E := (fun r : Int32 => ((some (.int r), x) : JR))) (t := (if (1 : Int32) = 0 then none else if (0 : Int32) = 0 then some 1 else none)) (by decide +kernel) rfl rfl (Nat.le_of_ble_eq_true rfl) rfl ?_ 1 rfl
  refine j_compact 3 kfj_J0_38 dJ0_isLatin1_aae02_0 rfl ?_
  refine j_if_eq 17 6 dJ0_isLatin1_aae02_3 (by decide) rfl ?_ ?_
  · exact j_none
  · refine j_aload_n 7 0 dJ0_isLatin1_aae02_6 rfl rfl rfl ?_
    refine j_scod 10 q hq kfj_J0_15 dJ0_isLatin1_aae02_7 rfl ?_
    refine j_if_ne 17 13 dJ0_isLatin1_aae02_10 (by decide) rfl ?_ ?_
    · exact j_none
    · refine j_iconst (v := 1) 14 dJ0_isLatin1_aae02_13 rfl ic_1 ?_
      refine j_goto 18 dJ0_isLatin1_aae02_14 (by decide) ?_
      exact j_nret rfl dJ0_isLatin1_aae02_18 rfl
theorem okS_len (G : JG) (x : Hs) (a : Nat) : ∀ r, sLen x a = some r → JC G yJ0_length_8abf5 cJ0_length_8abf5 1 (some .int) (jR 2 0 0) 0 0 [.ref a] x (some (.int r), x) := by
  intro r hr
  unfold sLen at hr
  obtain ⟨q, hq, hr2⟩ := Option.bind_eq_some_iff.mp hr
  clear hr
  obtain ⟨hq8, rfl⟩ := sK_some hq
  cases hr2
  refine jc_ofF (own := RJ0) (E := (fun r : Int32 => ((some (.int r), x) : JR))) (t := ((some 0).bind fun z : Int32 => some (nI (sLn.getD q 0) >>> (z &&& 31)))) (by decide +kernel) rfl rfl (Nat.le_of_ble_eq_true rfl) rfl ?_ _ (congrArg some (sb_shr0 _))
  refine j_aload_n 1 0 dJ0_length_8abf5_0 rfl rfl rfl ?_
  refine j_sval 4 q hq8 kfj_J0_9 dJ0_length_8abf5_1 rfl ?_
  refine j_slen 5 q hq8 dJ0_length_8abf5_4 rfl ?_
  refine j_aload_n 6 0 dJ0_length_8abf5_5 rfl rfl rfl ?_
  refine j_callVS_i (As := []) (st := [.int (nI (sLn.getD q 0))]) 9 (fun z hz => by cases hz; exact okS_coder G x q hq8) kc_J0_coder_7d493 kl_J0_335 ki_J0_coder_7d493 kv_J0_coder_7d493 rfl (fun _ _ => ⟨q, hq8, rfl⟩) ⟨rfl, rfl, Nat.le_of_ble_eq_true rfl, Nat.le_of_ble_eq_true rfl⟩ (Nat.le_of_ble_eq_true rfl) ⟨Nat.le_of_ble_eq_true rfl, Nat.le_of_ble_eq_true rfl⟩ rfl dJ0_length_8abf5_6 rfl rfl ?_
  intro z
  refine j_ishr 10 dJ0_length_8abf5_9 rfl ?_
  exact j_iret dJ0_length_8abf5_10 rfl
/-- an index that is inside -/
def chk (i n : Int32) : Option Int32 := if i < 0 then none else if i < n then some i else none
theorem okS_pre (G : JG) (x : Hs) (i n : Int32) (v : Value) (hv : v = .null ∨ ∃ a, v = .ref a) : ∀ r, chk i n = some r → JC G yJ3_checkIndex_8e157 cJ3_checkIndex_8e157 3 (some .int) (jR 1 0 0) 0 0 [.int i, .int n, v] x (some (.int r), x) := by
  refine jc_ofF (own := RJ3) (E := (fun r : Int32 => ((some (.int r), x) : JR))) (by decide +kernel) rfl rfl ?_ rfl ?_
  · rcases hv with rfl | ⟨a, rfl⟩ <;> exact Nat.le_of_ble_eq_true rfl
  unfold chk
  refine j_iload_n 1 0 dJ3_checkIndex_8e157_0 rfl rfl rfl ?_
  refine j_if_lt 9 4 dJ3_checkIndex_8e157_1 (by decide) rfl ?_ ?_
  · exact j_none
  · refine j_iload_n 5 0 dJ3_checkIndex_8e157_4 rfl rfl rfl ?_
    refine j_iload_n 6 1 dJ3_checkIndex_8e157_5 rfl rfl rfl ?_
    refine j_icmp_lt 16 9 dJ3_checkIndex_8e157_6 (by decide) rfl ?_ ?_
    · refine j_iload_n 17 0 dJ3_checkIndex_8e157_16 rfl rfl rfl ?_
      exact j_iret dJ3_checkIndex_8e157_17 rfl
    · exact j_none
theorem okS_chk (G : JG) (x : Hs) (i n : Int32) (hi : chk i n = some i) : JC G yJ0_checkIndex_df160 cJ0_checkIndex_df160 2 none (jR 2 0 0) 0 0 [.int i, .int n] x (none, x) := by
  refine jc_ofF (own := RJ0) (E := (fun r : Hs => ((none, r) : JR))) (t := ((chk i n).bind fun _ => some x)) (by decide +kernel) rfl rfl (Nat.le_of_ble_eq_true rfl) rfl ?_ x (by rw [hi]; rfl)
  refine j_iload_n 1 0 dJ0_checkIndex_df160_0 rfl rfl rfl ?_
  refine j_iload_n 2 1 dJ0_checkIndex_df160_1 rfl rfl rfl ?_
  refine j_sioobe 5 kfj_J0_1053 dJ0_checkIndex_df160_2 rfl ?_
  intro v hv
  refine j_callS_i (As := [.int i, .int n, v]) (st := []) 8 (okS_pre G x i n v hv) kc_J3_checkIndex_8e157 kl_J0_1059 ks_J3_checkIndex_8e157 ⟨rfl, rfl, Nat.le_of_ble_eq_true rfl, Nat.le_of_ble_eq_true rfl⟩ (Nat.le_of_ble_eq_true rfl) ⟨Nat.le_of_ble_eq_true rfl, Nat.le_of_ble_eq_true rfl⟩ rfl dJ0_checkIndex_df160_5 rfl rfl ?_
  intro z
  refine j_pop 9 dJ0_checkIndex_df160_8 rfl rfl ?_
  exact j_vret dJ0_checkIndex_df160_9 rfl
theorem chk_in {i : Int32} {N : Nat} (hN : N < 2 ^ 31) (h : jin i N) : chk i (nI N) = some i := by
  obtain ⟨j, hj, rfl⟩ := vp_in_of h hN
  unfold chk
  rw [if_neg (nI_pos (by omega)), if_pos (nI_lt hj hN)]
theorem sLn_lt : ∀ q, q < 8 → sLn.getD q 0 < 2 ^ 31 := by decide
theorem okS_lat (G : JG) (x : Hs) (q : Nat) (hq : q < 8) (i : Int32) (hi : jin i (sLn.getD q 0)) : JC G yJ1_charAt_3b067 cJ1_charAt_3b067 2 (some .char) (jR 3 0 0) 0 0 [.ref (x.2.2 (200 + q)), .int i] x (some (.int ((sBy.getD q []).getD i.toNatClampNeg 0 &&& 255)), x) := by
  refine jc_ofF (own := RJ1) (E := (fun r : Int32 => ((some (.int r), x) : JR))) (t := ((some x).bind fun _ : Hs => some ((sBy.getD q []).getD i.toNatClampNeg 0 &&& 255))) (by decide +kernel) rfl rfl (Nat.le_of_ble_eq_true rfl) rfl ?_ _ rfl
  refine j_iload_n 1 1 dJ1_charAt_3b067_0 rfl rfl rfl ?_
  refine j_aload_n 2 0 dJ1_charAt_3b067_1 rfl rfl rfl ?_
  refine j_slen 3 q hq dJ1_charAt_3b067_2 rfl ?_
  refine j_callS (E' := fun _ : Hs => ((none, x) : JR)) (As := [.int i, .int (nI (sLn.getD q 0))]) (st := []) 6 (fun _ _ => okS_chk G x i _ (chk_in (sLn_lt q hq) hi)) kc_J0_checkIndex_df160 kl_J1_9 ks_J0_checkIndex_df160 ⟨rfl, rfl, Nat.le_of_ble_eq_true rfl, Nat.le_of_ble_eq_true rfl⟩ (Nat.le_of_ble_eq_true rfl) ⟨Nat.le_of_ble_eq_true rfl, Nat.le_of_ble_eq_true rfl⟩ rfl dJ1_charAt_3b067_3 rfl rfl ?_
  intro z
  refine j_aload_n 7 0 dJ1_charAt_3b067_6 rfl rfl rfl ?_
  refine j_iload_n 8 1 dJ1_charAt_3b067_7 rfl rfl rfl ?_
  refine j_sbyte 9 q hq hi dJ1_charAt_3b067_8 rfl ?_
  refine j_sipush (v := 255) 12 dJ1_charAt_3b067_9 rfl sc_255 ?_
  refine j_iand 13 dJ1_charAt_3b067_12 rfl ?_
  refine j_i2c 14 dJ1_charAt_3b067_13 rfl ?_
  rw [sc_c2]
  exact j_nret (sc_nar _) dJ1_charAt_3b067_14 rfl
theorem okS_chr (G : JG) (x : Hs) (a : Nat) (i : Int32) : ∀ r, sChr x a i = some r → JC G yJ0_charAt_5068e cJ0_charAt_5068e 2 (some .char) (jR 4 0 0) 0 0 [.ref a, .int i] x (some (.int r), x) := by
  intro r hr
  unfold sChr at hr
  obtain ⟨q, hq, hr2⟩ := Option.bind_eq_some_iff.mp hr
  clear hr
  have hr := hr2
  clear hr2
  obtain ⟨hq8, rfl⟩ := sK_some hq
  by_cases hi : jin i (sLn.getD q 0)
  · rw [if_pos hi] at hr
    cases hr
    refine jc_ofF (own := RJ0) (E := (fun r : Int32 => ((some (.int r), x) : JR))) (t := ((some 1).bind fun z : Int32 => if z = 0 then none else (some ((sBy.getD q []).getD i.toNatClampNeg 0 &&& 255)).bind fun w => some ((sBy.getD q []).getD i.toNatClampNeg 0 &&& 255))) (by decide +kernel) rfl rfl (Nat.le_of_ble_eq_true rfl) rfl ?_ _ rfl
    refine j_aload_n 1 0 dJ0_charAt_5068e_0 rfl rfl rfl ?_
    refine j_callVS_i (As := []) (st := []) 4 (fun z hz => by cases hz; exact okS_latin G x q hq8) kc_J0_isLatin1_aae02 kl_J0_492 ki_J0_isLatin1_aae02 kv_J0_isLatin1_aae02 rfl (fun _ _ => ⟨q, hq8, rfl⟩) ⟨rfl, rfl, Nat.le_of_ble_eq_true rfl, Nat.le_of_ble_eq_true rfl⟩ (Nat.le_of_ble_eq_true rfl) ⟨Nat.le_of_ble_eq_true rfl, Nat.le_of_ble_eq_true rfl⟩ rfl dJ0_charAt_5068e_1 rfl rfl ?_
    intro z
    refine j_if_eq 16 7 dJ0_charAt_5068e_4 (by decide) rfl ?_ ?_
    · exact j_none
    · refine j_aload_n 8 0 dJ0_charAt_5068e_7 rfl rfl rfl ?_
      refine j_sval 11 q hq8 kfj_J0_9 dJ0_charAt_5068e_8 rfl ?_
      refine j_iload_n 12 1 dJ0_charAt_5068e_11 rfl rfl rfl ?_
      refine j_callS (E' := fun w : Int32 => ((some (.int ((sBy.getD q []).getD i.toNatClampNeg 0 &&& 255)), x) : JR)) (As := [.ref (x.2.2 (200 + q)), .int i]) (st := []) 15 (fun w hw => okS_lat G x q hq8 i hi) kc_J1_charAt_3b067 kl_J0_495 ks_J1_charAt_3b067 ⟨rfl, rfl, Nat.le_of_ble_eq_true rfl, Nat.le_of_ble_eq_true rfl⟩ (Nat.le_of_ble_eq_true rfl) ⟨Nat.le_of_ble_eq_true rfl, Nat.le_of_ble_eq_true rfl⟩ rfl dJ0_charAt_5068e_12 rfl rfl ?_
      intro w
      exact j_nret (sc_nar _) dJ0_charAt_5068e_15 rfl
  · rw [if_neg hi] at hr
    cases hr
