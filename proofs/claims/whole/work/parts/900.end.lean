/-! The start of the law, and the claim. -/
theorem law_pure (xs : Nat → Int32) (L : Nat) (hL : L ≤ 3584) (top : Nat) (ct : Nat → ClassId) (hct : ∀ i j : Nat, i < 8 → j < 8 → ct (100 + i) = ct (100 + j) → i = j) : ∃ r, L_law xs L (x00 top ct) = some r := by
  obtain ⟨r, hr⟩ := TL_ok xs L hL ct hct
  refine ⟨HH top ct r, ?_⟩
  rw [law_start]
  have h := eqL_law_L18 top ct xs L fu 0 S00
  unfold EQ at h
  rw [h, hr]
  rfl
set_option maxHeartbeats 4000000 in
set_option maxRecDepth 100000 in
theorem whole_start {p : Program} {e : Env} {s : State} {m : MethodId} {below : List Frame} {meth : Method} {c : Code} (l : Launch) (hflags : l.flags = flags0) {b L : Nat} {xs : Nat → Int32} (hL : L ≤ 3584) (C0 : lw_At p s m meth c b L xs) : W p l e room_1 s m #[Value.ref b] below meth c s.heap [] 0 0 (lw_Z below #[Value.ref b] s) (entryFrame m ([Value.ref b] : List Value).toArray 4) := by
  obtain ⟨hx, hb, hr, hml, hown, hts, hX, hbl, hlocks, hgv⟩ := id C0
  have hjt : ∀ w ∈ jt, w.before #[Value.ref b] s = true := fun w hw => hts w (List.mem_filter.mp hw).1
  have hs := flat_of_before _ hgv
  obtain ⟨c0, iS0, hKn0⟩ := u_known (C := RX0) (T := TX0) (N := 15) (n := 15) hjt ku_X0 (hjt _ kin_X0)
  obtain ⟨c1, iS1, hKn1⟩ := u_known (C := RX2) (T := TX2) (N := 4) (n := 4) hjt ku_X2 (hjt _ kin_X2)
  obtain ⟨c2, iS2, hKn2⟩ := u_known (C := RX3) (T := TX3) (N := 3) (n := 3) hjt ku_X3 (hjt _ kin_X3)
  obtain ⟨c3, iS3, hKn3⟩ := u_known (C := RX4) (T := TX4) (N := 6) (n := 6) hjt ku_X4 (hjt _ kin_X4)
  obtain ⟨c4, iS4, hKn4⟩ := u_known (C := RX5) (T := TX5) (N := 5) (n := 5) hjt ku_X5 (hjt _ kin_X5)
  obtain ⟨c5, iS5, hKn5⟩ := u_known (C := RX6) (T := TX6) (N := 8) (n := 8) hjt ku_X6 (hjt _ kin_X6)
  obtain ⟨c6, iS6, hKn6⟩ := u_known (C := RX7) (T := TX7) (N := 55) (n := 55) hjt ku_X7 (hjt _ kin_X7)
  obtain ⟨dC, dI, hKc⟩ : ∃ (dC : Nat → ClassId) (dI : Nat → Nat → Nat), ∀ (k : Nat) (q : vw_C), vwCl[k]? = some q → u_Kn s q.1 q.2.1 q.2.2 (dC k) (dI k) := by
    refine ⟨fun k => if k = 0 then c0 else if k = 1 then c1 else if k = 2 then c2 else if k = 3 then c3 else if k = 4 then c4 else if k = 5 then c5 else c6, fun k => if k = 0 then iS0 else if k = 1 then iS1 else if k = 2 then iS2 else if k = 3 then iS3 else if k = 4 then iS4 else if k = 5 then iS5 else iS6, ?_⟩
    intro k q hq
    match k, hq with
    | 0, hq => cases hq; exact hKn0
    | 1, hq => cases hq; exact hKn1
    | 2, hq => cases hq; exact hKn2
    | 3, hq => cases hq; exact hKn3
    | 4, hq => cases hq; exact hKn4
    | 5, hq => cases hq; exact hKn5
    | 6, hq => cases hq; exact hKn6
    | k + 7, hq => simp [vwCl] at hq
  obtain ⟨aI0, kI, pI0, fI1, fI2, fI3⟩ := Cond.arrayClass_spec (hjt _ kar_int)
  obtain ⟨aJ0, kJ, pJ0, fJ1, fJ2, fJ3⟩ := Cond.arrayClass_spec (hjt _ kar_long)
  obtain ⟨aC0, kC, pC0, fC1, fC2, fC3⟩ := Cond.arrayClass_spec (hjt _ kar_char)
  have hAO : (Cond.arrayOver (.array .int)).before #[Value.ref b] s = true := hts _ (List.mem_append_right _ (List.mem_of_getElem? (i := 149) (by decide +kernel)))
  obtain ⟨pM0, aM0, kM, fM1, fM2, fM3, fM4, fM5⟩ := arrayOverA_spec hAO
  obtain ⟨adK, adV, hV, hE⟩ := vk_Sof (args := #[Value.ref b]) (s := s) (N := 8) (tm := fun k => Term.string RX5 (sIx k)) (len := sLn) (byt := sBy) (A := fun q => s.heap.size ≤ q) (by decide) (fun i hi => by
    match i, hi with
    | 0, _ => exact hs _ (by decide +kernel)
    | 1, _ => exact hs _ (by decide +kernel)
    | 2, _ => exact hs _ (by decide +kernel)
    | 3, _ => exact hs _ (by decide +kernel)
    | 4, _ => exact hs _ (by decide +kernel)
    | 5, _ => exact hs _ (by decide +kernel)
    | 6, _ => exact hs _ (by decide +kernel)
    | 7, _ => exact hs _ (by decide +kernel)) (fun i hi => by
    match i, hi with
    | 0, _ => exact hs _ (by decide +kernel)
    | 1, _ => exact hs _ (by decide +kernel)
    | 2, _ => exact hs _ (by decide +kernel)
    | 3, _ => exact hs _ (by decide +kernel)
    | 4, _ => exact hs _ (by decide +kernel)
    | 5, _ => exact hs _ (by decide +kernel)
    | 6, _ => exact hs _ (by decide +kernel)
    | 7, _ => exact hs _ (by decide +kernel)) (fun i hi => by
    match i, hi with
    | 0, _ => exact hs _ (by decide +kernel)
    | 1, _ => exact hs _ (by decide +kernel)
    | 2, _ => exact hs _ (by decide +kernel)
    | 3, _ => exact hs _ (by decide +kernel)
    | 4, _ => exact hs _ (by decide +kernel)
    | 5, _ => exact hs _ (by decide +kernel)
    | 6, _ => exact hs _ (by decide +kernel)
    | 7, _ => exact hs _ (by decide +kernel)) (fun i hi => by
    match i, hi with
    | 0, _ => exact hs _ (by decide +kernel)
    | 1, _ => exact hs _ (by decide +kernel)
    | 2, _ => exact hs _ (by decide +kernel)
    | 3, _ => exact hs _ (by decide +kernel)
    | 4, _ => exact hs _ (by decide +kernel)
    | 5, _ => exact hs _ (by decide +kernel)
    | 6, _ => exact hs _ (by decide +kernel)
    | 7, _ => exact hs _ (by decide +kernel)) (fun i hi j hj => by
    match i, hi with
    | 0, _ =>
      match j, hj with
      | 0, _ => exact hs _ (by decide +kernel)
      | 1, _ => exact hs _ (by decide +kernel)
      | 2, _ => exact hs _ (by decide +kernel)
      | 3, _ => exact hs _ (by decide +kernel)
      | j + 4, hj => exact absurd hj (by show ¬ j + 4 < 4; omega)
    | 1, _ =>
      match j, hj with
      | 0, _ => exact hs _ (by decide +kernel)
      | 1, _ => exact hs _ (by decide +kernel)
      | 2, _ => exact hs _ (by decide +kernel)
      | 3, _ => exact hs _ (by decide +kernel)
      | j + 4, hj => exact absurd hj (by show ¬ j + 4 < 4; omega)
    | 2, _ =>
      match j, hj with
      | 0, _ => exact hs _ (by decide +kernel)
      | 1, _ => exact hs _ (by decide +kernel)
      | 2, _ => exact hs _ (by decide +kernel)
      | 3, _ => exact hs _ (by decide +kernel)
      | 4, _ => exact hs _ (by decide +kernel)
      | 5, _ => exact hs _ (by decide +kernel)
      | j + 6, hj => exact absurd hj (by show ¬ j + 6 < 6; omega)
    | 3, _ =>
      match j, hj with
      | 0, _ => exact hs _ (by decide +kernel)
      | 1, _ => exact hs _ (by decide +kernel)
      | 2, _ => exact hs _ (by decide +kernel)
      | 3, _ => exact hs _ (by decide +kernel)
      | j + 4, hj => exact absurd hj (by show ¬ j + 4 < 4; omega)
    | 4, _ =>
      match j, hj with
      | 0, _ => exact hs _ (by decide +kernel)
      | 1, _ => exact hs _ (by decide +kernel)
      | 2, _ => exact hs _ (by decide +kernel)
      | 3, _ => exact hs _ (by decide +kernel)
      | 4, _ => exact hs _ (by decide +kernel)
      | j + 5, hj => exact absurd hj (by show ¬ j + 5 < 5; omega)
    | 5, _ =>
      match j, hj with
      | 0, _ => exact hs _ (by decide +kernel)
      | 1, _ => exact hs _ (by decide +kernel)
      | 2, _ => exact hs _ (by decide +kernel)
      | 3, _ => exact hs _ (by decide +kernel)
      | j + 4, hj => exact absurd hj (by show ¬ j + 4 < 4; omega)
    | 6, _ =>
      match j, hj with
      | 0, _ => exact hs _ (by decide +kernel)
      | 1, _ => exact hs _ (by decide +kernel)
      | 2, _ => exact hs _ (by decide +kernel)
      | 3, _ => exact hs _ (by decide +kernel)
      | 4, _ => exact hs _ (by decide +kernel)
      | j + 5, hj => exact absurd hj (by show ¬ j + 5 < 5; omega)
    | 7, _ =>
      match j, hj with
      | 0, _ => exact hs _ (by decide +kernel)
      | 1, _ => exact hs _ (by decide +kernel)
      | 2, _ => exact hs _ (by decide +kernel)
      | 3, _ => exact hs _ (by decide +kernel)
      | j + 4, hj => exact absurd hj (by show ¬ j + 4 < 4; omega)) (fun i j hi hj hij => by
    match i, hi with
    | 0, _ =>
      match j, hj with
      | 0, _ => exact absurd rfl hij
      | 1, _ => exact Or.inl (hs _ (by decide +kernel))
      | 2, _ => exact Or.inl (hs _ (by decide +kernel))
      | 3, _ => exact Or.inl (hs _ (by decide +kernel))
      | 4, _ => exact Or.inl (hs _ (by decide +kernel))
      | 5, _ => exact Or.inl (hs _ (by decide +kernel))
      | 6, _ => exact Or.inl (hs _ (by decide +kernel))
      | 7, _ => exact Or.inl (hs _ (by decide +kernel))
    | 1, _ =>
      match j, hj with
      | 0, _ => exact Or.inr (hs _ (by decide +kernel))
      | 1, _ => exact absurd rfl hij
      | 2, _ => exact Or.inl (hs _ (by decide +kernel))
      | 3, _ => exact Or.inl (hs _ (by decide +kernel))
      | 4, _ => exact Or.inl (hs _ (by decide +kernel))
      | 5, _ => exact Or.inl (hs _ (by decide +kernel))
      | 6, _ => exact Or.inl (hs _ (by decide +kernel))
      | 7, _ => exact Or.inl (hs _ (by decide +kernel))
    | 2, _ =>
      match j, hj with
      | 0, _ => exact Or.inr (hs _ (by decide +kernel))
      | 1, _ => exact Or.inr (hs _ (by decide +kernel))
      | 2, _ => exact absurd rfl hij
      | 3, _ => exact Or.inl (hs _ (by decide +kernel))
      | 4, _ => exact Or.inl (hs _ (by decide +kernel))
      | 5, _ => exact Or.inl (hs _ (by decide +kernel))
      | 6, _ => exact Or.inl (hs _ (by decide +kernel))
      | 7, _ => exact Or.inl (hs _ (by decide +kernel))
    | 3, _ =>
      match j, hj with
      | 0, _ => exact Or.inr (hs _ (by decide +kernel))
      | 1, _ => exact Or.inr (hs _ (by decide +kernel))
      | 2, _ => exact Or.inr (hs _ (by decide +kernel))
      | 3, _ => exact absurd rfl hij
      | 4, _ => exact Or.inl (hs _ (by decide +kernel))
      | 5, _ => exact Or.inl (hs _ (by decide +kernel))
      | 6, _ => exact Or.inl (hs _ (by decide +kernel))
      | 7, _ => exact Or.inl (hs _ (by decide +kernel))
    | 4, _ =>
      match j, hj with
      | 0, _ => exact Or.inr (hs _ (by decide +kernel))
      | 1, _ => exact Or.inr (hs _ (by decide +kernel))
      | 2, _ => exact Or.inr (hs _ (by decide +kernel))
      | 3, _ => exact Or.inr (hs _ (by decide +kernel))
      | 4, _ => exact absurd rfl hij
      | 5, _ => exact Or.inl (hs _ (by decide +kernel))
      | 6, _ => exact Or.inl (hs _ (by decide +kernel))
      | 7, _ => exact Or.inl (hs _ (by decide +kernel))
    | 5, _ =>
      match j, hj with
      | 0, _ => exact Or.inr (hs _ (by decide +kernel))
      | 1, _ => exact Or.inr (hs _ (by decide +kernel))
      | 2, _ => exact Or.inr (hs _ (by decide +kernel))
      | 3, _ => exact Or.inr (hs _ (by decide +kernel))
      | 4, _ => exact Or.inr (hs _ (by decide +kernel))
      | 5, _ => exact absurd rfl hij
      | 6, _ => exact Or.inl (hs _ (by decide +kernel))
      | 7, _ => exact Or.inl (hs _ (by decide +kernel))
    | 6, _ =>
      match j, hj with
      | 0, _ => exact Or.inr (hs _ (by decide +kernel))
      | 1, _ => exact Or.inr (hs _ (by decide +kernel))
      | 2, _ => exact Or.inr (hs _ (by decide +kernel))
      | 3, _ => exact Or.inr (hs _ (by decide +kernel))
      | 4, _ => exact Or.inr (hs _ (by decide +kernel))
      | 5, _ => exact Or.inr (hs _ (by decide +kernel))
      | 6, _ => exact absurd rfl hij
      | 7, _ => exact Or.inl (hs _ (by decide +kernel))
    | 7, _ =>
      match j, hj with
      | 0, _ => exact Or.inr (hs _ (by decide +kernel))
      | 1, _ => exact Or.inr (hs _ (by decide +kernel))
      | 2, _ => exact Or.inr (hs _ (by decide +kernel))
      | 3, _ => exact Or.inr (hs _ (by decide +kernel))
      | 4, _ => exact Or.inr (hs _ (by decide +kernel))
      | 5, _ => exact Or.inr (hs _ (by decide +kernel))
      | 6, _ => exact Or.inr (hs _ (by decide +kernel))
      | 7, _ => exact absurd rfl hij) (fun a ha h => by omega)
  have hR : ∀ k, k < 8 → vk_R RX5 (sIx k) (sTx k) (adK k) s := fun i hi => vk_R.of (A := #[Value.ref b]) (by
    match i, hi with
    | 0, _ => exact hts _ (List.mem_append_right _ (List.mem_of_getElem? (i := 660) (by decide +kernel)))
    | 1, _ => exact hts _ (List.mem_append_right _ (List.mem_of_getElem? (i := 661) (by decide +kernel)))
    | 2, _ => exact hts _ (List.mem_append_right _ (List.mem_of_getElem? (i := 662) (by decide +kernel)))
    | 3, _ => exact hts _ (List.mem_append_right _ (List.mem_of_getElem? (i := 663) (by decide +kernel)))
    | 4, _ => exact hts _ (List.mem_append_right _ (List.mem_of_getElem? (i := 664) (by decide +kernel)))
    | 5, _ => exact hts _ (List.mem_append_right _ (List.mem_of_getElem? (i := 665) (by decide +kernel)))
    | 6, _ => exact hts _ (List.mem_append_right _ (List.mem_of_getElem? (i := 666) (by decide +kernel)))
    | 7, _ => exact hts _ (List.mem_append_right _ (List.mem_of_getElem? (i := 667) (by decide +kernel)))) (hE i hi)
  have hZ1 : va_Z "java/lang/String" "COMPACT_STRINGS" "Z" (.int 1) (fun q => s.heap.size ≤ q) s s.heap := va_Zof (args := #[Value.ref b]) (hts _ (List.mem_append_right _ (List.mem_of_getElem? (i := 681) (by decide +kernel)))) (hjt _ kci_J0_length_8abf5) (va_eqt (hs (Cond.eq (.static "java/lang/String" "COMPACT_STRINGS" "Z") (.int 1)) (by decide +kernel))) (fun a ha h => by omega)
  have hZ2 : va_Zq "jdk/internal/util/Preconditions" "SIOOBE_FORMATTER" "Ljava/util/function/BiFunction;" (fun q => s.heap.size ≤ q) s s.heap := va_Zqof (args := #[Value.ref b]) (hts _ (List.mem_append_right _ (List.mem_of_getElem? (i := 697) (by decide +kernel)))) (hjt _ kci_J3_checkIndex_8e157) (hs _ (by decide +kernel)) (fun a ha h => by omega)
  obtain ⟨ct, h0, h1, h2, h3, hK1, hV1⟩ : ∃ ct : Nat → ClassId, ct 0 = aI0 ∧ ct 1 = aJ0 ∧ ct 2 = aC0 ∧ ct 3 = aM0 ∧ (∀ k, k < 8 → ct (100 + k) = adK k) ∧ (∀ k, k < 8 → ct (200 + k) = adV k) := by
    refine ⟨fun k => if k = 0 then aI0 else if k = 1 then aJ0 else if k = 2 then aC0 else if k = 3 then aM0 else if k < 200 then adK (k - 100) else adV (k - 200), rfl, rfl, rfl, rfl, fun k hk => ?_, fun k hk => ?_⟩
    · show (if 100 + k = 0 then _ else _) = _
      rw [if_neg (by omega), if_neg (by omega), if_neg (by omega), if_neg (by omega), if_pos (by omega), Nat.add_sub_cancel_left]
    · show (if 200 + k = 0 then _ else _) = _
      rw [if_neg (by omega), if_neg (by omega), if_neg (by omega), if_neg (by omega), if_neg (by omega), Nat.add_sub_cancel_left]
  have hVc : vk_S 8 sLn sBy (fun k => ct (100 + k)) (fun k => ct (200 + k)) (fun q => s.heap.size ≤ q) s s.heap := ⟨fun i hi => by
    have := hV.1 i hi
    rw [← hK1 i hi, ← hV1 i hi] at this
    exact this, fun i j hi hj h => hV.2 i j hi hj (by rw [← hK1 i hi, ← hK1 j hj]; exact h)⟩
  have hK : va_K (dC, dI) vwCl (jty ct) s := by
    refine ⟨hKc, fun k q h => ?_⟩
    match k, h with
    | 0, h => cases h; rw [h0]; exact ⟨fun n z => ⟨(fun k h => by cases h), kI, fI2, pI0, fI3⟩, fI1⟩
    | 1, h => cases h; rw [h1]; exact ⟨fun n z => ⟨(fun k h => by cases h), kJ, fJ2, pJ0, fJ3⟩, fJ1⟩
    | 2, h => cases h; rw [h2]; exact ⟨fun n z => ⟨(fun k h => by cases h), kC, fC2, pC0, fC3⟩, fC1⟩
    | 3, h => cases h; rw [h3]; exact ⟨fun n z => ⟨(fun k h => by cases h), kM, fM3, pM0, fM4⟩, fM5⟩
    | k + 4, h => simp [jty] at h
  obtain ⟨r, hlaw⟩ := law_pure xs L hL s.heap.size ct (fun i j hi hj h => hV.2 i j hi hj (by rw [← hK1 i hi, ← hK1 j hj]; exact h))
  have hl := lv_entry ([.ref b]) (n := 4) (Nat.le_of_ble_eq_true rfl)
  rw [lg_entry_eq]
  refine okL_law (l, (dC, dI), ct, s.heap) b L xs meth.name (x00 s.heap.size ct) r hlaw p e s m #[Value.ref b] below meth c ⟨hx, hb, hml, hr, hown, hjt, hlocks, hK, ⟨?_, hAO, fun k hk => ?_, hVc, hZ1, hZ2⟩, Nat.le_refl _, rfl, rfl, hX, hbl, rfl⟩ s.heap [] _ ⟨rfl, Nat.le_refl _, rfl, fun a => Or.inl rfl, fun q _ => rfl⟩ va_S.rf hl
  · intro q hq
    have hm : Cond.methodLinkNest q.1 q.2.1 q.2.2.1 q.2.2.2 ∈ lw_tbl := by
      revert q
      decide +kernel
    exact va_Nw.of rfl (hts _ hm)
  · show vk_R RX5 (sIx k) (sTx k) (ct (100 + k)) s
    rw [hK1 k hk]
    exact hR k hk
set_option maxHeartbeats 4000000 in
theorem lw_walk (l : Launch) (hflags : l.flags = flags0) (b : Addr) (xs : List Int32) : MetFree l x (headSpec (Jvm.Cond.code x code maxLocals ret :: tables_1) room_1) (lw_P b xs) (fun _ _ _ _ _ => True) lw_Q := by
  refine MetFree.of_bodyS (code := code) (maxLocals := maxLocals) (ret := ret) (by decide) ?_ ?_
  · intro args s m h hn
    obtain ⟨meth, c, h1, h2, h3, h4, h5, h6, -, -⟩ := Cond.code_spec hn (atoms_spec (ws := Jvm.Cond.code x code maxLocals ret :: tables_1) h _ List.mem_cons_self)
    exact ⟨meth, c, h1, h2, h3, h4, h5, h6⟩
  · intro p e s m args below meth c s₁ B hml0 hP _
    obtain ⟨rfl, hx, hbd, hgv⟩ := hP
    obtain ⟨scr, harrAt, hlist, hof, hsmall⟩ := hx
    obtain ⟨hcb, hkn, -, -⟩ := State.arrayAt?_spec harrAt
    have hown : s.vm.findClass R_law = some m.cls := findClass_of_methodNamed B.named
    have hts0 : ∀ c ∈ (Jvm.Cond.code x code maxLocals ret :: tables_1), c.before #[Value.ref b] s = true := atoms_spec (ws := Jvm.Cond.code x code maxLocals ret :: tables_1) B.pre
    have hts : ∀ w ∈ lw_tbl, w.before #[Value.ref b] s = true := k2_hts_sels lw_privs (fun w hw => hts0 w (List.mem_cons_of_mem _ hw)) lw_privs_ok
    have hml : c.maxLocals = 4 := B.maxLocals_eq (hts0 _ List.mem_cons_self)
    have X₀ : Stand p l e room_1 s m #[Value.ref b] below meth c s₁ [] 0 0 := Stand.of_body B
    have hh0 : s₁.heap = s.heap := by rw [B.state]; rfl
    have hsz : scr.slots.size = xs.length := by rw [← Array.length_toList, hlist, List.length_map]
    have hval : ∀ j : Nat, j < xs.length → scr.slots[j]? = some (.int (xs.getD j 0)) := fun j hj => by
      rw [← Array.getElem?_toList, hlist]
      simp [hj]
    have hbl : b < s.heap.size := (Array.getElem?_eq_some_iff.mp hcb).1
    have hX : va_X b xs.length (fun j => xs.getD j 0) s s.heap := ⟨scr, hcb, hof, hkn, hsz, hval⟩
    have K : W p l e room_1 s m #[Value.ref b] below meth c s₁.heap [] 0 0 (lw_Z below #[Value.ref b] s) (entryFrame m ([Value.ref b] : List Value).toArray 4) := by
      rw [hh0]
      exact whole_start l hflags hbd ⟨B.exec, B.bytes, B.returns, hml, hown, hts, hX, hbl, B.notSynchronized, hgv⟩
    obtain ⟨t, a1, o, b1, b2, b3⟩ := K s₁ rfl X₀
    exact ⟨t, o, a1, b1, b2, b3⟩
theorem lw_pre_spec {args : Array Value} {s : State} (h : (Jvm.Cond.and given_1 narrow_1).before args s = true) (hr : rest_1_c.before args s = true) : ∃ (b : Addr) (xs : List Int32), lw_P b xs args s := by
  have hs := flat_of_before _ h
  have hq := flat_of_before _ hr
  have hc : (Cond.count 1).before args s = true := hs _ (by decide +kernel)
  have harr : (Cond.arrayOf (.arg 0) .int).before args s = true := hs _ (by decide +kernel)
  have hle : (Cond.le (.length (.arg 0)) (.int 3584)).before args s = true := hs _ (by decide +kernel)
  have hlen : (Cond.isInt (.length (.arg 0))).before args s = true := hq _ (by decide +kernel)
  have hall : (Cond.all (.arg 0) (.isInt (.elem (.arg 0) (.index 0)))).before args s = true := hq _ (by decide +kernel)
  obtain ⟨b, xs, hb, hx⟩ := State.ints_of_pre rfl harr hlen hall
  have hsm : xs.length < 2 ^ 31 := hx.choose_spec.2.2.2
  have hev : (Term.length (.arg 0)).eval args s none [] s = some (.int xs.length.toInt32) := hx.length_eval hb
  have hv := Cond.le_ints hev (show (Term.int 3584).eval args s none [] s = some (.int 3584) from rfl)
  have hd : xs.length.toInt32 ≤ 3584 := by
    simpa [Cond.before, Cond.holds, hv] using hle
  have hN : xs.length ≤ 3584 := (Int32.ofNat_le_ofNat hsm (by decide)).mp (show Int32.ofNat xs.length ≤ Int32.ofNat 3584 from hd)
  exact ⟨b, xs, Cond.one_arg hc (show args[0]? = some (.ref b) from hb), hx, hN, h⟩
theorem lw_comes (l : Launch) (hflags : l.flags = flags0) : Comes l x (Jvm.Cond.code x code maxLocals ret :: tables_1) room_1 (fun tb e args s => Calls_1 tb e args s ∧ rest_1 tb e args s ∧ Pre_1 tb e args s)
    (fun _ _ args s o t => lw_Q args s o t) := by
  intro p e ha hc hk s m args below hf hfit hheap happ hpre
  obtain ⟨b, xs, hP⟩ := lw_pre_spec hpre.2.2 hpre.2.1
  obtain ⟨k, o, h1, h2, h3, hQ⟩ := lw_walk l hflags b xs p e ha hc hk s m args below hf ((Spec.applies_iff_loose hf).mp happ).1 hP trivial
  exact ⟨k, o, h1, h2, h3, hQ⟩
theorem lw_frame {s t : State} {o : Outcome} {args : Array Value} (h : Framed s o t [] 600000 7302250) :
    Framed s o t (fieldLocs frame_1_writes args s ++ arrayLocs frame_1_arrays args s ++ staticLocs frame_1_statics s) 600000 7302250 := h
theorem lw_limb (L : Cond) (hL : ∀ (args : Array Value) (s t : State), L.after args s (.returned (some (.int 1))) t = true) :
    ArmFor flags0 classFile x code maxLocals ret World_1 tables_1 room_1 Calls_1 rest_1 Pre_1
      (fun tb e a s o t => postC L tb e a s o t ∧ Framed s o t (fieldLocs frame_1_writes a s ++ arrayLocs frame_1_arrays a s ++ staticLocs frame_1_statics s) 600000 7302250) := by
  intro l hflags _ _ p e ha hc hk s m args below hf hfit hheap happ hpre
  obtain ⟨k, o, h1, h2, h3, rfl, hF⟩ := lw_comes l hflags p e ha hc hk s m args below hf hfit hheap happ hpre
  exact ⟨k, _, h1, h2, h3, hL args s _, lw_frame hF⟩
theorem i_vc : Claimed_1_1 ∧ Claimed_1_2 := ⟨lw_limb limb_1_1 (fun args s t => by simp [limb_1_1, Cond.after, Cond.holds, Cond.value]), lw_limb limb_1_2 (fun args s t => Cond.after_iff.mpr (by
  first | (rw [show limb_1_2 = Cond.eq .result (.int 1) from rfl, Cond.eq_ints (x := 1) (y := 1) rfl rfl]; simp; done) | (simp [limb_1_2, Cond.value, Term.eval]; done)))⟩

