/-! Calls: pulse, pulseOf, hush, image, back, count. -/
section PUB5
variable {S : SS} {A : AB} {s : ST}
theorem rowN_self {f : Nat → Int32} {B : Nat → Nat} {c : Nat} (h : ∀ q, q < c → f q = nI (B q)) : rowN f B c = f := funext fun q => by
  unfold rowN
  by_cases hq : q < c
  · rw [if_pos hq, h q hq]
  · rw [if_neg hq]
theorem rowI_self {f : Nat → Int32} {B : Nat → Int} {c : Nat} (h : ∀ q, q < c → f q = iI (B q)) : rowI f B c = f := funext fun q => by
  unfold rowI
  by_cases hq : q < c
  · rw [if_pos hq, h q hq]
  · rw [if_neg hq]
def selfP (A : AB) : P3 := (qP A, qK A 3, qK A 4, qS A 2)
theorem pRows_self {F : Nat → Nat → Int32} {k : Nat} (h : ∀ r, r < qP A → F k r = nI (qK A 3 r) ∧ F (k + 1) r = nI (qK A 4 r) ∧ F (k + 2) r = iI (qS A 2 r)) : pRows F k (selfP A) = F := by
  unfold pRows selfP
  simp only
  rw [rowN_self (fun q hq => (h q hq).1), rowN_self (fun q hq => (h q hq).2.1), rowI_self (fun q hq => (h q hq).2.2), va_up_id, va_up_id, va_up_id]
theorem up2_self {α : Type} {F : Nat → Nat → α} {k j : Nat} {v : α} (h : F k j = v) : up2 F k j v = F := funext fun x => funext fun y => by
  unfold up2
  by_cases e : x = k ∧ y = j
  · rw [if_pos e, e.1, e.2, h]
  · rw [if_neg e]
theorem pSet_self {p : Nat} (hN : S.1 p 3 = nI (qP A)) (hC : PC S (p + 1) A) : pSet S p (selfP A) = S := by
  unfold pSet
  rw [pRows_self hC, show (selfP A).1 = qP A from rfl, up2_self hN]
/-- one pulse more -/
def addP (A : AB) (c d : Nat) (h : Int) : P3 := (qP A + 1, va_up (qK A 3) (qP A) c, va_up (qK A 4) (qP A) d, va_up (qS A 2) (qP A) h)
theorem ok_addP {M : Int} {c d : Nat} {h : Int} (hA : okA M A) (hp : qP A < 12) (hc : c < qN A) (hd : 1 ≤ d ∧ d ≤ 20) (hh : -99 ≤ h ∧ h ≤ 99) : okA M (setP A (addP A c d h)) := by
  obtain ⟨h1, h2, h3, h4, h5, h6, h7, h8, h9, h10, h11, h12, h13⟩ := hA
  refine ⟨h1, (by show qP A + 1 ≤ 12; omega), h3, h4, h5, h6, h7, h8, h9, h10, h11, h12, fun q hq => ?_⟩
  have hq' : q < qP A + 1 := hq
  show va_up (qK A 3) (qP A) c q < qN A ∧ 1 ≤ va_up (qK A 4) (qP A) d q ∧ va_up (qK A 4) (qP A) d q ≤ 20 ∧ -99 ≤ va_up (qS A 2) (qP A) h q ∧ va_up (qS A 2) (qP A) h q ≤ 99
  simp only [va_up_at]
  by_cases e : q = qP A
  · simp only [if_pos e]
    omega
  · simp only [if_neg e]
    exact h13 q (by omega)
theorem x_pJ0 {a b c : Int32} : TX6_pulse_J37 a b c 0 S = some (-2, S) := if_pos rfl
theorem x_pJ1 {a b c : Int32} : TX6_pulse_J37 a b c 1 S = (TX2_append 11 a b c S).bind fun q => some (q.1, q.2) := if_neg (by decide)
theorem a_pulse (hs : okS s) (a1 a2 a3 : Int32) : ∃ v s', okS s' ∧ OX (TX6_pulse a1 a2 a3) s v s' ∧ OM (TX7_pulse a1 a2 a3) s v s' := by
  obtain ⟨z1, h1, rfl⟩ := i_cases a1
  obtain ⟨z2, h2, rfl⟩ := i_cases a2
  obtain ⟨z3, h3, rfl⟩ := i_cases a3
  have h8 := ok_n hs.1
  have h12 := ok_p hs.1
  have hA := okS_8 hs
  have xb2 := x_rngN (z := z2) (a' := 1) (b' := 20) (by decide : (1 : Int32) = iI 1) (by decide : (20 : Int32) = iI 20) (by omega) (by omega) h2
  have xb3 := x_rngN (z := z3) (a' := -99) (b' := 99) (by decide : (-99 : Int32) = iI (-99)) (by decide : (99 : Int32) = iI 99) (by omega) (by omega) h3
  rcases emn (0 ≤ z1 ∧ z1 < qN (tA s)) with c1 | c1
  · refine ⟨-2, s, hs, OX_no fun S c => ?_, OM_no fun S c => ?_⟩
    · unfold TX6_pulse
      rw [x_has c.1 h8 h1, Option.bind_some, ite_b, if_neg c1, x_pJ0]
    · unfold TX7_pulse
      rw [m_isCell c.1.1 h8 h1, Option.bind_some, ite_b, if_neg c1]
  rcases emn (1 ≤ z2 ∧ z2 ≤ 20) with c2 | c2
  · refine ⟨-2, s, hs, OX_no fun S c => ?_, OM_no fun S c => ?_⟩
    · unfold TX6_pulse
      rw [x_has c.1 h8 h1, Option.bind_some, ite_b, if_pos c1, xb2, Option.bind_some, ite_b, if_neg c2, x_pJ0]
    · unfold TX7_pulse
      rw [m_isCell c.1.1 h8 h1, Option.bind_some, ite_b, if_pos c1, m_in120 h2, Option.bind_some, ite_b, if_neg c2]
  rcases emn (-99 ≤ z3 ∧ z3 ≤ 99) with c3 | c3
  · refine ⟨-2, s, hs, OX_no fun S c => ?_, OM_no fun S c => ?_⟩
    · unfold TX6_pulse
      rw [x_has c.1 h8 h1, Option.bind_some, ite_b, if_pos c1, xb2, Option.bind_some, ite_b, if_pos c2, xb3, Option.bind_some, ite_b, if_neg c3, x_pJ0]
    · unfold TX7_pulse
      rw [m_isCell c.1.1 h8 h1, Option.bind_some, ite_b, if_pos c1, m_in120 h2, Option.bind_some, ite_b, if_pos c2, m_in9999 h3, Option.bind_some, ite_b, if_neg c3]
  obtain ⟨i, rfl⟩ := i_nat c1.1
  obtain ⟨d, rfl⟩ := i_nat (z := z2) (by omega)
  by_cases e : qP (tA s) = 12
  · refine ⟨-4, s, hs, OX_no fun S c => ?_, OM_no fun S c => ?_⟩
    · unfold TX6_pulse
      rw [x_has c.1 h8 h1, Option.bind_some, ite_b, if_pos c1, xb2, Option.bind_some, ite_b, if_pos c2, xb3, Option.bind_some, ite_b, if_pos c3, x_pJ1]
      unfold TX2_append
      rw [(CB1 c.1).2.1, e, if_neg (by decide)]
      rfl
    · unfold TX7_pulse
      rw [m_isCell c.1.1 h8 h1, Option.bind_some, ite_b, if_pos c1, m_in120 h2, Option.bind_some, ite_b, if_pos c2, m_in9999 h3, Option.bind_some, ite_b, if_pos c3, c.1.2.2.1, e, if_pos (by decide)]
  refine ⟨nI (qP (tA s) + 1), (setP (tA s) (addP (tA s) i d z3), s.2), okS_bar hs (ok_addP hs.1 (by omega) (by omega) (by omega) c3), fun S cx => ?_, fun S cm => ?_⟩
  · unfold TX6_pulse
    rw [x_has cx.1 h8 h1, Option.bind_some, ite_b, if_pos c1, xb2, Option.bind_some, ite_b, if_pos c2, xb3, Option.bind_some, ite_b, if_pos c3, x_pJ1]
    have hx := x_append (S := S) (p := 1 + 10) (q := selfP (tA s)) (by show qP (tA s) < 12; omega) i d z3
    rw [pSet_self cx.1.2.1 (CB_PC cx.1)] at hx
    rw [nI_z, nI_z] at hx
    have hx' : TX2_append 11 (iI i) (iI d) (iI z3) S = some (nI (qP (tA s) + 1), pSet S (1 + 10) (addP (tA s) i d z3)) := hx
    rw [hx', Option.bind_some]
    exact wp_some ⟨rfl, FR_pset FR_refl (by unfold pX; omega) (by unfold pX; omega) (by unfold pX; omega) (by unfold pX; omega), CX_bar (P := pB 1) (FR_pset FR_refl (by unfold pB; omega) (by unfold pB; omega) (by unfold pB; omega) (by unfold pB; omega)) pB1' cx (CB_pset _ cx.1)⟩
  · unfold TX7_pulse
    rw [m_isCell cm.1.1 h8 h1, Option.bind_some, ite_b, if_pos c1, m_in120 h2, Option.bind_some, ite_b, if_pos c2, m_in9999 h3, Option.bind_some, ite_b, if_pos c3, cm.1.2.2.1, show (12 : Int32) = nI 12 from rfl, if_neg (by rw [nI_eq (by omega) (by omega)]; exact e)]
    simp (disch := omega) only [letS, Option.bind_some, aget_n, ite_jin, iI_nat, nI_1, nI_leI', nI_ltI', nI_eqI', up2_s, up2_n, va_up_s, va_up_n, cm.1.2.2.1]
    simp only [← nI_z]
    have ep := pRows_s S.2.2.1 72 (selfP (tA s)) i d z3
    rw [pRows_self cm.1.2.2.2.2] at ep
    have ep' : up2 (up2 (up2 S.2.2.1 72 (qP (tA s)) (nI i)) 73 (qP (tA s)) (nI d)) 74 (qP (tA s)) (iI z3) = pRows S.2.2.1 72 (addP (tA s) i d z3) := ep
    refine wp_some ⟨rfl, ?_, ?_⟩
    · exact FR_FI (FR_AI (FR_AI (FR_AI FR_refl (pM_of (by omega))) (pM_of (by omega))) (pM_of (by omega))) (pM_of (by omega))
    · refine CM_bar (P := pMb) (FR_FI (FR_AI (FR_AI (FR_AI FR_refl (by unfold pMb; omega)) (by unfold pMb; omega)) (by unfold pMb; omega)) (by unfold pMb; omega)) pMb' cm ?_
      show MB (up2 S.1 64 9 (nI (qP (tA s) + 1)), S.2.1, up2 (up2 (up2 S.2.2.1 72 (qP (tA s)) (nI i)) 73 (qP (tA s)) (nI d)) 74 (qP (tA s)) (iI z3), S.2.2.2) _
      rw [ep']
      exact ⟨MC_pset (addP (tA s) i d z3) (by omega) (by omega) cm.1.1, MH_pset (addP (tA s) i d z3) (by omega) cm.1.2⟩
theorem a_pulseOf (hs : okS s) (a1 a2 : Int32) : ∃ v, PXo (TX6_pulseOf a1 a2) s v ∧ PMo (TX7_pulseOf a1 a2) s v := by
  obtain ⟨z1, h1, rfl⟩ := i_cases a1
  obtain ⟨z2, h2, rfl⟩ := i_cases a2
  have h12 := ok_p hs.1
  have mi : ∀ S, CM S s → TX7_isIn (Int32.toInt64 (iI z1)) 0 (Int32.toInt64 (S.1 64 9 - 1)) = some (b2i (0 ≤ z1 ∧ z1 ≤ (qP (tA s) : Int) - 1)) := fun S c => by
    rw [c.1.2.2.1, nI_z, k1, iI_sub, iI_wide (by omega : i31 ((qP (tA s) : Int) - 1))]
    exact m_inN (by decide) rfl (by omega) (by omega) h1
  have x0 : iI z1 < 0 ↔ z1 < 0 := by rw [k0, iI_lt h1 (by omega)]
  have x1 : iI z1 < nI (qP (tA s)) ↔ z1 < qP (tA s) := by rw [nI_z, iI_lt h1 (by omega)]
  rcases emn (0 ≤ z1 ∧ z1 ≤ (qP (tA s) : Int) - 1) with c1 | c1
  · refine ⟨-1000, fun S c => ?_, fun S c => ?_⟩
    · unfold TX6_pulseOf
      rw [(CB1 c.1).2.1]
      by_cases e : z1 < 0
      · rw [if_pos (x0.mpr e)]
      · rw [if_neg (fun z => e (x0.mp z)), if_neg (fun z => by have := x1.mp z; omega)]
    · unfold TX7_pulseOf
      rw [mi S c, Option.bind_some, ite_b, if_neg c1]
  obtain ⟨i, rfl⟩ := i_nat c1.1
  have hi : i < qP (tA s) := by omega
  refine ⟨if z2 = 0 then nI (qK (tA s) 3 i) else if z2 = 1 then nI (qK (tA s) 4 i) else if z2 = 2 then iI (qS (tA s) 2 i) else -1000, fun S c => ?_, fun S c => ?_⟩
  · obtain ⟨g1, g2, g3⟩ := (CB1 c.1).2.2.2.2.2.2.2.2 i hi
    unfold TX6_pulseOf
    rw [(CB1 c.1).2.1, if_neg (fun z => by have := x0.mp z; omega), if_pos (x1.mpr (by omega))]
    simp only [← nI_z]
    simp (disch := omega) only [iI0 h2, iI1 h2, iI2 h2, aget_n, Option.bind_some, g1, g2, g3]
    repeat' split
    all_goals rfl
  · obtain ⟨g1, g2, g3⟩ := c.1.2.2.2.2 i hi
    have g2' : S.2.2.1 73 i = nI (qK (tA s) 4 i) := g2
    have g3' : S.2.2.1 74 i = iI (qS (tA s) 2 i) := g3
    unfold TX7_pulseOf
    rw [mi S c, Option.bind_some, ite_b, if_pos c1, m_in02 h2, Option.bind_some, ite_b]
    simp only [← nI_z]
    simp (disch := omega) only [iI0 h2, iI1 h2, aget_n, Option.bind_some, g1, g2', g3']
    by_cases e0 : z2 = 0
    · rw [if_pos (by omega), if_pos e0, if_pos e0]
    · by_cases e1 : z2 = 1
      · rw [if_pos (by omega), if_neg e0, if_pos e1, if_neg e0, if_pos e1]
      · by_cases e2 : z2 = 2
        · rw [if_pos (by omega), if_neg e0, if_neg e1, if_neg e0, if_neg e1, if_pos e2]
        · rw [if_neg (by omega), if_neg e0, if_neg e1, if_neg e2]
theorem a_hush (hs : okS s) (a1 : Int32) : ∃ v s', okS s' ∧ OX (TX6_hush a1) s v s' ∧ OM (TX7_hush a1) s v s' := by
  obtain ⟨z1, h1, rfl⟩ := i_cases a1
  have h8 := ok_n hs.1
  have hA := okS_8 hs
  rcases emn (0 ≤ z1 ∧ z1 < qN (tA s)) with c1 | c1
  · refine ⟨-2, s, hs, OX_no fun S c => ?_, OM_no fun S c => ?_⟩
    · unfold TX6_hush
      rw [x_has c.1 h8 h1, Option.bind_some, ite_b, if_neg c1]
    · unfold TX7_hush
      rw [m_isCell c.1.1 h8 h1, Option.bind_some, ite_b, if_neg c1]
  obtain ⟨i, rfl⟩ := i_nat c1.1
  refine ⟨nI (qP (tA s) - (hushP (tA s) i).1), (setP (tA s) (hushP (tA s) i), s.2), okS_bar hs (ok_hush hs.1 i), fun S cx => ?_, fun S cm => ?_⟩
  · unfold TX6_hush
    rw [x_has cx.1 h8 h1, Option.bind_some, ite_b, if_pos c1, ← nI_z]
    have hr := x_removeOf (p := 1 + 10) (A := tA s) (x := i) cx.1.2.1 (CB_PC cx.1) (ok_p hA) (fun r hr => by have := (ok_q hA hr).1; omega) (by omega)
    have hr' : TX2_removeOf 11 (nI i) S = some (nI (qP (tA s) - (hushP (tA s) i).1), pSet S (1 + 10) (hushP (tA s) i)) := hr
    rw [hr', Option.bind_some]
    exact wp_some ⟨rfl, FR_pset FR_refl (by unfold pX; omega) (by unfold pX; omega) (by unfold pX; omega) (by unfold pX; omega), CX_bar (P := pB 1) (FR_pset FR_refl (by unfold pB; omega) (by unfold pB; omega) (by unfold pB; omega) (by unfold pB; omega)) pB1' cx (CB_pset _ cx.1)⟩
  · unfold TX7_hush
    rw [m_isCell cm.1.1 h8 h1, Option.bind_some, ite_b, if_pos c1, ← nI_z]
    refine wp_bind (m_hushed cm.1 hA (by omega)) fun r hr => ?_
    obtain ⟨r1, r2⟩ := hr
    have hM : MB r.2 (setP (tA s) (hushP (tA s) i)) := by
      rw [r2]
      exact ⟨MC_pset _ (by omega) (by omega) cm.1.1, MH_pset _ (by omega) cm.1.2⟩
    have hF : FR pMb S r.2 := by
      rw [r2]
      refine ⟨fun k j hk => ?_, fun _ _ _ => rfl, fun k hk => ?_, fun _ _ => rfl⟩
      · exact if_neg (fun z => hk (by rw [z.1, z.2]; unfold pMb; omega))
      · exact pRows_ne _ _ _ (by unfold pMb at hk; omega)
    exact wp_some ⟨r1, FR_mono hF pMb_M, CM_bar hF pMb' cm hM⟩
/-- sums -/
def totI (f : Nat → Int) : Nat → Int
  | 0 => 0
  | k + 1 => totI f k + f k
theorem x_total {f : Nat → Int} {a n0 N : Nat} (hN : N ≤ n0) (hn0 : n0 < 1000) (hf : ∀ i, i < N → S.2.2.1 a i = iI (f i)) : TX6_total a n0 (nI N) S = some (iI (totI f N)) := by
  have L : ∀ (m i n : Nat), i + m = N → m + 1 ≤ n → TX6_total_L4 S a n0 n (nI N) (iI (totI f i)) (nI i) = some (iI (totI f N)) := by
    intro m
    induction m with
    | zero =>
      intro i n hi hn
      obtain ⟨n, rfl⟩ : ∃ q, n = q + 1 := ⟨n - 1, by omega⟩
      rw [TX6_total_L4, if_pos (by rw [nI_cmp (by omega) (by omega)]; omega), show i = N by omega]
    | succ m ih =>
      intro i n hi hn
      obtain ⟨n, rfl⟩ : ∃ q, n = q + 1 := ⟨n - 1, by omega⟩
      have ih' := ih (i + 1) n (by omega) (by omega)
      rw [TX6_total_L4, if_neg (by rw [nI_cmp (by omega) (by omega)]; omega), aget_n (by omega) (by omega), Option.bind_some, hf i (by omega), iI_add, nI_1]
      exact ih'
  exact L N 0 fu (by omega) (by rw [fu_eq]; omega)
theorem totI_0 {f : Nat → Int} : ∀ k, (∀ i, i < k → f i = 0) → totI f k = 0
  | 0, _ => rfl
  | k + 1, h => by rw [totI, totI_0 k (fun i hi => h i (by omega)), h k (by omega)]; rfl
theorem m_cntL (c : CM S s) (hs : okS s) {z : Int} (hz : i31 z) {x : Int} : ∀ (m i n : Nat), i + m = qN (tA s) → m + 1 ≤ n →
    TX7_count_L54 S n (iI z) (iI (x + totI (fun q => if z = 4 then (finA (tA s) q : Int) else if z = 5 then qS (tA s) 0 q else 0) i)) (nI i) = some (if z = 0 then nI (qN (tA s)) else if z = 1 then nI (qP (tA s)) else if z = 2 then nI (tTs s) else iI (x + totI (fun q => if z = 4 then (finA (tA s) q : Int) else if z = 5 then qS (tA s) 0 q else 0) (qN (tA s)))) := by
  have h8 := ok_n hs.1
  have hA := okS_8 hs
  intro m
  induction m with
  | zero =>
    intro i n hi hn
    obtain ⟨n, rfl⟩ : ∃ q, n = q + 1 := ⟨n - 1, by omega⟩
    rw [TX7_count_L54, c.1.1.1, if_pos (by rw [nI_cmp (by omega) (by omega)]; omega), show i = qN (tA s) by omega, c.1.2.2.1, c.2.2.2.2.1.1]
    simp only [iI0 hz, iI1 hz, iI2 hz]
    repeat' split
    all_goals rfl
  | succ m ih =>
    intro i n hi hn
    obtain ⟨n, rfl⟩ : ∃ q, n = q + 1 := ⟨n - 1, by omega⟩
    have ih' := ih (i + 1) n (by omega) (by omega)
    rw [TX7_count_L54, c.1.1.1, if_neg (by rw [nI_cmp (by omega) (by omega)]; omega), m_fin c.1.1 hA (by omega), Option.bind_some, aget_n (by omega) (by omega), Option.bind_some, (c.1.1.2.2.2.2.2 i (by omega)).2.2.2]
    unfold TX7_count_J91
    rw [totI] at ih'
    simp only [iI4 hz, iI5 hz, nI_1]
    by_cases e4 : z = 4
    · simp only [if_pos e4] at ih' ⊢
      rw [nI_z (finA (tA s) i), iI_add, Int.add_assoc]
      exact ih'
    · simp only [if_neg e4] at ih' ⊢
      by_cases e5 : z = 5
      · simp only [if_pos e5] at ih' ⊢
        rw [iI_add, Int.add_assoc]
        exact ih'
      · simp only [if_neg e5] at ih' ⊢
        rw [k0, iI_add, Int.add_assoc]
        exact ih'
theorem a_count (hs : okS s) (a1 : Int32) : ∃ v, PXo (TX6_count a1) s v ∧ PMo (TX7_count a1) s v := by
  obtain ⟨z, hz, rfl⟩ := i_cases a1
  have h8 := ok_n hs.1
  have h12 := ok_p hs.1
  have hA := okS_8 hs
  refine ⟨if z = 0 then nI (qN (tA s)) else if z = 1 then nI (qP (tA s)) else if z = 2 then nI (tTs s) else if z = 3 then iI (totI (qS (tA s) 2) (qP (tA s))) else if z = 4 then iI (totI (fun i => (finA (tA s) i : Int)) (qN (tA s))) else if z = 5 then iI (totI (qS (tA s) 0) (qN (tA s))) else -1000, fun S c => ?_, fun S c => ?_⟩
  · unfold TX6_count
    have hb := CB1 c.1
    rw [hb.1, hb.2.1, c.2.2.2.2.1, x_total (f := qS (tA s) 2) h12 (by omega) (fun i hi => (hb.2.2.2.2.2.2.2.2 i hi).2.2), x_total (f := fun i => (finA (tA s) i : Int)) h8 (by omega) (fun i hi => by rw [← nI_z]; exact (hb.2.2.2.2.2.2.2.1 i hi).2.2.2.2.2.2.1), x_total (f := qS (tA s) 0) h8 (by omega) (fun i hi => (hb.2.2.2.2.2.2.2.1 i hi).2.2.2.1)]
    simp only [Option.bind_some, iI0 hz, iI1 hz, iI2 hz, iI3 hz, iI4 hz, iI5 hz]
    repeat' split
    all_goals rfl
  · unfold TX7_count
    rw [m_in05 hz, Option.bind_some, ite_b]
    by_cases e : 0 ≤ z ∧ z ≤ 5
    · rw [if_pos e]
      have L : ∀ (m i n : Nat), i + m = qP (tA s) → m + 1 ≤ n → TX7_count_L20 S n (iI z) (iI (totI (fun q => if z = 3 then qS (tA s) 2 q else 0) i)) (nI i) = TX7_count_L54 S fu (iI z) (iI (totI (fun q => if z = 3 then qS (tA s) 2 q else 0) (qP (tA s)))) 0 := by
        intro m
        induction m with
        | zero =>
          intro i n hi hn
          obtain ⟨n, rfl⟩ : ∃ q, n = q + 1 := ⟨n - 1, by omega⟩
          rw [TX7_count_L20, c.1.2.2.1, if_pos (by rw [nI_cmp (by omega) (by omega)]; omega), show i = qP (tA s) by omega]
        | succ m ih =>
          intro i n hi hn
          obtain ⟨n, rfl⟩ : ∃ q, n = q + 1 := ⟨n - 1, by omega⟩
          have ih' := ih (i + 1) n (by omega) (by omega)
          have g3 : S.2.2.1 74 i = iI (qS (tA s) 2 i) := (c.1.2.2.2.2 i (by omega)).2.2
          rw [TX7_count_L20, c.1.2.2.1, if_neg (by rw [nI_cmp (by omega) (by omega)]; omega), aget_n (by omega) (by omega), Option.bind_some, g3]
          unfold TX7_count_J44
          rw [totI] at ih'
          simp only [iI3 hz, nI_1]
          by_cases e3 : z = 3
          · simp only [if_pos e3] at ih' ⊢
            rw [iI_add]
            exact ih'
          · simp only [if_neg e3] at ih' ⊢
            rw [k0, iI_add]
            exact ih'
      refine (L (qP (tA s)) 0 fu (by omega) (by rw [fu_eq]; omega)).trans ?_
      have M := m_cntL (x := totI (fun q => if z = 3 then qS (tA s) 2 q else 0) (qP (tA s))) c hs hz (qN (tA s)) 0 fu (by omega) (by rw [fu_eq]; omega)
      rw [totI, Int.add_zero] at M
      refine M.trans (congrArg some ?_)
      by_cases e0 : z = 0
      · rw [if_pos e0, if_pos e0]
      by_cases e1 : z = 1
      · rw [if_neg e0, if_pos e1, if_neg e0, if_pos e1]
      by_cases e2 : z = 2
      · rw [if_neg e0, if_neg e1, if_pos e2, if_neg e0, if_neg e1, if_pos e2]
      rw [if_neg e0, if_neg e1, if_neg e2, if_neg e0, if_neg e1, if_neg e2]
      by_cases e3 : z = 3
      · have e4 : ¬ z = 4 := by omega
        have e5 : ¬ z = 5 := by omega
        simp only [if_pos e3, if_neg e4, if_neg e5]
        rw [totI_0 _ (fun _ _ => rfl), Int.add_zero]
      · simp only [if_neg e3]
        rw [totI_0 _ (fun _ _ => rfl), Int.zero_add]
        by_cases e4 : z = 4
        · simp only [if_pos e4]
        · have e5 : z = 5 := by omega
          simp only [if_neg e4, if_pos e5]
    · rw [if_neg e, if_neg (by omega), if_neg (by omega), if_neg (by omega), if_neg (by omega), if_neg (by omega), if_neg (by omega)]
end PUB5
