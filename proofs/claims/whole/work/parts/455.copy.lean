/-! Calls: copy, load. -/
section CPY
variable {S S' : SS} {s : ST}
/-- a row with n places from y on taken from another's from x on -/
def cpR (f g : Nat → Int32) (x y n : Nat) : Nat → Int32 := fun k => if y ≤ k ∧ k < y + n then f (x + (k - y)) else g k
theorem m_cp154 {i o x y n : Nat} (hs : okS s) (cm : CM S s) (hi : i < 4) (ho : o < 4) (hx : x + n ≤ tSz s i) (hy : y + n ≤ tSz s o) {r0 : SS} (hF : FR pMh S r0) (h98 : r0.2.2.1 98 = S.2.2.1 98) (h99 : r0.2.2.1 99 = S.2.2.1 99) (h100 : r0.2.2.1 100 = S.2.2.1 100) (h101 : ∀ q, q < n → r0.2.2.1 101 q = tIt s i (x + q)) :
    WP (TX7_copy_L154 fu (nI o) (nI y) (nI n) 0 r0) (fun r => r.1 = nI n ∧ FR pM S r.2 ∧ CM r.2 (setSh s o (tSo s o) (tSz s o) (cpR (tIt s i) (tIt s o) x y n))) := by
  have b3 := (hs.2.2.1 o ho).2.2
  have b4 := (hs.2.2.1 i hi).2.2
  refine wp_up (F := fun m j r => TX7_copy_L154 m (nI o) (nI y) (nI n) (nI j) r) (N := n) (I := fun j r => FR pMh S r ∧ r.2.2.1 98 = S.2.2.1 98 ∧ r.2.2.1 99 = S.2.2.1 99 ∧ (∀ q, q < n → r.2.2.1 101 q = tIt s i (x + q)) ∧ ∀ q, q < 160 → r.2.2.1 100 q = if 40 * o + y ≤ q ∧ q < 40 * o + y + j then tIt s i (x + (q - (40 * o + y))) else S.2.2.1 100 q) ?_ ?_ 0 r0 fu (by omega) ⟨hF, h98, h99, h101, fun q hq => by rw [if_neg (by omega), h100]⟩ (by rw [fu_eq]; omega)
  · intro m j r hj ⟨hF, h98, h99, h101, h5⟩ k
    show WP (TX7_copy_L154 (m + 1) (nI o) (nI y) (nI n) (nI j) r) _
    rw [TX7_copy_L154, show (40 : Int32) = nI 40 from rfl]
    simp (disch := omega) only [pk_mul, nI_add, letS, Option.bind_some, aget_n, ite_jin, iI_nat, nI_1, nI_leI', nI_ltI', nI_eqI', up2_s, up2_n, va_up_s, va_up_n, h101, if_neg]
    refine k _ ⟨FR_AI hF (by unfold pMh; omega), ?_, ?_, fun q hq => ?_, fun q hq => ?_⟩
    · simp (disch := omega) only [up2_n]
      exact h98
    · simp (disch := omega) only [up2_n]
      exact h99
    · simp (disch := omega) only [up2_n]
      exact h101 q hq
    · simp (disch := omega) only [up2_s, va_up_at]
      by_cases e : q = 40 * o + y + j
      · rw [if_pos e, if_pos (by omega)]
        congr 1
        omega
      · rw [if_neg e, h5 q hq]
        by_cases e2 : 40 * o + y ≤ q ∧ q < 40 * o + y + j
        · rw [if_pos e2, if_pos (by omega)]
        · rw [if_neg e2, if_neg (by omega)]
  · intro m r ⟨hF, h98, h99, h101, h5⟩
    show WP (TX7_copy_L154 (m + 1) (nI o) (nI y) (nI n) (nI n) r) _
    rw [TX7_copy_L154]
    simp (disch := omega) only [nI_leI', if_pos]
    obtain ⟨d1, d2, d3⟩ := cm.2.2.2.1 o ho
    refine wp_some ⟨rfl, FR_mono hF (fun t k j z => by unfold pMh at z; unfold pM; omega), CM_sh hF (fun t k j z => Or.inr (Or.inr z)) hs cm (sh_same d1 fun q => by rw [h98]) (sh_same d2 fun q => by rw [h99]) (fun q hq => ?_) (fun q z y1 y2 y3 => ?_)⟩
    · rw [h5 _ (by omega)]
      unfold cpR
      by_cases e : y ≤ q ∧ q < y + n
      · rw [if_pos (by omega), if_pos e]
        congr 1
        omega
      · rw [if_neg (by omega), if_neg e]
        exact d3 q hq
    · rw [h5 _ (by omega), if_neg (by omega)]
theorem m_cp117 {i o x y n : Nat} (hs : okS s) (cm : CM S s) (hi : i < 4) (ho : o < 4) (hx : x + n ≤ tSz s i) (hy : y + n ≤ tSz s o) :
    WP (TX7_copy_L117 fu (nI i) (nI x) (nI o) (nI y) (nI n) 0 S) (fun r => r.1 = nI n ∧ FR pM S r.2 ∧ CM r.2 (setSh s o (tSo s o) (tSz s o) (cpR (tIt s i) (tIt s o) x y n))) := by
  have b3 := (hs.2.2.1 o ho).2.2
  have b4 := (hs.2.2.1 i hi).2.2
  obtain ⟨d1, d2, d3⟩ := cm.2.2.2.1 i hi
  refine wp_up (F := fun m j r => TX7_copy_L117 m (nI i) (nI x) (nI o) (nI y) (nI n) (nI j) r) (N := n) (I := fun j r => FR pMh S r ∧ r.2.2.1 98 = S.2.2.1 98 ∧ r.2.2.1 99 = S.2.2.1 99 ∧ r.2.2.1 100 = S.2.2.1 100 ∧ ∀ q, q < j → r.2.2.1 101 q = tIt s i (x + q)) ?_ ?_ 0 S fu (by omega) ⟨FR_refl, rfl, rfl, rfl, fun q hq => by omega⟩ (by rw [fu_eq]; omega)
  · intro m j r hj ⟨hF, h98, h99, h100, h5⟩ k
    show WP (TX7_copy_L117 (m + 1) (nI i) (nI x) (nI o) (nI y) (nI n) (nI j) r) _
    rw [TX7_copy_L117, show (40 : Int32) = nI 40 from rfl]
    simp (disch := omega) only [pk_mul, nI_add, letS, Option.bind_some, aget_n, ite_jin, iI_nat, nI_1, nI_leI', nI_ltI', nI_eqI', up2_s, up2_n, va_up_s, va_up_n, if_neg]
    refine k _ ⟨FR_AI hF (by unfold pMh; omega), ?_, ?_, ?_, fun q hq => ?_⟩
    · simp (disch := omega) only [up2_n]
      exact h98
    · simp (disch := omega) only [up2_n]
      exact h99
    · simp (disch := omega) only [up2_n]
      exact h100
    · simp (disch := omega) only [up2_s, va_up_at]
      by_cases e : q = j
      · rw [if_pos e, h100, e, Nat.add_assoc]
        exact d3 (x + j) (by omega)
      · rw [if_neg e]
        exact h5 q (by omega)
  · intro m r ⟨hF, h98, h99, h100, h5⟩
    show WP (TX7_copy_L117 (m + 1) (nI i) (nI x) (nI o) (nI y) (nI n) (nI n) r) _
    rw [TX7_copy_L117]
    simp (disch := omega) only [nI_leI', if_pos]
    exact m_cp154 hs cm hi ho hx hy hF h98 h99 h100 h5
theorem a_copy (hs : okS s) (a1 a2 a3 a4 a5 : Int32) : ∃ v s', okS s' ∧ OX (TX6_copy a1 a2 a3 a4 a5) s v s' ∧ OM (TX7_copy a1 a2 a3 a4 a5) s v s' := by
  obtain ⟨z1, h1, rfl⟩ := i_cases a1
  obtain ⟨z2, h2, rfl⟩ := i_cases a2
  obtain ⟨z3, h3, rfl⟩ := i_cases a3
  obtain ⟨z4, h4, rfl⟩ := i_cases a4
  obtain ⟨z5, h5, rfl⟩ := i_cases a5
  rcases emn (0 ≤ z1 ∧ z1 ≤ 3) with c1 | c1
  · refine ⟨-2, s, hs, OX_no fun S c => ?_, OM_no fun S c => ?_⟩
    · unfold TX6_copy
      rw [x_isSheet h1, Option.bind_some, ite_b, if_neg c1]
    · unfold TX7_copy
      rw [m_isSheet h1, Option.bind_some, ite_b, if_neg c1]
  rcases emn (0 ≤ z3 ∧ z3 ≤ 3) with c3 | c3
  · refine ⟨-2, s, hs, OX_no fun S c => ?_, OM_no fun S c => ?_⟩
    · unfold TX6_copy
      rw [x_isSheet h1, Option.bind_some, ite_b, if_pos c1, x_isSheet h3, Option.bind_some, ite_b, if_neg c3]
    · unfold TX7_copy
      rw [m_isSheet h1, Option.bind_some, ite_b, if_pos c1, m_isSheet h3, Option.bind_some, ite_b, if_neg c3]
  obtain ⟨i, rfl⟩ := i_nat c1.1
  obtain ⟨o, rfl⟩ := i_nat c3.1
  have hi : i < 4 := by omega
  have ho : o < 4 := by omega
  obtain ⟨b1, b2, b3⟩ := hs.2.2.1 i hi
  obtain ⟨f1, f2, f3⟩ := hs.2.2.1 o ho
  have cc : ∀ q, q < 4 → (iI (tSo s q) = -1 ↔ tSo s q = -1) := fun q hq => by have := hs.2.2.1 q hq; rw [km1, iI_eq (by omega) (by omega)]
  have mso : ∀ q, q < 4 → ∀ S, CM S s → aget 4 (S.2.2.1 98) (nI q) = some (iI (tSo s q)) := fun q hq S c => by rw [aget_n (by omega) (by omega), (c.2.2.2.1 q hq).1]
  have msz : ∀ q, q < 4 → ∀ S, CM S s → aget 4 (S.2.2.1 99) (nI q) = some (nI (tSz s q)) := fun q hq S c => by rw [aget_n (by omega) (by omega), (c.2.2.2.1 q hq).2.1]
  have xso : ∀ q, q < 4 → ∀ S, CX S s → aget 4 (S.2.2.1 53) (nI q) = some (iI (tSo s q)) := fun q hq S c => by rw [aget_n (by omega) (by omega), (c.2.2.2.1 q hq).1]
  by_cases e : tSo s i = -1
  · refine ⟨-11, s, hs, OX_no fun S c => ?_, OM_no fun S c => ?_⟩
    · unfold TX6_copy
      rw [x_isSheet h1, Option.bind_some, ite_b, if_pos c1, x_isSheet h3, Option.bind_some, ite_b, if_pos c3, ← nI_z, x_missing c hs hi, Option.bind_some, ite_b, if_pos e]
    · unfold TX7_copy
      rw [m_isSheet h1, Option.bind_some, ite_b, if_pos c1, m_isSheet h3, Option.bind_some, ite_b, if_pos c3, ← nI_z, mso i hi S c, Option.bind_some, if_pos ((cc i hi).mpr e)]
  by_cases e' : tSo s o = -1
  · refine ⟨-11, s, hs, OX_no fun S c => ?_, OM_no fun S c => ?_⟩
    · unfold TX6_copy
      rw [x_isSheet h1, Option.bind_some, ite_b, if_pos c1, x_isSheet h3, Option.bind_some, ite_b, if_pos c3, ← nI_z, ← nI_z, x_missing c hs hi, Option.bind_some, ite_b, if_neg e, x_missing c hs ho, Option.bind_some, ite_b, if_pos e']
    · unfold TX7_copy
      rw [m_isSheet h1, Option.bind_some, ite_b, if_pos c1, m_isSheet h3, Option.bind_some, ite_b, if_pos c3, ← nI_z, ← nI_z, mso i hi S c, Option.bind_some, if_neg (fun z => e ((cc i hi).mp z)), mso o ho S c, Option.bind_some, if_pos ((cc o ho).mpr e')]
  have ce : iI (tSo s i) = iI (tSo s o) ↔ tSo s i = tSo s o := iI_eq (by omega) (by omega)
  by_cases e2 : tSo s i = tSo s o
  · have xr : ∀ S, CX S s → TX6_copy (iI i) (iI z2) (iI o) (iI z4) (iI z5) S = (if (0 ≤ z2 ∧ 0 ≤ z5 ∧ z2 ≤ tSz s i - z5) ∧ (0 ≤ z4 ∧ 0 ≤ z5 ∧ z4 ≤ tSz s o - z5) then (if cpok (iI z2) (iI z4) (iI z5) 40 40 then letS (sRI S (56 + o) (va_cpy (S.2.2.1 (56 + i)) (S.2.2.1 (56 + o)) (Int32.toNatClampNeg (iI z2)) (Int32.toNatClampNeg (iI z4)) (Int32.toNatClampNeg (iI z5)))) fun S23 => some (iI z5, S23) else none) else some (-12, S)) := fun S c => by
      unfold TX6_copy
      rw [x_isSheet h1, Option.bind_some, ite_b, if_pos c1, x_isSheet h3, Option.bind_some, ite_b, if_pos c3, ← nI_z, ← nI_z, x_missing c hs hi, Option.bind_some, ite_b, if_neg e, x_missing c hs ho, Option.bind_some, ite_b, if_neg e', xso i hi S c, Option.bind_some, xso o ho S c, Option.bind_some, if_pos (ce.mpr e2), x_hasRun c hs hi h2 h5, Option.bind_some, ite_b]
      by_cases g1 : 0 ≤ z2 ∧ 0 ≤ z5 ∧ z2 ≤ tSz s i - z5
      · rw [if_pos g1, x_hasRun c hs ho h4 h5, Option.bind_some, ite_b]
        by_cases g2 : 0 ≤ z4 ∧ 0 ≤ z5 ∧ z4 ≤ tSz s o - z5
        · rw [if_pos g2, if_pos (iI_in hi (by omega)), if_pos (iI_in ho (by omega)), iI_nat i (by omega), iI_nat o (by omega)]
          exact (if_pos ⟨g1, g2⟩).symm
        · rw [if_neg g2, if_neg (fun z => g2 z.2)]
      · rw [if_neg g1, if_neg (fun z => g1 z.1)]
    have mr : ∀ S, CM S s → TX7_copy (iI i) (iI z2) (iI o) (iI z4) (iI z5) S = (if (0 ≤ z2 ∧ 0 ≤ z5 ∧ z2 ≤ tSz s i - z5) ∧ (0 ≤ z4 ∧ 0 ≤ z5 ∧ z4 ≤ tSz s o - z5) then TX7_copy_L117 fu (nI i) (iI z2) (nI o) (iI z4) (iI z5) 0 S else some (-12, S)) := fun S c => by
      have j0 : ∀ S, TX7_copy_J104 (nI i) (iI z2) (nI o) (iI z4) (iI z5) 0 S = some (-12, S) := fun S => if_pos rfl
      have j1 : ∀ S, TX7_copy_J104 (nI i) (iI z2) (nI o) (iI z4) (iI z5) 1 S = TX7_copy_L117 fu (nI i) (iI z2) (nI o) (iI z4) (iI z5) 0 S := fun S => if_neg (by decide)
      have c2 : iI z2 < 0 ↔ z2 < 0 := by rw [k0, iI_lt h2 (by omega)]
      have c4 : iI z4 < 0 ↔ z4 < 0 := by rw [k0, iI_lt h4 (by omega)]
      have c5 : iI z5 < 0 ↔ z5 < 0 := by rw [k0, iI_lt h5 (by omega)]
      unfold TX7_copy
      rw [m_isSheet h1, Option.bind_some, ite_b, if_pos c1, m_isSheet h3, Option.bind_some, ite_b, if_pos c3, ← nI_z, ← nI_z, mso i hi S c, Option.bind_some, if_neg (fun z => e ((cc i hi).mp z)), mso o ho S c, Option.bind_some, if_neg (fun z => e' ((cc o ho).mp z)), Option.bind_some, Option.bind_some, if_pos (ce.mpr e2), msz i hi S c, msz o ho S c]
      simp only [j0, j1, Option.bind_some]
      by_cases g5 : z5 < 0
      · rw [if_pos (c5.mpr g5), if_neg (by omega)]
      · rw [if_neg (fun z => g5 (c5.mp z))]
        by_cases g2 : z2 < 0
        · rw [if_pos (c2.mpr g2), if_neg (by omega)]
        · rw [if_neg (fun z => g2 (c2.mp z))]
          by_cases g4 : z4 < 0
          · rw [if_pos (c4.mpr g4), if_neg (by omega)]
          · rw [if_neg (fun z => g4 (c4.mp z))]
            have c6 : nI (tSz s i) - iI z2 < iI z5 ↔ (tSz s i : Int) - z2 < z5 := by rw [nI_z, iI_sub, iI_lt (by omega) h5]
            have c7 : nI (tSz s o) - iI z4 < iI z5 ↔ (tSz s o : Int) - z4 < z5 := by rw [nI_z, iI_sub, iI_lt (by omega) h5]
            by_cases g6 : (tSz s i : Int) - z2 < z5
            · rw [if_pos (c6.mpr g6), if_neg (by omega)]
            · rw [if_neg (fun z => g6 (c6.mp z))]
              by_cases g7 : (tSz s o : Int) - z4 < z5
              · rw [if_pos (c7.mpr g7), if_neg (by omega)]
              · rw [if_neg (fun z => g7 (c7.mp z)), if_pos (by omega)]
    rcases emn ((0 ≤ z2 ∧ 0 ≤ z5 ∧ z2 ≤ tSz s i - z5) ∧ (0 ≤ z4 ∧ 0 ≤ z5 ∧ z4 ≤ tSz s o - z5)) with g | g
    · refine ⟨-12, s, hs, OX_no fun S c => ?_, OM_no fun S c => ?_⟩
      · rw [xr S c, if_neg g]
      · rw [mr S c, if_neg g]
    · obtain ⟨x, rfl⟩ := i_nat g.1.1
      obtain ⟨y, rfl⟩ := i_nat g.2.1
      obtain ⟨n, rfl⟩ := i_nat g.1.2.1
      refine ⟨nI n, setSh s o (tSo s o) (tSz s o) (cpR (tIt s i) (tIt s o) x y n), okS_sh hs ⟨f1, f2⟩ f3, fun S cx => ?_, fun S cm => ?_⟩
      · rw [xr S cx, if_pos g, ← nI_z, ← nI_z, ← nI_z]
        have q1 : ∀ m : Nat, m ≤ 40 → ¬ nI m < 0 := fun m hm => by rw [nI_z, k0, iI_lt (by omega) (by omega)]; omega
        refine wp_ri ⟨q1 _ (by omega), q1 _ (by omega), q1 _ (by omega), by rw [iI_nat x (by omega), iI_nat n (by omega)]; omega, by rw [iI_nat y (by omega), iI_nat n (by omega)]; omega⟩ fun S1 F1 a1 a2 a3 a4 a5 => ?_
        obtain ⟨d1, d2, d3⟩ := cx.2.2.2.1 o ho
        obtain ⟨t1, t2, t3⟩ := cx.2.2.2.1 i hi
        have hF : FR (pSh o) S S1 := F1 _ _ (by unfold pSh; omega) FR_refl
        refine wp_some ⟨rfl, FR_mono hF (fun t k j z => pShX t k j z ho), CX_sh hF (fun t k j z => Or.inr (Or.inr z)) ho cx (sh_same d1 fun q => by rw [a4 _ (by omega)]) (sh_same d2 fun q => by rw [a4 _ (by omega)]) (fun q hq => ?_)⟩
        rw [a5, iI_nat x (by omega), iI_nat y (by omega), iI_nat n (by omega)]
        unfold va_cpy cpR
        by_cases e9 : y ≤ q ∧ q < y + n
        · rw [if_pos e9, if_pos e9]
          exact t3 _ (by omega)
        · rw [if_neg e9, if_neg e9]
          exact d3 q hq
      · rw [mr S cm, if_pos g, ← nI_z, ← nI_z, ← nI_z]
        exact m_cp117 hs cm hi ho (by omega) (by omega)
  · refine ⟨-13, s, hs, OX_no fun S c => ?_, OM_no fun S c => ?_⟩
    · unfold TX6_copy
      rw [x_isSheet h1, Option.bind_some, ite_b, if_pos c1, x_isSheet h3, Option.bind_some, ite_b, if_pos c3, ← nI_z, ← nI_z, x_missing c hs hi, Option.bind_some, ite_b, if_neg e, x_missing c hs ho, Option.bind_some, ite_b, if_neg e', xso i hi S c, Option.bind_some, xso o ho S c, Option.bind_some, if_neg (fun z => e2 (ce.mp z))]
    · unfold TX7_copy
      rw [m_isSheet h1, Option.bind_some, ite_b, if_pos c1, m_isSheet h3, Option.bind_some, ite_b, if_pos c3, ← nI_z, ← nI_z, mso i hi S c, Option.bind_some, if_neg (fun z => e ((cc i hi).mp z)), mso o ho S c, Option.bind_some, if_neg (fun z => e' ((cc o ho).mp z)), Option.bind_some, Option.bind_some, if_neg (fun z => e2 (ce.mp z))]
/-- an int out of a sum that may go round -/
theorem iI_round {a : Int} (h1 : -2147483648 ≤ a) (h2 : a < 2147483700) : ∃ w : Int, i31 w ∧ iI a = iI w ∧ (a < 2147483648 → w = a) ∧ (2147483648 ≤ a → w < 0) := by
  by_cases h : a < 2147483648
  · exact ⟨a, ⟨h1, h⟩, rfl, fun _ => rfl, fun z => by omega⟩
  · refine ⟨a - 4294967296, by omega, ?_, fun z => by omega, fun _ => by omega⟩
    rw [← iI_sub, show iI 4294967296 = 0 from by decide]
    simp
theorem load_loop {i n : Nat} {z : Int} (hi : i < 4) (hz : i31 z) (hn : n ≤ 8) : ∀ (m k : Nat) (s : ST) (cc : Int32), okS s → k + m = n → ∃ v s', okS s' ∧ (∀ f, m + 1 ≤ f → OX (TX6_load_L64 f (nI i) (iI z) (nI n) cc (nI k)) s v s') ∧ (∀ f, m + 1 ≤ f → OM (TX7_load_L65 f (nI i) (iI z) (nI n) cc (nI k)) s v s') := by
  intro m
  induction m with
  | zero =>
    intro k s cc hs hk
    refine ⟨cc, s, hs, fun f hf => OX_no fun S c => ?_, fun f hf => OM_no fun S c => ?_⟩
    · obtain ⟨f, rfl⟩ : ∃ q, f = q + 1 := ⟨f - 1, by omega⟩
      rw [TX6_load_L64, if_pos (by rw [nI_cmp (by omega) (by omega)]; omega)]
    · obtain ⟨f, rfl⟩ : ∃ q, f = q + 1 := ⟨f - 1, by omega⟩
      rw [TX7_load_L65, if_pos (by rw [nI_cmp (by omega) (by omega)]; omega)]
  | succ m ih =>
    intro k s cc hs hk
    obtain ⟨b1, b2, b3⟩ := hs.2.2.1 i hi
    obtain ⟨w, hw, ew, w1, w2⟩ := iI_round (a := z + 4 * (k : Int)) (by omega) (by omega)
    have e4 : iI z + 4 * nI k = iI w := by rw [← ew, show (4 : Int32) = iI 4 from rfl, nI_z, iI_mul, iI_add]
    have msz : ∀ S, CM S s → aget 4 (S.2.2.1 99) (nI i) = some (nI (tSz s i)) := fun S c => by rw [aget_n (by omega) (by omega), (c.2.2.2.1 i hi).2.1]
    have mi : TX7_isIn (Int32.toInt64 (iI z) + 4 * Int32.toInt64 (nI k)) 0 (Int32.toInt64 (nI (tSz s i) - 4)) = some (b2i (0 ≤ z + 4 * (k : Int) ∧ z + 4 * (k : Int) ≤ (tSz s i : Int) - 4)) := by
      rw [nI_z, nI_z, show (4 : Int32) = iI 4 from rfl, iI_sub, iI_wide hz, iI_wide (by omega), iI_wide (by omega), show (4 : Int64) = lI 4 from rfl, lI_mul, lI_add, show (0 : Int64) = lI 0 from rfl]
      exact m_rng (by omega) (by omega) (by omega)
    rcases emn (0 ≤ z + 4 * (k : Int) ∧ z + 4 * (k : Int) ≤ (tSz s i : Int) - 4) with c1 | c1
    · refine ⟨-12, s, hs, fun f hf => OX_no fun S c => ?_, fun f hf => OM_no fun S c => ?_⟩
      · obtain ⟨f, rfl⟩ : ∃ q, f = q + 1 := ⟨f - 1, by omega⟩
        rw [TX6_load_L64, if_neg (by rw [nI_cmp (by omega) (by omega)]; omega), e4, x_hasS c hs hi hw, Option.bind_some, ite_b]
        by_cases g : 0 ≤ w ∧ w < tSz s i
        · rw [if_pos g, show (3 : Int32) = iI 3 from rfl, iI_add, x_hasS c hs hi (by omega), Option.bind_some, ite_b, if_neg (by omega)]
        · rw [if_neg g]
      · obtain ⟨f, rfl⟩ : ∃ q, f = q + 1 := ⟨f - 1, by omega⟩
        rw [TX7_load_L65, if_neg (by rw [nI_cmp (by omega) (by omega)]; omega), msz S c, Option.bind_some, mi, Option.bind_some, ite_b, if_neg c1]
    · have ew' := w1 (by omega)
      obtain ⟨p, hp⟩ := i_nat c1.1
      have hwp : w = p := by omega
      have hp4 : p + 4 ≤ tSz s i := by omega
      obtain ⟨v, A', hok, hX, hM⟩ := b_cell hs (tIt s i p) (tIt s i (p + 1)) (tIt s i (p + 2)) (tIt s i (p + 3))
      obtain ⟨v', s', hok', hX', hM'⟩ := ih (k + 1) (A', s.2) (cc + if v < 0 then 0 else 1) hok (by omega)
      refine ⟨v', s', hok', fun f hf S cx => ?_, fun f hf S cm => ?_⟩
      · obtain ⟨f, rfl⟩ : ∃ q, f = q + 1 := ⟨f - 1, by omega⟩
        obtain ⟨t1, t2, t3⟩ := cx.2.2.2.1 i hi
        rw [TX6_load_L64, if_neg (by rw [nI_cmp (by omega) (by omega)]; omega), e4, x_hasS cx hs hi hw, Option.bind_some, ite_b, if_pos (by omega), show (3 : Int32) = iI 3 from rfl, iI_add, x_hasS cx hs hi (by omega), Option.bind_some, ite_b, if_pos (by omega), hwp, ← nI_z, if_pos (iI_in hi (by omega)), iI_nat i (by omega), show (p : Int) + 3 = ((p + 3 : Nat) : Int) from rfl, ← nI_z, show (1 : Int32) = nI 1 from rfl, show (2 : Int32) = nI 2 from rfl, nI_add, nI_add]
        rw [aget_n (by omega) (by omega), Option.bind_some, aget_n (by omega) (by omega), Option.bind_some, aget_n (by omega) (by omega), Option.bind_some, aget_n (by omega) (by omega), Option.bind_some, t3 _ (by omega), t3 _ (by omega), t3 _ (by omega), t3 _ (by omega)]
        refine wp_bind (hX S cx) fun r hr => ?_
        have hn' := hX' f (by omega) r.2 hr.2.2
        unfold TX6_load_J161
        have hone : ∀ x : Int32, x + nI 1 = x + 1 := fun _ => rfl
        rw [hr.1]
        refine wp_mono (P := fun q : Int32 × SS => q.1 = v' ∧ FR pX r.2 q.2 ∧ CX q.2 s') ?_ fun q hq => ⟨hq.1, FR_trans (FR_mono hr.2.1 pB1) hq.2.1, hq.2.2⟩
        by_cases ev : v < 0
        · rw [if_pos ev] at hn' ⊢
          rw [← nI_1] at hn'
          exact hn'
        · rw [if_neg ev] at hn' ⊢
          rw [← nI_1] at hn'
          exact hn'
      · obtain ⟨f, rfl⟩ : ∃ q, f = q + 1 := ⟨f - 1, by omega⟩
        obtain ⟨t1, t2, t3⟩ := cm.2.2.2.1 i hi
        have ep : Int64.toInt32 (Int32.toInt64 (iI z) + 4 * Int32.toInt64 (nI k)) = nI p := by
          rw [nI_z k, iI_wide hz, iI_wide (by omega), show (4 : Int64) = lI 4 from rfl, lI_mul, lI_add, hp, l32n (by omega)]
        rw [TX7_load_L65, if_neg (by rw [nI_cmp (by omega) (by omega)]; omega), msz S cm, Option.bind_some, mi, Option.bind_some, ite_b, if_pos c1, ep, show (40 : Int32) = nI 40 from rfl, show (1 : Int32) = nI 1 from rfl, show (2 : Int32) = nI 2 from rfl, show (3 : Int32) = nI 3 from rfl, pk_mul, nI_add, nI_add, nI_add, nI_add]
        rw [aget_n (by omega) (by omega), Option.bind_some, aget_n (by omega) (by omega), Option.bind_some, aget_n (by omega) (by omega), Option.bind_some, aget_n (by omega) (by omega), Option.bind_some, Nat.add_assoc, Nat.add_assoc, Nat.add_assoc, t3 _ (by omega), t3 _ (by omega), t3 _ (by omega), t3 _ (by omega)]
        refine wp_bind (hM S cm) fun r hr => ?_
        have hn' := hM' f (by omega) r.2 hr.2.2
        unfold TX7_load_J163
        rw [hr.1]
        refine wp_mono (P := fun q : Int32 × SS => q.1 = v' ∧ FR pM r.2 q.2 ∧ CM q.2 s') ?_ fun q hq => ⟨hq.1, FR_trans (FR_mono hr.2.1 pMb_M) hq.2.1, hq.2.2⟩
        by_cases ev : v < 0
        · rw [if_pos ev] at hn' ⊢
          rw [← nI_1] at hn'
          exact hn'
        · rw [if_neg ev] at hn' ⊢
          rw [← nI_1] at hn'
          exact hn'
theorem a_load (hs : okS s) (a1 a2 a3 a4 : Int32) : ∃ v s', okS s' ∧ OX (TX6_load a1 a2 a3 a4) s v s' ∧ OM (TX7_load a1 a2 a3 a4) s v s' := by
  obtain ⟨z1, h1, rfl⟩ := i_cases a1
  obtain ⟨z2, h2, rfl⟩ := i_cases a2
  obtain ⟨z3, h3, rfl⟩ := i_cases a3
  obtain ⟨z4, h4, rfl⟩ := i_cases a4
  have xb := x_rngN (z := z4) (a' := 0) (b' := 8) (by decide : (0 : Int32) = iI 0) (by decide : (8 : Int32) = iI 8) (by omega) (by omega) h4
  rcases emn (0 ≤ z1 ∧ z1 ≤ 3) with c1 | c1
  · refine ⟨-2, s, hs, OX_no fun S c => ?_, OM_no fun S c => ?_⟩
    · unfold TX6_load
      rw [x_isSheet h1, Option.bind_some, ite_b, if_neg c1]
    · unfold TX7_load
      rw [m_isSheet h1, Option.bind_some, ite_b, if_neg c1]
  rcases emn (z2 = 0 ∨ z2 = 1) with c2 | c2
  · refine ⟨-2, s, hs, OX_no fun S c => ?_, OM_no fun S c => ?_⟩
    · unfold TX6_load
      rw [x_isSheet h1, Option.bind_some, ite_b, if_pos c1, x_bit h2, Option.bind_some, ite_b, if_neg c2]
    · unfold TX7_load
      rw [m_isSheet h1, Option.bind_some, ite_b, if_pos c1, m_bit h2, Option.bind_some, ite_b, if_neg c2]
  rcases emn (0 ≤ z4 ∧ z4 ≤ 8) with c4 | c4
  · refine ⟨-2, s, hs, OX_no fun S c => ?_, OM_no fun S c => ?_⟩
    · unfold TX6_load
      rw [x_isSheet h1, Option.bind_some, ite_b, if_pos c1, x_bit h2, Option.bind_some, ite_b, if_pos c2, xb, Option.bind_some, ite_b, if_neg c4]
    · unfold TX7_load
      rw [m_isSheet h1, Option.bind_some, ite_b, if_pos c1, m_bit h2, Option.bind_some, ite_b, if_pos c2, m_in08 h4, Option.bind_some, ite_b, if_neg c4]
  obtain ⟨i, rfl⟩ := i_nat c1.1
  have hi : i < 4 := by omega
  obtain ⟨b1, b2, b3⟩ := hs.2.2.1 i hi
  have cc : iI (tSo s i) = -1 ↔ tSo s i = -1 := by rw [km1, iI_eq (by omega) (by omega)]
  have ce : iI (tSo s i) = iI z2 ↔ tSo s i = z2 := iI_eq (by omega) h2
  have mso : ∀ S, CM S s → aget 4 (S.2.2.1 98) (nI i) = some (iI (tSo s i)) := fun S c => by rw [aget_n (by omega) (by omega), (c.2.2.2.1 i hi).1]
  have xso : ∀ S, CX S s → aget 4 (S.2.2.1 53) (nI i) = some (iI (tSo s i)) := fun S c => by rw [aget_n (by omega) (by omega), (c.2.2.2.1 i hi).1]
  by_cases e : tSo s i = -1
  · refine ⟨-11, s, hs, OX_no fun S c => ?_, OM_no fun S c => ?_⟩
    · unfold TX6_load
      rw [x_isSheet h1, Option.bind_some, ite_b, if_pos c1, x_bit h2, Option.bind_some, ite_b, if_pos c2, xb, Option.bind_some, ite_b, if_pos c4, ← nI_z, x_missing c hs hi, Option.bind_some, ite_b, if_pos e]
    · unfold TX7_load
      rw [m_isSheet h1, Option.bind_some, ite_b, if_pos c1, m_bit h2, Option.bind_some, ite_b, if_pos c2, m_in08 h4, Option.bind_some, ite_b, if_pos c4, ← nI_z, mso S c, Option.bind_some, if_pos (cc.mpr e)]
  by_cases e2 : tSo s i = z2
  · obtain ⟨n, rfl⟩ := i_nat c4.1
    obtain ⟨v, s', hok, hX, hM⟩ := load_loop (n := n) hi h3 (by omega) n 0 s 0 hs (by omega)
    refine ⟨v, s', hok, fun S cx => ?_, fun S cm => ?_⟩
    · unfold TX6_load
      rw [x_isSheet h1, Option.bind_some, ite_b, if_pos c1, x_bit h2, Option.bind_some, ite_b, if_pos c2, xb, Option.bind_some, ite_b, if_pos c4, ← nI_z, ← nI_z, x_missing cx hs hi, Option.bind_some, ite_b, if_neg e, xso S cx, Option.bind_some, if_pos (ce.mpr e2)]
      exact hX fu (by rw [fu_eq]; omega) S cx
    · unfold TX7_load
      rw [m_isSheet h1, Option.bind_some, ite_b, if_pos c1, m_bit h2, Option.bind_some, ite_b, if_pos c2, m_in08 h4, Option.bind_some, ite_b, if_pos c4, ← nI_z, ← nI_z, mso S cm, Option.bind_some, if_neg (fun z => e (cc.mp z)), Option.bind_some, if_pos (ce.mpr e2)]
      exact hM fu (by rw [fu_eq]; omega) S cm
  · refine ⟨-13, s, hs, OX_no fun S c => ?_, OM_no fun S c => ?_⟩
    · unfold TX6_load
      rw [x_isSheet h1, Option.bind_some, ite_b, if_pos c1, x_bit h2, Option.bind_some, ite_b, if_pos c2, xb, Option.bind_some, ite_b, if_pos c4, ← nI_z, x_missing c hs hi, Option.bind_some, ite_b, if_neg e, xso S c, Option.bind_some, if_neg (fun z => e2 (ce.mp z))]
    · unfold TX7_load
      rw [m_isSheet h1, Option.bind_some, ite_b, if_pos c1, m_bit h2, Option.bind_some, ite_b, if_pos c2, m_in08 h4, Option.bind_some, ite_b, if_pos c4, ← nI_z, mso S c, Option.bind_some, if_neg (fun z => e (cc.mp z)), Option.bind_some, if_neg (fun z => e2 (ce.mp z))]
end CPY
