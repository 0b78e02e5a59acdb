/-! Calls: isSteady, drawn. -/
section DRW
variable {S : SS} {A : AB} {s : ST}
theorem l0 {g : Int} (h : i63 g) : lI g = 0 ↔ g = 0 := by rw [show (0 : Int64) = lI 0 from rfl, lI_eq h (by omega)]
def gain0 (A : AB) (i : Nat) : Bool := decide (gainA A i = 0)
theorem x_stdL (h : CB S 1 A) (hA : okA 1008000000000000 A) : ∀ (m i n : Nat), i + m = qN A → m + 1 ≤ n → TX6_isSteady_L2 S n (nI i) = some (b2i (allB (gain0 A) m i = true)) := by
  have h8 := ok_n hA
  intro m
  induction m with
  | zero =>
    intro i n hi hn
    obtain ⟨n, rfl⟩ : ∃ q, n = q + 1 := ⟨n - 1, by omega⟩
    rw [TX6_isSteady_L2, h.1, if_pos (by rw [nI_cmp (by omega) (by omega)]; omega)]
    rfl
  | succ m ih =>
    intro i n hi hn
    obtain ⟨n, rfl⟩ : ∃ q, n = q + 1 := ⟨n - 1, by omega⟩
    have hg := gain_B hA (i := i) (by omega)
    rw [TX6_isSteady_L2, h.1, if_neg (by rw [nI_cmp (by omega) (by omega)]; omega), x_gain h hA (by omega), Option.bind_some, allB, nI_1]
    by_cases e : gainA A i = 0
    · rw [if_pos ((l0 (by omega)).mpr e), ih (i + 1) n (by omega) (by omega)]
      refine congrArg some (b2i_congr ?_)
      simp [gain0, e]
    · rw [if_neg (fun z => e ((l0 (by omega)).mp z)), b2i_f]
      simp [gain0, e]
theorem m_stdL (h : MM S A) (hA : okA 1008000000000000 A) : ∀ (m i n : Nat) (f : Bool), i + m = qN A → m + 1 ≤ n → TX7_isSteady_L8 n (b2i (f = true)) (nI i) S = some (b2i ((f && allB (gain0 A) m i) = true), S) := by
  have h8 := ok_n hA
  intro m
  induction m with
  | zero =>
    intro i n f hi hn
    obtain ⟨n, rfl⟩ : ∃ q, n = q + 1 := ⟨n - 1, by omega⟩
    rw [TX7_isSteady_L8, h.1.1, if_pos (by rw [nI_cmp (by omega) (by omega)]; omega), ite_b]
    cases f
    · rfl
    · rfl
  | succ m ih =>
    intro i n f hi hn
    obtain ⟨n, rfl⟩ : ∃ q, n = q + 1 := ⟨n - 1, by omega⟩
    have hg := gain_B hA (i := i) (by omega)
    have i1 := ih (i + 1) n true (by omega) (by omega)
    have i0 := ih (i + 1) n false (by omega) (by omega)
    have e1 : b2i (true = true) = 1 := rfl
    have e0 : b2i (false = true) = 0 := rfl
    rw [e1] at i1
    rw [e0] at i0
    rw [TX7_isSteady_L8, h.1.1, if_neg (by rw [nI_cmp (by omega) (by omega)]; omega), ite_b, nI_1, m_change h hA (by omega), Option.bind_some, allB, i1, i0]
    cases f
    · rfl
    · rw [if_pos rfl]
      by_cases e : gainA A i = 0
      · rw [if_pos ((l0 (by omega)).mpr e)]
        exact congrArg (fun x => some (x, S)) (b2i_congr (by simp [gain0, e]))
      · rw [if_neg (fun z => e ((l0 (by omega)).mp z))]
        exact congrArg (fun x => some (x, S)) (b2i_congr (by simp [gain0, e]))
theorem a_isSteady (hs : okS s) : ∃ v, PXo TX6_isSteady s v ∧ OM TX7_isSteady s v s := by
  have h8 := ok_n hs.1
  have h12 := ok_p hs.1
  have hA := okS_8 hs
  refine ⟨b2i (allB (gain0 (tA s)) (qN (tA s)) 0 = true), fun S c => ?_, fun S cm => ?_⟩
  · exact x_stdL c.1 hA (qN (tA s)) 0 fu (by omega) (by rw [fu_eq]; omega)
  · unfold TX7_isSteady
    refine wp_bind (m_think cm.1 h8 h12) fun r hr => ?_
    have e := m_stdL hr.2 hA (qN (tA s)) 0 fu true (by omega) (by rw [fu_eq]; omega)
    rw [show b2i (true = true) = 1 from rfl, show nI 0 = 0 from rfl, Bool.true_and] at e
    exact wp_eq e (wp_some ⟨rfl, OM_th cm hr.1⟩)
/-- the lots -/
def zN (z : Int32) : Int32 := z * 1103515245 + 12345
def drU (z : Int32) : Nat := (zN z).toBitVec.toNat
def drI (z : Int32) (n : Nat) : Nat := drU z / 2 ^ 9 % n
def drK (z : Int32) : Nat := drU z / 2 ^ 20 % 10
def drB (z : Int32) (A : AB) : AB := setS A 1 (drI z (qN A)) (qS A 1 (drI z (qN A)) + drK z * qL A)
def drV : Nat → Int32 → AB → Int64
  | 0, _, A => lI (maxT (qS A 1) (qN A) / qL A)
  | m + 1, z, A => if stepC (drB z A) = -2 then drV m (zN z) (stepA (drB z A)) else -9223372036854775808
theorem nI_bits (z : Int32) : nI z.toBitVec.toNat = z := by
  apply Int32.toBitVec_inj.mp
  unfold nI
  simp
theorem dr9 (z : Int32) : (Int32.toUInt32 (zN z) >>> (Int32.toUInt32 9 &&& Int32.toUInt32 31)).toInt32 = nI (drU z / 2 ^ 9) := by
  have h := pk_ushrN (n := drU z) (zN z).toBitVec.isLt 9 9 (by decide)
  unfold drU at h
  rw [nI_bits] at h
  exact h
theorem dr20 (z : Int32) : (Int32.toUInt32 (zN z) >>> (Int32.toUInt32 20 &&& Int32.toUInt32 31)).toInt32 = nI (drU z / 2 ^ 20) := by
  have h := pk_ushrN (n := drU z) (zN z).toBitVec.isLt 20 20 (by decide)
  unfold drU at h
  rw [nI_bits] at h
  exact h
theorem drU_lt (z : Int32) : drU z < 4294967296 := (zN z).toBitVec.isLt
theorem ok_warm (h : okA 999000000000000 A) (z : Int32) (hn : 1 ≤ qN A) : okA 1008000000000000 (drB z A) := by
  have hi : drI z (qN A) < qN A := Nat.mod_lt _ (by omega)
  have hk : drK z < 10 := Nat.mod_lt _ (by omega)
  have hl := ok_l h
  have hc := ok_c h hi
  have := nB (c := drK z) (C := 9) (x := qL A) (X := 1000000000000) (by omega) (by omega) (by omega)
  exact ok_setS (ok_M (by omega) h) (by omega)
theorem ok_setH' {M M' : Int} {T : Nat → Int} {l : Nat} (h : okA M A) (hl : 1 ≤ l) (hl2 : l ≤ 1000000000000) (hT : ∀ i, i < qN A → -M' ≤ T i ∧ T i ≤ M') : okA M' (setH A T l) := by
  obtain ⟨h1, h2, h3, h4, h5, h6, h7, h8, h9, h10, h11, h12, h13⟩ := h
  refine ⟨h1, h2, hl, hl2, h5, h6, h7, h8, h9, h10, h11, fun i hi => ?_, h13⟩
  obtain ⟨a1, a2, a3, a4, a5, a6, a7, -, -⟩ := h12 i hi
  exact ⟨a1, a2, a3, a4, a5, a6, a7, (hT i hi).1, (hT i hi).2⟩
theorem ok_step9 (h8 : okA 1008000000000000 A) (e : stepC A = -2) : okA 999000000000000 (stepA A) := by
  have hl := line_B h8
  have hr : redL (nextA A) (lineA A) (qN A) ≤ 1000000000000 := by
    by_cases hr : redL (nextA A) (lineA A) (qN A) ≤ 1000000000000
    · exact hr
    · unfold stepC takeC at e
      rw [if_neg hr] at e
      omega
  have eC : bigN (redT (nextA A) (lineA A) (qN A)) (qN A) 0 = -2 := by
    unfold stepC takeC at e
    rw [if_pos hr] at e
    exact e
  refine ok_pass (ok_setH' h8 (redL_pos hl.1) hr fun i hi => ?_)
  have := bigN_ok (qN A) 0 eC i (by omega) (by omega)
  omega
theorem x_warm1 {b i k : Nat} (h : CB S b A) (hi : i < qN A) (h8 : qN A ≤ 8) (hk : k < 10) : WP (TX0_warm b (nI i) (nI k) S) (fun r => FR (pB b) S r ∧ CB r b (setS A 1 i (qS A 1 i + k * qL A))) := by
  unfold TX0_warm
  obtain ⟨g1, g2, g3, g4, g5, g6, g7, g8⟩ := h.2.2.2.2.2.2.2.1 i hi
  simp (disch := omega) only [letS, Option.bind_some, aget_n, ite_jin, iI_nat, nI_1, nI_leI', nI_ltI', nI_eqI', up2_s, up2_n, va_up_s, va_up_n, nI_wideI, h.2.2.1]
  rw [g8, lI_n, lI_mul, lI_add]
  refine wp_some ⟨FR_AL FR_refl (by unfold pB; omega), ?_⟩
  refine CB_upd (i := i) h (fun q hq _ => hq) h.1 rfl rfl rfl rfl (fun _ _ _ _ _ => rfl) (fun q hq => ?_) (fun _ _ _ => rfl) rfl rfl (fun _ _ _ => rfl) (fun _ => rfl) (fun _ => rfl) (fun j' q hq => ?_) (fun q => ?_) (fun _ => ⟨g1, g2, g3, ?_, g5, g6, g7, ?_⟩)
  · simp [up2, hq]
  · simp [setS, up2, qS, hq]
  · simp [setS, up2, qS]
  · simp [setS, up2, qS]; exact g4
  · simp [setS, up2, qS]
theorem x_drL {N : Nat} (hN : N ≤ 20) : ∀ (m d n : Nat) (A : AB) (S : SS) (z : Int32), d + m = N → m + 1 ≤ n → CB S 16 A → okA 999000000000000 A → 1 ≤ qN A → S.1 1 0 = nI (qN A) →
    WP (TX6_drawn_L40 n (nI N) z (nI d) S) (fun r => r.1 = drV m z A ∧ FR (pB 16) S r.2) := by
  intro m
  induction m with
  | zero =>
    intro d n A S z hd hn h hA h1 h0
    obtain ⟨n, rfl⟩ : ∃ q, n = q + 1 := ⟨n - 1, by omega⟩
    have hA8 : okA 1008000000000000 A := ok_M (by omega) hA
    have hl := ok_l hA
    have hB := maxT_neg_B (T := qS A 1) (M := 1008000000000000) (qN A) h1 (fun i hi => by have := ok_c hA8 hi; omega)
    rw [TX6_drawn_L40, if_pos (by rw [nI_cmp (by omega) (by omega)]; omega), x_greatest h hA8 h1, Option.bind_some, h.2.2.1, lI_n, x_whole (by omega) (by omega) (by omega), Option.bind_some]
    exact wp_some ⟨rfl, FR_refl⟩
  | succ m ih =>
    intro d n A S z hd hn h hA h1 h0
    obtain ⟨n, rfl⟩ : ∃ q, n = q + 1 := ⟨n - 1, by omega⟩
    have h8 := ok_n hA
    have hi : drI z (qN A) < qN A := Nat.mod_lt _ (by omega)
    have hk : drK z < 10 := Nat.mod_lt _ (by omega)
    have hu := drU_lt z
    have ez : z * 1103515245 + 12345 = zN z := rfl
    rw [TX6_drawn_L40, if_neg (by rw [nI_cmp (by omega) (by omega)]; omega), ez, dr9, dr20, h0]
    have e1 : TX6_remainder (Int32.toInt64 (nI (drU z / 2 ^ 9))) (Int32.toInt64 (nI (qN A))) = some (lN (drI z (qN A))) := by
      unfold TX6_remainder
      rw [nI_wideI (by omega), nI_wideI (by omega), ← lI_n, ← lI_n, if_neg (lN_ne0 (by omega) (by omega)), lrem_n (by omega) (by omega) (by omega)]
      rfl
    have e2 : o_irem (nI (drU z / 2 ^ 20)) 10 = some (nI (drK z)) := by
      unfold o_irem
      rw [if_neg (by decide), show (10 : Int32) = nI 10 from rfl, pk_rem (by omega) (by omega) (by omega)]
      rfl
    rw [e1, Option.bind_some, e2, Option.bind_some, lI_n, l32n (by omega)]
    refine wp_bind (x_warm1 h hi h8 hk) fun r hr => ?_
    have hB := ok_warm hA z h1
    refine wp_bind (x_adv (A := drB z A) hr.2 hB) fun q hq => ?_
    obtain ⟨q1, q2, q3⟩ := hq
    have hsB := stepC_B (drB z A)
    have hn8 : qN (drB z A) = qN A := rfl
    have c : q.1 = -2 ↔ stepC (drB z A) = -2 := by rw [q1, m2, iI_eq (by omega) (by omega)]
    rw [drV]
    by_cases e : stepC (drB z A) = -2
    · rw [if_pos (c.mpr e), if_pos e, nI_1]
      rw [if_pos e] at q3
      refine wp_mono (ih (d + 1) n (stepA (drB z A)) q.2 (zN z) (by omega) (by omega) q3 (ok_step9 hB e) h1 ?_) fun t ht => ⟨ht.1, FR_trans hr.1 (FR_trans q2 ht.2)⟩
      rw [q2.1 1 0 (by unfold pB; omega), hr.1.1 1 0 (by unfold pB; omega), h0]
      rfl
    · rw [if_neg (fun z => e (c.mp z)), if_neg e]
      exact wp_some ⟨rfl, FR_trans hr.1 q2⟩
theorem MM_warm {i : Nat} {v : Int} (h : MM S A) : MM (sAL S 75 i (lI v)) (setS A 1 i v) := by
  obtain ⟨⟨c1, c2, c3, c4, c5, c6⟩, d1, d2, d3, d4⟩ := h
  refine ⟨⟨c1, c2, c3, c4, c5, fun q hq => ?_⟩, d1, d2, fun q hq => ?_, fun p hp => ?_⟩
  · have := c6 q hq
    simp [setS, up2, qS]
    exact this
  · have := d3 q hq
    by_cases e : q = i
    · subst e
      simp [setS, up2, qS]
    · simp [setS, up2, qS, e]
      exact this
  · have := d4 p hp
    simp [setS, up2, qS]
    exact this
theorem m_drL {N : Nat} (hN : N ≤ 20) : ∀ (m d n : Nat) (A : AB) (S : SS) (z : Int32), d + m = N → m + 1 ≤ n → MM S A → okA 999000000000000 A → 1 ≤ qN A →
    WP (TX7_drawn_L32 n (nI N) z (nI d) S) (fun r => r.1 = drV m z A ∧ FR pMi S r.2) := by
  intro m
  induction m with
  | zero =>
    intro d n A S z hd hn h hA h1
    obtain ⟨n, rfl⟩ : ∃ q, n = q + 1 := ⟨n - 1, by omega⟩
    have hA8 : okA 1008000000000000 A := ok_M (by omega) hA
    have hl := ok_l hA
    have hB := maxT_neg_B (T := qS A 1) (M := 1008000000000000) (qN A) h1 (fun i hi => by have := ok_c hA8 hi; omega)
    rw [TX7_drawn_L32, if_pos (by rw [nI_cmp (by omega) (by omega)]; omega), m_greatest h hA8 h1, Option.bind_some, h.2.1, lI_n, fdiv_l (by omega) (by omega) (by omega), Option.bind_some]
    exact wp_some ⟨rfl, FR_refl⟩
  | succ m ih =>
    intro d n A S z hd hn h hA h1
    obtain ⟨n, rfl⟩ : ∃ q, n = q + 1 := ⟨n - 1, by omega⟩
    have h8 := ok_n hA
    have hi : drI z (qN A) < qN A := Nat.mod_lt _ (by omega)
    have hk : drK z < 10 := Nat.mod_lt _ (by omega)
    have hu := drU_lt z
    have ez : z * 1103515245 + 12345 = zN z := rfl
    rw [TX7_drawn_L32, if_neg (by rw [nI_cmp (by omega) (by omega)]; omega), ez, dr9, dr20, h.1.1]
    have e1 : o_irem (nI (drU z / 2 ^ 9)) (nI (qN A)) = some (nI (drI z (qN A))) := by
      unfold o_irem
      rw [if_neg (nI_ne0 (by omega) (by omega)), pk_rem (by omega) (by omega) (by omega)]
      rfl
    have e2 : o_irem (nI (drU z / 2 ^ 20)) 10 = some (nI (drK z)) := by
      unfold o_irem
      rw [if_neg (by decide), show (10 : Int32) = nI 10 from rfl, pk_rem (by omega) (by omega) (by omega)]
      rfl
    rw [e1, Option.bind_some, e2, aget_n (by omega) (by omega), Option.bind_some, Option.bind_some, if_pos (iI_in (by omega) (by omega)), iI_nat _ (by omega), h.2.2.2.1 _ hi, h.2.1, nI_wideI (by omega), lI_n, lI_mul, lI_add]
    have hB := ok_warm hA z h1
    have hM : MM (sAL S 75 (drI z (qN A)) (lI (qS A 1 (drI z (qN A)) + drK z * qL A))) (drB z A) := MM_warm h
    have hF : FR pMi S (sAL S 75 (drI z (qN A)) (lI (qS A 1 (drI z (qN A)) + drK z * qL A))) := FR_AL FR_refl (by unfold pMi; omega)
    simp only [letS]
    refine wp_bind (m_goes hM hB) fun q hq => ?_
    obtain ⟨q1, q2, -, q3⟩ := hq
    rw [drV]
    by_cases e : stepC (drB z A) = -2
    · rw [if_neg (fun z => (b2i_z q1).mp z e), if_pos e, nI_1]
      rw [if_pos e] at q3
      exact wp_mono (ih (d + 1) n (stepA (drB z A)) q.2 (zN z) (by omega) (by omega) q3 (ok_step9 hB e) h1) fun t ht => ⟨ht.1, FR_trans hF (FR_trans q2 ht.2)⟩
    · rw [if_pos ((b2i_z q1).mpr e), if_neg e]
      exact wp_some ⟨rfl, FR_trans hF q2⟩
theorem a_drawn (hs : okS s) (a1 a2 : Int32) : ∃ v, OX (TX6_drawn a1 a2) s v s ∧ OM (TX7_drawn a1 a2) s v s := by
  obtain ⟨z, hz, rfl⟩ := i_cases a2
  have h8 := ok_n hs.1
  have h12 := ok_p hs.1
  have xb := x_rngN (z := z) (a' := 0) (b' := 20) (by decide : (0 : Int32) = iI 0) (by decide : (20 : Int32) = iI 20) (by omega) (by omega) hz
  rcases emn (0 ≤ z ∧ z ≤ 20) with c1 | c1
  · refine ⟨-9223372036854775808, OX_no fun S c => ?_, OM_no fun S c => ?_⟩
    · unfold TX6_drawn
      rw [xb, Option.bind_some, ite_b, if_neg c1]
    · unfold TX7_drawn
      rw [m_in020 hz, Option.bind_some, ite_b, if_neg c1]
  by_cases e : qN (tA s) = 0
  · refine ⟨-9223372036854775808, OX_no fun S c => ?_, OM_no fun S c => ?_⟩
    · unfold TX6_drawn
      rw [xb, Option.bind_some, ite_b, if_pos c1, (CB1 c.1).1, if_pos (by rw [e]; rfl)]
    · unfold TX7_drawn
      rw [m_in020 hz, Option.bind_some, ite_b, if_pos c1, c.1.1.1, if_pos (by rw [e]; rfl)]
  obtain ⟨N, rfl⟩ := i_nat c1.1
  refine ⟨drV N a1 (tA s), fun S cx => ?_, fun S cm => ?_⟩
  · unfold TX6_drawn
    rw [xb, Option.bind_some, ite_b, if_pos c1, (CB1 cx.1).1, if_neg (nI_ne0 (by omega) (by omega)), ← nI_z]
    refine wp_bind (x_become (b := 16) cx.1 h8 h12 (by omega)) fun r hr => ?_
    refine wp_mono (x_drL (N := N) (by omega) N 0 fu (tA s) r a1 (by omega) (by rw [fu_eq]; omega) hr.2 hs.1 (by omega) ?_) fun q hq => ⟨hq.1, OX_th cx (FR_trans hr.1 hq.2)⟩
    rw [hr.1.1 1 0 (by unfold pB; omega)]
    exact (CB1 cx.1).1
  · unfold TX7_drawn
    rw [m_in020 hz, Option.bind_some, ite_b, if_pos c1, cm.1.1.1, if_neg (nI_ne0 (by omega) (by omega)), ← nI_z]
    refine wp_bind (m_think cm.1 h8 h12) fun r hr => ?_
    exact wp_mono (m_drL (N := N) (by omega) N 0 fu (tA s) r a1 (by omega) (by rw [fu_eq]; omega) hr.2 hs.1 (by omega)) fun q hq => ⟨hq.1, OM_th cm (FR_trans hr.1 hq.2)⟩
end DRW
