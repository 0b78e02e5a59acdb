/-! Calls: steady, steadyFlow, hottest, lay. -/
section PUB6
variable {S : SS} {A : AB} {s : ST}
theorem pSx_s : ∀ t k j, pSx t k j → pXs t k j := fun t k j h => by unfold pSx at h; unfold pXs; omega
theorem OX_sx {r : SS} (cx : CX S s) (hF : FR pSx S r) : FR pX S r ∧ CX r s := ⟨FR_mono hF (fun _ _ _ z => pXs_X _ _ _ (pSx_s _ _ _ z)), CX_frs (FR_mono hF pSx_s) cx⟩
theorem OM_st {r : SS} (cm : CM S s) (hF : FR pSt S r) : FR pM S r ∧ CM r s := ⟨FR_mono hF (fun _ _ _ z => pMs_M _ _ _ (pSt_s _ _ _ z)), CM_frs (FR_mono hF pSt_s) cm⟩
theorem whM_pos : 0 < whM A ↔ (1 ≤ qN A ∧ 0 < whN A) := by
  unfold whM
  split
  · omega
  · omega
theorem whM_n (h : 1 ≤ qN A) : whM A = whN A := by
  unfold whM
  rw [if_neg (by omega)]
theorem a_steady (hs : okS s) (a1 a2 : Int32) : ∃ v, OX (TX6_steady a1 a2) s v s ∧ OM (TX7_steady a1 a2) s v s := by
  obtain ⟨z1, h1, rfl⟩ := i_cases a1
  obtain ⟨z2, h2, rfl⟩ := i_cases a2
  have h8 := ok_n hs.1
  have hA := hs.1
  rcases emn (0 ≤ z1 ∧ z1 < qN (tA s)) with c1 | c1
  · refine ⟨-9223372036854775808, OX_no fun S c => ?_, OM_no fun S c => ?_⟩
    · unfold TX6_steady
      rw [x_has c.1 h8 h1, Option.bind_some, ite_b, if_neg c1]
    · unfold TX7_steady
      rw [m_isCell c.1.1 h8 h1, Option.bind_some, ite_b, if_neg c1]
  rcases emn (z2 = 0 ∨ z2 = 1) with c2 | c2
  · refine ⟨-9223372036854775808, OX_no fun S c => ?_, OM_no fun S c => ?_⟩
    · unfold TX6_steady
      rw [x_has c.1 h8 h1, Option.bind_some, ite_b, if_pos c1, x_bit h2, Option.bind_some, ite_b, if_neg c2]
    · unfold TX7_steady
      rw [m_isCell c.1.1 h8 h1, Option.bind_some, ite_b, if_pos c1, m_bit h2, Option.bind_some, ite_b, if_neg c2]
  have hn : 1 ≤ qN (tA s) := by omega
  have hw := wh_N hA
  obtain ⟨i, rfl⟩ := i_nat c1.1
  have hi : i < qN (tA s) := by omega
  have hB := st_B hA hi
  refine ⟨if 1 ≤ qN (tA s) ∧ 0 < whN (tA s) then partZ (stG (tA s) i) (whN (tA s)) z2 else -9223372036854775808, fun S cx => ?_, fun S cm => ?_⟩
  · unfold TX6_steady
    rw [x_has cx.1 h8 h1, Option.bind_some, ite_b, if_pos c1, x_bit h2, Option.bind_some, ite_b, if_pos c2, x_canRest cx.1 hA, Option.bind_some, ite_b]
    by_cases e : 1 ≤ qN (tA s) ∧ 0 < whN (tA s)
    · rw [if_pos e, if_pos e]
      refine wp_bind (x_solve cx.1 hA (by omega) hn) fun r hr => ?_
      rw [← nI_z i, aget_n (by omega) (by omega), Option.bind_some, hr.2.1, hr.2.2 i hi, x_part (by omega) e.2 (by omega) h2, Option.bind_some]
      exact wp_some ⟨rfl, OX_sx cx hr.1⟩
    · rw [if_neg e, if_neg e]
      exact wp_some ⟨rfl, FR_refl, cx⟩
  · unfold TX7_steady
    rw [m_isCell cm.1.1 h8 h1, Option.bind_some, ite_b, if_pos c1, m_bit h2, Option.bind_some, ite_b, if_pos c2]
    refine wp_bind (m_std0 cm.1.1 hA) fun r hr => ?_
    obtain ⟨r1, r2, r3, r4⟩ := hr
    rw [whM_n hn] at r3
    by_cases e : 1 ≤ qN (tA s) ∧ 0 < whN (tA s)
    · rw [if_neg (fun z => (b2i_z r1).mp z (whM_pos.mpr e)), if_pos e, ← nI_z i, aget_n (by omega) (by omega), Option.bind_some, r3, r4 i hi, m_part (by omega) e.2 (by omega) h2, Option.bind_some]
      exact wp_some ⟨rfl, OM_st cm r2⟩
    · rw [if_pos ((b2i_z r1).mpr (fun z => e (whM_pos.mp z))), if_neg e]
      exact wp_some ⟨rfl, OM_st cm r2⟩
theorem m_sflow {r : SS} {j : Nat} {l z : Int} {T : Nat → Int} {M : Int} (h : MC r A) (hA : okA M A) (h24 : r.2.1 64 24 = lI l) (hT : ∀ i, i < qN A → r.2.2.2 82 i = lI (T i)) (hn : 1 ≤ qN A) (hj : j ≤ qN A) (hB : l63 (flowH A T l j)) (hl : 0 < l) (hl2 : l < 9223372036854775808) (hz : i31 z) :
    (if iI ((j : Int) - 1) = -1 then (aget 2 (r.2.2.1 70) 0).bind fun v16 => TX7_steadyFlow_J57 (iI ((j : Int) - 1)) (iI z) ((Int32.toInt64 v16) * (r.2.1 64 24)) r else (aget 8 (r.2.2.2 82) (iI ((j : Int) - 1))).bind fun v5 => TX7_steadyFlow_J57 (iI ((j : Int) - 1)) (iI z) v5 r) = some (partZ (flowH A T l j) l z, r) := by
  have h8 := hA.1
  have hE := hA.2.2.2.2.2.2.2
  have g0 : aget 2 (r.2.2.1 70) 0 = some (iI (qE0 A)) := by rw [show (0 : Int32) = nI 0 from rfl, aget_n (by omega) (by decide), h.2.2.2.1]
  have g1 : aget 2 (r.2.2.1 70) 1 = some (iI (qE1 A)) := by rw [show (1 : Int32) = nI 1 from rfl, aget_n (by omega) (by decide), h.2.2.2.2.1]
  have gT : ∀ i, i < qN A → aget 8 (r.2.2.2 82) (iI i) = some (lI (T i)) := fun i hi => by rw [← nI_z, aget_n (by omega) (by decide), hT i hi]
  have c1 : iI ((j : Int) - 1) = (-1) ↔ j = 0 := by rw [km1, iI_eq (by omega) (by omega)]; omega
  have c2 : iI ((j : Int) - 1) = nI (qN A) - 1 ↔ j = qN A := by rw [nI_z, k1, iI_sub, iI_eq (by omega) (by omega)]; omega
  have last : ∀ L R : Int, l63 (leadA A j * (L - R)) → TX7_steadyFlow_J91 (iI ((j : Int) - 1)) (iI z) (lI L) (lI R) r = some (partZ (leadA A j * (L - R)) l z, r) := fun L R hLR => by
    unfold TX7_steadyFlow_J91
    rw [m_lead h hA hn hj, Option.bind_some, nI_z, iI_wide (by have := lead_b hA hj hn; omega), lI_sub, lI_mul, h24, m_part hLR hl hl2 hz, Option.bind_some]
  have mid : ∀ L : Int, l63 (leadA A j * (L - rightH A T l j)) → TX7_steadyFlow_J57 (iI ((j : Int) - 1)) (iI z) (lI L) r = some (partZ (leadA A j * (L - rightH A T l j)) l z, r) := fun L hL => by
    unfold TX7_steadyFlow_J57
    rw [h.1]
    by_cases j1 : j = qN A
    · have er : rightH A T l j = qE1 A * l := by unfold rightH; rw [if_pos j1]
      rw [er] at hL ⊢
      rw [if_pos (c2.mpr j1), g1, Option.bind_some, iI_wide (by omega), h24, lI_mul, last _ _ hL]
    · have er : rightH A T l j = T j := by unfold rightH; rw [if_neg j1]
      rw [er] at hL ⊢
      rw [if_neg (fun q => j1 (c2.mp q)), k1, iI_add, show (j : Int) - 1 + 1 = (j : Int) by omega, gT j (by omega), Option.bind_some, last _ _ hL]
  unfold flowH at hB ⊢
  by_cases j0 : j = 0
  · have el : leftH A T l j = qE0 A * l := by unfold leftH; rw [if_pos j0]
    rw [el] at hB ⊢
    rw [if_pos (c1.mpr j0), g0, Option.bind_some, iI_wide (by omega), h24, lI_mul, mid _ hB]
  · have el : leftH A T l j = T (j - 1) := by unfold leftH; rw [if_neg j0]
    rw [el] at hB ⊢
    have gj := gT (j - 1) (by omega)
    rw [show ((j - 1 : Nat) : Int) = (j : Int) - 1 by omega] at gj
    rw [if_neg (fun q => j0 (c1.mp q)), gj, Option.bind_some, mid _ hB]
theorem a_steadyFlow (hs : okS s) (a1 a2 : Int32) : ∃ v, OX (TX6_steadyFlow a1 a2) s v s ∧ OM (TX7_steadyFlow a1 a2) s v s := by
  obtain ⟨z1, h1, rfl⟩ := i_cases a1
  obtain ⟨z2, h2, rfl⟩ := i_cases a2
  have h8 := ok_n hs.1
  have hA := okS_8 hs
  rcases emn (1 ≤ qN (tA s) ∧ -1 ≤ z1 ∧ z1 < qN (tA s)) with c1 | c1
  · refine ⟨-9223372036854775808, OX_no fun S c => ?_, OM_no fun S c => ?_⟩
    · unfold TX6_steadyFlow
      rw [x_hasJoint c.1 hA h1, Option.bind_some, ite_b, if_neg c1]
    · unfold TX7_steadyFlow
      rw [m_isJoint c.1.1 h8 h1, Option.bind_some, ite_b, if_neg c1]
  rcases emn (z2 = 0 ∨ z2 = 1) with c2 | c2
  · refine ⟨-9223372036854775808, OX_no fun S c => ?_, OM_no fun S c => ?_⟩
    · unfold TX6_steadyFlow
      rw [x_hasJoint c.1 hA h1, Option.bind_some, ite_b, if_pos c1, x_bit h2, Option.bind_some, ite_b, if_neg c2]
    · unfold TX7_steadyFlow
      rw [m_isJoint c.1.1 h8 h1, Option.bind_some, ite_b, if_pos c1, m_bit h2, Option.bind_some, ite_b, if_neg c2]
  obtain ⟨j, hj⟩ := i_nat (z := z1 + 1) (by omega)
  obtain rfl : z1 = (j : Int) - 1 := by omega
  have hn := c1.1
  have hw := wh_N hA
  refine ⟨if 1 ≤ qN (tA s) ∧ 0 < whN (tA s) then partZ (flowH (tA s) (stG (tA s)) (whN (tA s)) j) (whN (tA s)) z2 else -9223372036854775808, fun S cx => ?_, fun S cm => ?_⟩
  · unfold TX6_steadyFlow
    rw [x_hasJoint cx.1 hA h1, Option.bind_some, ite_b, if_pos c1, x_bit h2, Option.bind_some, ite_b, if_pos c2, x_canRest cx.1 hA, Option.bind_some, ite_b]
    by_cases e : 1 ≤ qN (tA s) ∧ 0 < whN (tA s)
    · rw [if_pos e, if_pos e]
      refine wp_bind (x_solve cx.1 hA (by omega) hn) fun r hr => ?_
      obtain ⟨w, ew⟩ := i_nat (z := whN (tA s)) (by omega)
      have hB := flow_B hA (T := stG (tA s)) (l := w) (by omega) (fun i hi => by have := st_B hA hi; omega) (j := j) c1.1 (by omega)
      rw [← ew] at hB
      rw [hr.2.1, x_flow (CB_sx hr.1 (by omega) cx.1) hA (a := 47) (n2 := 8) (T := stG (tA s)) (l := whN (tA s)) (by omega) (by omega) hr.2.2 c1.1 (by omega), Option.bind_some, x_part (by omega) e.2 (by omega) h2, Option.bind_some]
      exact wp_some ⟨rfl, OX_sx cx hr.1⟩
    · rw [if_neg e, if_neg e]
      exact wp_some ⟨rfl, FR_refl, cx⟩
  · unfold TX7_steadyFlow
    rw [m_isJoint cm.1.1 h8 h1, Option.bind_some, ite_b, if_pos c1, m_bit h2, Option.bind_some, ite_b, if_pos c2]
    refine wp_bind (m_std0 cm.1.1 hA) fun r hr => ?_
    obtain ⟨r1, r2, r3, r4⟩ := hr
    rw [whM_n hn] at r3
    by_cases e : 1 ≤ qN (tA s) ∧ 0 < whN (tA s)
    · obtain ⟨w, ew⟩ := i_nat (z := whN (tA s)) (by omega)
      have hB := flow_B hA (T := stG (tA s)) (l := w) (by omega) (fun i hi => by have := st_B hA hi; omega) (j := j) c1.1 (by omega)
      rw [← ew] at hB
      rw [if_neg (fun z => (b2i_z r1).mp z (whM_pos.mpr e)), if_pos e]
      refine wp_eq (m_sflow (MC_st r2 cm.1.1) hA r3 r4 hn (by omega) (by omega) e.2 (by omega) h2) ?_
      exact wp_some ⟨rfl, OM_st cm r2⟩
    · rw [if_pos ((b2i_z r1).mpr (fun z => e (whM_pos.mp z))), if_neg e]
      exact wp_some ⟨rfl, OM_st cm r2⟩
theorem m_hotL {T : Nat → Int} {N : Nat} (h0 : S.1 64 0 = nI N) (hN : N ≤ 8) (hT : ∀ i, i < N → S.2.2.2 82 i = lI (T i)) (hb : ∀ i, i < N → l63 (T i)) : ∀ (m i n : Nat), 1 ≤ i → i + m = N → m + 1 ≤ n → TX7_hottest_L15 n (iI (grt T i)) (nI i) S = some (iI (grt T N), S) := by
  intro m
  induction m with
  | zero =>
    intro i n h1 hi hn
    obtain ⟨n, rfl⟩ : ∃ q, n = q + 1 := ⟨n - 1, by omega⟩
    rw [TX7_hottest_L15, h0, if_pos (by rw [nI_cmp (by omega) (by omega)]; omega), show i = N by omega]
  | succ m ih =>
    intro i n h1 hi hn
    obtain ⟨n, rfl⟩ : ∃ q, n = q + 1 := ⟨n - 1, by omega⟩
    have ih' := ih (i + 1) n (by omega) (by omega) (by omega)
    obtain ⟨g1, g2, -⟩ := grt_B T i h1
    rw [TX7_hottest_L15, h0, if_neg (by rw [nI_cmp (by omega) (by omega)]; omega), nI_1]
    rw [grt] at ih'
    obtain ⟨j, hj⟩ := i_nat (z := grt T i) (by omega)
    rw [hj] at ih' ⊢
    rw [Int.toNat_natCast] at ih'
    rw [← nI_z j, aget_n (by omega) (by omega), Option.bind_some, aget_n (by omega) (by omega), Option.bind_some, hT i (by omega), hT j (by omega)]
    have hbi := hb i (by omega)
    have hbj := hb j (by omega)
    have c2 : lI (T i) ≤ lI (T j) ↔ T i ≤ T j := lI_le (by omega) (by omega)
    by_cases e2 : T i ≤ T j
    · rw [if_pos (c2.mpr e2), nI_z j]
      rw [if_neg (by omega)] at ih'
      exact ih'
    · rw [if_neg (fun z => e2 (c2.mp z)), nI_z i]
      rw [if_pos (by omega)] at ih'
      exact ih'
theorem a_hottest (hs : okS s) : ∃ v, OX TX6_hottest s v s ∧ OM TX7_hottest s v s := by
  have h8 := ok_n hs.1
  have hA := hs.1
  have hB : ∀ i, i < qN (tA s) → l63 (stG (tA s) i) := fun i hi => by have := st_B hA hi; omega
  refine ⟨if 1 ≤ qN (tA s) ∧ 0 < whN (tA s) then iI (grt (stG (tA s)) (qN (tA s))) else -1, fun S cx => ?_, fun S cm => ?_⟩
  · unfold TX6_hottest
    rw [x_canRest cx.1 hA, Option.bind_some, ite_b]
    by_cases e : 1 ≤ qN (tA s) ∧ 0 < whN (tA s)
    · rw [if_pos e, if_pos e]
      refine wp_bind (x_solve cx.1 hA (by omega) e.1) fun r hr => ?_
      rw [(CB_sx hr.1 (by omega) cx.1).1, x_grt (T := stG (tA s)) h8 (by omega) hr.2.2 hB, Option.bind_some]
      exact wp_some ⟨rfl, OX_sx cx hr.1⟩
    · rw [if_neg e, if_neg e]
      exact wp_some ⟨rfl, FR_refl, cx⟩
  · unfold TX7_hottest
    refine wp_bind (m_std0 cm.1.1 hA) fun r hr => ?_
    obtain ⟨r1, r2, r3, r4⟩ := hr
    by_cases e : 1 ≤ qN (tA s) ∧ 0 < whN (tA s)
    · rw [if_neg (fun z => (b2i_z r1).mp z (whM_pos.mpr e)), if_pos e]
      have h1 := m_hotL (T := stG (tA s)) (MC_st r2 cm.1.1).1 h8 r4 hB (qN (tA s) - 1) 1 fu (by omega) (by omega) (by rw [fu_eq]; omega)
      rw [show grt (stG (tA s)) 1 = 0 by simp [grt]] at h1
      exact wp_eq h1 (wp_some ⟨rfl, OM_st cm r2⟩)
    · rw [if_pos ((b2i_z r1).mpr (fun z => e (whM_pos.mp z))), if_neg e]
      exact wp_some ⟨rfl, OM_st cm r2⟩
/-- the reference lays -/
theorem m_lay130 {T : Nat → Int} {g N : Nat} (hN : S.1 64 0 = nI N) (h8 : N ≤ 8) (hT : ∀ i, i < N → S.2.2.2 82 i = lI (T i)) (hb : ∀ i, i < N → l63 (T i)) (hg : 0 < g) (hg2 : g < 9223372036854775808) :
    WP (TX7_lay_L130 fu (lN g) 0 S) (fun r => r.1 = 1 ∧ FR (fun t k _ => t = 3 ∧ k = 69) S r.2 ∧ ∀ i, i < N → r.2.2.2.2 69 i = lI ((T i).tdiv g)) := by
  refine wp_up (F := fun n i s => TX7_lay_L130 n (lN g) (nI i) s) (N := N) (I := fun i s => FR (fun t k _ => t = 3 ∧ k = 69) S s ∧ ∀ q, q < i → s.2.2.2 69 q = lI ((T q).tdiv g)) ?_ ?_ 0 S fu (by omega) ⟨FR_refl, fun q hq => by omega⟩ (by rw [fu_eq]; omega)
  · intro n i s hi ⟨hF, hI⟩ k
    show WP (TX7_lay_L130 (n + 1) (lN g) (nI i) s) _
    rw [TX7_lay_L130, hF.1 64 0 (by omega), hN, if_neg (by rw [nI_cmp (by omega) (by omega)]; omega), aget_n (by omega) (by omega), Option.bind_some, hF.2.2.2 82 (by omega), hT i hi, lI_n g, m_quot (hb i hi) (by omega) (by omega), Option.bind_some, nI_1, ← lI_n]
    refine wp_al (by omega) (by omega) fun S4 G4 d1 d2 d3 d4 d5 => ?_
    refine k S4 ⟨G4 _ _ ⟨rfl, rfl⟩ hF, fun q hq => ?_⟩
    rw [d5 q]
    by_cases e : q = i
    · rw [if_pos e, e]
    · rw [if_neg e]; exact hI q (by omega)
  · intro n s ⟨hF, hI⟩
    show WP (TX7_lay_L130 (n + 1) (lN g) (nI N) s) _
    rw [TX7_lay_L130, hF.1 64 0 (by omega), hN, if_pos (by rw [nI_cmp (by omega) (by omega)]; omega)]
    exact wp_some ⟨rfl, hF, hI⟩
theorem m_lay66 {T : Nat → Int} {g N : Nat} (hN : S.1 64 0 = nI N) (h8 : N ≤ 8) (hT : ∀ i, i < N → S.2.2.2 82 i = lI (T i)) (hb : ∀ i, i < N → l63 (T i)) (hg : 0 < g) (hg2 : g < 9223372036854775808) : ∀ (m i n : Nat) (f : Bool), i + m = N → m + 1 ≤ n →
    TX7_lay_L66 n (lN g) (b2i (f = true)) (nI i) S = if (f = true ∧ bigN (fun i => (T i).tdiv g) m i = -2) then TX7_lay_L66 1 (lN g) 1 (nI N) S else some (-4, S) := by
  intro m
  induction m with
  | zero =>
    intro i n f hi hn
    obtain ⟨n, rfl⟩ : ∃ q, n = q + 1 := ⟨n - 1, by omega⟩
    obtain rfl : i = N := by omega
    cases f
    · rw [if_neg (by simp), TX7_lay_L66, hN, if_pos (by rw [nI_cmp (by omega) (by omega)]; omega), if_pos (show b2i (false = true) = 0 from rfl)]
    · rw [if_pos ⟨rfl, rfl⟩]
      have cc : nI i ≤ nI i := by rw [nI_cmp (by omega) (by omega)]; omega
      show TX7_lay_L66 (n + 1) (lN g) 1 (nI i) S = TX7_lay_L66 (0 + 1) (lN g) 1 (nI i) S
      rw [TX7_lay_L66, TX7_lay_L66, hN, if_pos cc, if_pos cc]
  | succ m ih =>
    intro i n f hi hn
    obtain ⟨n, rfl⟩ : ∃ q, n = q + 1 := ⟨n - 1, by omega⟩
    have i1 := ih (i + 1) n true (by omega) (by omega)
    have i0 := ih (i + 1) n false (by omega) (by omega)
    rw [show b2i (true = true) = 1 from rfl] at i1
    rw [show b2i (false = true) = 0 from rfl, if_neg (by simp)] at i0
    rw [TX7_lay_L66, hN, if_neg (by rw [nI_cmp (by omega) (by omega)]; omega), nI_1]
    cases f
    · rw [if_pos (show b2i (false = true) = 0 from rfl), i0, if_neg (by simp)]
    · have hq : ((T i).tdiv g).natAbs ≤ (T i).natAbs := by
        rw [Int.natAbs_tdiv]
        exact Nat.div_le_self _ _
      have hbi := hb i (by omega)
      rw [if_neg (by decide), aget_n (by omega) (by omega), Option.bind_some, hT i (by omega), lI_n g, m_quot hbi (by omega) (by omega), Option.bind_some, abs_l (by omega), Option.bind_some, L12, ← lI_n g, i1, i0, bigN]
      have c : lN 1000000000000 < lN ((T i).tdiv g).natAbs ↔ ¬ ((T i).tdiv g).natAbs ≤ 1000000000000 := by
        rw [lI_n, lI_n, lI_lt (by omega) (by omega)]
        omega
      by_cases e : ((T i).tdiv g).natAbs ≤ 1000000000000
      · rw [if_neg (fun z => c.mp z e)]
        simp only [if_pos e]
      · rw [if_pos (c.mpr e)]
        simp only [if_neg e]
        rw [if_neg (by omega)]
theorem m_lay19 {T : Nat → Int} {l N : Nat} (hN : S.1 64 0 = nI N) (h8 : N ≤ 8) (h24 : S.2.1 64 24 = lN l) (hT : ∀ i, i < N → S.2.2.2 82 i = lI (T i)) (hb : ∀ i, i < N → l63 (T i)) (hl : 0 < l) (hl2 : l < 9223372036854775808) : ∀ (m i n : Nat), i + m = N → m + 1 ≤ n →
    TX7_lay_L19 n (lN (gcdN T l i)) (nI i) S = TX7_lay_L66 fu (lN (gcdN T l N)) (b2i (redL T l N ≤ 1000000000000)) 0 S := by
  intro m
  induction m with
  | zero =>
    intro i n hi hn
    obtain ⟨n, rfl⟩ : ∃ q, n = q + 1 := ⟨n - 1, by omega⟩
    have g1 := gcdN_le (T := T) hl N
    have g0 := gcdN_pos (T := T) hl N
    have hr : redL T l N ≤ l := Nat.div_le_self _ _
    rw [TX7_lay_L19, hN, if_pos (by rw [nI_cmp (by omega) (by omega)]; omega), show i = N by omega, h24, lI_n l, lI_n (gcdN T l N), m_quot (by omega) (by omega) (by omega), Option.bind_some, ← Int.ofNat_tdiv, ← lI_n, ← lI_n, L12, show l / gcdN T l N = redL T l N from rfl]
    have c : lN 1000000000000 < lN (redL T l N) ↔ ¬ redL T l N ≤ 1000000000000 := by
      rw [lI_n, lI_n, lI_lt (by omega) (by omega)]
      omega
    unfold TX7_lay_J62
    by_cases e : redL T l N ≤ 1000000000000
    · rw [if_neg (fun z => c.mp z e), b2i_t e]
    · rw [if_pos (c.mpr e), b2i_f e]
  | succ m ih =>
    intro i n hi hn
    obtain ⟨n, rfl⟩ : ∃ q, n = q + 1 := ⟨n - 1, by omega⟩
    have g1 := gcdN_le (T := T) hl i
    rw [TX7_lay_L19, hN, if_neg (by rw [nI_cmp (by omega) (by omega)]; omega), aget_n (by omega) (by omega), Option.bind_some, hT i (by omega), lI_n (gcdN T l i), m_gcd (hb i (by omega)) (by omega), Option.bind_some, nI_1, Int.gcd_comm]
    exact ih (i + 1) n (by omega) (by omega)
theorem pTk_X : ∀ t k j, (pSx t k j ∨ pTk 1 47 t k j) → pXs t k j ∨ 64 ≤ k ∨ (1 ≤ k ∧ k ≤ 15) := fun t k j h => by unfold pSx pTk at h; unfold pXs; omega
def pLy (t k j : Nat) : Prop := pSt t k j ∨ (t = 1 ∧ k = 64 ∧ j = 6) ∨ (t = 3 ∧ k = 69)
theorem a_lay (hs : okS s) : ∃ v s', okS s' ∧ OX TX6_lay s v s' ∧ OM TX7_lay s v s' := by
  have h8 := ok_n hs.1
  have hA := hs.1
  have hw := wh_N hA
  have hB : ∀ i, i < qN (tA s) → l63 (stG (tA s) i) := fun i hi => by have := st_B hA hi; omega
  by_cases e : 1 ≤ qN (tA s) ∧ 0 < whN (tA s)
  · obtain ⟨w, ew⟩ := i_nat (z := whN (tA s)) (by omega)
    have hw0 : 0 < w := by omega
    have hB2 := takeC_B (T := stG (tA s)) (l := w) (n := qN (tA s))
    have xl : ∀ S, CX S s → WP (TX6_lay S) (fun r => r.1 = (if takeC (stG (tA s)) w (qN (tA s)) = -2 then 1 else -4) ∧ FR pX S r.2 ∧ CX r.2 (if takeC (stG (tA s)) w (qN (tA s)) = -2 then setH (tA s) (redT (stG (tA s)) w (qN (tA s))) (redL (stG (tA s)) w (qN (tA s))) else tA s, s.2)) := fun S cx => by
      unfold TX6_lay
      rw [x_canRest cx.1 hA, Option.bind_some, ite_b, if_pos e]
      refine wp_bind (x_solve cx.1 hA (by omega) e.1) fun r hr => ?_
      rw [hr.2.1, ew, ← lI_n]
      refine wp_bind (x_take (T := stG (tA s)) (l := w) (a := 47) (CB_sx hr.1 (by omega) cx.1) h8 (by omega) hr.2.2 hB hw0 (by omega)) fun q hq => ?_
      obtain ⟨q1, q2, q3⟩ := hq
      have F : FR (fun t k j => pSx t k j ∨ pTk 1 47 t k j) S q.2 := FR_trans (FR_mono hr.1 (fun _ _ _ z => Or.inl z)) (FR_mono q2 (fun _ _ _ z => Or.inr z))
      have FX : FR pX S q.2 := FR_mono F (fun t k j z => by unfold pSx pTk at z; unfold pX; omega)
      have c : q.1 = -2 ↔ takeC (stG (tA s)) w (qN (tA s)) = -2 := by rw [q1, m2, iI_eq (by omega) (by omega)]
      by_cases e2 : takeC (stG (tA s)) w (qN (tA s)) = -2
      · rw [if_pos (c.mpr e2), if_pos e2, if_pos e2]
        rw [if_pos e2] at q3
        exact wp_some ⟨rfl, FX, CX_bar F pTk_X cx q3⟩
      · rw [if_neg (fun z => e2 (c.mp z)), if_neg e2, if_neg e2]
        rw [if_neg e2] at q3
        exact wp_some ⟨rfl, FX, CX_bar F pTk_X cx q3⟩
    have ml : ∀ S, CM S s → ∃ r : SS, FR pSt S r ∧ r.2.1 64 24 = lN w ∧ (∀ i, i < qN (tA s) → r.2.2.2 82 i = lI (stG (tA s) i)) ∧ r.1 64 0 = nI (qN (tA s)) ∧ TX7_lay S = if takeC (stG (tA s)) w (qN (tA s)) = -2 then TX7_lay_L66 1 (lN (gcdN (stG (tA s)) w (qN (tA s)))) 1 (nI (qN (tA s))) r else some (-4, r) := fun S cm => by
      obtain ⟨r, er, r1, r2, r3, r4⟩ := m_std0 cm.1.1 hA
      rw [whM_n e.1, ew, ← lI_n] at r3
      have r5 := (MC_st r2 cm.1.1).1
      refine ⟨r.2, r2, r3, r4, r5, ?_⟩
      have g0 := gcdN_pos (T := stG (tA s)) hw0 (qN (tA s))
      have g1 := gcdN_le (T := stG (tA s)) hw0 (qN (tA s))
      have e1 := m_lay19 (T := stG (tA s)) r5 h8 r3 r4 hB hw0 (by omega) (qN (tA s)) 0 fu (by omega) (by rw [fu_eq]; omega)
      have e2 := m_lay66 (T := stG (tA s)) r5 h8 r4 hB g0 (by omega) (qN (tA s)) 0 fu (decide (redL (stG (tA s)) w (qN (tA s)) ≤ 1000000000000)) (by omega) (by rw [fu_eq]; omega)
      unfold TX7_lay
      rw [er, Option.bind_some, if_neg (fun z => (b2i_z r1).mp z (whM_pos.mpr e)), r3]
      rw [show gcdN (stG (tA s)) w 0 = w from rfl, show nI 0 = 0 from rfl] at e1
      rw [e1]
      have cv : b2i (decide (redL (stG (tA s)) w (qN (tA s)) ≤ 1000000000000) = true) = b2i (redL (stG (tA s)) w (qN (tA s)) ≤ 1000000000000) := b2i_congr (by simp)
      rw [cv, show nI 0 = 0 from rfl] at e2
      rw [e2]
      unfold takeC
      by_cases d : redL (stG (tA s)) w (qN (tA s)) ≤ 1000000000000
      · rw [if_pos d]
        have : bigN (redT (stG (tA s)) w (qN (tA s))) (qN (tA s)) 0 = bigN (fun i => (stG (tA s) i).tdiv (gcdN (stG (tA s)) w (qN (tA s)))) (qN (tA s)) 0 := rfl
        rw [this]
        simp [d]
      · rw [if_neg d]
        simp [d]
    by_cases e2 : takeC (stG (tA s)) w (qN (tA s)) = -2
    · have hr : redL (stG (tA s)) w (qN (tA s)) ≤ 1000000000000 := by
        by_cases hr : redL (stG (tA s)) w (qN (tA s)) ≤ 1000000000000
        · exact hr
        · unfold takeC at e2
          rw [if_neg hr] at e2
          omega
      have eC : bigN (redT (stG (tA s)) w (qN (tA s))) (qN (tA s)) 0 = -2 := by
        unfold takeC at e2
        rw [if_pos hr] at e2
        exact e2
      refine ⟨1, (setH (tA s) (redT (stG (tA s)) w (qN (tA s))) (redL (stG (tA s)) w (qN (tA s))), s.2), okS_bar hs (ok_setH hA (by omega) (redL_pos hw0) hr fun i hi => ?_), fun S cx => ?_, fun S cm => ?_⟩
      · have := bigN_ok (qN (tA s)) 0 eC i (by omega) (by omega)
        omega
      · have := xl S cx
        rw [if_pos e2, if_pos e2] at this
        exact this
      · obtain ⟨r, F, r3, r4, r5, er⟩ := ml S cm
        rw [if_pos e2] at er
        have g0 := gcdN_pos (T := stG (tA s)) hw0 (qN (tA s))
        have g1 := gcdN_le (T := stG (tA s)) hw0 (qN (tA s))
        rw [er, TX7_lay_L66, r5, if_pos (by rw [nI_cmp (by omega) (by omega)]; omega), if_neg (by decide), r3, lI_n w, lI_n (gcdN (stG (tA s)) w (qN (tA s))), m_quot (by omega) (by omega) (by omega), Option.bind_some, ← Int.ofNat_tdiv, ← lI_n, ← lI_n]
        refine wp_fl fun S4 G4 d1 d2 d3 d4 d5 => ?_
        have F4 : FR pLy S S4 := G4 _ _ (by unfold pLy; omega) (FR_mono F (fun _ _ _ z => Or.inl z))
        refine wp_mono (m_lay130 (T := stG (tA s)) (N := qN (tA s)) (by rw [d3]; exact r5) h8 (fun i hi => by rw [d5]; exact r4 i hi) hB g0 (by omega)) fun q hq => ?_
        obtain ⟨q1, q2, q3⟩ := hq
        have F5 : FR pLy S q.2 := FR_trans F4 (FR_mono q2 (fun t k j z => by unfold pLy; omega))
        refine ⟨q1, FR_mono F5 (fun t k j z => by unfold pLy pSt at z; unfold pM; omega), CM_bar F5 (fun t k j z => z.elim (fun y => Or.inl (pSt_s _ _ _ y)) (fun y => Or.inr (Or.inr (by unfold pMb; omega)))) cm ?_⟩
        refine ⟨MC_fr F5 (by unfold pLy pSt; omega) (fun k h1 h2 => by unfold pLy pSt; omega) cm.1.1, ?_, ?_, fun i hi => ?_, fun p hp => ?_⟩
        · rw [q2.2.1 64 6 (by omega), d1]
          rfl
        · rw [F5.1 64 9 (by unfold pLy pSt; omega)]
          exact cm.1.2.2.1
        · rw [q3 i hi]
          rfl
        · rw [F5.2.2.1 72 (by unfold pLy pSt; omega), F5.2.2.1 (72 + 1) (by unfold pLy pSt; omega), F5.2.2.1 (72 + 2) (by unfold pLy pSt; omega)]
          exact cm.1.2.2.2.2 p hp
    · refine ⟨-4, s, hs, fun S cx => ?_, fun S cm => ?_⟩
      · have := xl S cx
        rw [if_neg e2, if_neg e2] at this
        exact this
      · obtain ⟨r, F, r3, r4, r5, er⟩ := ml S cm
        rw [if_neg e2] at er
        exact wp_eq er (wp_some ⟨rfl, OM_st cm F⟩)
  · refine ⟨-3, s, hs, fun S cx => ?_, fun S cm => ?_⟩
    · unfold TX6_lay
      rw [x_canRest cx.1 hA, Option.bind_some, ite_b, if_neg e]
      exact wp_some ⟨rfl, FR_refl, cx⟩
    · unfold TX7_lay
      refine wp_bind (m_std0 cm.1.1 hA) fun r hr => ?_
      obtain ⟨r1, r2, r3, r4⟩ := hr
      rw [if_pos ((b2i_z r1).mpr (fun z => e (whM_pos.mp z)))]
      exact wp_some ⟨rfl, OM_st cm r2⟩
end PUB6
