/-! Texts: the reference reads and does clauses; call: text. -/
def pTn (t k j : Nat) : Prop := pTr t k j ∨ (t = 2 ∧ k = 87)
def pTc (t k j : Nat) : Prop := pTn t k j ∨ (t = 0 ∧ k = 64 ∧ j = 36)
theorem pTr_n : ∀ t k j, pTr t k j → pTn t k j := fun _ _ _ h => Or.inl h
theorem pTr_c : ∀ t k j, pTr t k j → pTc t k j := fun _ _ _ h => Or.inl (Or.inl h)
theorem pTn_c : ∀ t k j, pTn t k j → pTc t k j := fun _ _ _ h => Or.inl h
theorem pTc_s : ∀ t k j, pTc t k j → pMs t k j := fun t k j h => by unfold pTc pTn pTr at h; unfold pMs; omega
/-- what stands behind a clause -/
def bhS (B : Nat → Nat) (z b : Nat) (r : Int32 × SS) : Prop := (z ≤ b → r.1 = 1 ∧ r.2.1 64 33 = 0) ∧ (b < z → B b = 59 → r.1 = 1 ∧ r.2.1 64 33 = 3 ∧ r.2.1 64 31 = nI (b + 1)) ∧ (b < z → B b ≠ 59 → r.1 = 0 ∧ r.2.1 64 32 = nI b)
section MTX
variable {B : Nat → Nat} {z : Nat} {S : SS} {s : ST}
theorem tpM_c {S' : SS} (h : FR pTc S S') (c : tpM B z S) : tpM B z S' := tpM_fr' h (by unfold pTc pTn pTr; omega) (fun k _ _ => by unfold pTc pTn pTr; omega) c
theorem tpM_b {S' : SS} (h : FR pMb S S') (c : tpM B z S) : tpM B z S' := tpM_fr' h (by unfold pMb; omega) (fun k _ _ => by unfold pMb; omega) c
theorem m_ns (hz : z ≤ 60) (hB : ∀ q, q < z → B q ≤ 255) {w : Nat} {l1 : Int32} (hw : w < 8) : ∀ (m k a n : Nat) (S : SS) (v : Nat → Int32), k + m = nb w → m + 1 ≤ n → a ≤ z → tpM B z S → S.1 64 31 = nI a → (∀ j, j < k → S.2.2.1 87 j = v j) →
    ∃ S', FR pTn S S' ∧ ((∃ f, nsP B z m k a v = .inl f ∧ S'.1 64 32 = nI f ∧ TX7_isClause_L21 n l1 (nI w) (nI k) S = some (0, S')) ∨ ∃ v' a' n', nsP B z m k a v = .inr (v', a') ∧ S'.1 64 31 = nI a' ∧ (∀ j, j < nb w → S'.2.2.1 87 j = v' j) ∧ TX7_isClause_L21 n l1 (nI w) (nI k) S = TX7_isClause_L21 (n' + 1) l1 (nI w) (nI (nb w)) S') := by
  have hn4 := (wl_B w hw).2.2
  intro m
  induction m with
  | zero =>
    intro k a n S v hk hn ha hT h31 hv
    obtain ⟨n, rfl⟩ : ∃ q, n = q + 1 := ⟨n - 1, by omega⟩
    obtain rfl : k = nb w := by omega
    exact ⟨S, FR_refl, Or.inr ⟨v, a, n, rfl, h31, hv, rfl⟩⟩
  | succ m ih =>
    intro k a n S v hk hn ha hT h31 hv
    obtain ⟨n, rfl⟩ : ∃ q, n = q + 1 := ⟨n - 1, by omega⟩
    have hs := sk_B (B := B) ha
    have ht := nuT_B (B := B) hs.2
    obtain ⟨q, eq, F, t, t1, t2, t3, t4, t5, t6, t7, t8⟩ := m_reads hz hB ha hT h31
    rw [TX7_isClause_L21, aget_n hw (by omega), Option.bind_some, hT.2.2.2 w hw, if_neg (by rw [nI_cmp (by omega) (by omega)]; omega), eq, Option.bind_some, nsP, t2]
    by_cases e : nuF B z (sk B z a) < nuT B z (sk B z a) ∧ nuT B z (sk B z a) ≤ nuF B z (sk B z a) + 3
    · have et : t = 2 := t6.mpr e
      obtain ⟨t9, t10⟩ := t7 et
      rw [if_pos e, if_pos (by rw [et]; rfl), if_pos (iI_in (show k < 4 by omega) (by omega)), iI_nat k (by omega), letS_e, t9, nI_1]
      have F2 : FR pTn S (sAI q 87 k (nuV B z (sk B z a))) := FR_AI (FR_mono F pTr_n) (Or.inr ⟨rfl, rfl⟩)
      obtain ⟨S', F3, h⟩ := ih (k + 1) (nuT B z (sk B z a)) n (sAI q 87 k (nuV B z (sk B z a))) (va_up v k (nuV B z (sk B z a))) (by omega) (by omega) ht.2 (tpM_c (FR_mono F2 pTn_c) hT) t10 (fun j hj => by
        simp only [up2_s]
        by_cases ej : j = k
        · rw [ej, va_up_s, va_up_s]
        · rw [va_up_n _ _ ej, va_up_n _ _ ej, F.2.2.1 87 (by unfold pTr; omega)]
          exact hv j (by omega))
      exact ⟨S', FR_trans F2 F3, h⟩
    · have et : t ≠ 2 := fun y => e (t6.mp y)
      rw [if_neg e, if_neg (by rw [show (2 : Int32) = nI 2 from rfl, nI_eq (by omega) (by omega)]; exact et)]
      exact ⟨q, FR_mono F pTr_n, Or.inl ⟨_, rfl, t1, rfl⟩⟩
theorem m_J83 (hz : z ≤ 60) (hB : ∀ q, q < z → B q ≤ 255) {a : Nat} {s0 s1 : Int32} (ha : a ≤ z) (hT : tpM B z S) (h31 : S.1 64 31 = nI a) : WP (TX7_isClause_J83 s0 s1 S) (fun r => FR pTc S r.2 ∧ r.2.1 64 36 = s1 + s0 ∧ bhS B z (sk B z a) r) := by
  unfold TX7_isClause_J83
  refine wp_fi fun S1 G1 a1 a2 a3 a4 a5 => ?_
  have F1 : FR pTc S S1 := G1 _ _ (Or.inr ⟨rfl, rfl, rfl⟩) FR_refl
  refine wp_bind (m_reads hz hB ha (tpM_c F1 hT) (by rw [a2 64 31 (by omega)]; exact h31)) fun q hq => ?_
  obtain ⟨F2, t, t1, t2, t3, t4, t5, t6, t7, t8, t9, t10⟩ := hq
  have F := FR_trans F1 (FR_mono F2 pTr_c)
  have h36 : q.1 64 36 = s1 + s0 := by rw [F2.1 64 36 (by unfold pTr; omega)]; exact a1
  rw [t2]
  by_cases c0 : t = 0
  · rw [if_pos (by rw [c0]; rfl)]
    refine wp_some ⟨F, h36, fun _ => ⟨rfl, ?_⟩, fun h => ?_, fun h => ?_⟩
    · rw [t2, c0]; rfl
    · have := t8.mp c0; omega
    · have := t8.mp c0; omega
  · rw [if_neg (by rw [show (0 : Int32) = nI 0 from rfl, nI_eq (by omega) (by omega)]; exact c0)]
    by_cases c3 : t = 3
    · rw [if_pos (by rw [c3]; rfl)]
      refine wp_some ⟨F, h36, fun h => ?_, fun _ _ => ⟨rfl, ?_, t10 c3⟩, fun _ h => absurd (t9.mp c3).2 h⟩
      · exact absurd (t8.mpr h) c0
      · rw [t2, c3]; rfl
    · rw [if_neg (by rw [show (3 : Int32) = nI 3 from rfl, nI_eq (by omega) (by omega)]; exact c3)]
      exact wp_some ⟨F, h36, fun h => absurd (t8.mpr h) c0, fun h1 h2 => absurd (t9.mpr ⟨h1, h2⟩) c3, fun _ _ => ⟨rfl, t1⟩⟩
/-- a clause's word -/
theorem m_cw (hz : z ≤ 60) (hB : ∀ q, q < z → B q ≤ 255) {a : Nat} {l1 : Int32} (ha : a ≤ z) (hT : tpM B z S) (h31 : S.1 64 31 = nI a) :
    ∃ S', FR pTn S S' ∧ ((∃ f, clP B z a = .inl f ∧ S'.1 64 32 = nI f ∧ TX7_isClause l1 S = some (0, S')) ∨ ∃ v a' n', clP B z a = .inr (v, a') ∧ S'.1 64 31 = nI a' ∧ (∀ j, j < nb (clW B z a) → S'.2.2.1 87 j = v j) ∧ TX7_isClause l1 S = TX7_isClause_L21 (n' + 1) l1 (nI (clW B z a)) (nI (nb (clW B z a))) S') := by
  have hs := sk_B (B := B) ha
  have hl := ltE_B (B := B) hs.2
  obtain ⟨q, eq, F, t, t1, t2, t3, t4, t5, t6⟩ := m_reads hz hB ha hT h31
  unfold TX7_isClause clP clW
  rw [eq, Option.bind_some, t2]
  by_cases e : wd B z (sk B z a) < 8
  · have et : t = 1 := t4.mpr e
    obtain ⟨t7, t8⟩ := t5 et
    rw [if_pos e, if_pos (by rw [et]; rfl), t7]
    obtain ⟨S', F2, h⟩ := m_ns (l1 := l1) hz hB e (nb (wd B z (sk B z a))) 0 (ltE B z (sk B z a)) fu q (fun _ => 0) (by omega) (by have := (wl_B _ e).2.2; rw [fu_eq]; omega) hl.2 (tpM_fr F hT) t8 (fun j hj => by omega)
    exact ⟨S', FR_trans (FR_mono F pTr_n) F2, h⟩
  · have et : t ≠ 1 := fun y => e (t4.mp y)
    rw [if_neg e, if_neg (by rw [show (1 : Int32) = nI 1 from rfl, nI_eq (by omega) (by omega)]; exact et)]
    exact ⟨q, FR_mono F pTr_n, Or.inl ⟨_, rfl, t1, rfl⟩⟩
theorem m_cl0 (hz : z ≤ 60) (hB : ∀ q, q < z → B q ≤ 255) {a : Nat} (ha : a ≤ z) (hT : tpM B z S) (h31 : S.1 64 31 = nI a) :
    WP (TX7_isClause 0 S) (fun r => FR pTc S r.2 ∧ ((∃ f, clP B z a = .inl f ∧ r.1 = 0 ∧ r.2.1 64 32 = nI f) ∨ ∃ v a', clP B z a = .inr (v, a') ∧ bhS B z (sk B z a') r)) := by
  obtain ⟨S', F, h⟩ := m_cw (l1 := 0) hz hB ha hT h31
  have T' := tpM_c (FR_mono F pTn_c) hT
  rcases h with ⟨f, e1, e2, e3⟩ | ⟨v, a', n', e1, e2, e3, e4⟩
  · exact wp_eq e3 (wp_some ⟨FR_mono F pTn_c, Or.inl ⟨f, e1, rfl, e2⟩⟩)
  · obtain ⟨c1, c2, c3⟩ := (clP_B (B := B) ha).2 v a' e1
    have hn4 := (wl_B _ c1).2.2
    refine wp_eq e4 ?_
    rw [TX7_isClause_L21, aget_n c1 (by omega), Option.bind_some, T'.2.2.2 _ c1, if_pos (by rw [nI_cmp (by omega) (by omega)]; omega), if_pos rfl]
    exact wp_mono (m_J83 hz hB c3 T' e2) fun r hr => ⟨FR_trans (FR_mono F pTn_c) hr.1, Or.inr ⟨v, a', e1, hr.2.2⟩⟩
theorem m_cl1 (hz : z ≤ 60) (hB : ∀ q, q < z → B q ≤ 255) {a a' cnt : Nat} {v : Nat → Int32} (ha : a ≤ z) (hT : tpM B z S) (h31 : S.1 64 31 = nI a) (hs : okS s) (cm : CM S s) (h36 : S.1 64 36 = nI cnt) (hc : clP B z a = .inr (v, a')) :
    WP (TX7_isClause 1 S) (fun r => FR pM S r.2 ∧ tpM B z r.2 ∧ CM r.2 ((exC s (clW B z a) v).2, s.2) ∧ r.2.1 64 36 = nI (cnt + (if (exC s (clW B z a) v).1 = true then 1 else 0)) ∧ bhS B z (sk B z a') r) := by
  obtain ⟨S', F, h⟩ := m_cw (l1 := 1) hz hB ha hT h31
  have T' := tpM_c (FR_mono F pTn_c) hT
  have FM : FR pM S S' := FR_mono F (fun _ _ _ y => pMs_M _ _ _ (pTc_s _ _ _ (pTn_c _ _ _ y)))
  have cm' : CM S' s := CM_frs (FR_mono F (fun _ _ _ y => pTc_s _ _ _ (pTn_c _ _ _ y))) cm
  have g36 : S'.1 64 36 = nI cnt := by rw [F.1 64 36 (by unfold pTn pTr; omega)]; exact h36
  rcases h with ⟨f, e1, e2, e3⟩ | ⟨v', x', n', e1, e2, e3, e4⟩
  · rw [hc] at e1
    cases e1
  · rw [hc] at e1
    cases e1
    obtain ⟨c1, c2, c3⟩ := (clP_B (B := B) ha).2 v a' hc
    have hn4 := (wl_B _ c1).2.2
    have hx := exC_ok (v := v) hs c1
    refine wp_eq e4 ?_
    rw [TX7_isClause_L21, aget_n c1 (by omega), Option.bind_some, T'.2.2.2 _ c1, if_pos (by rw [nI_cmp (by omega) (by omega)]; omega), if_neg (by decide), g36]
    refine wp_bind (hx.2.2 S' cm' e3) fun q hq => ?_
    obtain ⟨q1, q2, q3⟩ := hq
    have Tq := tpM_b q2 T'
    have h31q : q.2.1 64 31 = nI a' := by rw [q2.1 64 31 (by unfold pMb; omega)]; exact e2
    have rest : ∀ d : Nat, WP (TX7_isClause_J83 (nI d) (nI cnt) q.2) (fun r => FR pM S r.2 ∧ tpM B z r.2 ∧ CM r.2 ((exC s (clW B z a) v).2, s.2) ∧ r.2.1 64 36 = nI (cnt + d) ∧ bhS B z (sk B z a') r) := fun d => by
      refine wp_mono (m_J83 hz hB c3 Tq h31q) fun r hr => ⟨?_, tpM_c hr.1 Tq, CM_frs (FR_mono hr.1 pTc_s) q3, ?_, hr.2.2⟩
      · exact FR_trans FM (FR_trans (FR_mono q2 pMb_M) (FR_mono hr.1 (fun _ _ _ y => pMs_M _ _ _ (pTc_s _ _ _ y))))
      · rw [hr.2.1, nI_add]
    by_cases d : (exC s (clW B z a) v).1 = true
    · rw [if_neg (fun y => (b2i_z q1).mp y d), if_pos d]
      exact rest 1
    · rw [if_pos ((b2i_z q1).mpr d), if_neg d]
      exact rest 0
theorem m_tx0 (hz : z ≤ 60) (hB : ∀ q, q < z → B q ≤ 255) : ∀ (m a n : Nat) (S : SS), a ≤ z → z + 1 ≤ a + 5 * m → m + 1 ≤ n → tpM B z S → S.1 64 31 = nI a →
    WP ((TX7_isClause 0 S).bind fun q => TX7_isText_L16 n 0 q.1 q.2) (fun r => FR pTc S r.2 ∧ ((∃ f, txP B z m a = .inl f ∧ r.1 = 0 ∧ r.2.1 64 32 = nI f) ∨ ∃ l, txP B z m a = .inr l ∧ r.1 = 1)) := by
  intro m
  induction m with
  | zero =>
    intro a n S ha hm
    omega
  | succ m ih =>
    intro a n S ha hm hn hT h31
    obtain ⟨n, rfl⟩ : ∃ q, n = q + 1 := ⟨n - 1, by omega⟩
    refine wp_bind (m_cl0 hz hB ha hT h31) fun r hr => ?_
    obtain ⟨F, hr⟩ := hr
    rw [TX7_isText_L16]
    rcases hr with ⟨f, e1, e2, e3⟩ | ⟨v, a', e1, b1, b2, b3⟩
    · rw [if_pos e2, e2]
      refine wp_some ⟨F, Or.inl ⟨f, ?_, rfl, e3⟩⟩
      simp only [txP, e1]
    · obtain ⟨c1, c2, c3⟩ := (clP_B (B := B) ha).2 v a' e1
      have hs := sk_B (B := B) c3
      by_cases d1 : z ≤ sk B z a'
      · obtain ⟨y1, y2⟩ := b1 d1
        rw [if_neg (by rw [y1]; decide), if_neg (by rw [y2]; decide), y1]
        refine wp_some ⟨F, Or.inr ⟨[(clW B z a, v)], ?_, rfl⟩⟩
        simp only [txP, e1, if_pos d1]
      · by_cases d2 : B (sk B z a') = 59
        · obtain ⟨y1, y2, y3⟩ := b2 (by omega) d2
          rw [if_neg (by rw [y1]; decide), if_pos y2]
          refine wp_mono (ih (sk B z a' + 1) n r.2 (by omega) (by omega) (by omega) (tpM_c F hT) y3) fun u hu => ⟨FR_trans F hu.1, ?_⟩
          rcases hu.2 with ⟨f, x1, x2, x3⟩ | ⟨l, x1, x2⟩
          · refine Or.inl ⟨f, ?_, x2, x3⟩
            simp only [txP, e1, if_neg d1, if_pos d2, x1]
          · refine Or.inr ⟨(clW B z a, v) :: l, ?_, x2⟩
            simp only [txP, e1, if_neg d1, if_pos d2, x1]
        · obtain ⟨y1, y2⟩ := b3 (by omega) d2
          rw [if_pos y1, y1]
          refine wp_some ⟨F, Or.inl ⟨sk B z a', ?_, rfl, y2⟩⟩
          simp only [txP, e1, if_neg d1, if_neg d2]
theorem m_tx1 (hz : z ≤ 60) (hB : ∀ q, q < z → B q ≤ 255) : ∀ (m a n cnt : Nat) (S : SS) (s : ST) (l : List CL), a ≤ z → txP B z m a = .inr l → m + 1 ≤ n → tpM B z S → S.1 64 31 = nI a → okS s → CM S s → S.1 64 36 = nI cnt →
    WP ((TX7_isClause 1 S).bind fun q => TX7_isText_L16 n 1 q.1 q.2) (fun r => FR pM S r.2 ∧ r.2.1 64 36 = nI (cnt + (exL l s).1) ∧ CM r.2 (exL l s).2) := by
  intro m
  induction m with
  | zero =>
    intro a n cnt S s l ha h
    rw [txP] at h
    cases h
  | succ m ih =>
    intro a n cnt S s l ha h hn hT h31 hs cm h36
    obtain ⟨n, rfl⟩ : ∃ q, n = q + 1 := ⟨n - 1, by omega⟩
    rcases hc : clP B z a with f | ⟨v, a'⟩
    · simp only [txP, hc] at h
      cases h
    · obtain ⟨c1, c2, c3⟩ := (clP_B (B := B) ha).2 v a' hc
      have hsk := sk_B (B := B) c3
      refine wp_bind (m_cl1 hz hB ha hT h31 hs cm h36 hc) fun r hr => ?_
      obtain ⟨F, Tr, cr, g36, b1, b2, b3⟩ := hr
      rw [TX7_isText_L16]
      by_cases d1 : z ≤ sk B z a'
      · simp only [txP, hc, if_pos d1] at h
        cases h
        obtain ⟨y1, y2⟩ := b1 d1
        rw [if_neg (by rw [y1]; decide), if_neg (by rw [y2]; decide), y1]
        exact wp_some ⟨F, g36, cr⟩
      · by_cases d2 : B (sk B z a') = 59
        · obtain ⟨y1, y2, y3⟩ := b2 (by omega) d2
          simp only [txP, hc, if_neg d1, if_pos d2] at h
          rcases ht : txP B z m (sk B z a' + 1) with f | l'
          · rw [ht] at h
            cases h
          · rw [ht] at h
            cases h
            rw [if_neg (by rw [y1]; decide), if_pos y2]
            refine wp_mono (ih (sk B z a' + 1) n _ r.2 _ l' (by omega) ht (by omega) Tr y3 (exC_ok (v := v) hs c1).1 cr g36) fun u hu => ⟨FR_trans F hu.1, ?_, hu.2.2⟩
            rw [hu.2.1, exL, Nat.add_assoc]
        · simp only [txP, hc, if_neg d1, if_neg d2] at h
          cases h
theorem m_isT0 (hz : z ≤ 60) (hB : ∀ q, q < z → B q ≤ 255) (hT : tpM B z S) : WP (TX7_isText 0 S) (fun r => FR pTc S r.2 ∧ ((∃ f, txP B z 60 0 = .inl f ∧ r.1 = 0 ∧ r.2.1 64 32 = nI f) ∨ ∃ l, txP B z 60 0 = .inr l ∧ r.1 = 1)) := by
  unfold TX7_isText
  refine wp_fi fun S1 G1 a1 a2 a3 a4 a5 => ?_
  refine wp_fi fun S2 G2 b1 b2 b3 b4 b5 => ?_
  have F : FR pTc S S2 := G2 _ _ (Or.inr ⟨rfl, rfl, rfl⟩) (G1 _ _ (by unfold pTc pTn pTr; omega) FR_refl)
  exact wp_mono (m_tx0 hz hB 60 0 fu S2 (by omega) (by omega) (by rw [fu_eq]; omega) (tpM_c F hT) (by rw [b2 64 31 (by omega)]; exact a1)) fun r hr => ⟨FR_trans F hr.1, hr.2⟩
theorem m_isT1 (hz : z ≤ 60) (hB : ∀ q, q < z → B q ≤ 255) (hT : tpM B z S) (hs : okS s) (cm : CM S s) {l : List CL} (hl : txP B z 60 0 = .inr l) : WP (TX7_isText 1 S) (fun r => FR pM S r.2 ∧ r.2.1 64 36 = nI (exL l s).1 ∧ CM r.2 (exL l s).2) := by
  unfold TX7_isText
  refine wp_fi fun S1 G1 a1 a2 a3 a4 a5 => ?_
  refine wp_fi fun S2 G2 b1 b2 b3 b4 b5 => ?_
  have F : FR pTc S S2 := G2 _ _ (Or.inr ⟨rfl, rfl, rfl⟩) (G1 _ _ (by unfold pTc pTn pTr; omega) FR_refl)
  refine wp_mono (m_tx1 hz hB 60 0 fu 0 S2 s l (by omega) hl (by rw [fu_eq]; omega) (tpM_c F hT) (by rw [b2 64 31 (by omega)]; exact a1) hs (CM_frs (FR_mono F pTc_s) cm) b1) fun r hr => ⟨FR_trans (FR_mono F (fun _ _ _ y => pMs_M _ _ _ (pTc_s _ _ _ y))) hr.1, ?_, hr.2.2⟩
  rw [hr.2.1, Nat.zero_add]
theorem a_text (hs : okS s) (ct : Nat → ClassId) (hct : ∀ i j : Nat, i < 8 → j < 8 → ct (100 + i) = ct (100 + j) → i = j) : ∃ v s', okS s' ∧ OX (TX6_text ct) s v s' ∧ OM TX7_text s v s' := by
  have hz : tTs s ≤ 60 := hs.2.2.2.1
  have hB : ∀ q, q < tTs s → s.2.2.2.2.2.2 q ≤ 255 := hs.2.2.2.2
  have hs0 : okS (setT s 0 s.2.2.2.2.2.2) := okS_tp hs (by omega) (fun i hi => by omega)
  have xa : ∀ S, CX S s → ∃ r : Int32 × SS, TX5_read ct S = some r ∧ FR pTx S r.2 ∧ FR pX S (sFI r.2 60 1 0) ∧ CX (sFI r.2 60 1 0) (setT s 0 s.2.2.2.2.2.2) ∧ ((∃ f, txP s.2.2.2.2.2.2 (tTs s) 60 0 = .inl f ∧ f ≤ tTs s ∧ r.1 = nI f) ∨ ∃ l e, txP s.2.2.2.2.2.2 (tTs s) 60 0 = .inr l ∧ r.1 = -1 ∧ r.2.1 60 3 = nI e ∧ e ≤ 60 ∧ PL (r.2.2.2.1 62) 0 l e) := fun S cx => by
    obtain ⟨r, er, F, h⟩ := x_read (B := s.2.2.2.2.2.2) hct hz hB (S := S) ⟨cx.2.2.2.2.1, cx.2.2.2.2.2⟩
    have F2 : FR (fun t k j => pTx t k j ∨ pTp t k j) S (sFI r.2 60 1 0) := FR_FI (FR_mono F (fun _ _ _ y => Or.inl y)) (Or.inr (by unfold pTp; omega))
    refine ⟨r, er, F, FR_mono F2 (fun t k j y => by unfold pTx pTp at y; unfold pX; omega), CX_tp F2 (fun t k j y => y.elim (fun w => Or.inl (by unfold pTx at w; unfold pXs; omega)) (fun w => Or.inr (Or.inr w))) cx ?_ (fun i hi => by omega), h⟩
    simp (disch := omega) only [up2_s, up2_n, va_up_s, va_up_n]
    rfl
  have ma : ∀ S, CM S s → ∃ S3 : SS, FR pM S S3 ∧ tpM s.2.2.2.2.2.2 (tTs s) S3 ∧ CM S3 (setT s 0 s.2.2.2.2.2.2) ∧ TX7_text S = (TX7_isText 0 S3).bind fun q4 => (if q4.1 = 0 then some (((-100) - (q4.2.1 64 32)), q4.2) else (TX7_isText 1 q4.2).bind fun q5 => some ((q5.2.1 64 36), q5.2)) := fun S cm => by
    have F : FR (fun t k j => (t = 0 ∧ k = 64 ∧ j = 30) ∨ (t = 0 ∧ k = 64 ∧ j = 29)) S (sFI (sFI S 64 30 (nI (tTs s))) 64 29 0) := FR_FI (FR_FI FR_refl (Or.inl ⟨rfl, rfl, rfl⟩)) (Or.inr ⟨rfl, rfl, rfl⟩)
    refine ⟨sFI (sFI S 64 30 (nI (tTs s))) 64 29 0, FR_mono F (fun t k j y => by unfold pM; omega), ⟨?_, cm.2.2.2.2.1.2, cm.2.2.2.2.2.1, cm.2.2.2.2.2.2⟩, CM_tp F (fun t k j y => y.elim (fun w => Or.inl (by unfold pMs; omega)) (fun w => Or.inr (Or.inr (by unfold pTm; omega)))) cm ?_ (fun i hi => by omega), ?_⟩
    · simp (disch := omega) only [up2_s, up2_n, va_up_s, va_up_n]
    · simp (disch := omega) only [up2_s, up2_n, va_up_s, va_up_n]
      rfl
    · unfold TX7_text
      rw [letS_e, letS_e, cm.2.2.2.2.1.1]
  rcases ht : txP s.2.2.2.2.2.2 (tTs s) 60 0 with f | l
  · refine ⟨-100 - nI f, setT s 0 s.2.2.2.2.2.2, hs0, fun S cx => ?_, fun S cm => ?_⟩
    · obtain ⟨r, er, F, FX, cx', h⟩ := xa S cx
      rcases h with ⟨f', e1, e2, e3⟩ | ⟨l, e, e1, -⟩
      · rw [ht] at e1
        cases e1
        unfold TX6_text
        rw [er, Option.bind_some, letS_e, if_neg (by rw [e3, nI_z, km1, iI_eq (by omega) (by omega)]; omega), e3]
        exact wp_some ⟨rfl, FX, cx'⟩
      · rw [ht] at e1
        cases e1
    · obtain ⟨S3, F, T, cm3, e⟩ := ma S cm
      refine wp_eq e ?_
      refine wp_bind (m_isT0 hz hB T) fun r hr => ?_
      obtain ⟨F2, hr⟩ := hr
      rcases hr with ⟨f', e1, e2, e3⟩ | ⟨l, e1, -⟩
      · rw [ht] at e1
        cases e1
        rw [if_pos e2, e3]
        exact wp_some ⟨rfl, FR_trans F (FR_mono F2 (fun _ _ _ y => pMs_M _ _ _ (pTc_s _ _ _ y))), CM_frs (FR_mono F2 pTc_s) cm3⟩
      · rw [ht] at e1
        cases e1
  · have hw : ∀ c, c ∈ l → c.1 < 8 := by
      have key : ∀ (m a : Nat) (l : List CL), a ≤ tTs s → txP s.2.2.2.2.2.2 (tTs s) m a = .inr l → ∀ c, c ∈ l → c.1 < 8 := by
        intro m
        induction m with
        | zero => intro a l ha h; rw [txP] at h; cases h
        | succ m ih =>
          intro a l ha h c hc'
          rcases hc : clP s.2.2.2.2.2.2 (tTs s) a with f | ⟨v, a'⟩
          · simp only [txP, hc] at h
            cases h
          · obtain ⟨c1, c2, c3⟩ := (clP_B (B := s.2.2.2.2.2.2) ha).2 v a' hc
            have hsk := sk_B (B := s.2.2.2.2.2.2) c3
            by_cases d1 : tTs s ≤ sk s.2.2.2.2.2.2 (tTs s) a'
            · simp only [txP, hc, if_pos d1] at h
              cases h
              rcases List.mem_cons.mp hc' with h1 | h1
              · rw [h1]; exact c1
              · cases h1
            · by_cases d2 : s.2.2.2.2.2.2 (sk s.2.2.2.2.2.2 (tTs s) a') = 59
              · simp only [txP, hc, if_neg d1, if_pos d2] at h
                rcases ht : txP s.2.2.2.2.2.2 (tTs s) m (sk s.2.2.2.2.2.2 (tTs s) a' + 1) with f | l'
                · rw [ht] at h
                  cases h
                · rw [ht] at h
                  cases h
                  rcases List.mem_cons.mp hc' with h1 | h1
                  · rw [h1]; exact c1
                  · exact ih _ l' (by omega) ht c h1
              · simp only [txP, hc, if_neg d1, if_neg d2] at h
                cases h
      exact key 60 0 l (by omega) ht
    refine ⟨nI (exL l (setT s 0 s.2.2.2.2.2.2)).1, (exL l (setT s 0 s.2.2.2.2.2.2)).2, exL_ok l _ hs0 hw, fun S cx => ?_, fun S cm => ?_⟩
    · obtain ⟨r, er, F, FX, cx', h⟩ := xa S cx
      rcases h with ⟨f', e1, -⟩ | ⟨l', e, e1, e2, e3, e4, e5⟩
      · rw [ht] at e1
        cases e1
      · rw [ht] at e1
        cases e1
        have hle := PL_le _ _ _ e5
        unfold TX6_text
        rw [er, Option.bind_some, letS_e, if_pos e2]
        unfold TX6_clausesDone
        refine wp_bind (x_done e4 l 0 0 fu 0 (sFI r.2 60 1 0) _ hs0 cx' (by simp (disch := omega) only [up2_s, up2_n, va_up_s, va_up_n]; exact e3) e5 (by omega) (by rw [fu_eq]; omega)) fun q hq => ?_
        refine wp_some ⟨?_, FR_trans FX (FR_mono hq.2.1 pB1), hq.2.2⟩
        rw [hq.1, Nat.zero_add]
    · obtain ⟨S3, F, T, cm3, e⟩ := ma S cm
      refine wp_eq e ?_
      refine wp_bind (m_isT0 hz hB T) fun r hr => ?_
      obtain ⟨F2, hr⟩ := hr
      rcases hr with ⟨f', e1, -⟩ | ⟨l', e1, e2⟩
      · rw [ht] at e1
        cases e1
      · rw [if_neg (by rw [e2]; decide)]
        refine wp_bind (m_isT1 hz hB (tpM_c F2 T) hs0 (CM_frs (FR_mono F2 pTc_s) cm3) ht) fun q hq => ?_
        exact wp_some ⟨hq.2.1, FR_trans F (FR_trans (FR_mono F2 (fun _ _ _ y => pMs_M _ _ _ (pTc_s _ _ _ y))) hq.1), hq.2.2⟩
end MTX
