/-! Calls: image, back. -/
section BCK
variable {S : SS} {s : ST}
theorem MK_frb {S' : SS} {A : AB} (h : FR pMb S S') (c : MK S A) : MK S' A :=
  MK_fr h (by unfold pMb; omega) (fun k h1 h2 => by unfold pMb; omega) (by unfold pMb; omega) (by unfold pMb; omega) (by unfold pMb; omega) c
def bkC (A : AB) (s : SS) (i : Nat) : Prop := ∀ q, q < i → (s.2.2.1 65 q = nI (qK A 0 q) ∧ s.2.2.1 66 q = nI (qK A 1 q) ∧ s.2.2.1 67 q = nI (qK A 2 q) ∧ s.2.2.1 68 q = iI (qS A 0 q)) ∧ s.2.2.2 69 q = lI (qS A 1 q)
def bkE (S s : SS) (i : Nat) : Prop := ∀ q, q < i → s.2.2.1 70 q = S.2.2.1 93 q ∧ s.2.2.1 71 q = S.2.2.1 94 q
def bkP (A : AB) (s : SS) (i : Nat) : Prop := ∀ q, q < i → s.2.2.1 72 q = nI (qK A 3 q) ∧ s.2.2.1 73 q = nI (qK A 4 q) ∧ s.2.2.1 74 q = iI (qS A 2 q)
def bkF (A : AB) (S s : SS) : Prop := FR pMb S s ∧ s.1 64 0 = nI (qN A)
theorem m_bk149 {A : AB} {s4 : SS} (h : MK S A) (hp : qP A ≤ 12) (hF : bkF A S s4) (h9 : s4.1 64 9 = nI (qP A)) (h6 : s4.2.1 64 6 = lN (qL A)) (hC : bkC A s4 (qN A)) (hE : bkE S s4 2) : WP (TX7_back_L149 fu 0 s4) (fun r => r.1 = nI (qN A) ∧ FR pMb S r.2 ∧ MB r.2 A) := by
  refine wp_up (F := fun n i s => TX7_back_L149 n (nI i) s) (N := qP A) (I := fun i s => bkF A S s ∧ s.1 64 9 = nI (qP A) ∧ s.2.1 64 6 = lN (qL A) ∧ bkC A s (qN A) ∧ bkE S s 2 ∧ bkP A s i) ?_ ?_ 0 s4 fu (by omega) ⟨hF, h9, h6, hC, hE, fun q hq => by omega⟩ (by rw [fu_eq]; omega)
  · intro n i s hi ⟨hF, h9, h6, hI, hE, hQ⟩ k
    have hB := MK_frb hF.1 h
    obtain ⟨g1, g2, g3⟩ := hB.2.2.2.2.2.2.2.2.2 i hi
    show WP (TX7_back_L149 (n + 1) (nI i) s) _
    rw [TX7_back_L149, h9]
    simp (disch := omega) only [letS, Option.bind_some, aget_n, ite_jin, iI_nat, nI_1, nI_leI', nI_ltI', nI_eqI', up2_s, up2_n, va_up_s, va_up_n, if_neg]
    refine k _ ⟨⟨FR_AI (FR_AI (FR_AI hF.1 (by unfold pMb; omega)) (by unfold pMb; omega)) (by unfold pMb; omega), hF.2⟩, h9, h6, fun q hq => ?_, fun q hq => ?_, fun q hq => ?_⟩
    · simp (disch := omega) only [up2_s, up2_n, va_up_s, va_up_n]
      exact hI q hq
    · simp (disch := omega) only [up2_s, up2_n, va_up_s, va_up_n]
      exact hE q hq
    · simp (disch := omega) only [up2_s, up2_n, va_up_at]
      by_cases e : q = i
      · subst e
        simp only [if_true]
        exact ⟨g1, g2, g3⟩
      · simp only [if_neg e]
        exact hQ q (by omega)
  · intro n s ⟨hF, h9, h6, hI, hE, hQ⟩
    show WP (TX7_back_L149 (n + 1) (nI (qP A)) s) _
    rw [TX7_back_L149, h9]
    simp (disch := omega) only [nI_leI', if_pos]
    obtain ⟨x1, x2⟩ := hE 0 (by omega)
    obtain ⟨y1, y2⟩ := hE 1 (by omega)
    refine wp_some ⟨hF.2, hF.1, ⟨hF.2, ?_, ?_, ?_, ?_, fun i hi => (hI i hi).1⟩, h6, h9, fun i hi => (hI i hi).2, hQ⟩
    · exact x2.trans h.2.1
    · exact y2.trans h.2.2.1
    · exact x1.trans h.2.2.2.1
    · exact y1.trans h.2.2.2.2.1
theorem m_bk104 {A : AB} {s3 : SS} (h : MK S A) (hp : qP A ≤ 12) (hF : bkF A S s3) (h6 : s3.2.1 64 6 = lN (qL A)) (hC : bkC A s3 (qN A)) : WP (TX7_back_L104 fu 0 s3) (fun r => r.1 = nI (qN A) ∧ FR pMb S r.2 ∧ MB r.2 A) := by
  refine wp_up (F := fun n i s => TX7_back_L104 n (nI i) s) (N := 2) (I := fun i s => bkF A S s ∧ s.2.1 64 6 = lN (qL A) ∧ bkC A s (qN A) ∧ bkE S s i) ?_ ?_ 0 s3 fu (by omega) ⟨hF, h6, hC, fun q hq => by omega⟩ (by rw [fu_eq]; omega)
  · intro n i s hi ⟨hF, h6, hI, hE⟩ k
    show WP (TX7_back_L104 (n + 1) (nI i) s) _
    rw [TX7_back_L104, show (2 : Int32) = nI 2 from rfl]
    simp (disch := omega) only [letS, Option.bind_some, aget_n, ite_jin, iI_nat, nI_1, nI_leI', nI_ltI', nI_eqI', up2_s, up2_n, va_up_s, va_up_n, if_neg]
    refine k _ ⟨⟨FR_AI (FR_AI hF.1 (by unfold pMb; omega)) (by unfold pMb; omega), hF.2⟩, h6, fun q hq => ?_, fun q hq => ?_⟩
    · simp (disch := omega) only [up2_s, up2_n, va_up_s, va_up_n]
      exact hI q hq
    · simp (disch := omega) only [up2_s, up2_n, va_up_at]
      rw [hF.1.2.2.1 93 (by unfold pMb; omega), hF.1.2.2.1 94 (by unfold pMb; omega)]
      by_cases e : q = i
      · subst e
        exact ⟨if_pos rfl, if_pos rfl⟩
      · rw [if_neg e, if_neg e]
        exact hE q (by omega)
  · intro n s ⟨hF, h6, hI, hE⟩
    have hB := MK_frb hF.1 h
    show WP (TX7_back_L104 (n + 1) (nI 2) s) _
    rw [TX7_back_L104, show (2 : Int32) = nI 2 from rfl]
    simp (disch := omega) only [nI_leI', if_pos]
    refine wp_fi fun S4 F4 e1 e2 e3 e4 e5 => ?_
    refine m_bk149 h hp ⟨F4 _ _ (by unfold pMb; omega) hF.1, ?_⟩ ?_ ?_ (fun q hq => ?_) (fun q hq => ?_)
    · rw [e2 _ _ (by omega)]; exact hF.2
    · rw [e1]; exact hB.2.2.2.2.2.2.2.1
    · rw [e3]; exact h6
    · rw [e4, e5]; exact hI q hq
    · rw [e4]; exact hE q hq
theorem m_bk20 {A : AB} {s2 : SS} (h : MK S A) (hn : qN A ≤ 8) (hp : qP A ≤ 12) (hF : bkF A S s2) : WP (TX7_back_L20 fu 0 s2) (fun r => r.1 = nI (qN A) ∧ FR pMb S r.2 ∧ MB r.2 A) := by
  refine wp_up (F := fun n i s => TX7_back_L20 n (nI i) s) (N := qN A) (I := fun i s => bkF A S s ∧ bkC A s i) ?_ ?_ 0 s2 fu (by omega) ⟨hF, fun q hq => by omega⟩ (by rw [fu_eq]; omega)
  · intro n i s hi ⟨hF, hI⟩ k
    have hB := MK_frb hF.1 h
    obtain ⟨g1, g2, g3, g4⟩ := hB.2.2.2.2.2.1 i hi
    have g5 := hB.2.2.2.2.2.2.2.2.1 i hi
    show WP (TX7_back_L20 (n + 1) (nI i) s) _
    rw [TX7_back_L20, hF.2]
    have hi8 : i < 8 := by omega
    rw [if_neg (by rw [nI_cmp (by omega) (by omega)]; omega), aget_n hi8 (by omega), Option.bind_some]
    refine wp_ai hi8 (by omega) fun S1 F1 a1 a2 a3 a4 a5 => ?_
    rw [aget_n hi8 (by omega), Option.bind_some, a4 89 (by omega)]
    refine wp_ai hi8 (by omega) fun S2 F2 b1 b2 b3 b4 b5 => ?_
    rw [aget_n hi8 (by omega), Option.bind_some, b4 90 (by omega), a4 90 (by omega)]
    refine wp_ai hi8 (by omega) fun S3 F3 d1 d2 d3 d4 d5 => ?_
    rw [aget_n hi8 (by omega), Option.bind_some, d4 91 (by omega), b4 91 (by omega), a4 91 (by omega)]
    refine wp_ai hi8 (by omega) fun S4 F4 e1 e2 e3 e4 e5 => ?_
    rw [aget_n hi8 (by omega), Option.bind_some, e3, d3, b3, a3]
    refine wp_al hi8 (by omega) fun S5 F5 f1 f2 f3 f4 f5 => ?_
    rw [nI_1]
    refine k _ ⟨⟨F5 _ _ (by unfold pMb; omega) (F4 _ _ (by unfold pMb; omega) (F3 _ _ (by unfold pMb; omega) (F2 _ _ (by unfold pMb; omega) (F1 _ _ (by unfold pMb; omega) hF.1)))), ?_⟩, fun q hq => ?_⟩
    · rw [f1, e1, d1, b1, a1]; exact hF.2
    · rw [f3, e4 65 (by omega), d4 65 (by omega), b4 65 (by omega), a5, e4 66 (by omega), d4 66 (by omega), b5, e4 67 (by omega), d5, e5, f5, a4 66 (by omega), b4 67 (by omega), a4 67 (by omega), d4 68 (by omega), b4 68 (by omega), a4 68 (by omega), e3, d3, b3, a3]
      by_cases e : q = i
      · subst e
        simp only [if_true]
        exact ⟨⟨g1, g2, g3, g4⟩, g5⟩
      · simp only [if_neg e]
        exact hI q (by omega)
  · intro n s ⟨hF, hI⟩
    have hB := MK_frb hF.1 h
    show WP (TX7_back_L20 (n + 1) (nI (qN A)) s) _
    rw [TX7_back_L20, hF.2]
    simp (disch := omega) only [nI_leI', if_pos]
    refine wp_fl fun S3 F3 d1 d2 d3 d4 d5 => ?_
    refine m_bk104 h hp ⟨F3 _ _ (by unfold pMb; omega) hF.1, ?_⟩ ?_ (fun q hq => ?_)
    · rw [d3]; exact hF.2
    · rw [d1]; exact hB.2.2.2.2.2.2.1
    · rw [d4, d5]; exact hI q hq
theorem m_back {A : AB} (h : MK S A) (h37 : S.1 64 37 = 1) (hn : qN A ≤ 8) (hp : qP A ≤ 12) : WP (TX7_back S) (fun r => r.1 = nI (qN A) ∧ FR pMb S r.2 ∧ MB r.2 A) := by
  unfold TX7_back
  rw [h37, if_neg (by decide)]
  refine wp_fi fun S1 F1 a1 a2 a3 a4 a5 => ?_
  refine m_bk20 h hn hp ⟨F1 _ _ (by unfold pMb; omega) FR_refl, ?_⟩
  rw [a1, h.1]
/-- the image is another -/
theorem CX_img {S' : SS} {K : AB} (h : FR (fun t k j => pB 31 t k j ∨ (t = 0 ∧ k = 0 ∧ j = 7)) S S') (c : CX S s) (h7 : S'.1 0 7 = 1) (hb : CB S' 31 K) : CX S' (tA s, some K, s.2.2) := by
  obtain ⟨c1, c2, c3, c4, c5, c6⟩ := c
  refine ⟨CB_fr' h (fun t k j h1 h2 => by unfold pB; omega) c1, h7, fun K' hK => ?_, fun i hi => ?_, (h.1 60 1 (by unfold pB; omega)).trans c5, fun i hi => ?_⟩
  · have e : K = K' := Option.some.inj hK
    exact e ▸ hb
  · rw [h.2.2.1 53 (by unfold pB; omega), h.2.2.1 54 (by unfold pB; omega), h.2.2.1 (56 + i) (by unfold pB; omega)]
    exact c4 i hi
  · rw [h.2.2.1 61 (by unfold pB; omega)]
    exact c6 i hi
theorem CM_img {S' : SS} {K : AB} (h : FR pMk S S') (c : CM S s) (h7 : S'.1 64 37 = 1) (hb : MK S' K) : CM S' (tA s, some K, s.2.2) := by
  obtain ⟨c1, c2, c3, c4, c5, c6, c7⟩ := c
  refine ⟨MB_frk h c1, h7, fun K' hK => ?_, fun i hi => ?_, ⟨(h.1 64 29 (by unfold pMk; omega)).trans c5.1, fun i hi => ?_⟩, fun i hi => ?_, fun i hi => ?_⟩
  · have e : K = K' := Option.some.inj hK
    exact e ▸ hb
  · rw [h.2.2.1 98 (by unfold pMk; omega), h.2.2.1 99 (by unfold pMk; omega), h.2.2.1 100 (by unfold pMk; omega)]
    exact c4 i hi
  · rw [h.2.2.1 86 (by unfold pMk; omega)]
    exact c5.2 i hi
  · rw [h.2.2.1 84 (by unfold pMk; omega)]
    exact c6 i hi
  · rw [h.2.2.1 85 (by unfold pMk; omega)]
    exact c7 i hi
theorem a_image (hs : okS s) : ∃ v s', okS s' ∧ OX TX6_image s v s' ∧ OM TX7_image s v s' := by
  have h8 := ok_n hs.1
  have h12 := ok_p hs.1
  refine ⟨nI (qN (tA s)), (tA s, some (tA s), s.2.2), ⟨hs.1, fun K hK => ?_, hs.2.2⟩, fun S cx => ?_, fun S cm => ?_⟩
  · have e : tA s = K := Option.some.inj hK
    exact e ▸ hs.1
  · unfold TX6_image
    refine wp_bind (x_become (b := 31) cx.1 h8 h12 (by omega)) fun r hr => ?_
    refine wp_fi fun S1 F1 a1 a2 a3 a4 a5 => ?_
    have hF : FR (fun t k j => pB 31 t k j ∨ (t = 0 ∧ k = 0 ∧ j = 7)) S S1 := F1 _ _ (Or.inr ⟨rfl, rfl, rfl⟩) (FR_mono hr.1 (fun _ _ _ z => Or.inl z))
    have hF2 : FR (fun t k j => t = 0 ∧ k = 0 ∧ j = 7) r S1 := F1 _ _ ⟨rfl, rfl, rfl⟩ FR_refl
    have hb : CB S1 31 (tA s) := CB_fr' hF2 (fun t k j h1 h2 => by omega) hr.2
    refine wp_some ⟨hb.1, FR_mono hF (fun t k j z => by unfold pB at z; unfold pX; omega), CX_img hF cx a1 hb⟩
  · refine wp_mono (m_image cm.1 h8 h12) fun r hr => ?_
    exact ⟨hr.1, FR_mono hr.2.1 (fun t k j z => by unfold pMk at z; unfold pM; omega), CM_img hr.2.1 cm hr.2.2.1 hr.2.2.2⟩
theorem a_back (hs : okS s) : ∃ v s', okS s' ∧ OX TX6_back s v s' ∧ OM TX7_back s v s' := by
  rcases hK : tIm s with _ | K
  · have hn : ¬ ((tIm s).isSome = true) := by rw [hK]; decide
    refine ⟨-3, s, hs, OX_no fun S c => ?_, OM_no fun S c => ?_⟩
    · unfold TX6_back
      rw [c.2.1, if_pos (b2i_f hn)]
    · unfold TX7_back
      rw [c.2.1, if_pos (b2i_f hn)]
  have hy : (tIm s).isSome = true := by rw [hK]; rfl
  have hok := hs.2.1 K hK
  have h8 := ok_n hok
  have h12 := ok_p hok
  refine ⟨nI (qN K), (K, s.2), okS_bar hs hok, fun S cx => ?_, fun S cm => ?_⟩
  · unfold TX6_back
    rw [cx.2.1, b2i_t hy, if_neg (by decide)]
    refine wp_bind (x_become (b := 1) (cx.2.2.1 K hK) h8 h12 (by omega)) fun r hr => ?_
    exact wp_some ⟨hr.2.1, FR_mono hr.1 pB1, CX_bar hr.1 pB1' cx hr.2⟩
  · refine wp_mono (m_back (cm.2.2.1 K hK) (by rw [cm.2.1, b2i_t hy]) h8 h12) fun r hr => ?_
    exact ⟨hr.1, FR_mono hr.2.1 pMb_M, CM_bar hr.2.1 pMb' cm hr.2.2⟩
end BCK
