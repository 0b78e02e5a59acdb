/-! Calls: image, back. -/
/-! one write into a row after the other, the states kept apart -/
section WRA
variable {α : Type} {Q : α → Prop} {S' : SS} {f : SS → Option α}
theorem wp_ai {i n k : Nat} {v : Int32} (hi : i < n) (hn : n < 2147483648) (h : ∀ S'', (∀ (P : Nat → Nat → Nat → Prop) (S0 : SS), P 2 k 0 → FR P S0 S' → FR P S0 S'') → S''.1 = S'.1 → S''.2.1 = S'.2.1 → S''.2.2.2 = S'.2.2.2 → (∀ r, r ≠ k → S''.2.2.1 r = S'.2.2.1 r) → (∀ q, S''.2.2.1 k q = if q = i then v else S'.2.2.1 k q) → WP (f S'') Q) : WP (if jin (nI i) n then letS (sAI S' k (Int32.toNatClampNeg (nI i)) v) f else none) Q := by
  rw [if_pos (iI_in hi hn), iI_nat i (by omega)]
  exact h _ (fun P S0 hk hF => FR_AI hF hk) rfl rfl rfl (fun r hr => up2_n _ _ _ hr) (fun q => by show up2 S'.2.2.1 k i v k q = _; rw [up2_s, va_up_at])
theorem wp_al {i n k : Nat} {v : Int64} (hi : i < n) (hn : n < 2147483648) (h : ∀ S'', (∀ (P : Nat → Nat → Nat → Prop) (S0 : SS), P 3 k 0 → FR P S0 S' → FR P S0 S'') → S''.1 = S'.1 → S''.2.1 = S'.2.1 → S''.2.2.1 = S'.2.2.1 → (∀ r, r ≠ k → S''.2.2.2 r = S'.2.2.2 r) → (∀ q, S''.2.2.2 k q = if q = i then v else S'.2.2.2 k q) → WP (f S'') Q) : WP (if jin (nI i) n then letS (sAL S' k (Int32.toNatClampNeg (nI i)) v) f else none) Q := by
  rw [if_pos (iI_in hi hn), iI_nat i (by omega)]
  exact h _ (fun P S0 hk hF => FR_AL hF hk) rfl rfl rfl (fun r hr => up2_n _ _ _ hr) (fun q => by show up2 S'.2.2.2 k i v k q = _; rw [up2_s, va_up_at])
end WRA
section IMG
variable {S : SS} {s : ST}
/-- what image may change in the reference -/
def pMk (t k j : Nat) : Prop := (t = 0 ∧ k = 64 ∧ (j = 37 ∨ j = 38 ∨ j = 47)) ∨ (t = 1 ∧ k = 64 ∧ j = 44) ∨ (t = 2 ∧ 88 ≤ k ∧ k ≤ 97) ∨ (t = 3 ∧ k = 92)
theorem MB_frk {S' : SS} {A : AB} (h : FR pMk S S') (c : MB S A) : MB S' A :=
  ⟨MC_fr h (fun z => by unfold pMk at z; omega) (fun k h1 h2 z => by unfold pMk at z; omega) c.1, MH_fr h (fun z => by unfold pMk at z; omega) (fun z => by unfold pMk at z; omega) (fun z => by unfold pMk at z; omega) (fun k h1 h2 z => by unfold pMk at z; omega) c.2⟩
def imC (A : AB) (s : SS) (i : Nat) : Prop := ∀ q, q < i → (s.2.2.1 88 q = nI (qK A 0 q) ∧ s.2.2.1 89 q = nI (qK A 1 q) ∧ s.2.2.1 90 q = nI (qK A 2 q) ∧ s.2.2.1 91 q = iI (qS A 0 q)) ∧ s.2.2.2 92 q = lI (qS A 1 q)
def imE (S s : SS) (i : Nat) : Prop := ∀ q, q < i → s.2.2.1 93 q = S.2.2.1 70 q ∧ s.2.2.1 94 q = S.2.2.1 71 q
def imP (A : AB) (s : SS) (i : Nat) : Prop := ∀ q, q < i → s.2.2.1 95 q = nI (qK A 3 q) ∧ s.2.2.1 96 q = nI (qK A 4 q) ∧ s.2.2.1 97 q = iI (qS A 2 q)
def imF (A : AB) (S s : SS) : Prop := FR pMk S s ∧ s.1 64 37 = 1 ∧ s.1 64 38 = nI (qN A)
theorem m_im144 {A : AB} {s4 : SS} (h : MB S A) (hp : qP A ≤ 12) (hF : imF A S s4) (h47 : s4.1 64 47 = nI (qP A)) (h44 : s4.2.1 64 44 = lN (qL A)) (hC : imC A s4 (qN A)) (hE : imE S s4 2) : WP (TX7_image_L144 fu 0 s4) (fun r => r.1 = nI (qN A) ∧ FR pMk S r.2 ∧ r.2.1 64 37 = 1 ∧ MK r.2 A) := by
  refine wp_up (F := fun n i s => TX7_image_L144 n (nI i) s) (N := qP A) (I := fun i s => imF A S s ∧ s.1 64 47 = nI (qP A) ∧ s.2.1 64 44 = lN (qL A) ∧ imC A s (qN A) ∧ imE S s 2 ∧ imP A s i) ?_ ?_ 0 s4 fu (by omega) ⟨hF, h47, h44, hC, hE, fun q hq => by omega⟩ (by rw [fu_eq]; omega)
  · intro n i s hi ⟨hF, h47, h44, hI, hE, hQ⟩ k
    have hB := MB_frk hF.1 h
    obtain ⟨g1, g2, g3⟩ := hB.2.2.2.2 i hi
    show WP (TX7_image_L144 (n + 1) (nI i) s) _
    rw [TX7_image_L144, hB.2.2.1]
    simp (disch := omega) only [letS, Option.bind_some, aget_n, ite_jin, iI_nat, nI_1, nI_leI', nI_ltI', nI_eqI', up2_s, up2_n, va_up_s, va_up_n, if_neg]
    refine k _ ⟨⟨FR_AI (FR_AI (FR_AI hF.1 (by unfold pMk; omega)) (by unfold pMk; omega)) (by unfold pMk; omega), hF.2⟩, h47, h44, fun q hq => ?_, fun q hq => ?_, fun q hq => ?_⟩
    · simp (disch := omega) only [up2_s, up2_n, va_up_s, va_up_n]
      exact hI q hq
    · simp (disch := omega) only [up2_s, up2_n, va_up_s, va_up_n]
      exact hE q hq
    · simp (disch := omega) only [up2_s, up2_n, va_up_at]
      by_cases e : q = i
      · subst e
        simp only [if_true]
        exact ⟨g1, g2, g3⟩
      · simp only [if_neg e]
        exact hQ q (by omega)
  · intro n s ⟨hF, h47, h44, hI, hE, hQ⟩
    have hB := MB_frk hF.1 h
    show WP (TX7_image_L144 (n + 1) (nI (qP A)) s) _
    rw [TX7_image_L144, hB.2.2.1]
    simp (disch := omega) only [nI_leI', if_pos]
    obtain ⟨x1, x2⟩ := hE 0 (by omega)
    obtain ⟨y1, y2⟩ := hE 1 (by omega)
    refine wp_some ⟨hB.1.1, hF.1, hF.2.1, hF.2.2, ?_, ?_, ?_, ?_, fun i hi => (hI i hi).1, h44, h47, fun i hi => (hI i hi).2, hQ⟩
    · exact x2.trans h.1.2.1
    · exact y2.trans h.1.2.2.1
    · exact x1.trans h.1.2.2.2.1
    · exact y1.trans h.1.2.2.2.2.1
theorem m_im99 {A : AB} {s3 : SS} (h : MB S A) (hp : qP A ≤ 12) (hF : imF A S s3) (h44 : s3.2.1 64 44 = lN (qL A)) (hC : imC A s3 (qN A)) : WP (TX7_image_L99 fu 0 s3) (fun r => r.1 = nI (qN A) ∧ FR pMk S r.2 ∧ r.2.1 64 37 = 1 ∧ MK r.2 A) := by
  refine wp_up (F := fun n i s => TX7_image_L99 n (nI i) s) (N := 2) (I := fun i s => imF A S s ∧ s.2.1 64 44 = lN (qL A) ∧ imC A s (qN A) ∧ imE S s i) ?_ ?_ 0 s3 fu (by omega) ⟨hF, h44, hC, fun q hq => by omega⟩ (by rw [fu_eq]; omega)
  · intro n i s hi ⟨hF, h44, hI, hE⟩ k
    show WP (TX7_image_L99 (n + 1) (nI i) s) _
    rw [TX7_image_L99, show (2 : Int32) = nI 2 from rfl]
    simp (disch := omega) only [letS, Option.bind_some, aget_n, ite_jin, iI_nat, nI_1, nI_leI', nI_ltI', nI_eqI', up2_s, up2_n, va_up_s, va_up_n, if_neg]
    refine k _ ⟨⟨FR_AI (FR_AI hF.1 (by unfold pMk; omega)) (by unfold pMk; omega), hF.2⟩, h44, fun q hq => ?_, fun q hq => ?_⟩
    · simp (disch := omega) only [up2_s, up2_n, va_up_s, va_up_n]
      exact hI q hq
    · simp (disch := omega) only [up2_s, up2_n, va_up_at]
      rw [hF.1.2.2.1 70 (by unfold pMk; omega), hF.1.2.2.1 71 (by unfold pMk; omega)]
      by_cases e : q = i
      · subst e
        exact ⟨if_pos rfl, if_pos rfl⟩
      · rw [if_neg e, if_neg e]
        exact hE q (by omega)
  · intro n s ⟨hF, h44, hI, hE⟩
    have hB := MB_frk hF.1 h
    show WP (TX7_image_L99 (n + 1) (nI 2) s) _
    rw [TX7_image_L99, show (2 : Int32) = nI 2 from rfl]
    simp (disch := omega) only [nI_leI', if_pos]
    refine wp_fi fun S4 F4 e1 e2 e3 e4 e5 => ?_
    refine m_im144 h hp ⟨F4 _ _ (by unfold pMk; omega) hF.1, ?_, ?_⟩ ?_ ?_ (fun q hq => ?_) (fun q hq => ?_)
    · rw [e2 _ _ (by omega)]; exact hF.2.1
    · rw [e2 _ _ (by omega)]; exact hF.2.2
    · rw [e1]; exact hB.2.2.1
    · rw [e3]; exact h44
    · rw [e4, e5]; exact hI q hq
    · rw [e4]; exact hE q hq
theorem m_im15 {A : AB} {s2 : SS} (h : MB S A) (hn : qN A ≤ 8) (hp : qP A ≤ 12) (hF : imF A S s2) : WP (TX7_image_L15 fu 0 s2) (fun r => r.1 = nI (qN A) ∧ FR pMk S r.2 ∧ r.2.1 64 37 = 1 ∧ MK r.2 A) := by
  refine wp_up (F := fun n i s => TX7_image_L15 n (nI i) s) (N := qN A) (I := fun i s => imF A S s ∧ imC A s i) ?_ ?_ 0 s2 fu (by omega) ⟨hF, fun q hq => by omega⟩ (by rw [fu_eq]; omega)
  · intro n i s hi ⟨hF, hI⟩ k
    have hB := MB_frk hF.1 h
    obtain ⟨g1, g2, g3, g4⟩ := hB.1.2.2.2.2.2 i hi
    have g5 := hB.2.2.2.1 i hi
    show WP (TX7_image_L15 (n + 1) (nI i) s) _
    rw [TX7_image_L15, hB.1.1]
    have hi8 : i < 8 := by omega
    rw [if_neg (by rw [nI_cmp (by omega) (by omega)]; omega), aget_n hi8 (by omega), Option.bind_some]
    refine wp_ai hi8 (by omega) fun S1 F1 a1 a2 a3 a4 a5 => ?_
    rw [aget_n hi8 (by omega), Option.bind_some, a4 66 (by omega)]
    refine wp_ai hi8 (by omega) fun S2 F2 b1 b2 b3 b4 b5 => ?_
    rw [aget_n hi8 (by omega), Option.bind_some, b4 67 (by omega), a4 67 (by omega)]
    refine wp_ai hi8 (by omega) fun S3 F3 d1 d2 d3 d4 d5 => ?_
    rw [aget_n hi8 (by omega), Option.bind_some, d4 68 (by omega), b4 68 (by omega), a4 68 (by omega)]
    refine wp_ai hi8 (by omega) fun S4 F4 e1 e2 e3 e4 e5 => ?_
    rw [aget_n hi8 (by omega), Option.bind_some, e3, d3, b3, a3]
    refine wp_al hi8 (by omega) fun S5 F5 f1 f2 f3 f4 f5 => ?_
    rw [nI_1]
    refine k _ ⟨⟨F5 _ _ (by unfold pMk; omega) (F4 _ _ (by unfold pMk; omega) (F3 _ _ (by unfold pMk; omega) (F2 _ _ (by unfold pMk; omega) (F1 _ _ (by unfold pMk; omega) hF.1)))), ?_⟩, fun q hq => ?_⟩
    · rw [f1, e1, d1, b1, a1]; exact hF.2
    · rw [f3, e4 88 (by omega), d4 88 (by omega), b4 88 (by omega), a5, e4 89 (by omega), d4 89 (by omega), b5, e4 90 (by omega), d5, e5, f5, a4 89 (by omega), b4 90 (by omega), a4 90 (by omega), d4 91 (by omega), b4 91 (by omega), a4 91 (by omega), e3, d3, b3, a3]
      by_cases e : q = i
      · subst e
        simp only [if_true]
        exact ⟨⟨g1, g2, g3, g4⟩, g5⟩
      · simp only [if_neg e]
        exact hI q (by omega)
  · intro n s ⟨hF, hI⟩
    have hB := MB_frk hF.1 h
    show WP (TX7_image_L15 (n + 1) (nI (qN A)) s) _
    rw [TX7_image_L15, hB.1.1]
    simp (disch := omega) only [nI_leI', if_pos]
    refine wp_fl fun S3 F3 d1 d2 d3 d4 d5 => ?_
    refine m_im99 h hp ⟨F3 _ _ (by unfold pMk; omega) hF.1, ?_, ?_⟩ ?_ (fun q hq => ?_)
    · rw [d3]; exact hF.2.1
    · rw [d3]; exact hF.2.2
    · rw [d1]; exact hB.2.1
    · rw [d4, d5]; exact hI q hq
theorem m_image {A : AB} (h : MB S A) (hn : qN A ≤ 8) (hp : qP A ≤ 12) : WP (TX7_image S) (fun r => r.1 = nI (qN A) ∧ FR pMk S r.2 ∧ r.2.1 64 37 = 1 ∧ MK r.2 A) := by
  unfold TX7_image
  refine wp_fi fun S1 F1 a1 a2 a3 a4 a5 => ?_
  refine wp_fi fun S2 F2 b1 b2 b3 b4 b5 => ?_
  refine m_im15 h hn hp ⟨F2 _ _ (by unfold pMk; omega) (F1 _ _ (by unfold pMk; omega) FR_refl), ?_, ?_⟩
  · rw [b2 _ _ (by omega), a1]
  · rw [b1, a2 _ _ (by omega), h.1.1]
end IMG
