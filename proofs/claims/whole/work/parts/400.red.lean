/-! Laying over the least line; pulses that stay. -/
theorem cpt_ok {keep : Nat → Bool} {dec : Nat} {A : AB} : ∀ p q, q < (cpt keep dec A p).1 → ∃ r, r < p ∧ keep r = true ∧ (cpt keep dec A p).2.1 q = qK A 3 r ∧ (cpt keep dec A p).2.2.1 q = qK A 4 r - dec ∧ (cpt keep dec A p).2.2.2 q = qS A 2 r
  | 0, q, h => by simp [cpt] at h
  | p + 1, q, h => by
    rw [cpt] at h ⊢
    by_cases e : keep p = true
    · rw [if_pos e] at h ⊢
      have h' : q < (cpt keep dec A p).1 + 1 := h
      by_cases eq : q = (cpt keep dec A p).1
      · exact ⟨p, by omega, e, by rw [eq]; exact va_up_s .., by rw [eq]; exact va_up_s .., by rw [eq]; exact va_up_s ..⟩
      · obtain ⟨r, h1, h2, h3, h4, h5⟩ := cpt_ok (keep := keep) (dec := dec) (A := A) p q (by omega)
        exact ⟨r, by omega, h2, by rw [← h3]; exact va_up_n _ _ eq, by rw [← h4]; exact va_up_n _ _ eq, by rw [← h5]; exact va_up_n _ _ eq⟩
    · rw [if_neg e] at h ⊢
      obtain ⟨r, h1, h2⟩ := cpt_ok p q h
      exact ⟨r, by omega, h2⟩
theorem ok_pass {M : Int} {A : AB} (h : okA M A) : okA M (setP A (passP A)) := by
  obtain ⟨h1, h2, h3, h4, h5, h6, h7, h8, h9, h10, h11, h12, h13⟩ := h
  refine ⟨h1, Nat.le_trans (cpt_le _ _ _ _) h2, h3, h4, h5, h6, h7, h8, h9, h10, h11, h12, fun q hq => ?_⟩
  obtain ⟨r, e1, e2, e3, e4, e5⟩ := cpt_ok (keep := fun i => decide (1 < qK A 4 i)) (dec := 1) (A := A) (qP A) q hq
  obtain ⟨g1, g2, g3, g4, g5⟩ := h13 r e1
  have e2' : 1 < qK A 4 r := of_decide_eq_true e2
  refine ⟨?_, ?_, ?_, ?_, ?_⟩
  · show (passP A).2.1 q < _; rw [show (passP A).2.1 q = _ from e3]; exact g1
  · show 1 ≤ (passP A).2.2.1 q; rw [show (passP A).2.2.1 q = _ from e4]; omega
  · show (passP A).2.2.1 q ≤ 20; rw [show (passP A).2.2.1 q = _ from e4]; omega
  · show -99 ≤ (passP A).2.2.2 q; rw [show (passP A).2.2.2 q = _ from e5]; exact g4
  · show (passP A).2.2.2 q ≤ 99; rw [show (passP A).2.2.2 q = _ from e5]; exact g5
/-- pulses of a cell go -/
theorem ok_hush {M : Int} {A : AB} (h : okA M A) (x : Nat) : okA M (setP A (hushP A x)) := by
  obtain ⟨h1, h2, h3, h4, h5, h6, h7, h8, h9, h10, h11, h12, h13⟩ := h
  refine ⟨h1, Nat.le_trans (cpt_le _ _ _ _) h2, h3, h4, h5, h6, h7, h8, h9, h10, h11, h12, fun q hq => ?_⟩
  obtain ⟨r, e1, e2, e3, e4, e5⟩ := cpt_ok (keep := fun i => !(qK A 3 i == x)) (dec := 0) (A := A) (qP A) q hq
  obtain ⟨g1, g2, g3, g4, g5⟩ := h13 r e1
  refine ⟨?_, ?_, ?_, ?_, ?_⟩
  · show (hushP A x).2.1 q < _; rw [show (hushP A x).2.1 q = _ from e3]; exact g1
  · show 1 ≤ (hushP A x).2.2.1 q; rw [show (hushP A x).2.2.1 q = _ from e4]; omega
  · show (hushP A x).2.2.1 q ≤ 20; rw [show (hushP A x).2.2.1 q = _ from e4]; omega
  · show -99 ≤ (hushP A x).2.2.2 q; rw [show (hushP A x).2.2.2 q = _ from e5]; exact g4
  · show (hushP A x).2.2.2 q ≤ 99; rw [show (hushP A x).2.2.2 q = _ from e5]; exact g5
/-- the last cell goes, with its pulses -/
def popA (A : AB) : AB := ((qN A - 1, A.1.2), A.2)
theorem ok_pop {M : Int} {A : AB} (h : okA M A) (hn : 1 ≤ qN A) : okA M (setP (popA A) (hushP A (qN A - 1))) := by
  obtain ⟨h1, h2, h3, h4, h5, h6, h7, h8, h9, h10, h11, h12, h13⟩ := h
  refine ⟨(by show qN A - 1 ≤ 8; omega), Nat.le_trans (cpt_le _ _ _ _) h2, h3, h4, h5, h6, h7, h8, h9, h10, h11, fun i hi => h12 i (by have : i < qN A - 1 := hi; omega), fun q hq => ?_⟩
  obtain ⟨r, e1, e2, e3, e4, e5⟩ := cpt_ok (keep := fun i => !(qK A 3 i == (qN A - 1))) (dec := 0) (A := A) (qP A) q hq
  obtain ⟨g1, g2, g3, g4, g5⟩ := h13 r e1
  have e2' : qK A 3 r ≠ qN A - 1 := by simpa using e2
  refine ⟨?_, ?_, ?_, ?_, ?_⟩
  · show (hushP A (qN A - 1)).2.1 q < qN A - 1; rw [show (hushP A (qN A - 1)).2.1 q = _ from e3]; omega
  · show 1 ≤ (hushP A (qN A - 1)).2.2.1 q; rw [show (hushP A (qN A - 1)).2.2.1 q = _ from e4]; omega
  · show (hushP A (qN A - 1)).2.2.1 q ≤ 20; rw [show (hushP A (qN A - 1)).2.2.1 q = _ from e4]; omega
  · show -99 ≤ (hushP A (qN A - 1)).2.2.2 q; rw [show (hushP A (qN A - 1)).2.2.2 q = _ from e5]; exact g4
  · show (hushP A (qN A - 1)).2.2.2 q ≤ 99; rw [show (hushP A (qN A - 1)).2.2.2 q = _ from e5]; exact g5
/-- the least line -/
def redA (A : AB) : AB := setH A (redT (qS A 1) (qL A) (qN A)) (redL (qS A 1) (qL A) (qN A))
theorem tdivB {z M : Int} {g : Nat} (h1 : -M ≤ z) (h2 : z ≤ M) : -M ≤ z.tdiv g ∧ z.tdiv g ≤ M := by
  have h3 : (z.tdiv g).natAbs ≤ z.natAbs := by
    rw [Int.natAbs_tdiv]
    exact Nat.div_le_self _ _
  omega
theorem ok_red {M : Int} {A : AB} (h : okA M A) (hM : 0 ≤ M) : okA M (redA A) := by
  have hl := ok_l h
  refine ok_setH h hM (redL_pos (by omega)) (Nat.le_trans (Nat.div_le_self _ _) hl.2) fun i hi => ?_
  have := ok_c h hi
  exact tdivB this.2.2.2.2.2.2.2.1 this.2.2.2.2.2.2.2.2
section RED2
variable {S : SS} {A : AB} {b : Nat}
/-- the class's least line -/
theorem x_red (h : CB S b A) (hA : okA 1008000000000000 A) : TX0_reduce b (b + 8) 8 (lN (qL A)) S = some (lN (redL (qS A 1) (qL A) (qN A)), sRL S (b + 8) (redF (S.2.2.2 (b + 8)) (qS A 1) (gcdN (qS A 1) (qL A) (qN A)) (qN A))) ∧ CB (sFL (sRL S (b + 8) (redF (S.2.2.2 (b + 8)) (qS A 1) (gcdN (qS A 1) (qL A) (qN A)) (qN A))) b 9 (lN (redL (qS A 1) (qL A) (qN A)))) b (redA A) := by
  have hl := ok_l hA
  refine ⟨x_reduce h.1 (ok_n hA) (by omega) (fun i hi => (h.2.2.2.2.2.2.2.1 i hi).2.2.2.2.2.2.2) (fun i hi => by have := ok_c hA hi; omega) (by omega) (by omega), ?_⟩
  refine CB_rowH h fun i hi => ?_
  unfold redF
  rw [if_pos hi]
  rfl
/-- the reference's -/
theorem m_sh44 {T : Nat → Int} {g N : Nat} (hN : S.1 64 0 = nI N) (h8 : N ≤ 8) (hT : ∀ i, i < N → S.2.2.2 69 i = lI (T i)) (hb : ∀ i, i < N → l63 (T i)) (hg : 0 < g) (hg2 : g < 9223372036854775808) :
    WP (TX7_shorten_L44 fu (lN g) 0 S) (fun r => FR (fun t k _ => t = 3 ∧ k = 69) S r ∧ ∀ i, i < N → r.2.2.2 69 i = lI ((T i).tdiv g)) := by
  refine wp_up (F := fun n i s => TX7_shorten_L44 n (lN g) (nI i) s) (N := N) (I := fun i s => FR (fun t k _ => t = 3 ∧ k = 69) S s ∧ ∀ q, q < N → s.2.2.2 69 q = lI (if q < i then (T q).tdiv g else T q)) ?_ ?_ 0 S fu (by omega) ⟨FR_refl, fun q hq => by rw [if_neg (by omega)]; exact hT q hq⟩ (by rw [fu_eq]; omega)
  · intro n i s hi ⟨hF, hI⟩ k
    have hv := hI i hi
    rw [if_neg (by omega)] at hv
    show WP (TX7_shorten_L44 (n + 1) (lN g) (nI i) s) _
    rw [TX7_shorten_L44, hF.1 64 0 (by omega), hN]
    simp (disch := omega) only [letS, Option.bind_some, aget_n, ite_jin, iI_nat, nI_1, nI_leI', nI_ltI', nI_eqI', up2_s, up2_n, va_up_s, va_up_n, if_neg]
    rw [hv, lI_n g, m_quot (hb i hi) (by omega) (by omega), ← lI_n]
    simp only [Option.bind_some]
    refine k _ ⟨FR_AL hF ⟨rfl, rfl⟩, fun q hq => ?_⟩
    simp only [up2_s, va_up_at]
    by_cases e : q = i
    · rw [if_pos e, e, if_pos (by omega)]
    · rw [if_neg e, hI q hq]
      congr 1
      by_cases e2 : q < i
      · rw [if_pos e2, if_pos (by omega)]
      · rw [if_neg e2, if_neg (by omega)]
  · intro n s ⟨hF, hI⟩
    show WP (TX7_shorten_L44 (n + 1) (lN g) (nI N) s) _
    rw [TX7_shorten_L44, hF.1 64 0 (by omega), hN]
    simp (disch := omega) only [letS, Option.bind_some, aget_n, ite_jin, iI_nat, nI_1, nI_leI', nI_ltI', nI_eqI', up2_s, up2_n, va_up_s, va_up_n, if_pos]
    exact wp_some ⟨hF, fun i hi => by have := hI i hi; rw [if_pos hi] at this; exact this⟩
theorem m_shorten (h : MB S A) (hA : okA 1008000000000000 A) : WP (TX7_shorten S) (fun r => FR pMt S r ∧ MB r (redA A)) := by
  have h8 := ok_n hA
  have hl := ok_l hA
  have hT : ∀ i, i < qN A → S.2.2.2 69 i = lI (qS A 1 i) := h.2.2.2.1
  have hb : ∀ i, i < qN A → l63 (qS A 1 i) := fun i hi => by have := ok_c hA hi; omega
  have L7 : ∀ (m i n : Nat), i + m = qN A → m + 1 ≤ n → TX7_shorten_L7 n (lN (gcdN (qS A 1) (qL A) i)) (nI i) S = TX7_shorten_L44 fu (lN (gcdN (qS A 1) (qL A) (qN A))) 0 (sFL S 64 6 (lN (redL (qS A 1) (qL A) (qN A)))) := by
    intro m
    induction m with
    | zero =>
      intro i n hi hn
      obtain ⟨n, rfl⟩ : ∃ q, n = q + 1 := ⟨n - 1, by omega⟩
      have g1 := gcdN_le (T := qS A 1) (l := qL A) (by omega) (qN A)
      have g0 := gcdN_pos (T := qS A 1) (l := qL A) (by omega) (qN A)
      rw [TX7_shorten_L7, h.1.1, if_pos (by rw [nI_cmp (by omega) (by omega)]; omega), show i = qN A by omega, h.2.1, lI_n (qL A), lI_n (gcdN (qS A 1) (qL A) (qN A)), m_quot (by omega) (by omega) (by omega), Option.bind_some, ← Int.ofNat_tdiv, ← lI_n, ← lI_n]
      rfl
    | succ m ih =>
      intro i n hi hn
      obtain ⟨n, rfl⟩ : ∃ q, n = q + 1 := ⟨n - 1, by omega⟩
      have g1 := gcdN_le (T := qS A 1) (l := qL A) (by omega) i
      rw [TX7_shorten_L7, h.1.1, if_neg (by rw [nI_cmp (by omega) (by omega)]; omega), aget_n (by omega) (by omega), Option.bind_some, hT i (by omega), lI_n (gcdN (qS A 1) (qL A) i), m_gcd (hb i (by omega)) (by omega), Option.bind_some, nI_1, Int.gcd_comm]
      exact ih (i + 1) n (by omega) (by omega)
  unfold TX7_shorten
  rw [h.2.1]
  refine wp_eq (L7 (qN A) 0 fu (by omega) (by rw [fu_eq]; omega)) ?_
  have g1 := gcdN_le (T := qS A 1) (l := qL A) (by omega) (qN A)
  have g0 := gcdN_pos (T := qS A 1) (l := qL A) (by omega) (qN A)
  refine wp_mono (m_sh44 (N := qN A) (T := qS A 1) h.1.1 h8 hT hb g0 (by omega)) fun r hr => ?_
  obtain ⟨hF, hI⟩ := hr
  have F2 : FR pMt S r := FR_trans (FR_FL FR_refl (by unfold pMt; omega)) (FR_mono hF (fun t k j z => by unfold pMt; omega))
  refine ⟨F2, ?_, ?_, ?_, hI, fun p hp => ?_⟩
  · exact MC_fr F2 (by unfold pMt; omega) (fun k h1 h2 => by unfold pMt; omega) h.1
  · rw [hF.2.1 64 6 (by omega)]
    simp (disch := omega) only [up2_s, up2_n, va_up_s, va_up_n]
    rfl
  · rw [hF.1 64 9 (by omega)]
    exact h.2.2.1
  · rw [hF.2.2.1 72 (by omega), hF.2.2.1 (72 + 1) (by omega), hF.2.2.1 (72 + 2) (by omega)]
    exact h.2.2.2.2 p hp
/-- the reference's pulses of a cell go -/
theorem m_hushed (h : MB S A) (hA : okA 1008000000000000 A) {x : Nat} (hx : x < 8) : WP (TX7_hushed (nI x) S) (fun r => r.1 = nI (qP A - (hushP A x).1) ∧ r.2 = (up2 S.1 64 9 (nI (hushP A x).1), S.2.1, pRows S.2.2.1 72 (hushP A x), S.2.2.2)) := by
  have h12 := ok_p hA
  have L4 : ∀ (m r n : Nat), r + m = qP A → m + 1 ≤ n → TX7_hushed_L4 n (nI x) (nI (cpt (fun i => !(qK A 3 i == x)) 0 A r).1) (nI r) (S.1, S.2.1, pRows S.2.2.1 72 (cpt (fun i => !(qK A 3 i == x)) 0 A r), S.2.2.2) = some (nI (qP A) - nI (hushP A x).1, (up2 S.1 64 9 (nI (hushP A x).1), S.2.1, pRows S.2.2.1 72 (hushP A x), S.2.2.2)) := by
    intro m
    induction m with
    | zero =>
      intro r n hr hn
      obtain ⟨n, rfl⟩ : ∃ q, n = q + 1 := ⟨n - 1, by omega⟩
      rw [TX7_hushed_L4]
      show (if S.1 64 9 ≤ _ then _ else _) = _
      rw [h.2.2.1, if_pos (by rw [nI_cmp (by omega) (by omega)]; omega), show r = qP A by omega]
      rfl
    | succ m ih =>
      intro r n hr hn
      obtain ⟨n, rfl⟩ : ∃ q, n = q + 1 := ⟨n - 1, by omega⟩
      have hle := cpt_le (fun i => !(qK A 3 i == x)) 0 A r
      have ih' := ih (r + 1) n (by omega) (by omega)
      rw [TX7_hushed_L4]
      show (if S.1 64 9 ≤ _ then _ else _) = _
      rw [h.2.2.1, if_neg (by rw [nI_cmp (by omega) (by omega)]; omega)]
      obtain ⟨g1, g2, g3⟩ := h.2.2.2.2 r (by omega)
      have hq := (ok_q hA (p := r) (by omega)).1
      have h8 := ok_n hA
      obtain ⟨h1, h2, h3⟩ := pRows_hi (F := S.2.2.1) (k := 72) (q := cpt (fun i => !(qK A 3 i == x)) 0 A r) hle
      show ((aget 12 (pRows S.2.2.1 72 (cpt (fun i => !(qK A 3 i == x)) 0 A r) 72) (nI r)).bind _) = _
      rw [aget_n (by omega) (by omega), Option.bind_some, h1, g1]
      rw [cpt] at ih'
      by_cases e : qK A 3 r = x
      · rw [if_pos (by rw [e]), nI_1]
        rw [if_neg (by simp [e])] at ih'
        exact ih'
      · rw [if_neg (by rw [nI_eq (by omega) (by omega)]; exact e)]
        rw [if_pos (by simp [e])] at ih'
        simp (disch := omega) only [letS, Option.bind_some, aget_n, ite_jin, iI_nat, nI_1, nI_leI', nI_ltI', nI_eqI', up2_s, up2_n, va_up_s, va_up_n]
        have e1 : pRows S.2.2.1 72 (cpt (fun i => !(qK A 3 i == x)) 0 A r) 73 r = nI (qK A 4 r) := h2.trans g2
        have e0 : pRows S.2.2.1 72 (cpt (fun i => !(qK A 3 i == x)) 0 A r) 72 r = nI (qK A 3 r) := h1.trans g1
        have e2 : pRows S.2.2.1 72 (cpt (fun i => !(qK A 3 i == x)) 0 A r) 74 r = iI (qS A 2 r) := h3.trans g3
        rw [e1, e2]
        have ep := pRows_s S.2.2.1 72 (cpt (fun i => !(qK A 3 i == x)) 0 A r) (qK A 3 r) (qK A 4 r) (qS A 2 r)
        rw [Nat.sub_zero, ← ep] at ih'
        exact ih'
  unfold TX7_hushed
  have h0 := L4 (qP A) 0 fu (by omega) (by rw [fu_eq]; omega)
  rw [show (cpt (fun i => !(qK A 3 i == x)) 0 A 0) = (0, fun _ => 0, fun _ => 0, fun _ => 0) from rfl, pRows_0] at h0
  refine wp_eq h0 (wp_some ⟨?_, rfl⟩)
  exact pk_sub (cpt_le _ _ _ _)
end RED2
