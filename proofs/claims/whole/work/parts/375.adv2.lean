/-! A step of the class. -/
theorem c8 : (Int32.toNatClampNeg 8) = 8 := by decide
theorem c0 : (Int32.toNatClampNeg 0) = 0 := by decide
theorem c12 : (Int32.toNatClampNeg 12) = 12 := by decide
theorem c2n : (Int32.toNatClampNeg (Int32.ofNat 2)) = 2 := by decide
theorem cp8 : cpok 0 0 8 8 8 := by decide
theorem cp12 : cpok 0 0 12 12 12 := by decide
theorem cp2 : cpok 0 0 (Int32.ofNat 2) 2 2 := by decide
theorem va_cpy_lt {α : Type} {f g : Nat → α} {n i : Nat} (h : i < n) : va_cpy f g 0 0 n i = f i := by
  unfold va_cpy
  rw [if_pos (by omega)]
  congr 1
  omega
theorem m2 : (-2 : Int32) = iI (-2) := by decide
theorem L12 : (1000000000000 : Int64) = lN 1000000000000 := by decide
theorem n63 {z : Int} (h : z.natAbs < 9223372036854775808) : l63 z := by omega
section TAKE
variable {S : SS} {A : AB} {b a N : Nat} {T : Nat → Int} {l : Nat}
theorem x_takeL {l4 : Int64} (hN : S.1 b 0 = nI N) (h8 : N ≤ 8) (hT : ∀ i, i < N → S.2.2.2 a i = lI (T i)) (hb : ∀ i, i < N → l63 (T i)) : ∀ (m i n : Nat), i + m = N → m + 1 ≤ n →
    TX0_takeHeats_L22 b a 8 n l4 (nI i) S = if bigN T m i = -2 then some (-2, sFL (sRL S (b + 8) (va_cpy (S.2.2.2 a) (S.2.2.2 (b + 8)) 0 0 8)) b 9 l4) else some (iI (bigN T m i), S) := by
  intro m
  induction m with
  | zero =>
    intro i n hi hn
    obtain ⟨n, rfl⟩ : ∃ q, n = q + 1 := ⟨n - 1, by omega⟩
    rw [TX0_takeHeats_L22, hN, if_pos (by rw [nI_cmp (by omega) (by omega)]; omega), if_pos cp8, c8, c0]
    exact (if_pos rfl).symm
  | succ m ih =>
    intro i n hi hn
    obtain ⟨n, rfl⟩ : ∃ q, n = q + 1 := ⟨n - 1, by omega⟩
    have hbi := hb i (by omega)
    rw [TX0_takeHeats_L22, hN, if_neg (by rw [nI_cmp (by omega) (by omega)]; omega), aget_n (by omega) (by omega), Option.bind_some, hT i (by omega), abs_l hbi, Option.bind_some, L12, bigN]
    have c : lN (T i).natAbs ≤ lN 1000000000000 ↔ (T i).natAbs ≤ 1000000000000 := pk_lLE (by omega) (by decide)
    by_cases e : (T i).natAbs ≤ 1000000000000
    · rw [if_pos (c.mpr e), if_pos e, nI_1]
      exact ih (i + 1) n (by omega) (by omega)
    · rw [if_neg (fun q => e (c.mp q)), if_neg e, if_neg (by omega), nI_z]
def pTk (b a t k j : Nat) : Prop := (t = 3 ∧ (k = a ∨ k = b + 8)) ∨ (t = 1 ∧ k = b ∧ j = 9)
theorem CB_rowH {f : Nat → Int64} {T' : Nat → Int} {l' : Nat} (h : CB S b A) (hf : ∀ i, i < qN A → f i = lI (T' i)) : CB (sFL (sRL S (b + 8) f) b 9 (lN l')) b (setH A T' l') := by
  obtain ⟨h1, h2, h3, h4, h5, h6, h7, h8, h9⟩ := h
  refine ⟨h1, h2, ?_, h4, h5, h6, h7, fun i hi => ?_, h9⟩
  · show up2 S.2.1 b 9 _ b 9 = _
    rw [up2_s, va_up_s]
    rfl
  · obtain ⟨g1, g2, g3, g4, g5, g6, g7, g8⟩ := h8 i hi
    refine ⟨g1, g2, g3, g4, g5, g6, g7, ?_⟩
    show va_up S.2.2.2 (b + 8) f (b + 8) i = _
    rw [va_up_s]
    exact hf i hi
theorem x_take (h : CB S b A) (h8 : qN A ≤ 8) (ha : a ≠ b + 8) (hT : ∀ i, i < qN A → S.2.2.2 a i = lI (T i)) (hb : ∀ i, i < qN A → l63 (T i)) (hl : 0 < l) (hl2 : l < 9223372036854775808) :
    WP (TX0_takeHeats b a 8 (lN l) S) (fun r => r.1 = iI (takeC T l (qN A)) ∧ FR (pTk b a) S r.2 ∧ CB r.2 b (if takeC T l (qN A) = -2 then setH A (redT T l (qN A)) (redL T l (qN A)) else A)) := by
  unfold TX0_takeHeats
  rw [x_reduce h.1 h8 (by omega) hT hb hl hl2, Option.bind_some, L12]
  have hr : redL T l (qN A) ≤ l := Nat.div_le_self _ _
  have c : lN (redL T l (qN A)) ≤ lN 1000000000000 ↔ redL T l (qN A) ≤ 1000000000000 := pk_lLE (by omega) (by decide)
  have hC : CB (sRL S a (redF (S.2.2.2 a) T (gcdN T l (qN A)) (qN A))) b A := CB_row ha h
  have hF : FR (pTk b a) S (sRL S a (redF (S.2.2.2 a) T (gcdN T l (qN A)) (qN A))) := FR_RL FR_refl (Or.inl ⟨rfl, Or.inl rfl⟩)
  have hB := takeC_B (T := T) (l := l) (n := qN A)
  unfold takeC at hB ⊢
  show WP (if lN (redL T l (qN A)) ≤ _ then _ else _) _
  by_cases e : redL T l (qN A) ≤ 1000000000000
  · rw [if_pos (c.mpr e)]
    rw [if_pos e] at hB ⊢
    have hrow : ∀ i, i < qN A → (sRL S a (redF (S.2.2.2 a) T (gcdN T l (qN A)) (qN A))).2.2.2 a i = lI (redT T l (qN A) i) := fun i hi => by
      show va_up S.2.2.2 a _ a i = _
      rw [va_up_s]
      unfold redF
      rw [if_pos hi]
      rfl
    refine wp_eq (x_takeL (T := redT T l (qN A)) hC.1 h8 hrow (fun i hi => tdiv_l63 (hb i hi)) (qN A) 0 fu (by omega) (by rw [show fu = 4096 from rfl]; omega)) ?_
    by_cases e2 : bigN (redT T l (qN A)) (qN A) 0 = -2
    · rw [if_pos e2, if_pos e2]
      refine wp_some ⟨by rw [e2]; exact m2, FR_FL (FR_RL hF (Or.inl ⟨rfl, Or.inr rfl⟩)) (Or.inr ⟨rfl, rfl, rfl⟩), ?_⟩
      refine CB_rowH hC fun i hi => ?_
      rw [va_cpy_lt (by omega)]
      exact hrow i hi
    · rw [if_neg e2, if_neg e2]
      exact wp_some ⟨rfl, hF, hC⟩
  · rw [if_neg (fun q => e (c.mp q)), if_neg e, if_neg (by decide)]
    exact wp_some ⟨km1, hF, hC⟩
theorem CB_pset (p : P3) (h : CB S b A) : CB (pSet S (b + 10) p) b (setP A p) := by
  obtain ⟨h1, h2, h3, h4, h5, h6, h7, h8, h9⟩ := h
  have e : ∀ k, k < b + 11 ∨ b + 13 < k → (pSet S (b + 10) p).2.2.1 k = S.2.2.1 k := fun k hk => pRows_ne _ _ _ (by omega)
  have ef : ∀ j, (pSet S (b + 10) p).1 b j = S.1 b j := fun j => by
    show up2 S.1 (b + 10) 3 _ b j = _
    rw [up2_n _ _ _ (by omega)]
  refine ⟨(ef 0).trans h1, ?_, h3, (ef 11).trans h4, (ef 12).trans h5, ?_, ?_, fun i hi => ?_, fun q hq => ?_⟩
  · show up2 S.1 (b + 10) 3 _ (b + 10) 3 = _
    rw [up2_s, va_up_s]
    rfl
  · rw [e _ (by omega)]; exact h6
  · rw [e _ (by omega)]; exact h7
  · rw [e _ (by omega), e _ (by omega), e _ (by omega), e _ (by omega), e _ (by omega), e _ (by omega), e _ (by omega)]
    exact h8 i hi
  · have hq' : q < p.1 := hq
    refine ⟨?_, ?_, ?_⟩
    · show pRows S.2.2.1 (b + 11) p (b + 11) q = _
      rw [pRows_r0]; exact if_pos hq'
    · show pRows S.2.2.1 (b + 11) p (b + 11 + 1) q = _
      rw [pRows_r1]; exact if_pos hq'
    · show pRows S.2.2.1 (b + 11) p (b + 11 + 2) q = _
      rw [pRows_r2]; exact if_pos hq'
theorem FR_pset {P : Nat → Nat → Nat → Prop} {S0 : SS} {p : Nat} {q : P3} (h : FR P S0 S) (h1 : P 0 p 3) (h2 : P 2 (p + 1) 0) (h3 : P 2 (p + 2) 0) (h4 : P 2 (p + 3) 0) : FR P S0 (pSet S p q) := by
  refine FR_trans h ⟨fun k j hk => ?_, fun _ _ _ => rfl, fun k hk => ?_, fun _ _ => rfl⟩
  · show up2 S.1 p 3 _ k j = _
    exact if_neg (fun z => hk (by rw [z.1, z.2]; exact h1))
  · refine pRows_ne _ _ _ ?_
    have e1 : k ≠ p + 1 := fun z => hk (z ▸ h2)
    have e2 : k ≠ p + 2 := fun z => hk (z ▸ h3)
    have e3 : k ≠ p + 3 := fun z => hk (z ▸ h4)
    omega
theorem CB_PC (h : CB S b A) : PC S (b + 11) A := fun r hr => h.2.2.2.2.2.2.2.2 r hr
/-- the step of a bar of the class -/
theorem x_adv (h : CB S b A) (hA : okA 1008000000000000 A) : WP (TX0_advance b S) (fun r => r.1 = iI (stepC A) ∧ FR (pB b) S r.2 ∧ CB r.2 b (if stepC A = -2 then stepA A else A)) := by
  have h8 := ok_n hA
  have hf := ok_f hA
  have hl := line_B hA
  unfold TX0_advance
  rw [h.2.2.2.1, show (24 : Int32) = nI 24 from rfl, pk_mul, nI_wideI (by omega)]
  have e0 := x_advL h hA (qN A) 0 fu (by omega) (by rw [show fu = 4096 from rfl]; omega)
  rw [rowL_0, sRL_id] at e0
  rw [show ((24 * qF A : Nat) : Int) = 24 * (qF A : Int) by omega, show (0 : Int32) = nI 0 from rfl, e0]
  obtain ⟨n, hn⟩ : ∃ q, fu - qN A = q + 1 := ⟨fu - qN A - 1, by rw [show fu = 4096 from rfl]; omega⟩
  rw [hn, TX0_advance_L11]
  have h1 : CB (sRL S (b + 14) (rowL (S.2.2.2 (b + 14)) (baseA A) (qN A))) b A := CB_row (by omega) h
  rw [h1.1, if_pos (by rw [nI_cmp (by omega) (by omega)]; omega), h1.2.2.1, lI_n, lI_mul]
  have eL : ((qL A : Int) * (24 * (qF A : Int))) = ((lineA A : Nat) : Int) := by
    unfold lineA
    rw [Int.natCast_mul, Int.natCast_mul]
    rfl
  have hr : ∀ i, i < qN A → (sRL S (b + 14) (rowL (S.2.2.2 (b + 14)) (baseA A) (qN A))).2.2.2 (b + 14) i = lI (baseA A i) := fun i hi => by
    show va_up S.2.2.2 (b + 14) _ (b + 14) i = _
    rw [va_up_s, rowL_lt hi]
  rw [eL, x_warm (p := b + 10) (a := b + 14) (B := baseA A) (l := lineA A) h1.2.1 (CB_PC h1) hA hr, Option.bind_some]
  have h2 := CB_row (k := b + 14) (f := rowL ((sRL S (b + 14) (rowL (S.2.2.2 (b + 14)) (baseA A) (qN A))).2.2.2 (b + 14)) (fun i => baseA A i + comeA A i (qP A) * (lineA A : Nat)) (qN A)) (by omega) h1
  have hr2 : ∀ i, i < qN A → (sRL (sRL S (b + 14) (rowL (S.2.2.2 (b + 14)) (baseA A) (qN A))) (b + 14) (rowL ((sRL S (b + 14) (rowL (S.2.2.2 (b + 14)) (baseA A) (qN A))).2.2.2 (b + 14)) (fun i => baseA A i + comeA A i (qP A) * (lineA A : Nat)) (qN A))).2.2.2 (b + 14) i = lI (nextA A i) := fun i hi => by
    show va_up (α := Nat → Int64) _ (b + 14) _ (b + 14) i = _
    rw [va_up_s, rowL_lt hi]
    rfl
  have F2 : FR (pB b) S (sRL (sRL S (b + 14) (rowL (S.2.2.2 (b + 14)) (baseA A) (qN A))) (b + 14) (rowL ((sRL S (b + 14) (rowL (S.2.2.2 (b + 14)) (baseA A) (qN A))).2.2.2 (b + 14)) (fun i => baseA A i + comeA A i (qP A) * (lineA A : Nat)) (qN A))) := FR_RL (FR_RL FR_refl (by unfold pB; omega)) (by unfold pB; omega)
  revert h2 hr2 F2
  generalize sRL (sRL S (b + 14) (rowL (S.2.2.2 (b + 14)) (baseA A) (qN A))) (b + 14) (rowL ((sRL S (b + 14) (rowL (S.2.2.2 (b + 14)) (baseA A) (qN A))).2.2.2 (b + 14)) (fun i => baseA A i + comeA A i (qP A) * (lineA A : Nat)) (qN A)) = S2
  intro h2 hr2 F2
  rw [h2.2.2.1, lI_n, lI_mul, eL, ← lI_n]
  refine wp_bind (x_take h2 h8 (by omega) hr2 (fun i hi => by have := next_B hA hi; omega) hl.1 (by omega)) fun r hr => ?_
  obtain ⟨r1, r2, r3⟩ := hr
  have F3 : FR (pB b) S r.2 := FR_trans F2 (FR_mono r2 (fun t k j hk => by unfold pTk at hk; unfold pB; omega))
  have hB := takeC_B (T := nextA A) (l := lineA A) (n := qN A)
  have c : r.1 = -2 ↔ stepC A = -2 := by
    unfold stepC
    rw [r1, m2, iI_eq (by omega) (by omega)]
  by_cases e : stepC A = -2
  · rw [if_pos (c.mpr e), if_pos e]
    unfold stepC at e
    rw [if_pos e] at r3
    have hp := x_passOne (p := b + 10) (A := setH A (redT (nextA A) (lineA A) (qN A)) (redL (nextA A) (lineA A) (qN A))) r3.2.1 (CB_PC r3) (show qP A ≤ 12 from ok_p hA) (fun q hq => by have := ok_q hA (p := q) hq; exact ⟨this.2.1, this.2.2.1⟩)
    rw [hp, Option.bind_some]
    exact wp_some ⟨r1, FR_pset F3 (by unfold pB; omega) (by unfold pB; omega) (by unfold pB; omega) (by unfold pB; omega), CB_pset _ r3⟩
  · rw [if_neg (fun q => e (c.mp q)), if_neg e]
    unfold stepC at e
    rw [if_neg e] at r3
    exact wp_some ⟨r1, F3, r3⟩
end TAKE
