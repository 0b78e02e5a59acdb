/-! Calls: film, tells. -/
section FLM
variable {S : SS} {A : AB} {s : ST}
/-- the whole part of a cell's heat; what film writes of it -/
def whA (A : AB) (i : Nat) : Int := qS A 1 i / qL A
def flC (w : Int) : Int := if w < -999 then -999 else if 999 < w then 999 else w
theorem wh_B (hA : okA 1008000000000000 A) {i : Nat} (hi : i < qN A) : i63 (whA A i) ∧ l63 (qS A 1 i) ∧ (0 : Int) < qL A ∧ (qL A : Int) < 9223372036854775808 := by
  have hc := ok_c hA hi
  have hl := ok_l hA
  refine ⟨?_, by omega, by omega, by omega⟩
  unfold whA
  have h1 : qS A 1 i / (qL A : Int) * (qL A : Int) ≤ qS A 1 i := Int.ediv_mul_le _ (by omega)
  have h2 : qS A 1 i < (qS A 1 i / (qL A : Int) + 1) * (qL A : Int) := Int.lt_ediv_add_one_mul_self _ (by omega)
  constructor
  · by_cases h : -9223372036854775808 ≤ qS A 1 i / (qL A : Int)
    · exact h
    · have : (qS A 1 i / (qL A : Int) + 1) * (qL A : Int) ≤ (qS A 1 i / (qL A : Int) + 1) * 1 := Int.mul_le_mul_of_nonpos_left (by omega) (by omega)
      omega
  · by_cases h : qS A 1 i / (qL A : Int) < 9223372036854775808
    · exact h
    · have : qS A 1 i / (qL A : Int) * 1 ≤ qS A 1 i / (qL A : Int) * (qL A : Int) := Int.mul_le_mul_of_nonneg_left (by omega) (by omega)
      omega
theorem x_whA {b i : Nat} (h : CB S b A) (hA : okA 1008000000000000 A) (hi : i < qN A) : aget 8 (S.2.2.2 (b + 8)) (nI i) = some (lI (qS A 1 i)) ∧ TX6_wholePart (lI (qS A 1 i)) (S.2.1 b 9) = some (lI (whA A i)) := by
  have h8 := ok_n hA
  obtain ⟨b1, b2, b3, b4⟩ := wh_B hA hi
  refine ⟨by rw [aget_n (by omega) (by omega), (h.2.2.2.2.2.2.2.1 i hi).2.2.2.2.2.2.2], ?_⟩
  rw [h.2.2.1, lI_n]
  exact x_whole b2 b3 b4
theorem m_whA {i : Nat} (h : MM S A) (hA : okA 1008000000000000 A) (hi : i < qN A) : aget 8 (S.2.2.2 75) (nI i) = some (lI (qS A 1 i)) ∧ TJ9_floorDiv_f86c9 (lI (qS A 1 i)) (S.2.1 64 14) = some (lI (whA A i)) := by
  have h8 := ok_n hA
  obtain ⟨b1, b2, b3, b4⟩ := wh_B hA hi
  refine ⟨by rw [aget_n (by omega) (by omega), h.2.2.2.1 i hi], ?_⟩
  rw [h.2.1, lI_n]
  exact fdiv_l b2 b3 b4
theorem flC_B (w : Int) : -999 ≤ flC w ∧ flC w ≤ 999 := by
  unfold flC
  split
  · omega
  · split <;> omega
theorem x_clamp {w : Int} (hw : i63 w) : (TJ9_min_f86c9 999 (lI w)).bind (fun v22 => TJ9_max_f86c9 (-999) v22) = some (lI (flC w)) := by
  unfold TJ9_min_f86c9 TJ9_max_f86c9 flC
  rw [show (-999 : Int64) = lI (-999) from rfl, show (999 : Int64) = lI 999 from rfl]
  by_cases h1 : w < 999
  · rw [if_pos ((lI_lt hw (by omega)).mpr h1), Option.bind_some]
    by_cases h2 : -999 < w
    · rw [if_pos ((lI_lt (by omega) hw).mpr h2), if_neg (by omega), if_neg (by omega)]
    · rw [if_neg (fun z => h2 ((lI_lt (by omega) hw).mp z))]
      by_cases h3 : w < -999
      · rw [if_pos h3]
      · rw [if_neg h3, if_neg (by omega)]
        congr 2
        omega
  · rw [if_neg (fun z => h1 ((lI_lt hw (by omega)).mp z)), Option.bind_some, if_pos ((lI_lt (by omega) (by omega)).mpr (by omega)), if_neg (by omega)]
    by_cases h3 : 999 < w
    · rw [if_pos h3]
    · rw [if_neg h3]
      congr 2
      omega
/-- k values are told; m more -/
def flG (i : Nat) : Nat → Nat → AB → (Nat → Int) → Option (Nat → Int)
  | 0, _, _, g => some g
  | m + 1, k, A, g => if k = 0 then flG i m 1 A (va_up g 0 (flC (whA A i))) else if stepC A = -2 then flG i m (k + 1) (stepA A) (va_up g k (flC (whA (stepA A) i))) else none
def pFx (t k j : Nat) : Prop := pB 16 t k j ∨ (t = 2 ∧ k = 63)
def pFm (t k j : Nat) : Prop := pMi t k j ∨ (t = 2 ∧ k = 83)
theorem pFx_s : ∀ t k j, pFx t k j → pXs t k j := fun t k j h => by unfold pFx pB at h; unfold pXs; omega
theorem pFm_s : ∀ t k j, pFm t k j → pMs t k j := fun t k j h => by unfold pFm pMi at h; unfold pMs; omega
theorem CB_63 {i j : Nat} {v : Int32} (h : CB S 16 A) (hi : 31 ≤ i) : CB (sAI S i j v) 16 A := by
  refine CB_fr' (P := fun t k _ => t = 2 ∧ k = i) (FR_AI FR_refl ⟨rfl, rfl⟩) (fun t k j h1 h2 => by omega) h
/-- one value written by the class -/
theorem x_flJ {r : Int32 → Int32 → Int32 → Int32 → SS → Option (Int32 × SS)} {a1 a3 : Int32} {i k : Nat} (h : CB S 16 A) (hA : okA 1008000000000000 A) (hi : i < qN A) (hk : k < 10) : TX6_film_J71 r a1 (nI i) a3 (nI k) S = r a1 (nI i) a3 (nI (k + 1)) (sAI S 63 k (iI (flC (whA A i)))) := by
  unfold TX6_film_J71
  have hw := (wh_B hA hi).1
  have hx := x_whA h hA hi
  have hc := x_clamp hw
  have hB := flC_B (whA A i)
  have e1 : aget 8 (S.2.2.2 24) (nI i) = some (lI (qS A 1 i)) := hx.1
  rw [e1, Option.bind_some, hx.2, Option.bind_some]
  obtain ⟨v, hv, hv2⟩ : ∃ v, TJ9_min_f86c9 999 (lI (whA A i)) = some v ∧ TJ9_max_f86c9 (-999) v = some (lI (flC (whA A i))) := by
    unfold TJ9_min_f86c9 at hc ⊢
    by_cases e : lI (whA A i) < 999
    · rw [if_pos e] at hc ⊢
      exact ⟨_, rfl, hc⟩
    · rw [if_neg e] at hc ⊢
      exact ⟨_, rfl, hc⟩
  rw [hv, Option.bind_some, hv2, Option.bind_some, if_pos (iI_in hk (by omega)), iI_nat k (by omega), l32 (by omega), nI_1]
  rfl
theorem m_flJ {r : Int32 → Int32 → Int32 → Int32 → SS → Option (Int32 × SS)} {a1 a3 : Int32} {i k : Nat} (h : MM S A) (hA : okA 1008000000000000 A) (hi : i < qN A) (hk : k < 10) : TX7_film_J58 r a1 (nI i) a3 (nI k) S = r a1 (nI i) a3 (nI (k + 1)) (sAI S 83 k (iI (flC (whA A i)))) := by
  unfold TX7_film_J58
  have hw := (wh_B hA hi).1
  have hx := m_whA h hA hi
  rw [hx.1, Option.bind_some, hx.2, Option.bind_some, if_pos (iI_in hk (by omega)), if_pos (iI_in hk (by omega)), if_pos (iI_in hk (by omega)), iI_nat k (by omega), nI_1, show (-999 : Int64) = lI (-999) from rfl, show (999 : Int64) = lI 999 from rfl]
  unfold flC
  by_cases h1 : whA A i < -999
  · rw [if_neg (fun z => by have := (lI_le (by omega) hw).mp z; omega), if_pos h1]
    rfl
  · rw [if_pos ((lI_le (by omega) hw).mpr (by omega)), if_neg h1]
    by_cases h2 : 999 < whA A i
    · rw [if_neg (fun z => by have := (lI_le hw (by omega)).mp z; omega), if_pos h2]
      rfl
    · rw [if_pos ((lI_le hw (by omega)).mpr (by omega)), if_neg h2, l32 (by omega)]
      rfl
theorem x_flL {N i : Nat} {a1 : Int32} (hN : N ≤ 10) : ∀ (m k n : Nat) (A : AB) (S : SS) (g : Nat → Int), k + m = N → m + 1 ≤ n → CB S 16 A → okA 1008000000000000 A → i < qN A → (∀ q, q < k → S.2.2.1 63 q = iI (g q)) →
    ∃ S', FR pFx S S' ∧ ((flG i m k A g = none ∧ TX6_film_L45 n a1 (nI i) (nI N) (nI k) S = some (-3, S')) ∨ (∃ g' n', flG i m k A g = some g' ∧ (∀ q, q < N → S'.2.2.1 63 q = iI (g' q)) ∧ TX6_film_L45 n a1 (nI i) (nI N) (nI k) S = TX6_film_L45 (n' + 1) a1 (nI i) (nI N) (nI N) S')) := by
  intro m
  induction m with
  | zero =>
    intro k n A S g hk hn h hA hi hg
    obtain ⟨n, rfl⟩ : ∃ q, n = q + 1 := ⟨n - 1, by omega⟩
    obtain rfl : k = N := by omega
    exact ⟨S, FR_refl, Or.inr ⟨g, n, rfl, hg, rfl⟩⟩
  | succ m ih =>
    intro k n A S g hk hn h hA hi hg
    obtain ⟨n, rfl⟩ : ∃ q, n = q + 1 := ⟨n - 1, by omega⟩
    have h8 := ok_n hA
    rw [TX6_film_L45, if_neg (by rw [nI_cmp (by omega) (by omega)]; omega), flG]
    have upd : ∀ (S1 : SS) (v : Int), (∀ q, q < k → S1.2.2.1 63 q = iI (g q)) → ∀ q, q < k + 1 → (sAI S1 63 k (iI v)).2.2.1 63 q = iI (va_up g k v q) := fun S1 v h1 q hq => by
      simp (disch := omega) only [up2_s, va_up_at]
      by_cases e : q = k
      · rw [if_pos e, if_pos e]
      · rw [if_neg e, if_neg e]; exact h1 q (by omega)
    by_cases e0 : k = 0
    · subst e0
      rw [if_pos rfl, if_pos (show nI 0 ≤ 0 from by decide), x_flJ h hA hi (by omega)]
      obtain ⟨S', hF, hR⟩ := ih 1 n A (sAI S 63 0 (iI (flC (whA A i)))) (va_up g 0 (flC (whA A i))) (by omega) (by omega) (CB_63 h (by omega)) hA hi (upd S _ hg)
      exact ⟨S', FR_trans (FR_AI FR_refl (Or.inr ⟨rfl, rfl⟩)) hF, hR⟩
    · rw [if_neg (nI_nle (by omega) (by omega)), if_neg e0]
      obtain ⟨r, er, r1, r2, r3⟩ := x_adv h hA
      have hB := stepC_B A
      have c : r.1 = -2 ↔ stepC A = -2 := by rw [r1, m2, iI_eq (by omega) (by omega)]
      rw [er, Option.bind_some]
      by_cases e : stepC A = -2
      · rw [if_pos (c.mpr e), if_pos e]
        rw [if_pos e] at r3
        have hA' := ok_step hA (by omega) (by omega) e
        rw [x_flJ r3 hA' hi (by omega)]
        obtain ⟨S', hF, hR⟩ := ih (k + 1) n (stepA A) (sAI r.2 63 k (iI (flC (whA (stepA A) i)))) (va_up g k (flC (whA (stepA A) i))) (by omega) (by omega) (CB_63 r3 (by omega)) hA' hi (upd r.2 _ (fun q hq => by rw [r2.2.2.1 63 (by unfold pB; omega)]; exact hg q hq))
        exact ⟨S', FR_trans (FR_AI (FR_mono r2 (fun _ _ _ z => Or.inl z)) (Or.inr ⟨rfl, rfl⟩)) hF, hR⟩
      · rw [if_neg (fun z => e (c.mp z)), if_neg e]
        exact ⟨r.2, FR_mono r2 (fun _ _ _ z => Or.inl z), Or.inl ⟨rfl, rfl⟩⟩
theorem MM_83 {k j : Nat} {v : Int32} (h : MM S A) (hk : 79 ≤ k) : MM (sAI S k j v) A := by
  have hF : FR (fun t q _ => t = 2 ∧ q = k) S (sAI S k j v) := FR_AI FR_refl ⟨rfl, rfl⟩
  exact ⟨MC_fr hF (by omega) (fun k h1 h2 => by omega) h.1, MH_fr hF (by omega) (by omega) (by omega) (fun k h1 h2 => by omega) h.2⟩
theorem m_flL {N i : Nat} {a1 : Int32} (hN : N ≤ 10) : ∀ (m k n : Nat) (A : AB) (S : SS) (g : Nat → Int), k + m = N → m + 1 ≤ n → MM S A → okA 1008000000000000 A → i < qN A → (∀ q, q < k → S.2.2.1 83 q = iI (g q)) →
    ∃ S', FR pFm S S' ∧ ((flG i m k A g = none ∧ TX7_film_L37 n a1 (nI i) (nI N) (nI k) S = some (-3, S')) ∨ (∃ g' n', flG i m k A g = some g' ∧ (∀ q, q < N → S'.2.2.1 83 q = iI (g' q)) ∧ TX7_film_L37 n a1 (nI i) (nI N) (nI k) S = TX7_film_L37 (n' + 1) a1 (nI i) (nI N) (nI N) S')) := by
  intro m
  induction m with
  | zero =>
    intro k n A S g hk hn h hA hi hg
    obtain ⟨n, rfl⟩ : ∃ q, n = q + 1 := ⟨n - 1, by omega⟩
    obtain rfl : k = N := by omega
    exact ⟨S, FR_refl, Or.inr ⟨g, n, rfl, hg, rfl⟩⟩
  | succ m ih =>
    intro k n A S g hk hn h hA hi hg
    obtain ⟨n, rfl⟩ : ∃ q, n = q + 1 := ⟨n - 1, by omega⟩
    have h8 := ok_n hA
    rw [TX7_film_L37, if_neg (by rw [nI_cmp (by omega) (by omega)]; omega), flG]
    have upd : ∀ (S1 : SS) (v : Int), (∀ q, q < k → S1.2.2.1 83 q = iI (g q)) → ∀ q, q < k + 1 → (sAI S1 83 k (iI v)).2.2.1 83 q = iI (va_up g k v q) := fun S1 v h1 q hq => by
      simp (disch := omega) only [up2_s, va_up_at]
      by_cases e : q = k
      · rw [if_pos e, if_pos e]
      · rw [if_neg e, if_neg e]; exact h1 q (by omega)
    by_cases e0 : k = 0
    · subst e0
      rw [if_pos rfl, if_pos (show nI 0 ≤ 0 from by decide), m_flJ h hA hi (by omega)]
      obtain ⟨S', hF, hR⟩ := ih 1 n A (sAI S 83 0 (iI (flC (whA A i)))) (va_up g 0 (flC (whA A i))) (by omega) (by omega) (MM_83 h (by omega)) hA hi (upd S _ hg)
      exact ⟨S', FR_trans (FR_AI FR_refl (Or.inr ⟨rfl, rfl⟩)) hF, hR⟩
    · rw [if_neg (nI_nle (by omega) (by omega)), if_neg e0]
      obtain ⟨r, er, r1, r2, -, r3⟩ := m_goes h hA
      rw [er, Option.bind_some]
      by_cases e : stepC A = -2
      · rw [if_neg (fun z => (b2i_z r1).mp z e), if_pos e]
        rw [if_pos e] at r3
        have hA' := ok_step hA (by omega) (by omega) e
        rw [m_flJ r3 hA' hi (by omega)]
        obtain ⟨S', hF, hR⟩ := ih (k + 1) n (stepA A) (sAI r.2 83 k (iI (flC (whA (stepA A) i)))) (va_up g k (flC (whA (stepA A) i))) (by omega) (by omega) (MM_83 r3 (by omega)) hA' hi (upd r.2 _ (fun q hq => by rw [r2.2.2.1 83 (by unfold pMi; omega)]; exact hg q hq))
        exact ⟨S', FR_trans (FR_AI (FR_mono r2 (fun _ _ _ z => Or.inl z)) (Or.inr ⟨rfl, rfl⟩)) hF, hR⟩
      · rw [if_pos ((b2i_z r1).mpr e), if_neg e]
        exact ⟨r.2, FR_mono r2 (fun _ _ _ z => Or.inl z), Or.inl ⟨rfl, rfl⟩⟩
/-- the reference lays the film down -/
theorem m_fl136 {i n : Nat} {g : Nat → Int} (hs : okS s) (cm : CM S s) (hi : i < 4) (hn : n ≤ 10) (hg : ∀ q, q < n → S.2.2.1 83 q = iI (g q)) : WP (TX7_film_L136 fu (nI i) (nI n) 0 (sAI (sAI S 98 i 1) 99 i (nI n))) (fun r => r.1 = nI n ∧ FR pM S r.2 ∧ CM r.2 (setSh s i 1 n (fun q => iI (g q)))) := by
  refine wp_up (F := fun m j r => TX7_film_L136 m (nI i) (nI n) (nI j) r) (N := n) (I := fun j r => FR pMh S r ∧ (∀ q, q < 4 → r.2.2.1 98 q = if q = i then iI 1 else S.2.2.1 98 q) ∧ (∀ q, q < 4 → r.2.2.1 99 q = if q = i then nI n else S.2.2.1 99 q) ∧ (∀ q, q < n → r.2.2.1 83 q = iI (g q)) ∧ (∀ q, q < j → r.2.2.1 100 (40 * i + q) = iI (g q)) ∧ ∀ q x, q < 4 → q ≠ i → x < 40 → r.2.2.1 100 (40 * q + x) = S.2.2.1 100 (40 * q + x)) ?_ ?_ 0 _ fu (by omega) ⟨FR_AI (FR_AI FR_refl (by unfold pMh; omega)) (by unfold pMh; omega), fun q hq => ?_, fun q hq => ?_, fun q hq => ?_, fun q hq => by omega, fun q x h1 h2 h3 => ?_⟩ (by rw [fu_eq]; omega)
  · intro m j r hj ⟨hF, h3, h4, h8, h5, h6⟩ k
    show WP (TX7_film_L136 (m + 1) (nI i) (nI n) (nI j) r) _
    rw [TX7_film_L136, show (40 : Int32) = nI 40 from rfl]
    simp (disch := omega) only [pk_mul, nI_add, letS, Option.bind_some, aget_n, ite_jin, iI_nat, nI_1, nI_leI', nI_ltI', nI_eqI', up2_s, up2_n, va_up_s, va_up_n, h8, if_neg]
    refine k _ ⟨FR_AI hF (by unfold pMh; omega), fun q hq => ?_, fun q hq => ?_, fun q hq => ?_, fun q hq => ?_, fun q x y1 y2 y3 => ?_⟩
    · simp (disch := omega) only [up2_n]
      exact h3 q hq
    · simp (disch := omega) only [up2_n]
      exact h4 q hq
    · simp (disch := omega) only [up2_n]
      exact h8 q hq
    · simp (disch := omega) only [up2_s, va_up_at]
      by_cases e : q = j
      · rw [if_pos (by omega), e]
      · rw [if_neg (by omega)]; exact h5 q (by omega)
    · simp (disch := omega) only [up2_s, va_up_at]
      rw [if_neg (by omega)]
      exact h6 q x y1 y2 y3
  · intro m r ⟨hF, h3, h4, h8, h5, h6⟩
    show WP (TX7_film_L136 (m + 1) (nI i) (nI n) (nI n) r) _
    rw [TX7_film_L136]
    simp (disch := omega) only [nI_leI', if_pos]
    exact wp_some ⟨rfl, FR_mono hF (fun t k j z => by unfold pMh at z; unfold pM; omega), CM_sh hF (fun t k j z => Or.inr (Or.inr z)) hs cm h3 h4 h5 h6⟩
  · simp (disch := omega) only [up2_s, up2_n, va_up_at]
    rfl
  · simp (disch := omega) only [up2_s, up2_n, va_up_at]
  · simp (disch := omega) only [up2_n]
    exact hg q hq
  · simp (disch := omega) only [up2_n]
theorem a_film (hs : okS s) (a1 a2 a3 : Int32) : ∃ v s', okS s' ∧ OX (TX6_film a1 a2 a3) s v s' ∧ OM (TX7_film a1 a2 a3) s v s' := by
  obtain ⟨z1, h1, rfl⟩ := i_cases a1
  obtain ⟨z2, h2, rfl⟩ := i_cases a2
  obtain ⟨z3, h3, rfl⟩ := i_cases a3
  have h8 := ok_n hs.1
  have h12 := ok_p hs.1
  have hA := okS_8 hs
  have xb := x_rngN (z := z3) (a' := 0) (b' := 10) (by decide : (0 : Int32) = iI 0) (by decide : (10 : Int32) = iI 10) (by omega) (by omega) h3
  rcases emn (0 ≤ z1 ∧ z1 ≤ 3) with c1 | c1
  · refine ⟨-2, s, hs, OX_no fun S c => ?_, OM_no fun S c => ?_⟩
    · unfold TX6_film
      rw [x_isSheet h1, Option.bind_some, ite_b, if_neg c1]
    · unfold TX7_film
      rw [m_isSheet h1, Option.bind_some, ite_b, if_neg c1]
  rcases emn (0 ≤ z2 ∧ z2 < qN (tA s)) with c2 | c2
  · refine ⟨-2, s, hs, OX_no fun S c => ?_, OM_no fun S c => ?_⟩
    · unfold TX6_film
      rw [x_isSheet h1, Option.bind_some, ite_b, if_pos c1, x_has c.1 h8 h2, Option.bind_some, ite_b, if_neg c2]
    · unfold TX7_film
      rw [m_isSheet h1, Option.bind_some, ite_b, if_pos c1, m_isCell c.1.1 h8 h2, Option.bind_some, ite_b, if_neg c2]
  rcases emn (0 ≤ z3 ∧ z3 ≤ 10) with c3 | c3
  · refine ⟨-2, s, hs, OX_no fun S c => ?_, OM_no fun S c => ?_⟩
    · unfold TX6_film
      rw [x_isSheet h1, Option.bind_some, ite_b, if_pos c1, x_has c.1 h8 h2, Option.bind_some, ite_b, if_pos c2, xb, Option.bind_some, ite_b, if_neg c3]
    · unfold TX7_film
      rw [m_isSheet h1, Option.bind_some, ite_b, if_pos c1, m_isCell c.1.1 h8 h2, Option.bind_some, ite_b, if_pos c2, m_in010 h3, Option.bind_some, ite_b, if_neg c3]
  obtain ⟨sh, rfl⟩ := i_nat c1.1
  obtain ⟨i, rfl⟩ := i_nat c2.1
  obtain ⟨N, rfl⟩ := i_nat c3.1
  have hsh : sh < 4 := by omega
  have hi : i < qN (tA s) := by omega
  have xe : ∀ S, CX S s → ∃ r, TX6_film (iI sh) (iI i) (iI N) S = TX6_film_L45 fu (nI sh) (nI i) (nI N) (nI 0) r ∧ FR (pB 16) S r ∧ CB r 16 (tA s) := fun S cx => by
    obtain ⟨r, er, hr⟩ := x_become (b := 16) cx.1 h8 h12 (by omega)
    refine ⟨r, ?_, hr⟩
    unfold TX6_film
    rw [x_isSheet h1, Option.bind_some, ite_b, if_pos c1, x_has cx.1 h8 h2, Option.bind_some, ite_b, if_pos c2, xb, Option.bind_some, ite_b, if_pos c3, er, Option.bind_some, ← nI_z, ← nI_z, ← nI_z]
    rfl
  have me : ∀ S, CM S s → ∃ r, TX7_film (iI sh) (iI i) (iI N) S = TX7_film_L37 fu (nI sh) (nI i) (nI N) (nI 0) r ∧ FR pMi S r ∧ MM r (tA s) := fun S cm => by
    obtain ⟨r, er, hr⟩ := m_think cm.1 h8 h12
    refine ⟨r, ?_, hr⟩
    unfold TX7_film
    rw [m_isSheet h1, Option.bind_some, ite_b, if_pos c1, m_isCell cm.1.1 h8 h2, Option.bind_some, ite_b, if_pos c2, m_in010 h3, Option.bind_some, ite_b, if_pos c3, er, Option.bind_some, ← nI_z, ← nI_z, ← nI_z]
    rfl
  rcases hG : flG i N 0 (tA s) (fun _ => 0) with _ | g
  · refine ⟨-3, s, hs, fun S cx => ?_, fun S cm => ?_⟩
    · obtain ⟨r, e1, F1, hC⟩ := xe S cx
      obtain ⟨S', hF, hR⟩ := x_flL (N := N) (i := i) (a1 := nI sh) (by omega) N 0 fu (tA s) r (fun _ => 0) (by omega) (by rw [fu_eq]; omega) hC hA hi (fun q hq => by omega)
      rcases hR with ⟨-, e2⟩ | ⟨g', n', e2, -, -⟩
      · have F := FR_trans (FR_mono F1 (fun _ _ _ z => (Or.inl z : pFx _ _ _))) hF
        rw [e1, e2]
        exact wp_some ⟨rfl, FR_mono F (fun t k j z => pXs_X _ _ _ (pFx_s _ _ _ z)), CX_frs (FR_mono F pFx_s) cx⟩
      · rw [hG] at e2; cases e2
    · obtain ⟨r, e1, F1, hC⟩ := me S cm
      obtain ⟨S', hF, hR⟩ := m_flL (N := N) (i := i) (a1 := nI sh) (by omega) N 0 fu (tA s) r (fun _ => 0) (by omega) (by rw [fu_eq]; omega) hC hA hi (fun q hq => by omega)
      rcases hR with ⟨-, e2⟩ | ⟨g', n', e2, -, -⟩
      · have F := FR_trans (FR_mono F1 (fun _ _ _ z => (Or.inl z : pFm _ _ _))) hF
        rw [e1, e2]
        exact wp_some ⟨rfl, FR_mono F (fun t k j z => pMs_M _ _ _ (pFm_s _ _ _ z)), CM_frs (FR_mono F pFm_s) cm⟩
      · rw [hG] at e2; cases e2
  · refine ⟨nI N, setSh s sh 1 N (fun q => iI (g q)), okS_sh hs (by omega) (by omega), fun S cx => ?_, fun S cm => ?_⟩
    · obtain ⟨r, e1, F1, hC⟩ := xe S cx
      obtain ⟨S', hF, hR⟩ := x_flL (N := N) (i := i) (a1 := nI sh) (by omega) N 0 fu (tA s) r (fun _ => 0) (by omega) (by rw [fu_eq]; omega) hC hA hi (fun q hq => by omega)
      rcases hR with ⟨e2, -⟩ | ⟨g', n', e2, hg, e3⟩
      · rw [hG] at e2; cases e2
      · rw [hG] at e2
        cases e2
        have F := FR_trans (FR_mono F1 (fun _ _ _ z => (Or.inl z : pFx _ _ _))) hF
        have cx' : CX S' s := CX_frs (FR_mono F pFx_s) cx
        rw [e1, e3, TX6_film_L45, if_pos (by rw [nI_cmp (by omega) (by omega)]; omega)]
        refine wp_bind (x_renew (i := sh) hsh 1 (nI N)) fun q hq => ?_
        obtain ⟨hF2, d3, d4, d5⟩ := hq
        have q1 : ¬ nI N < 0 := by rw [nI_z, k0, iI_lt (by omega) (by omega)]; omega
        rw [if_pos (iI_in hsh (by omega)), iI_nat sh (by omega)]
        refine wp_ri ⟨by decide, by decide, q1, by rw [c0, iI_nat N (by omega)]; omega, by rw [c0, iI_nat N (by omega)]; omega⟩ fun S1 G1 a1 a2 a3 a4 a5 => ?_
        have F3 : FR (pSh sh) S' S1 := G1 _ _ (by unfold pSh; omega) hF2
        refine wp_some ⟨rfl, FR_trans (FR_mono F (fun t k j z => pXs_X _ _ _ (pFx_s _ _ _ z))) (FR_mono F3 (fun t k j z => pShX t k j z hsh)), CX_sh F3 (fun t k j z => Or.inr (Or.inr z)) hsh cx' (fun t ht => by rw [a4 _ (by omega)]; exact d3 t ht) (fun t ht => by rw [a4 _ (by omega)]; exact d4 t ht) (fun t ht => ?_)⟩
        rw [a5, c0, iI_nat N (by omega), va_cpy_lt ht, hF2.2.2.1 63 (by unfold pSh; omega)]
        exact hg t ht
    · obtain ⟨r, e1, F1, hC⟩ := me S cm
      obtain ⟨S', hF, hR⟩ := m_flL (N := N) (i := i) (a1 := nI sh) (by omega) N 0 fu (tA s) r (fun _ => 0) (by omega) (by rw [fu_eq]; omega) hC hA hi (fun q hq => by omega)
      rcases hR with ⟨e2, -⟩ | ⟨g', n', e2, hg, e3⟩
      · rw [hG] at e2; cases e2
      · rw [hG] at e2
        cases e2
        have F := FR_trans (FR_mono F1 (fun _ _ _ z => (Or.inl z : pFm _ _ _))) hF
        have cm' : CM S' s := CM_frs (FR_mono F pFm_s) cm
        rw [e1, e3, TX7_film_L37, if_pos (by rw [nI_cmp (by omega) (by omega)]; omega), if_pos (iI_in hsh (by omega))]
        simp only [letS]
        rw [if_pos (iI_in hsh (by omega)), iI_nat sh (by omega)]
        refine wp_mono (m_fl136 hs cm' hsh (by omega) hg) fun q hq => ⟨hq.1, FR_trans (FR_mono F (fun t k j z => pMs_M _ _ _ (pFm_s _ _ _ z))) hq.2.1, hq.2.2⟩
end FLM
