/-! Call: tells. -/
section TEL
variable {S : SS} {A : AB} {s : ST}
/-- the first told heat that is otherwise; k are done, m more; it: what is told -/
def otG (it : Nat → Int32) (i : Nat) : Nat → Nat → AB → Int32
  | 0, _, _ => -1
  | m + 1, k, A => if k = 0 then (if lI (whA A i) = (it 0).toInt64 then otG it i m 1 A else nI 0) else if stepC A = -2 then (if lI (whA (stepA A) i) = (it k).toInt64 then otG it i m (k + 1) (stepA A) else nI k) else nI k
theorem x_otJ {r : Int32 → Int32 → Int32 → SS → Option (Int32 × SS)} {sh i k : Nat} {it : Nat → Int32} (h : CB S 16 A) (hA : okA 1008000000000000 A) (hi : i < qN A) (hs : sh < 4) (hk : k < 40) (hit : S.2.2.1 (56 + sh) k = it k) : TX6_firstOtherwise_J58 r (nI sh) (nI i) (nI k) S = if lI (whA A i) = (it k).toInt64 then r (nI sh) (nI i) (nI (k + 1)) S else some (nI k, S) := by
  unfold TX6_firstOtherwise_J58
  have hx := x_whA h hA hi
  have e1 : aget 8 (S.2.2.2 24) (nI i) = some (lI (qS A 1 i)) := hx.1
  rw [e1, Option.bind_some, hx.2, Option.bind_some, if_pos (iI_in hs (by omega)), iI_nat sh (by omega), aget_n hk (by omega), Option.bind_some, hit, nI_1]
theorem x_otL {N i sh : Nat} {it : Nat → Int32} (hN : N ≤ 10) (hsh : sh < 4) : ∀ (m k n : Nat) (A : AB) (S : SS), k + m = N → m + 1 ≤ n → CB S 16 A → okA 1008000000000000 A → i < qN A → S.2.2.1 54 sh = nI N → (∀ q, q < N → S.2.2.1 (56 + sh) q = it q) →
    WP (TX6_firstOtherwise_L24 n (nI sh) (nI i) (nI k) S) (fun r => r.1 = otG it i m k A ∧ FR (pB 16) S r.2) := by
  intro m
  induction m with
  | zero =>
    intro k n A S hk hn h hA hi h54 hit
    obtain ⟨n, rfl⟩ : ∃ q, n = q + 1 := ⟨n - 1, by omega⟩
    rw [TX6_firstOtherwise_L24, aget_n hsh (by omega), Option.bind_some, h54, if_pos (by rw [nI_cmp (by omega) (by omega)]; omega)]
    exact wp_some ⟨rfl, FR_refl⟩
  | succ m ih =>
    intro k n A S hk hn h hA hi h54 hit
    obtain ⟨n, rfl⟩ : ∃ q, n = q + 1 := ⟨n - 1, by omega⟩
    rw [TX6_firstOtherwise_L24, aget_n hsh (by omega), Option.bind_some, h54, if_neg (by rw [nI_cmp (by omega) (by omega)]; omega), otG]
    by_cases e0 : k = 0
    · subst e0
      rw [if_pos rfl, if_pos (show nI 0 ≤ 0 from by decide), x_otJ (it := it) h hA hi hsh (by omega) (hit 0 (by omega))]
      by_cases e : lI (whA A i) = (it 0).toInt64
      · rw [if_pos e, if_pos e]
        exact ih 1 n A S (by omega) (by omega) h hA hi h54 hit
      · rw [if_neg e, if_neg e]
        exact wp_some ⟨rfl, FR_refl⟩
    · rw [if_neg (nI_nle (by omega) (by omega)), if_neg e0]
      refine wp_bind (x_adv h hA) fun r hr => ?_
      obtain ⟨r1, r2, r3⟩ := hr
      have h8 := ok_n hA
      have hB := stepC_B A
      have c : r.1 = -2 ↔ stepC A = -2 := by rw [r1, m2, iI_eq (by omega) (by omega)]
      by_cases e : stepC A = -2
      · rw [if_pos (c.mpr e), if_pos e]
        rw [if_pos e] at r3
        have hA' := ok_step hA (by omega) (by omega) e
        have h54' : r.2.2.2.1 54 sh = nI N := by rw [r2.2.2.1 54 (by unfold pB; omega)]; exact h54
        have hit' : ∀ q, q < N → r.2.2.2.1 (56 + sh) q = it q := fun q hq => by rw [r2.2.2.1 (56 + sh) (by unfold pB; omega)]; exact hit q hq
        rw [x_otJ (it := it) r3 hA' hi hsh (by omega) (hit' k (by omega))]
        by_cases e2 : lI (whA (stepA A) i) = (it k).toInt64
        · rw [if_pos e2, if_pos e2]
          exact wp_mono (ih (k + 1) n (stepA A) r.2 (by omega) (by omega) r3 hA' hi h54' hit') fun q hq => ⟨hq.1, FR_trans r2 hq.2⟩
        · rw [if_neg e2, if_neg e2]
          exact wp_some ⟨rfl, r2⟩
      · rw [if_neg (fun z => e (c.mp z)), if_neg e]
        exact wp_some ⟨rfl, r2⟩
theorem x_fo {N i sh kd : Nat} {it : Nat → Int32} (h : CB S 1 A) (hA : okA 1008000000000000 A) (hi : i < qN A) (hN : N ≤ 10) (hsh : sh < 4) (hkd : kd ≤ 5) (h54 : S.2.2.1 54 sh = nI N) (hit : ∀ q, q < N → S.2.2.1 (56 + sh) q = it q) :
    WP (TX6_firstOtherwise (nI sh) (nI i) (nI kd) S) (fun r => r.1 = otG it i N 0 (setK A 0 i kd) ∧ FR (pB 16) S r.2) := by
  have h8 := ok_n hA
  unfold TX6_firstOtherwise
  refine wp_bind (x_become (b := 16) h h8 (ok_p hA) (by omega)) fun r hr => ?_
  have hck : WP (TX0_changeKind 16 (nI i) (nI kd) r) (fun q => FR (pB 16) r q.2 ∧ CB q.2 16 (setK A 0 i kd)) := by
    unfold TX0_changeKind
    simp (disch := omega) only [letS, Option.bind_some, aget_n, ite_jin, iI_nat]
    exact wp_bind (x_setK (j := 0) (v := kd) hr.2 hA hi (by omega) (by omega)) fun q hq => wp_some hq
  refine wp_bind hck fun q hq => ?_
  have F := FR_trans hr.1 hq.1
  refine wp_mono (x_otL (N := N) (i := i) (it := it) hN hsh N 0 fu (setK A 0 i kd) q.2 (by omega) (by rw [fu_eq]; omega) hq.2 (ok_setK hA (by omega) (by omega)) hi ?_ fun x hx => ?_) fun u hu => ⟨hu.1, FR_trans F hu.2⟩
  · rw [F.2.2.1 54 (by unfold pB; omega)]; exact h54
  · rw [F.2.2.1 (56 + sh) (by unfold pB; omega)]; exact hit x hx
theorem m_otJ {r : Int32 → Int32 → Int32 → SS → Option (Int32 × SS)} {sh i k : Nat} {it : Nat → Int32} (h : MM S A) (hA : okA 1008000000000000 A) (hi : i < qN A) (hs : sh < 4) (hk : k < 40) (hit : S.2.2.1 100 (40 * sh + k) = it k) : TX7_otherwise_J27 r (nI sh) (nI i) (nI k) S = if lI (whA A i) = (it k).toInt64 then r (nI sh) (nI i) (nI (k + 1)) S else some (nI k, S) := by
  unfold TX7_otherwise_J27
  have hx := m_whA h hA hi
  rw [hx.1, Option.bind_some, hx.2, Option.bind_some, show (40 : Int32) = nI 40 from rfl, pk_mul, nI_add, aget_n (by omega) (by omega), Option.bind_some, hit, nI_1]
theorem m_otL {N i sh : Nat} {it : Nat → Int32} (hN : N ≤ 10) (hsh : sh < 4) : ∀ (m k n : Nat) (A : AB) (S : SS), k + m = N → m + 1 ≤ n → MM S A → okA 1008000000000000 A → i < qN A → S.2.2.1 99 sh = nI N → (∀ q, q < N → S.2.2.1 100 (40 * sh + q) = it q) →
    WP (TX7_otherwise_L6 n (nI sh) (nI i) (nI k) S) (fun r => r.1 = otG it i m k A ∧ FR pMi S r.2) := by
  intro m
  induction m with
  | zero =>
    intro k n A S hk hn h hA hi h54 hit
    obtain ⟨n, rfl⟩ : ∃ q, n = q + 1 := ⟨n - 1, by omega⟩
    rw [TX7_otherwise_L6, aget_n hsh (by omega), Option.bind_some, h54, if_pos (by rw [nI_cmp (by omega) (by omega)]; omega)]
    exact wp_some ⟨rfl, FR_refl⟩
  | succ m ih =>
    intro k n A S hk hn h hA hi h54 hit
    obtain ⟨n, rfl⟩ : ∃ q, n = q + 1 := ⟨n - 1, by omega⟩
    rw [TX7_otherwise_L6, aget_n hsh (by omega), Option.bind_some, h54, if_neg (by rw [nI_cmp (by omega) (by omega)]; omega), otG]
    by_cases e0 : k = 0
    · subst e0
      rw [if_pos rfl, if_pos (show nI 0 ≤ 0 from by decide), m_otJ (it := it) h hA hi hsh (by omega) (hit 0 (by omega))]
      by_cases e : lI (whA A i) = (it 0).toInt64
      · rw [if_pos e, if_pos e]
        exact ih 1 n A S (by omega) (by omega) h hA hi h54 hit
      · rw [if_neg e, if_neg e]
        exact wp_some ⟨rfl, FR_refl⟩
    · rw [if_neg (nI_nle (by omega) (by omega)), if_neg e0]
      refine wp_bind (m_goes h hA) fun r hr => ?_
      obtain ⟨r1, r2, -, r3⟩ := hr
      by_cases e : stepC A = -2
      · rw [if_neg (fun z => (b2i_z r1).mp z e), if_pos e]
        rw [if_pos e] at r3
        have hA' := ok_step hA (by omega) (by omega) e
        have h54' : r.2.2.2.1 99 sh = nI N := by rw [r2.2.2.1 99 (by unfold pMi; omega)]; exact h54
        have hit' : ∀ q, q < N → r.2.2.2.1 100 (40 * sh + q) = it q := fun q hq => by rw [r2.2.2.1 100 (by unfold pMi; omega)]; exact hit q hq
        rw [m_otJ (it := it) r3 hA' hi hsh (by omega) (hit' k (by omega))]
        by_cases e2 : lI (whA (stepA A) i) = (it k).toInt64
        · rw [if_pos e2, if_pos e2]
          exact wp_mono (ih (k + 1) n (stepA A) r.2 (by omega) (by omega) r3 hA' hi h54' hit') fun q hq => ⟨hq.1, FR_trans r2 hq.2⟩
        · rw [if_neg e2, if_neg e2]
          exact wp_some ⟨rfl, r2⟩
      · rw [if_pos ((b2i_z r1).mpr e), if_neg e]
        exact wp_some ⟨rfl, r2⟩
theorem m_fo {N i sh : Nat} {it : Nat → Int32} (h : MB S A) (hA : okA 1008000000000000 A) (hi : i < qN A) (hN : N ≤ 10) (hsh : sh < 4) (h54 : S.2.2.1 99 sh = nI N) (hit : ∀ q, q < N → S.2.2.1 100 (40 * sh + q) = it q) :
    WP (TX7_otherwise (nI sh) (nI i) S) (fun r => r.1 = otG it i N 0 A ∧ FR pMi S r.2) := by
  unfold TX7_otherwise
  refine wp_bind (m_think h (ok_n hA) (ok_p hA)) fun q hq => ?_
  have F := hq.1
  refine wp_mono (m_otL (N := N) (i := i) (it := it) hN hsh N 0 fu A q (by omega) (by rw [fu_eq]; omega) hq.2 hA hi ?_ fun x hx => ?_) fun u hu => ⟨hu.1, FR_trans F hu.2⟩
  · rw [F.2.2.1 99 (by unfold pMi; omega)]; exact h54
  · rw [F.2.2.1 100 (by unfold pMi; omega)]; exact hit x hx
/-- kinds by which all is so -/
def tlB (it : Nat → Int32) (i N : Nat) (A : AB) : Nat → Nat → Int32 → Int32
  | 0, _, c => c
  | m + 1, k, c => tlB it i N A m (k + 1) (if otG it i N 0 (setK A 0 i k) = -1 then c ||| (1 <<< (nI k &&& 31)) else c)
theorem x_tlL {N i sh : Nat} {it : Nat → Int32} (hA : okA 1008000000000000 A) (hi : i < qN A) (hN : N ≤ 10) (hsh : sh < 4) : ∀ (m k n : Nat) (c : Int32) (S : SS), k + m = 6 → m + 1 ≤ n → CB S 1 A → S.2.2.1 54 sh = nI N → (∀ q, q < N → S.2.2.1 (56 + sh) q = it q) →
    WP (TX6_tells_L85 n (nI sh) (nI i) c (nI k) S) (fun r => r.1 = tlB it i N A m k c ∧ FR (pB 16) S r.2) := by
  intro m
  induction m with
  | zero =>
    intro k n c S hk hn h h54 hit
    obtain ⟨n, rfl⟩ : ∃ q, n = q + 1 := ⟨n - 1, by omega⟩
    rw [TX6_tells_L85, show (6 : Int32) = nI 6 from rfl, if_pos (by rw [nI_cmp (by omega) (by omega)]; omega)]
    exact wp_some ⟨rfl, FR_refl⟩
  | succ m ih =>
    intro k n c S hk hn h h54 hit
    obtain ⟨n, rfl⟩ : ∃ q, n = q + 1 := ⟨n - 1, by omega⟩
    rw [TX6_tells_L85, show (6 : Int32) = nI 6 from rfl, if_neg (by rw [nI_cmp (by omega) (by omega)]; omega), tlB, nI_1]
    refine wp_bind (x_fo (it := it) (kd := k) h hA hi hN hsh (by omega) h54 hit) fun r hr => ?_
    have h' : CB r.2 1 A := CB_fr' hr.2 (fun t k j h1 h2 => by unfold pB; omega) h
    have h54' : r.2.2.2.1 54 sh = nI N := by rw [hr.2.2.2.1 54 (by unfold pB; omega)]; exact h54
    have hit' : ∀ q, q < N → r.2.2.2.1 (56 + sh) q = it q := fun q hq => by rw [hr.2.2.2.1 (56 + sh) (by unfold pB; omega)]; exact hit q hq
    rw [hr.1]
    by_cases e : otG it i N 0 (setK A 0 i k) = -1
    · rw [if_pos e, if_pos e]
      exact wp_mono (ih (k + 1) n _ r.2 (by omega) (by omega) h' h54' hit') fun q hq => ⟨hq.1, FR_trans hr.2 hq.2⟩
    · rw [if_neg e, if_neg e]
      exact wp_mono (ih (k + 1) n _ r.2 (by omega) (by omega) h' h54' hit') fun q hq => ⟨hq.1, FR_trans hr.2 hq.2⟩
theorem setK2 (A : AB) (j i v w : Nat) : setK (setK A j i v) j i w = setK A j i w := by
  unfold setK
  rw [up2_up2]
theorem setK_self (A : AB) (j i : Nat) : setK A j i (qK A j i) = A := by
  unfold setK
  rw [up2_self rfl]
theorem MB_kd {i v : Nat} (h : MB S A) (hi : i < qN A) : MB (sAI S 65 i (nI v)) (setK A 0 i v) := by
  obtain ⟨g1, g2, g3, g4⟩ := h.1.2.2.2.2.2 i hi
  refine MB_upd (i := i) h (fun q hq _ => hq) h.1.1 rfl rfl (fun r h1 h2 q hq => ?_) (fun _ _ => rfl) (fun r h1 h2 => ?_) rfl rfl (fun j' q hq => ?_) (fun q => ?_) (fun q => ?_) (fun _ _ _ => rfl) (fun _ => rfl) (fun _ => ⟨?_, ?_, ?_, ?_, h.2.2.2.1 i hi⟩)
  · simp [up2, hq]
  · simp (disch := omega) only [up2_s, up2_n, va_up_s, va_up_n]
  · simp [setK, up2, qK, hq]
  · simp [setK, up2, qK]
  · simp [setK, up2, qK]
  · simp [setK, up2, qK]
  · simp [setK, up2, qK]; exact g2
  · simp [setK, up2, qK]; exact g3
  · simp [setK, up2, qK]; exact g4
def pTl (t k j : Nat) : Prop := pMi t k j ∨ (t = 2 ∧ k = 65)
theorem pMi_Tl : ∀ t k j, pMi t k j → pTl t k j := fun _ _ _ h => Or.inl h
theorem m_tlL {N i sh : Nat} {it : Nat → Int32} (hA : okA 1008000000000000 A) (hi : i < qN A) (hN : N ≤ 10) (hsh : sh < 4) : ∀ (m k n : Nat) (c : Int32) (S : SS) (k0 : Nat), k + m = 6 → m + 1 ≤ n → MB S (setK A 0 i k0) → S.2.2.1 99 sh = nI N → (∀ q, q < N → S.2.2.1 100 (40 * sh + q) = it q) →
    WP (TX7_tells_L80 n (nI sh) (nI i) (nI (qK A 0 i)) c (nI k) S) (fun r => r.1 = tlB it i N A m k c ∧ FR pTl S r.2 ∧ MB r.2 A) := by
  have h8 := ok_n hA
  intro m
  induction m with
  | zero =>
    intro k n c S k0 hk hn h h54 hit
    obtain ⟨n, rfl⟩ : ∃ q, n = q + 1 := ⟨n - 1, by omega⟩
    rw [TX7_tells_L80, show (6 : Int32) = nI 6 from rfl, if_pos (by rw [nI_cmp (by omega) (by omega)]; omega), if_pos (iI_in (by omega) (by omega)), iI_nat i (by omega)]
    have := MB_kd (v := qK A 0 i) h hi
    rw [setK2, setK_self] at this
    exact wp_some ⟨rfl, FR_AI FR_refl (Or.inr ⟨rfl, rfl⟩), this⟩
  | succ m ih =>
    intro k n c S k0 hk hn h h54 hit
    obtain ⟨n, rfl⟩ : ∃ q, n = q + 1 := ⟨n - 1, by omega⟩
    rw [TX7_tells_L80, show (6 : Int32) = nI 6 from rfl, if_neg (by rw [nI_cmp (by omega) (by omega)]; omega), if_pos (iI_in (by omega) (by omega)), iI_nat i (by omega), tlB]
    unfold TX7_tells_J115
    rw [nI_1]
    have hM := MB_kd (v := k) h hi
    rw [setK2] at hM
    have F0 : FR pTl S (sAI S 65 i (nI k)) := FR_AI FR_refl (Or.inr ⟨rfl, rfl⟩)
    have h54a : (sAI S 65 i (nI k)).2.2.1 99 sh = nI N := by rw [F0.2.2.1 99 (by unfold pTl pMi; omega)]; exact h54
    have hita : ∀ q, q < N → (sAI S 65 i (nI k)).2.2.1 100 (40 * sh + q) = it q := fun q hq => by rw [F0.2.2.1 100 (by unfold pTl pMi; omega)]; exact hit q hq
    simp only [letS]
    refine wp_bind (m_fo (it := it) hM (ok_setK hA (by omega) (by omega)) hi hN hsh h54a hita) fun r hr => ?_
    have F1 := FR_trans F0 (FR_mono hr.2 pMi_Tl)
    have h' : MB r.2 (setK A 0 i k) := MB_frs (FR_mono hr.2 pMi_s) hM
    have h54' : r.2.2.2.1 99 sh = nI N := by rw [F1.2.2.1 99 (by unfold pTl pMi; omega)]; exact h54
    have hit' : ∀ q, q < N → r.2.2.2.1 100 (40 * sh + q) = it q := fun q hq => by rw [F1.2.2.1 100 (by unfold pTl pMi; omega)]; exact hit q hq
    rw [hr.1]
    by_cases e : otG it i N 0 (setK A 0 i k) = -1
    · rw [if_pos e, if_pos e]
      exact wp_mono (ih (k + 1) n _ r.2 k (by omega) (by omega) h' h54' hit') fun q hq => ⟨hq.1, FR_trans F1 hq.2.1, hq.2.2⟩
    · rw [if_neg e, if_neg e, Int32.or_zero]
      exact wp_mono (ih (k + 1) n _ r.2 k (by omega) (by omega) h' h54' hit') fun q hq => ⟨hq.1, FR_trans F1 hq.2.1, hq.2.2⟩
theorem pTl_b : ∀ t k j, pTl t k j → pMs t k j ∨ k < 64 ∨ pMb t k j := fun t k j h => h.elim (fun z => Or.inl (pMi_s _ _ _ z)) (fun z => Or.inr (Or.inr (by unfold pMb; omega)))
theorem pTl_M : ∀ t k j, pTl t k j → pM t k j := fun t k j h => by unfold pTl pMi at h; unfold pM; omega
theorem a_tells (hs : okS s) (a1 a2 a3 : Int32) : ∃ v, OX (TX6_tells a1 a2 a3) s v s ∧ OM (TX7_tells a1 a2 a3) s v s := by
  obtain ⟨z1, h1, rfl⟩ := i_cases a1
  obtain ⟨z2, h2, rfl⟩ := i_cases a2
  obtain ⟨z3, h3, rfl⟩ := i_cases a3
  have h8 := ok_n hs.1
  have hA := okS_8 hs
  rcases emn (0 ≤ z1 ∧ z1 ≤ 3) with c1 | c1
  · refine ⟨-2, OX_no fun S c => ?_, OM_no fun S c => ?_⟩
    · unfold TX6_tells
      rw [x_isSheet h1, Option.bind_some, ite_b, if_neg c1]
    · unfold TX7_tells
      rw [m_isSheet h1, Option.bind_some, ite_b, if_neg c1]
  rcases emn (0 ≤ z2 ∧ z2 < qN (tA s)) with c2 | c2
  · refine ⟨-2, OX_no fun S c => ?_, OM_no fun S c => ?_⟩
    · unfold TX6_tells
      rw [x_isSheet h1, Option.bind_some, ite_b, if_pos c1, x_has c.1 h8 h2, Option.bind_some, ite_b, if_neg c2]
    · unfold TX7_tells
      rw [m_isSheet h1, Option.bind_some, ite_b, if_pos c1, m_isCell c.1.1 h8 h2, Option.bind_some, ite_b, if_neg c2]
  rcases emn (z3 = 0 ∨ z3 = 1) with c3 | c3
  · refine ⟨-2, OX_no fun S c => ?_, OM_no fun S c => ?_⟩
    · unfold TX6_tells
      rw [x_isSheet h1, Option.bind_some, ite_b, if_pos c1, x_has c.1 h8 h2, Option.bind_some, ite_b, if_pos c2, x_bit h3, Option.bind_some, ite_b, if_neg c3]
    · unfold TX7_tells
      rw [m_isSheet h1, Option.bind_some, ite_b, if_pos c1, m_isCell c.1.1 h8 h2, Option.bind_some, ite_b, if_pos c2, m_bit h3, Option.bind_some, ite_b, if_neg c3]
  obtain ⟨sh, rfl⟩ := i_nat c1.1
  obtain ⟨i, rfl⟩ := i_nat c2.1
  have hsh : sh < 4 := by omega
  have hi : i < qN (tA s) := by omega
  obtain ⟨o1, o2, o3⟩ := hs.2.2.1 sh hsh
  have xe : ∀ S, CX S s → TX6_tells (iI sh) (iI i) (iI z3) S = if tSo s sh = -1 then some (-11, S) else if tSz s sh ≤ 10 then (if iI z3 = 0 then (TX6_firstOtherwise (nI sh) (nI i) (nI (qK (tA s) 0 i)) S).bind (fun q => some (q.1, q.2)) else TX6_tells_L85 fu (nI sh) (nI i) 0 (nI 0) S) else some (-2, S) := fun S cx => by
    obtain ⟨-, e2, -⟩ := cx.2.2.2.1 sh hsh
    have ek : S.2.2.1 2 i = nI (qK (tA s) 0 i) := ((CB1 cx.1).2.2.2.2.2.2.2.1 i hi).1
    unfold TX6_tells
    rw [x_isSheet h1, Option.bind_some, ite_b, if_pos c1, x_has cx.1 h8 h2, Option.bind_some, ite_b, if_pos c2, x_bit h3, Option.bind_some, ite_b, if_pos c3, ← nI_z, ← nI_z, x_missing cx hs hsh, Option.bind_some, ite_b, aget_n hsh (by omega), Option.bind_some, e2, aget_n (by omega) (by omega), Option.bind_some, ek, show (10 : Int32) = nI 10 from rfl]
    simp (disch := omega) only [nI_leI']
    rfl
  have me : ∀ S, CM S s → TX7_tells (iI sh) (iI i) (iI z3) S = if tSo s sh = -1 then some (-11, S) else if tSz s sh ≤ 10 then (if iI z3 = 0 then (TX7_otherwise (nI sh) (nI i) S).bind (fun q => some (q.1, q.2)) else TX7_tells_L80 fu (nI sh) (nI i) (nI (qK (tA s) 0 i)) 0 (nI 0) S) else some (-2, S) := fun S cm => by
    obtain ⟨e1, e2, -⟩ := cm.2.2.2.1 sh hsh
    have ek : S.2.2.1 65 i = nI (qK (tA s) 0 i) := (cm.1.1.2.2.2.2.2 i hi).1
    unfold TX7_tells
    rw [m_isSheet h1, Option.bind_some, ite_b, if_pos c1, m_isCell cm.1.1 h8 h2, Option.bind_some, ite_b, if_pos c2, m_bit h3, Option.bind_some, ite_b, if_pos c3, ← nI_z, ← nI_z, aget_n hsh (by omega), Option.bind_some, e1, aget_n hsh (by omega), Option.bind_some, e2, aget_n (by omega) (by omega), Option.bind_some, ek, show (10 : Int32) = nI 10 from rfl]
    simp (disch := omega) only [nI_leI', km1, iI_eqI]
    rfl
  by_cases c4 : tSo s sh = -1
  · refine ⟨-11, OX_no fun S c => ?_, OM_no fun S c => ?_⟩
    · rw [xe S c, if_pos c4]
    · rw [me S c, if_pos c4]
  by_cases c5 : tSz s sh ≤ 10
  · by_cases c6 : iI z3 = 0
    · refine ⟨otG (tIt s sh) i (tSz s sh) 0 (tA s), fun S cx => ?_, fun S cm => ?_⟩
      · rw [xe S cx, if_neg c4, if_pos c5, if_pos c6]
        obtain ⟨-, e2, e3⟩ := cx.2.2.2.1 sh hsh
        have hk := (ok_c hA hi).1
        refine wp_bind (x_fo (it := tIt s sh) (kd := qK (tA s) 0 i) cx.1 hA hi c5 hsh hk e2 e3) fun r hr => ?_
        rw [setK_self] at hr
        exact wp_some ⟨hr.1, OX_th cx hr.2⟩
      · rw [me S cm, if_neg c4, if_pos c5, if_pos c6]
        obtain ⟨-, e2, e3⟩ := cm.2.2.2.1 sh hsh
        refine wp_bind (m_fo (it := tIt s sh) cm.1 hA hi c5 hsh e2 e3) fun r hr => ?_
        exact wp_some ⟨hr.1, OM_th cm hr.2⟩
    · refine ⟨tlB (tIt s sh) i (tSz s sh) (tA s) 6 0 0, fun S cx => ?_, fun S cm => ?_⟩
      · rw [xe S cx, if_neg c4, if_pos c5, if_neg c6]
        obtain ⟨-, e2, e3⟩ := cx.2.2.2.1 sh hsh
        exact wp_mono (x_tlL (it := tIt s sh) hA hi c5 hsh 6 0 fu 0 S (by omega) (by rw [fu_eq]; omega) cx.1 e2 e3) fun r hr => ⟨hr.1, OX_th cx hr.2⟩
      · rw [me S cm, if_neg c4, if_pos c5, if_neg c6]
        obtain ⟨-, e2, e3⟩ := cm.2.2.2.1 sh hsh
        have hM : MB S (setK (tA s) 0 i (qK (tA s) 0 i)) := by rw [setK_self]; exact cm.1
        exact wp_mono (m_tlL (it := tIt s sh) hA hi c5 hsh 6 0 fu 0 S (qK (tA s) 0 i) (by omega) (by rw [fu_eq]; omega) hM e2 e3) fun r hr => ⟨hr.1, FR_mono hr.2.1 pTl_M, CM_bar hr.2.1 pTl_b cm hr.2.2⟩
  · refine ⟨-2, OX_no fun S c => ?_, OM_no fun S c => ?_⟩
    · rw [xe S c, if_neg c4, if_neg c5]
    · rw [me S c, if_neg c4, if_neg c5]
end TEL
