/-! The whole abstract state; how class and reference hold it. -/
/-- bar, image, sheets (sort, size, items), tape (size, bytes) -/
abbrev ST : Type := AB × Option AB × (Nat → Int) × (Nat → Nat) × (Nat → Nat → Int32) × Nat × (Nat → Nat)
abbrev tA (s : ST) : AB := s.1
abbrev tIm (s : ST) : Option AB := s.2.1
abbrev tSo (s : ST) (i : Nat) : Int := s.2.2.1 i
abbrev tSz (s : ST) (i : Nat) : Nat := s.2.2.2.1 i
abbrev tIt (s : ST) (i j : Nat) : Int32 := s.2.2.2.2.1 i j
abbrev tTs (s : ST) : Nat := s.2.2.2.2.2.1
abbrev tTb (s : ST) (i : Nat) : Nat := s.2.2.2.2.2.2 i
def okS (s : ST) : Prop := okA 999000000000000 (tA s) ∧ (∀ K, tIm s = some K → okA 999000000000000 K) ∧ (∀ i, i < 4 → -1 ≤ tSo s i ∧ tSo s i ≤ 1 ∧ tSz s i ≤ 40) ∧ tTs s ≤ 60 ∧ ∀ i, i < tTs s → tTb s i ≤ 255
def CX (S : SS) (s : ST) : Prop := CB S 1 (tA s) ∧ S.1 0 7 = b2i ((tIm s).isSome = true) ∧ (∀ K, tIm s = some K → CB S 31 K) ∧
  (∀ i, i < 4 → S.2.2.1 53 i = iI (tSo s i) ∧ S.2.2.1 54 i = nI (tSz s i) ∧ ∀ j, j < tSz s i → S.2.2.1 (56 + i) j = tIt s i j) ∧
  S.1 60 1 = nI (tTs s) ∧ ∀ i, i < tTs s → S.2.2.1 61 i = nI (tTb s i)
def wordsM : List Nat := [99, 101, 108, 108, 32, 104, 101, 97, 116, 32, 115, 111, 117, 114, 99, 101, 32, 108, 101, 102, 116, 32, 114, 105, 103, 104, 116, 32, 102, 105, 110, 101, 32, 112, 117, 108, 115, 101, 32, 100, 114, 111, 112, 32]
def numbsM : List Nat := [4, 2, 2, 1, 1, 1, 3, 0]
def CM (S : SS) (s : ST) : Prop := MB S (tA s) ∧ S.1 64 37 = b2i ((tIm s).isSome = true) ∧ (∀ K, tIm s = some K → MK S K) ∧
  (∀ i, i < 4 → S.2.2.1 98 i = iI (tSo s i) ∧ S.2.2.1 99 i = nI (tSz s i) ∧ ∀ j, j < tSz s i → S.2.2.1 100 (40 * i + j) = tIt s i j) ∧
  (S.1 64 29 = nI (tTs s) ∧ ∀ i, i < tTs s → S.2.2.1 86 i = nI (tTb s i)) ∧
  (∀ i, i < 44 → S.2.2.1 84 i = nI (wordsM.getD i 0)) ∧ ∀ i, i < 8 → S.2.2.1 85 i = nI (numbsM.getD i 0)
section STF
variable {P : Nat → Nat → Nat → Prop} {S S' : SS} {s : ST}
theorem MK_fr {A : AB} (h : FR P S S') (h0 : ¬ P 0 64 38) (h1 : ∀ k, 88 ≤ k → k ≤ 97 → ¬ P 2 k 0) (h2 : ¬ P 3 92 0) (h3 : ¬ P 1 64 44) (h4 : ¬ P 0 64 47) (c : MK S A) : MK S' A := by
  obtain ⟨c1, c2, c3, c4, c5, c6, c7⟩ := c
  refine ⟨(h.1 _ _ h0).trans c1, ?_, ?_, ?_, ?_, fun i hi => ?_, MH_fr h h3 h4 h2 (fun k a b => h1 k (by omega) (by omega)) c7⟩
  · rw [h.2.2.1 _ (h1 _ (by omega) (by omega))]; exact c2
  · rw [h.2.2.1 _ (h1 _ (by omega) (by omega))]; exact c3
  · rw [h.2.2.1 _ (h1 _ (by omega) (by omega))]; exact c4
  · rw [h.2.2.1 _ (h1 _ (by omega) (by omega))]; exact c5
  · rw [h.2.2.1 _ (h1 88 (by omega) (by omega)), h.2.2.1 _ (h1 89 (by omega) (by omega)), h.2.2.1 _ (h1 90 (by omega) (by omega)), h.2.2.1 _ (h1 91 (by omega) (by omega))]
    exact c6 i hi
/-- only the bar of the class is another -/
theorem CX_bar {A' : AB} (h : FR P S S') (hP : ∀ t k j, P t k j → pXs t k j ∨ 64 ≤ k ∨ (1 ≤ k ∧ k ≤ 15)) (c : CX S s) (hb : CB S' 1 A') : CX S' (A', s.2) := by
  obtain ⟨c1, c2, c3, c4, c5, c6⟩ := c
  have n : ∀ t k j, ¬ (pXs t k j ∨ 64 ≤ k ∨ (1 ≤ k ∧ k ≤ 15)) → ¬ P t k j := fun t k j z w => z (hP t k j w)
  refine ⟨hb, (h.1 0 7 (n _ _ _ (by unfold pXs; omega))).trans c2, fun K hK => CB_fr' h (fun t k j h1 h2 => n _ _ _ (by unfold pXs; omega)) (c3 K hK), fun i hi => ?_, (h.1 60 1 (n _ _ _ (by unfold pXs; omega))).trans c5, fun i hi => ?_⟩
  · rw [h.2.2.1 53 (n _ _ _ (by unfold pXs; omega)), h.2.2.1 54 (n _ _ _ (by unfold pXs; omega)), h.2.2.1 (56 + i) (n _ _ _ (by unfold pXs; omega))]
    exact c4 i hi
  · rw [h.2.2.1 61 (n _ _ _ (by unfold pXs; omega))]
    exact c6 i hi
theorem CX_fr (h : FR P S S') (hP : ∀ t k j, P t k j → pXs t k j ∨ 64 ≤ k) (c : CX S s) : CX S' s :=
  CX_bar h (fun t k j z => (hP t k j z).elim Or.inl (fun w => Or.inr (Or.inl w))) c (CB_fr h (fun z => by have := hP _ _ _ z; unfold pXs at this; omega) (fun z => by have := hP _ _ _ z; unfold pXs at this; omega) (fun z => by have := hP _ _ _ z; unfold pXs at this; omega) (fun z => by have := hP _ _ _ z; unfold pXs at this; omega) (fun z => by have := hP _ _ _ z; unfold pXs at this; omega) (fun k h1 h2 z => by have := hP _ _ _ z; unfold pXs at this; omega) (fun z => by have := hP _ _ _ z; unfold pXs at this; omega) c.1)
theorem CX_frs (h : FR pXs S S') (c : CX S s) : CX S' s := CX_fr h (fun _ _ _ z => Or.inl z) c
theorem CX_frM (h : FR pM S S') (c : CX S s) : CX S' s := CX_fr h (fun _ _ _ z => Or.inr z) c
/-- the reference's bar -/
def pMb (t k j : Nat) : Prop := (t = 0 ∧ k = 64 ∧ (j = 0 ∨ j = 9)) ∨ (t = 1 ∧ k = 64 ∧ j = 6) ∨ (t = 2 ∧ ((65 ≤ k ∧ k ≤ 68) ∨ (70 ≤ k ∧ k ≤ 74))) ∨ (t = 3 ∧ k = 69)
theorem CM_bar {A' : AB} (h : FR P S S') (hP : ∀ t k j, P t k j → pMs t k j ∨ k < 64 ∨ pMb t k j) (c : CM S s) (hb : MB S' A') : CM S' (A', s.2) := by
  obtain ⟨c1, c2, c3, c4, c5, c6, c7⟩ := c
  have n : ∀ t k j, ¬ (pMs t k j ∨ k < 64 ∨ pMb t k j) → ¬ P t k j := fun t k j z w => z (hP t k j w)
  refine ⟨hb, (h.1 64 37 (n _ _ _ (by unfold pMs pMb; omega))).trans c2, fun K hK => MK_fr h (n _ _ _ (by unfold pMs pMb; omega)) (fun k h1 h2 => n _ _ _ (by unfold pMs pMb; omega)) (n _ _ _ (by unfold pMs pMb; omega)) (n _ _ _ (by unfold pMs pMb; omega)) (n _ _ _ (by unfold pMs pMb; omega)) (c3 K hK), fun i hi => ?_, ⟨(h.1 64 29 (n _ _ _ (by unfold pMs pMb; omega))).trans c5.1, fun i hi => ?_⟩, fun i hi => ?_, fun i hi => ?_⟩
  · rw [h.2.2.1 98 (n _ _ _ (by unfold pMs pMb; omega)), h.2.2.1 99 (n _ _ _ (by unfold pMs pMb; omega)), h.2.2.1 100 (n _ _ _ (by unfold pMs pMb; omega))]
    exact c4 i hi
  · rw [h.2.2.1 86 (n _ _ _ (by unfold pMs pMb; omega))]
    exact c5.2 i hi
  · rw [h.2.2.1 84 (n _ _ _ (by unfold pMs pMb; omega))]
    exact c6 i hi
  · rw [h.2.2.1 85 (n _ _ _ (by unfold pMs pMb; omega))]
    exact c7 i hi
theorem CM_fr (h : FR P S S') (hP : ∀ t k j, P t k j → pMs t k j ∨ k < 64) (c : CM S s) : CM S' s :=
  CM_bar h (fun t k j z => (hP t k j z).elim Or.inl (fun w => Or.inr (Or.inl w))) c (MB_fr h hP c.1)
theorem CM_frs (h : FR pMs S S') (c : CM S s) : CM S' s := CM_fr h (fun _ _ _ z => Or.inl z) c
theorem CM_frX (h : FR pX S S') (c : CM S s) : CM S' s := CM_fr h (fun _ _ _ z => Or.inr z) c
/-- what a call of the class does: it answers v, the state is then s' -/
def OX {α : Type} (t : SS → Option (α × SS)) (s : ST) (v : α) (s' : ST) : Prop := ∀ S, CX S s → WP (t S) (fun r => r.1 = v ∧ FR pX S r.2 ∧ CX r.2 s')
def OM {α : Type} (t : SS → Option (α × SS)) (s : ST) (v : α) (s' : ST) : Prop := ∀ S, CM S s → WP (t S) (fun r => r.1 = v ∧ FR pM S r.2 ∧ CM r.2 s')
def PXo {α : Type} (t : SS → Option α) (s : ST) (v : α) : Prop := ∀ S, CX S s → t S = some v
def PMo {α : Type} (t : SS → Option α) (s : ST) (v : α) : Prop := ∀ S, CM S s → t S = some v
end STF
/-! checks of numbers, as both do -/
section CHK
variable {z : Int}
theorem x_bit (hz : i31 z) : TX6_isBit (iI z) = some (b2i (z = 0 ∨ z = 1)) := by
  unfold TX6_isBit
  have c1 : iI z = 0 ↔ z = 0 := by rw [k0, iI_eq hz (by omega)]
  have c2 : iI z = 1 ↔ z = 1 := by rw [k1, iI_eq hz (by omega)]
  by_cases h0 : z = 0
  · rw [if_pos (c1.mpr h0), b2i_t (Or.inl h0)]; rfl
  · rw [if_neg (fun q => h0 (c1.mp q))]
    by_cases h1 : z = 1
    · rw [if_pos (c2.mpr h1), b2i_t (Or.inr h1)]; rfl
    · rw [if_neg (fun q => h1 (c2.mp q)), b2i_f (by omega)]; rfl
theorem x_rngN {a b : Int32} {a' b' : Int} (ea : a = iI a') (eb : b = iI b') (ha : i31 a') (hb : i31 b') (hz : i31 z) : TX6_between (iI z) a b = some (b2i (a' ≤ z ∧ z ≤ b')) := by rw [ea, eb, x_rng hz ha hb]
theorem zbb {p : Prop} [Decidable p] : ((zb (b2i p)).bind fun v => some v) = some (b2i p) := by rw [zb_b]; rfl
theorem x_isKind (hz : i31 z) : TX6_isKind (iI z) = some (b2i (0 ≤ z ∧ z ≤ 5)) := by
  unfold TX6_isKind
  rw [x_rngN (a' := 0) (b' := 5) (by decide) (by decide) (by omega) (by omega) hz, Option.bind_some, zbb]
theorem x_isK (hz : i31 z) : TX6_isK (iI z) = some (b2i (1 ≤ z ∧ z ≤ 9)) := by
  unfold TX6_isK
  rw [x_rngN (a' := 1) (b' := 9) (by decide) (by decide) (by omega) (by omega) hz, Option.bind_some, zbb]
theorem x_isC (hz : i31 z) : TX6_isC (iI z) = some (b2i (1 ≤ z ∧ z ≤ 4)) := by
  unfold TX6_isC
  rw [x_rngN (a' := 1) (b' := 4) (by decide) (by decide) (by omega) (by omega) hz, Option.bind_some, zbb]
theorem x_isHeat (hz : i31 z) : TX6_isHeat (iI z) = some (b2i (0 ≤ z ∧ z ≤ 999)) := by
  unfold TX6_isHeat
  rw [x_rngN (a' := 0) (b' := 999) (by decide) (by decide) (by omega) (by omega) hz, Option.bind_some, zbb]
theorem x_isSource (hz : i31 z) : TX6_isSource (iI z) = some (b2i (-9 ≤ z ∧ z ≤ 9)) := by
  unfold TX6_isSource
  rw [x_rngN (a' := -9) (b' := 9) (by decide) (by decide) (by omega) (by omega) hz, Option.bind_some, zbb]
theorem x_isByte (hz : i31 z) : TX6_isByte (iI z) = some (b2i (0 ≤ z ∧ z ≤ 255)) := by
  unfold TX6_isByte
  rw [x_rngN (a' := 0) (b' := 255) (by decide) (by decide) (by omega) (by omega) hz, Option.bind_some, zbb]
theorem x_isSheet (hz : i31 z) : TX6_isSheet (iI z) = some (b2i (0 ≤ z ∧ z ≤ 3)) := by
  unfold TX6_isSheet
  rw [x_rngN (a' := 0) (b' := 3) (by decide) (by decide) (by omega) (by omega) hz, Option.bind_some, zbb]
theorem x_has {S : SS} {b : Nat} {A : AB} (h : CB S b A) (h8 : qN A ≤ 8) (hz : i31 z) : TX0_has b (iI z) S = some (b2i (0 ≤ z ∧ z < qN A)) := by
  unfold TX0_has
  rw [h.1]
  have c1 : iI z < 0 ↔ z < 0 := by rw [k0, iI_lt hz (by omega)]
  have c2 : nI (qN A) ≤ iI z ↔ (qN A : Int) ≤ z := by rw [nI_z, iI_le (by omega) hz]
  have c3 : iI z < nI (qN A) ↔ z < (qN A : Int) := by rw [nI_z, iI_lt hz (by omega)]
  have c4 : 0 ≤ iI z ↔ 0 ≤ z := by rw [k0, iI_le (by omega) hz]
  simp only [c1, c2, c3, c4]
  by_cases h0 : z < 0
  · simp [h0, b2i, zb_0, show ¬ (0 ≤ z) by omega]
  · by_cases h1 : (qN A : Int) ≤ z
    · simp [h0, h1, b2i, zb_0, show ¬ (z < qN A) by omega]
    · simp [h0, h1, b2i, zb_1, show (z < qN A) by omega, show 0 ≤ z by omega]
theorem m_inN {a b : Int64} {a' b' : Int} (ea : a = lI a') (eb : b = lI b') (ha : i63 a') (hb : i63 b') (hz : i31 z) : TX7_isIn (Int32.toInt64 (iI z)) a b = some (b2i (a' ≤ z ∧ z ≤ b')) := by rw [ea, eb, iI_wide hz, m_rng (by omega) ha hb]
theorem m_isCell {S : SS} {A : AB} (h : MC S A) (h8 : qN A ≤ 8) (hz : i31 z) : TX7_isCell (iI z) S = some (b2i (0 ≤ z ∧ z < qN A)) := by
  unfold TX7_isCell
  rw [h.1, nI_z, k1, iI_sub, iI_wide (by omega : i31 ((qN A : Int) - 1)), m_inN (a' := 0) (b' := (qN A : Int) - 1) (by decide) rfl (by omega) (by omega) hz, Option.bind_some, zbb]
  exact congrArg some (b2i_congr (by omega))
theorem m_isSheet (hz : i31 z) : TX7_isSheet (iI z) = some (b2i (0 ≤ z ∧ z ≤ 3)) := by
  unfold TX7_isSheet
  rw [m_inN (a' := 0) (b' := 3) (by decide) (by decide) (by omega) (by omega) hz, Option.bind_some, zbb]
theorem m_bit (hz : i31 z) : TX7_isIn (Int32.toInt64 (iI z)) 0 1 = some (b2i (z = 0 ∨ z = 1)) := by
  rw [m_inN (a' := 0) (b' := 1) (by decide) (by decide) (by omega) (by omega) hz]
  exact congrArg some (b2i_congr (by omega))
theorem m_in999 (hz : i31 z) : TX7_isIn (Int32.toInt64 (iI z)) 0 999 = some (b2i (0 ≤ z ∧ z ≤ 999)) := m_inN (by decide) (by decide) (by omega) (by omega) hz
theorem m_in05 (hz : i31 z) : TX7_isIn (Int32.toInt64 (iI z)) 0 5 = some (b2i (0 ≤ z ∧ z ≤ 5)) := m_inN (by decide) (by decide) (by omega) (by omega) hz
theorem m_in19 (hz : i31 z) : TX7_isIn (Int32.toInt64 (iI z)) 1 9 = some (b2i (1 ≤ z ∧ z ≤ 9)) := m_inN (by decide) (by decide) (by omega) (by omega) hz
theorem m_in14 (hz : i31 z) : TX7_isIn (Int32.toInt64 (iI z)) 1 4 = some (b2i (1 ≤ z ∧ z ≤ 4)) := m_inN (by decide) (by decide) (by omega) (by omega) hz
theorem m_in99 (hz : i31 z) : TX7_isIn (Int32.toInt64 (iI z)) (-9) 9 = some (b2i (-9 ≤ z ∧ z ≤ 9)) := m_inN (by decide) (by decide) (by omega) (by omega) hz
theorem m_in140 (hz : i31 z) : TX7_isIn (Int32.toInt64 (iI z)) 1 40 = some (b2i (1 ≤ z ∧ z ≤ 40)) := m_inN (by decide) (by decide) (by omega) (by omega) hz
theorem m_in040 (hz : i31 z) : TX7_isIn (Int32.toInt64 (iI z)) 0 40 = some (b2i (0 ≤ z ∧ z ≤ 40)) := m_inN (by decide) (by decide) (by omega) (by omega) hz
theorem m_in120 (hz : i31 z) : TX7_isIn (Int32.toInt64 (iI z)) 1 20 = some (b2i (1 ≤ z ∧ z ≤ 20)) := m_inN (by decide) (by decide) (by omega) (by omega) hz
theorem m_in020 (hz : i31 z) : TX7_isIn (Int32.toInt64 (iI z)) 0 20 = some (b2i (0 ≤ z ∧ z ≤ 20)) := m_inN (by decide) (by decide) (by omega) (by omega) hz
theorem m_in010 (hz : i31 z) : TX7_isIn (Int32.toInt64 (iI z)) 0 10 = some (b2i (0 ≤ z ∧ z ≤ 10)) := m_inN (by decide) (by decide) (by omega) (by omega) hz
theorem m_in9999 (hz : i31 z) : TX7_isIn (Int32.toInt64 (iI z)) (-99) 99 = some (b2i (-99 ≤ z ∧ z ≤ 99)) := m_inN (by decide) (by decide) (by omega) (by omega) hz
theorem m_in1999 (hz : i31 z) : TX7_isIn (Int32.toInt64 (iI z)) (-1) 999 = some (b2i (-1 ≤ z ∧ z ≤ 999)) := m_inN (by decide) (by decide) (by omega) (by omega) hz
theorem m_in0255 (hz : i31 z) : TX7_isIn (Int32.toInt64 (iI z)) 0 255 = some (b2i (0 ≤ z ∧ z ≤ 255)) := m_inN (by decide) (by decide) (by omega) (by omega) hz
theorem m_in15 (hz : i31 z) : TX7_isIn (Int32.toInt64 (iI z)) 1 5 = some (b2i (1 ≤ z ∧ z ≤ 5)) := m_inN (by decide) (by decide) (by omega) (by omega) hz
theorem m_in03 (hz : i31 z) : TX7_isIn (Int32.toInt64 (iI z)) 0 3 = some (b2i (0 ≤ z ∧ z ≤ 3)) := m_inN (by decide) (by decide) (by omega) (by omega) hz
theorem m_in02 (hz : i31 z) : TX7_isIn (Int32.toInt64 (iI z)) 0 2 = some (b2i (0 ≤ z ∧ z ≤ 2)) := m_inN (by decide) (by decide) (by omega) (by omega) hz
theorem m_in08 (hz : i31 z) : TX7_isIn (Int32.toInt64 (iI z)) 0 8 = some (b2i (0 ≤ z ∧ z ≤ 8)) := m_inN (by decide) (by decide) (by omega) (by omega) hz
theorem m_in11 (hz : i31 z) : TX7_isIn (Int32.toInt64 (iI z)) (-1) 1 = some (b2i (-1 ≤ z ∧ z ≤ 1)) := m_inN (by decide) (by decide) (by omega) (by omega) hz
end CHK
