/-! What a term must give; frames. -/
def WP {α : Type} (t : Option α) (Q : α → Prop) : Prop := ∃ a, t = some a ∧ Q a
theorem wp_some {α : Type} {a : α} {Q : α → Prop} (h : Q a) : WP (some a) Q := ⟨a, rfl, h⟩
theorem wp_bind {α β : Type} {t : Option α} {f : α → Option β} {P : α → Prop} {Q : β → Prop} (h : WP t P) (hf : ∀ a, P a → WP (f a) Q) : WP (t.bind f) Q := by
  obtain ⟨a, e, p⟩ := h
  rw [e]
  exact hf a p
theorem wp_mono {α : Type} {t : Option α} {P Q : α → Prop} (h : WP t P) (hf : ∀ a, P a → Q a) : WP t Q := by
  obtain ⟨a, e, p⟩ := h
  exact ⟨a, e, hf a p⟩
theorem wp_eq {α : Type} {t u : Option α} {Q : α → Prop} (e : t = u) (h : WP u Q) : WP t Q := e ▸ h
theorem wp_ite {α : Type} {c : Prop} [Decidable c] {t u : Option α} {Q : α → Prop} (h1 : c → WP t Q) (h2 : ¬ c → WP u Q) : WP (if c then t else u) Q := by
  by_cases h : c
  · rw [if_pos h]; exact h1 h
  · rw [if_neg h]; exact h2 h
/-- a loop that counts up to N -/
theorem wp_up {σ α : Type} {F : Nat → Nat → σ → Option α} {N : Nat} {I : Nat → σ → Prop} {Q : α → Prop}
    (hs : ∀ n i s, i < N → I i s → (∀ s', I (i + 1) s' → WP (F n (i + 1) s') Q) → WP (F (n + 1) i s) Q)
    (hx : ∀ n s, I N s → WP (F (n + 1) N s) Q) : ∀ (i : Nat) (s : σ) (n : Nat), i ≤ N → I i s → N - i + 1 ≤ n → WP (F n i s) Q := by
  have key : ∀ m i s n, i + m = N → I i s → m + 1 ≤ n → WP (F n i s) Q := by
    intro m
    induction m with
    | zero =>
      intro i s n hi h hn
      obtain ⟨n, rfl⟩ : ∃ q, n = q + 1 := ⟨n - 1, by omega⟩
      obtain rfl : i = N := by omega
      exact hx n s h
    | succ m ih =>
      intro i s n hi h hn
      obtain ⟨n, rfl⟩ : ∃ q, n = q + 1 := ⟨n - 1, by omega⟩
      exact hs n i s (by omega) h (fun s' h' => ih (i + 1) s' n (by omega) h' (by omega))
  intro i s n hi h hn
  exact key (N - i) i s n (by omega) h (by omega)
/-- equations for a loop that counts up to N: it ends as it ends from N on -/
theorem nI_leI' {a b : Nat} (ha : a < 2147483648) (hb : b < 2147483648) : (nI a ≤ nI b) = (a ≤ b) := propext (nI_leI ha hb)
theorem nI_ltI' {a b : Nat} (ha : a < 2147483648) (hb : b < 2147483648) : (nI a < nI b) = (a < b) := propext (nI_ltI ha hb)
theorem nI_eqI' {a b : Nat} (ha : a < 2147483648) (hb : b < 2147483648) : (nI a = nI b) = (a = b) := propext (nI_eq ha hb)
theorem iI_leI {a b : Int} (ha : -2147483648 ≤ a) (ha' : a < 2147483648) (hb : -2147483648 ≤ b) (hb' : b < 2147483648) : (iI a ≤ iI b) = (a ≤ b) := propext (iI_le ⟨ha, ha'⟩ ⟨hb, hb'⟩)
theorem iI_ltI {a b : Int} (ha : -2147483648 ≤ a) (ha' : a < 2147483648) (hb : -2147483648 ≤ b) (hb' : b < 2147483648) : (iI a < iI b) = (a < b) := propext (iI_lt ⟨ha, ha'⟩ ⟨hb, hb'⟩)
theorem iI_eqI {a b : Int} (ha : -2147483648 ≤ a) (ha' : a < 2147483648) (hb : -2147483648 ≤ b) (hb' : b < 2147483648) : (iI a = iI b) = (a = b) := propext (iI_eq ⟨ha, ha'⟩ ⟨hb, hb'⟩)
theorem lI_leI {a b : Int} (ha : -9223372036854775808 ≤ a) (ha' : a < 9223372036854775808) (hb : -9223372036854775808 ≤ b) (hb' : b < 9223372036854775808) : (lI a ≤ lI b) = (a ≤ b) := propext (lI_le ⟨ha, ha'⟩ ⟨hb, hb'⟩)
theorem lI_ltI {a b : Int} (ha : -9223372036854775808 ≤ a) (ha' : a < 9223372036854775808) (hb : -9223372036854775808 ≤ b) (hb' : b < 9223372036854775808) : (lI a < lI b) = (a < b) := propext (lI_lt ⟨ha, ha'⟩ ⟨hb, hb'⟩)
theorem lI_eqI {a b : Int} (ha : -9223372036854775808 ≤ a) (ha' : a < 9223372036854775808) (hb : -9223372036854775808 ≤ b) (hb' : b < 9223372036854775808) : (lI a = lI b) = (a = b) := propext (lI_eq ⟨ha, ha'⟩ ⟨hb, hb'⟩)
theorem iI_wideI {a : Int} (ha : -2147483648 ≤ a) (ha' : a < 2147483648) : (iI a).toInt64 = lI a := iI_wide ⟨ha, ha'⟩
theorem nI_wideI {a : Nat} (ha' : a < 2147483648) : (nI a).toInt64 = lI a := by rw [nI_z]; exact iI_wide (by omega)
theorem ite_jin {α : Type} {i n : Nat} {a b : α} (h : i < n) (hn : n < 2147483648) : (if jin (nI i) n then a else b) = a := if_pos (iI_in h hn)
theorem up2_s {α : Type} (f : Nat → Nat → α) (k j : Nat) (v : α) : up2 f k j v k = va_up (f k) j v := funext fun q => by
  by_cases h : q = j
  · subst h; rw [va_up_self]; simp [up2]
  · rw [va_up_ne _ _ h]; simp [up2, h]
theorem up2_n {α : Type} (f : Nat → Nat → α) {k k' : Nat} (j : Nat) (v : α) (h : k' ≠ k) : up2 f k j v k' = f k' := funext fun q => by simp [up2, h]
theorem va_up_s {α : Type} (f : Nat → α) (k : Nat) (v : α) : va_up f k v k = v := va_up_self ..
theorem va_up_n {α : Type} (f : Nat → α) {k j : Nat} (v : α) (h : j ≠ k) : va_up f k v j = f j := va_up_ne _ _ h
theorem va_up_at {α : Type} (f : Nat → α) (k j : Nat) (v : α) : va_up f k v j = if j = k then v else f j := rfl
/-- P t k j: what may change: t = 0 the int field j of cell k, 1 the long one, 2 the int row k, 3 the long row k -/
def FR (P : Nat → Nat → Nat → Prop) (S S' : SS) : Prop := (∀ k j, ¬ P 0 k j → S'.1 k j = S.1 k j) ∧ (∀ k j, ¬ P 1 k j → S'.2.1 k j = S.2.1 k j) ∧ (∀ k, ¬ P 2 k 0 → S'.2.2.1 k = S.2.2.1 k) ∧ ∀ k, ¬ P 3 k 0 → S'.2.2.2 k = S.2.2.2 k
section FRS
variable {P Q : Nat → Nat → Nat → Prop} {S S' S'' : SS}
theorem FR_refl : FR P S S := ⟨fun _ _ _ => rfl, fun _ _ _ => rfl, fun _ _ => rfl, fun _ _ => rfl⟩
theorem FR_trans (h : FR P S S') (h' : FR P S' S'') : FR P S S'' :=
  ⟨fun k j q => (h'.1 k j q).trans (h.1 k j q), fun k j q => (h'.2.1 k j q).trans (h.2.1 k j q), fun k q => (h'.2.2.1 k q).trans (h.2.2.1 k q), fun k q => (h'.2.2.2 k q).trans (h.2.2.2 k q)⟩
theorem FR_mono (h : FR P S S') (hP : ∀ t k j, P t k j → Q t k j) : FR Q S S' :=
  ⟨fun k j q => h.1 k j (fun z => q (hP _ _ _ z)), fun k j q => h.2.1 k j (fun z => q (hP _ _ _ z)), fun k q => h.2.2.1 k (fun z => q (hP _ _ _ z)), fun k q => h.2.2.2 k (fun z => q (hP _ _ _ z))⟩
theorem FR_FI {k j : Nat} {v : Int32} (h : FR P S S') (hk : P 0 k j) : FR P S (sFI S' k j v) :=
  ⟨fun k' j' q => by
    have : ¬ (k' = k ∧ j' = j) := fun z => q (by rw [z.1, z.2]; exact hk)
    show up2 S'.1 k j v k' j' = _
    rw [show up2 S'.1 k j v k' j' = S'.1 k' j' from if_neg this]
    exact h.1 k' j' q, h.2.1, h.2.2.1, h.2.2.2⟩
theorem FR_FL {k j : Nat} {v : Int64} (h : FR P S S') (hk : P 1 k j) : FR P S (sFL S' k j v) :=
  ⟨h.1, fun k' j' q => by
    have : ¬ (k' = k ∧ j' = j) := fun z => q (by rw [z.1, z.2]; exact hk)
    show up2 S'.2.1 k j v k' j' = _
    rw [show up2 S'.2.1 k j v k' j' = S'.2.1 k' j' from if_neg this]
    exact h.2.1 k' j' q, h.2.2.1, h.2.2.2⟩
theorem FR_AI {k j : Nat} {v : Int32} (h : FR P S S') (hk : P 2 k 0) : FR P S (sAI S' k j v) :=
  ⟨h.1, h.2.1, fun k' q => by
    have : k' ≠ k := fun z => q (by rw [z]; exact hk)
    show up2 S'.2.2.1 k j v k' = _
    rw [up2_n _ _ _ this]
    exact h.2.2.1 k' q, h.2.2.2⟩
theorem FR_AL {k j : Nat} {v : Int64} (h : FR P S S') (hk : P 3 k 0) : FR P S (sAL S' k j v) :=
  ⟨h.1, h.2.1, h.2.2.1, fun k' q => by
    have : k' ≠ k := fun z => q (by rw [z]; exact hk)
    show up2 S'.2.2.2 k j v k' = _
    rw [up2_n _ _ _ this]
    exact h.2.2.2 k' q⟩
theorem FR_RI {k : Nat} {v : Nat → Int32} (h : FR P S S') (hk : P 2 k 0) : FR P S (sRI S' k v) :=
  ⟨h.1, h.2.1, fun k' q => by
    have : k' ≠ k := fun z => q (by rw [z]; exact hk)
    show va_up S'.2.2.1 k v k' = _
    rw [va_up_n _ _ this]
    exact h.2.2.1 k' q, h.2.2.2⟩
theorem FR_RL {k : Nat} {v : Nat → Int64} (h : FR P S S') (hk : P 3 k 0) : FR P S (sRL S' k v) :=
  ⟨h.1, h.2.1, h.2.2.1, fun k' q => by
    have : k' ≠ k := fun z => q (by rw [z]; exact hk)
    show va_up S'.2.2.2 k v k' = _
    rw [va_up_n _ _ this]
    exact h.2.2.2 k' q⟩
end FRS
/-- the class's cells; the reference's -/
def pX (_ k _ : Nat) : Prop := k < 64
def pM (_ k _ : Nat) : Prop := 64 ≤ k
/-- a bar at b -/
def pB (b : Nat) (_ k _ : Nat) : Prop := b ≤ k ∧ k ≤ b + 14
/-- what of the class no later call looks at: the thought bar, rows for reckoning, the plan -/
def pXs (t k j : Nat) : Prop := k = 15 ∨ (16 ≤ k ∧ k ≤ 30) ∨ k = 45 ∨ (46 ≤ k ∧ k ≤ 51) ∨ (t = 0 ∧ k = 60 ∧ (j = 3 ∨ j = 4)) ∨ k = 62 ∨ k = 63
/-- what of the reference no later call looks at -/
def pMs (t k j : Nat) : Prop := (t = 0 ∧ k = 64 ∧ (j = 15 ∨ j = 20 ∨ (30 ≤ j ∧ j ≤ 34) ∨ j = 36)) ∨ (t = 1 ∧ k = 64 ∧ (j = 14 ∨ j = 24)) ∨ (t = 2 ∧ ((76 ≤ k ∧ k ≤ 78) ∨ k = 83 ∨ k = 87 ∨ k = 101)) ∨ (t = 3 ∧ (k = 75 ∨ (79 ≤ k ∧ k ≤ 82)))
/-- the reference's heats and pulses -/
def pMt (t k j : Nat) : Prop := (t = 0 ∧ k = 64 ∧ j = 9) ∨ (t = 1 ∧ k = 64 ∧ j = 6) ∨ (t = 2 ∧ (72 ≤ k ∧ k ≤ 74)) ∨ (t = 3 ∧ k = 69)
theorem pXs_X : ∀ t k j, pXs t k j → pX t k j := fun t k j h => by unfold pXs at h; unfold pX; omega
theorem pMs_M : ∀ t k j, pMs t k j → pM t k j := fun t k j h => by unfold pMs at h; unfold pM; omega
/-! frames of the bar's holdings -/
section FRB
variable {P : Nat → Nat → Nat → Prop} {S S' : SS} {A : AB}
theorem CB_fr {b : Nat} (h : FR P S S') (h0 : ¬ P 0 b 0) (h1 : ¬ P 0 (b + 10) 3) (h2 : ¬ P 1 b 9) (h3 : ¬ P 0 b 11) (h4 : ¬ P 0 b 12) (ha : ∀ k, b + 1 ≤ k → k ≤ b + 13 → ¬ P 2 k 0) (hl : ¬ P 3 (b + 8) 0) (c : CB S b A) : CB S' b A := by
  obtain ⟨c1, c2, c3, c4, c5, c6, c7, c8, c9⟩ := c
  refine ⟨(h.1 _ _ h0).trans c1, (h.1 _ _ h1).trans c2, (h.2.1 _ _ h2).trans c3, (h.1 _ _ h3).trans c4, (h.1 _ _ h4).trans c5, ?_, ?_, fun i hi => ?_, fun p hp => ?_⟩
  · rw [h.2.2.1 _ (ha _ (by omega) (by omega))]; exact c6
  · rw [h.2.2.1 _ (ha _ (by omega) (by omega))]; exact c7
  · rw [h.2.2.1 _ (ha (b + 1) (by omega) (by omega)), h.2.2.1 _ (ha (b + 2) (by omega) (by omega)), h.2.2.1 _ (ha (b + 3) (by omega) (by omega)), h.2.2.1 _ (ha (b + 4) (by omega) (by omega)), h.2.2.1 _ (ha (b + 5) (by omega) (by omega)), h.2.2.1 _ (ha (b + 6) (by omega) (by omega)), h.2.2.1 _ (ha (b + 7) (by omega) (by omega)), h.2.2.2 _ hl]
    exact c8 i hi
  · rw [h.2.2.1 _ (ha (b + 11) (by omega) (by omega)), h.2.2.1 _ (ha (b + 12) (by omega) (by omega)), h.2.2.1 _ (ha (b + 13) (by omega) (by omega))]
    exact c9 p hp
/-- a bar is as it was where nothing of it may change -/
theorem CB_fr' {b : Nat} (h : FR P S S') (hb : ∀ t k j, b ≤ k → k ≤ b + 13 → ¬ P t k j) (c : CB S b A) : CB S' b A :=
  CB_fr h (hb _ _ _ (by omega) (by omega)) (hb _ _ _ (by omega) (by omega)) (hb _ _ _ (by omega) (by omega)) (hb _ _ _ (by omega) (by omega)) (hb _ _ _ (by omega) (by omega)) (fun k h1 h2 => hb _ _ _ (by omega) (by omega)) (hb _ _ _ (by omega) (by omega)) c
theorem MC_fr (h : FR P S S') (h0 : ¬ P 0 64 0) (ha : ∀ k, 65 ≤ k → k ≤ 71 → ¬ P 2 k 0) (c : MC S A) : MC S' A := by
  obtain ⟨c1, c2, c3, c4, c5, c6⟩ := c
  refine ⟨(h.1 _ _ h0).trans c1, ?_, ?_, ?_, ?_, fun i hi => ?_⟩
  · rw [h.2.2.1 _ (ha _ (by omega) (by omega))]; exact c2
  · rw [h.2.2.1 _ (ha _ (by omega) (by omega))]; exact c3
  · rw [h.2.2.1 _ (ha _ (by omega) (by omega))]; exact c4
  · rw [h.2.2.1 _ (ha _ (by omega) (by omega))]; exact c5
  · rw [h.2.2.1 _ (ha 65 (by omega) (by omega)), h.2.2.1 _ (ha 66 (by omega) (by omega)), h.2.2.1 _ (ha 67 (by omega) (by omega)), h.2.2.1 _ (ha 68 (by omega) (by omega))]
    exact c6 i hi
theorem MH_fr {kt fl fw kp : Nat} (h : FR P S S') (h0 : ¬ P 1 64 fl) (h1 : ¬ P 0 64 fw) (h2 : ¬ P 3 kt 0) (h3 : ∀ k, kp ≤ k → k ≤ kp + 2 → ¬ P 2 k 0) (c : MH S kt fl fw kp A) : MH S' kt fl fw kp A := by
  obtain ⟨c1, c2, c3, c4⟩ := c
  refine ⟨(h.2.1 _ _ h0).trans c1, (h.1 _ _ h1).trans c2, fun i hi => ?_, fun p hp => ?_⟩
  · rw [h.2.2.2 _ h2]; exact c3 i hi
  · rw [h.2.2.1 _ (h3 kp (by omega) (by omega)), h.2.2.1 _ (h3 (kp + 1) (by omega) (by omega)), h.2.2.1 _ (h3 (kp + 2) (by omega) (by omega))]; exact c4 p hp
end FRB
