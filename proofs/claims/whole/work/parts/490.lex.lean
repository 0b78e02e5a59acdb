/-! Texts: what they say. -/
/-- from a on as long as P, m at most -/
def runE (P : Nat → Bool) : Nat → Nat → Nat
  | 0, a => a
  | m + 1, a => if P a = true then runE P m (a + 1) else a
theorem runE_B (P : Nat → Bool) : ∀ m a, a ≤ runE P m a ∧ runE P m a ≤ a + m
  | 0, a => ⟨Nat.le_refl _, Nat.le_refl _⟩
  | m + 1, a => by
    rw [runE]
    have := runE_B P m (a + 1)
    split <;> omega
theorem runE_0 {P : Nat → Bool} : ∀ {m a : Nat}, runE P m a < a + m → P (runE P m a) = false
  | 0, a, h => by rw [runE] at h; omega
  | m + 1, a, h => by
    rw [runE] at h ⊢
    by_cases e : P a = true
    · rw [if_pos e] at h ⊢
      exact runE_0 (by omega)
    · rw [if_neg e]
      simpa using e
theorem runE_f {P : Nat → Bool} {m a : Nat} (h : P a = false) : runE P m a = a := by
  cases m with
  | zero => rfl
  | succ m => rw [runE, if_neg (by simp [h])]
def blP (B : Nat → Nat) (q : Nat) : Bool := decide (B q = 32 ∨ B q = 10)
def ltP (B : Nat → Nat) (q : Nat) : Bool := decide (97 ≤ B q ∧ B q ≤ 122)
def dgP (B : Nat → Nat) (q : Nat) : Bool := decide (48 ≤ B q ∧ B q ≤ 57)
def sk (B : Nat → Nat) (z a : Nat) : Nat := runE (blP B) (z - a) a
def ltE (B : Nat → Nat) (z a : Nat) : Nat := runE (ltP B) (z - a) a
def dgE (B : Nat → Nat) (z a : Nat) : Nat := runE (dgP B) (z - a) a
/-- words -/
def wordsL : List (List Nat) := [[99, 101, 108, 108], [104, 101, 97, 116], [115, 111, 117, 114, 99, 101], [108, 101, 102, 116], [114, 105, 103, 104, 116], [102, 105, 110, 101], [112, 117, 108, 115, 101], [100, 114, 111, 112]]
def wl (w : Nat) : Nat := sLn.getD w 0
def wc (w k : Nat) : Nat := (wordsL.getD w []).getD k 0
def nb (w : Nat) : Nat := numbsM.getD w 0
def chB (B : Nat → Nat) (b w k : Nat) : Bool := decide (B (b + k) = wc w k)
def mtW (B : Nat → Nat) (b n w : Nat) : Bool := decide (n = wl w) && allB (chB B b w) n 0
theorem w_uniq : ∀ w, w < 8 → ∀ u, u < 8 → wl w = wl u → (∀ k, k < wl w → wc w k = wc u k) → w = u := by decide +kernel
theorem wl_B : ∀ w, w < 8 → 4 ≤ wl w ∧ wl w ≤ 6 ∧ nb w ≤ 4 := by decide +kernel
section LEX
variable {B : Nat → Nat} {z : Nat}
theorem mt_iff {b n w : Nat} : mtW B b n w = true ↔ (n = wl w ∧ ∀ k, k < n → B (b + k) = wc w k) := by
  unfold mtW
  rw [Bool.and_eq_true, decide_eq_true_iff, allB_iff]
  constructor
  · intro h
    exact ⟨h.1, fun k hk => of_decide_eq_true (h.2 k (by omega) (by omega))⟩
  · intro h
    exact ⟨h.1, fun k _ hk => decide_eq_true (h.2 k (by omega))⟩
theorem mt_uniq {b n w u : Nat} (hw : w < 8) (hu : u < 8) (h1 : mtW B b n w = true) (h2 : mtW B b n u = true) : w = u := by
  rw [mt_iff] at h1 h2
  refine w_uniq w hw u hu (by omega) fun k hk => ?_
  rw [← h1.2 k (by omega), ← h2.2 k (by omega)]
/-- the first word that stands there, 8 if none -/
def wdF (B : Nat → Nat) (b n : Nat) : Nat → Nat → Nat
  | 0, w => w
  | m + 1, w => if mtW B b n w = true then w else wdF B b n m (w + 1)
def wd (B : Nat → Nat) (z b : Nat) : Nat := wdF B b (ltE B z b - b) 8 0
theorem wdF_B {b n : Nat} : ∀ m w, w ≤ wdF B b n m w ∧ wdF B b n m w ≤ w + m ∧ (wdF B b n m w < w + m → mtW B b n (wdF B b n m w) = true) ∧ ∀ u, w ≤ u → u < wdF B b n m w → mtW B b n u = false
  | 0, w => ⟨Nat.le_refl _, Nat.le_refl _, fun h => by rw [wdF] at h; omega, fun u h1 h2 => by rw [wdF] at h2; omega⟩
  | m + 1, w => by
    rw [wdF]
    obtain ⟨h1, h2, h3, h4⟩ := wdF_B (b := b) (n := n) m (w + 1)
    by_cases e : mtW B b n w = true
    · rw [if_pos e]
      exact ⟨Nat.le_refl _, by omega, fun _ => e, fun u h5 h6 => by omega⟩
    · rw [if_neg e]
      refine ⟨by omega, by omega, fun h => h3 (by omega), fun u h5 h6 => ?_⟩
      by_cases e2 : u = w
      · rw [e2]; simpa using e
      · exact h4 u (by omega) h6
theorem wd_lt {b : Nat} (h : wd B z b < 8) : mtW B b (ltE B z b - b) (wd B z b) = true := (wdF_B 8 0).2.2.1 h
theorem wd_le {b : Nat} : wd B z b ≤ 8 := (wdF_B 8 0).2.1
theorem wd_no {b : Nat} (h : ¬ wd B z b < 8) : ∀ u, u < 8 → mtW B b (ltE B z b - b) u = false := fun u hu => (wdF_B 8 0).2.2.2 u (by omega) (by unfold wd at h; omega)
theorem wd_len {b : Nat} (h : wd B z b < 8) : ltE B z b = b + wl (wd B z b) := by
  have h1 := (mt_iff.mp (wd_lt h)).1
  have h2 := wl_B _ h
  omega
/-- numbers -/
def nvF (B : Nat → Nat) (f : Nat) : Nat → Int32
  | 0 => 0
  | k + 1 => nvF B f k * 10 + nI (B (f + k)) - 48
def nuF (B : Nat → Nat) (z b : Nat) : Nat := if b < z ∧ B b = 45 then b + 1 else b
def nuT (B : Nat → Nat) (z b : Nat) : Nat := dgE B z (nuF B z b)
def nuV (B : Nat → Nat) (z b : Nat) : Int32 := if b < z ∧ B b = 45 then -nvF B (nuF B z b) (nuT B z b - nuF B z b) else nvF B (nuF B z b) (nuT B z b - nuF B z b)
def nuOk (B : Nat → Nat) (z b : Nat) : Prop := nuF B z b < nuT B z b ∧ nuT B z b ≤ nuF B z b + 3
theorem nuF_B {b : Nat} (hb : b ≤ z) : b ≤ nuF B z b ∧ nuF B z b ≤ z := by
  unfold nuF
  split <;> omega
theorem sk_B {a : Nat} (h : a ≤ z) : a ≤ sk B z a ∧ sk B z a ≤ z := by
  have := runE_B (blP B) (z - a) a
  unfold sk
  omega
theorem ltE_B {a : Nat} (h : a ≤ z) : a ≤ ltE B z a ∧ ltE B z a ≤ z := by
  have := runE_B (ltP B) (z - a) a
  unfold ltE
  omega
theorem dgE_B {a : Nat} (h : a ≤ z) : a ≤ dgE B z a ∧ dgE B z a ≤ z := by
  have := runE_B (dgP B) (z - a) a
  unfold dgE
  omega
theorem nuT_B {b : Nat} (hb : b ≤ z) : nuF B z b ≤ nuT B z b ∧ nuT B z b ≤ z := dgE_B (nuF_B hb).2
/-- m numbers more -/
def nsP (B : Nat → Nat) (z : Nat) : Nat → Nat → Nat → (Nat → Int32) → Nat ⊕ ((Nat → Int32) × Nat)
  | 0, _, a, v => .inr (v, a)
  | m + 1, k, a, v => if nuF B z (sk B z a) < nuT B z (sk B z a) ∧ nuT B z (sk B z a) ≤ nuF B z (sk B z a) + 3 then nsP B z m (k + 1) (nuT B z (sk B z a)) (va_up v k (nuV B z (sk B z a))) else .inl (sk B z a)
/-- a clause: its fault, or word, numbers, and the place behind it -/
def clP (B : Nat → Nat) (z a : Nat) : Nat ⊕ ((Nat → Int32) × Nat) := if wd B z (sk B z a) < 8 then nsP B z (nb (wd B z (sk B z a))) 0 (ltE B z (sk B z a)) (fun _ => 0) else .inl (sk B z a)
def clW (B : Nat → Nat) (z a : Nat) : Nat := wd B z (sk B z a)
theorem nsP_B : ∀ (m k a : Nat) (v : Nat → Int32), a ≤ z → (∀ f, nsP B z m k a v = .inl f → a ≤ f ∧ f ≤ z) ∧ ∀ v' a', nsP B z m k a v = .inr (v', a') → a + m ≤ a' ∧ a' ≤ z ∧ ∀ j, j < k → v' j = v j
  | 0, k, a, v, h => by
    rw [nsP]
    refine ⟨fun f e => (by cases e), fun v' a' e => ?_⟩
    cases e
    exact ⟨by omega, h, fun _ _ => rfl⟩
  | m + 1, k, a, v, h => by
    rw [nsP]
    have h1 := sk_B (B := B) h
    have h2 := nuF_B (B := B) h1.2
    have h3 := nuT_B (B := B) h1.2
    by_cases e : nuF B z (sk B z a) < nuT B z (sk B z a) ∧ nuT B z (sk B z a) ≤ nuF B z (sk B z a) + 3
    · rw [if_pos e]
      obtain ⟨i1, i2⟩ := nsP_B m (k + 1) (nuT B z (sk B z a)) (va_up v k (nuV B z (sk B z a))) h3.2
      refine ⟨fun f ef => ?_, fun v' a' ea => ?_⟩
      · have := i1 f ef
        omega
      · obtain ⟨j1, j2, j3⟩ := i2 v' a' ea
        refine ⟨by omega, j2, fun j hj => ?_⟩
        rw [j3 j (by omega), va_up_n _ _ (by omega)]
    · rw [if_neg e]
      refine ⟨fun f ef => ?_, fun v' a' ea => by cases ea⟩
      cases ef
      exact h1
theorem clP_B {a : Nat} (h : a ≤ z) : (∀ f, clP B z a = .inl f → a ≤ f ∧ f ≤ z) ∧ ∀ v a', clP B z a = .inr (v, a') → clW B z a < 8 ∧ a + 4 + nb (clW B z a) ≤ a' ∧ a' ≤ z := by
  unfold clP clW
  have h1 := sk_B (B := B) h
  have h2 := ltE_B (B := B) h1.2
  by_cases e : wd B z (sk B z a) < 8
  · rw [if_pos e]
    have h3 := wd_len e
    have h4 := wl_B _ e
    obtain ⟨i1, i2⟩ := nsP_B (B := B) (z := z) (nb (wd B z (sk B z a))) 0 (ltE B z (sk B z a)) (fun _ => 0) h2.2
    refine ⟨fun f ef => ?_, fun v a' ea => ?_⟩
    · have := i1 f ef
      omega
    · have := i2 v a' ea
      exact ⟨e, by omega, this.2.1⟩
  · rw [if_neg e]
    refine ⟨fun f ef => ?_, fun v a' ea => by cases ea⟩
    cases ef
    exact h1
/-- clauses -/
abbrev CL : Type := Nat × (Nat → Int32)
def txP (B : Nat → Nat) (z : Nat) : Nat → Nat → Nat ⊕ List CL
  | 0, a => .inl a
  | m + 1, a => match clP B z a with
    | .inl f => .inl f
    | .inr (v, a') => if z ≤ sk B z a' then .inr [(clW B z a, v)] else if B (sk B z a') = 59 then (match txP B z m (sk B z a' + 1) with
      | .inl f => .inl f
      | .inr l => .inr ((clW B z a, v) :: l)) else .inl (sk B z a')
end LEX
