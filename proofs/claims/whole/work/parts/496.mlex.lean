/-! Texts: the reference reads tokens. -/
def tpM (B : Nat → Nat) (z : Nat) (S : SS) : Prop := S.1 64 30 = nI z ∧ (∀ q, q < z → S.2.2.1 86 q = nI (B q)) ∧ (∀ i, i < 44 → S.2.2.1 84 i = nI (wordsM.getD i 0)) ∧ ∀ i, i < 8 → S.2.2.1 85 i = nI (nb i)
def pTr (t k j : Nat) : Prop := t = 0 ∧ k = 64 ∧ 31 ≤ j ∧ j ≤ 34
def wb (w : Nat) : Nat := [0, 5, 10, 17, 22, 28, 33, 39, 44].getD w 0
theorem wb_B : ∀ w, w < 8 → wb w + wl w < 44 ∧ wb (w + 1) = wb w + wl w + 1 ∧ wordsM.getD (wb w + wl w) 0 = 32 := by decide +kernel
theorem wb_c : ∀ w, w < 8 → ∀ k, k < wl w → wordsM.getD (wb w + k) 0 = wc w k ∧ wc w k ≠ 32 ∧ wc w k ≤ 255 := by decide +kernel
theorem letS_e {α : Type} (s : SS) (f : SS → Option α) : letS s f = f s := rfl
theorem runE_t {P : Nat → Bool} {m a : Nat} (h : P a = true) (hm : 0 < m) : a + 1 ≤ runE P m a := by
  obtain ⟨m, rfl⟩ : ∃ q, m = q + 1 := ⟨m - 1, by omega⟩
  rw [runE, if_pos h]
  exact (runE_B P m (a + 1)).1
section MLX
variable {B : Nat → Nat} {z : Nat} {S : SS} {P : Nat → Nat → Nat → Prop}
theorem tpM_fr' {S' : SS} (h : FR P S S') (h0 : ¬ P 0 64 30) (h1 : ∀ k, 84 ≤ k → k ≤ 86 → ¬ P 2 k 0) (c : tpM B z S) : tpM B z S' := by
  obtain ⟨c1, c2, c3, c4⟩ := c
  refine ⟨(h.1 64 30 h0).trans c1, fun q hq => ?_, fun q hq => ?_, fun q hq => ?_⟩
  · rw [h.2.2.1 86 (h1 _ (by omega) (by omega))]; exact c2 q hq
  · rw [h.2.2.1 84 (h1 _ (by omega) (by omega))]; exact c3 q hq
  · rw [h.2.2.1 85 (h1 _ (by omega) (by omega))]; exact c4 q hq
theorem tpM_fr {S' : SS} (h : FR pTr S S') (c : tpM B z S) : tpM B z S' := tpM_fr' h (by unfold pTr; omega) (fun k _ _ => by unfold pTr; omega) c
theorem m_dig (hz : z ≤ 60) (hB : ∀ q, q < z → B q ≤ 255) (hT : tpM B z S) {q : Nat} (hq : q ≤ 61) : TX7_isDigit (nI q) S = some (b2i (q < z ∧ dgP B q = true)) := by
  unfold TX7_isDigit
  rw [hT.1]
  by_cases e : z ≤ q
  · rw [if_pos (by rw [nI_cmp (by omega) (by omega)]; exact e), b2i_f (by omega)]
    rfl
  · have hb := hB q (by omega)
    rw [if_neg (by rw [nI_cmp (by omega) (by omega)]; exact e), aget_n (by omega) (by omega), Option.bind_some, hT.2.1 q (by omega), nI_z, m_inN (z := (B q : Int)) (a := 48) (b := 57) (a' := 48) (b' := 57) (by decide) (by decide) (by omega) (by omega) (by omega), Option.bind_some, ite_b]
    by_cases e2 : (48 : Int) ≤ (B q : Int) ∧ (B q : Int) ≤ 57
    · rw [if_pos e2, b2i_t ⟨by omega, by simp [dgP]; omega⟩]
      rfl
    · rw [if_neg e2, b2i_f (by simp [dgP]; omega)]
      rfl
theorem m_let (hz : z ≤ 60) (hB : ∀ q, q < z → B q ≤ 255) (hT : tpM B z S) {q : Nat} (hq : q ≤ 61) : TX7_isLetter (nI q) S = some (b2i (q < z ∧ ltP B q = true)) := by
  unfold TX7_isLetter
  rw [hT.1]
  by_cases e : z ≤ q
  · rw [if_pos (by rw [nI_cmp (by omega) (by omega)]; exact e), b2i_f (by omega)]
    rfl
  · have hb := hB q (by omega)
    rw [if_neg (by rw [nI_cmp (by omega) (by omega)]; exact e), aget_n (by omega) (by omega), Option.bind_some, hT.2.1 q (by omega), nI_z, m_inN (z := (B q : Int)) (a := 97) (b := 122) (a' := 97) (b' := 122) (by decide) (by decide) (by omega) (by omega) (by omega), Option.bind_some, ite_b]
    by_cases e2 : (97 : Int) ≤ (B q : Int) ∧ (B q : Int) ≤ 122
    · rw [if_pos e2, b2i_t ⟨by omega, by simp [ltP]; omega⟩]
      rfl
    · rw [if_neg e2, b2i_f (by simp [ltP]; omega)]
      rfl
/-- one word -/
theorem m_w83 {r : Int32 → Int32 → SS → Option SS} (hz : z ≤ 60) (hB : ∀ q, q < z → B q ≤ 255) (hT : tpM B z S) {w b e : Nat} {l3 : Int32} (hw : w < 8) (hbe : b ≤ e) (he : e ≤ z) (h31 : S.1 64 31 = nI e) (h32 : S.1 64 32 = nI b) : ∀ (m k n : Nat) (f : Bool), k + m = e - b → m + 1 ≤ n → (f = true → e - b = wl w) → TX7_readsWord_L83 r n (nI (wb w)) (nI w) l3 (b2i (f = true)) (nI k) S = TX7_readsWord_J139 r (nI w) l3 (b2i ((f && allB (chB B b w) m k) = true)) S := by
  have hw1 := wb_B w hw
  intro m
  induction m with
  | zero =>
    intro k n f hk hn hf
    obtain ⟨n, rfl⟩ : ∃ q, n = q + 1 := ⟨n - 1, by omega⟩
    rw [TX7_readsWord_L83, h31, h32, pk_sub hbe, if_pos (show nI (e - b) ≤ nI k by rw [nI_cmp (by omega) (by omega)]; omega), allB, Bool.and_true, ite_self]
  | succ m ih =>
    intro k n f hk hn hf
    obtain ⟨n, rfl⟩ : ∃ q, n = q + 1 := ⟨n - 1, by omega⟩
    cases f
    · rw [TX7_readsWord_L83, if_pos (show b2i (false = true) = 0 from rfl)]
      rfl
    · have hl := hf rfl
      have hb := hB (b + k) (by omega)
      obtain ⟨w1, w2, w3⟩ := wb_c w hw k (by omega)
      have i1 := ih (k + 1) n true (by omega) (by omega) hf
      have i0 := ih (k + 1) n false (by omega) (by omega) (fun y => by cases y)
      rw [show b2i (true = true) = 1 from rfl] at i1
      rw [show b2i (false = true) = 0 from rfl] at i0
      rw [TX7_readsWord_L83, if_neg (show ¬ b2i (true = true) = 0 by decide), h31, h32, pk_sub hbe, if_neg (show ¬ nI (e - b) ≤ nI k by rw [nI_cmp (by omega) (by omega)]; omega), nI_add, aget_n (by omega) (by omega), Option.bind_some, nI_add, aget_n (by omega) (by omega), Option.bind_some, hT.2.2.1 _ (by omega), w1, hT.2.1 _ (by omega), nI_1, i1, i0, allB]
      by_cases c : B (b + k) = wc w k
      · rw [if_pos (by rw [c])]
        congr 2
        simp [chB, c]
      · rw [if_neg (fun y => c ((nI_lit w3 hb).mp y).symm)]
        congr 2
        simp [chB, c]
theorem m_w41 {r : Int32 → Int32 → SS → Option SS} (hT : tpM B z S) {w b e : Nat} (hw : w < 8) (hbe : b ≤ e) (he : e ≤ 60) (h31 : S.1 64 31 = nI e) (h32 : S.1 64 32 = nI b) : ∀ (m k n : Nat), k + m = wl w → m + 1 ≤ n → TX7_readsWord_L41 r n (nI (wb w)) (nI w) (nI (wb w + k)) S = TX7_readsWord_J78 r (nI (wb w)) (nI w) (nI (wb w + wl w)) (b2i (e - b = wl w)) S := by
  have hw1 := wb_B w hw
  have hw2 := wl_B w hw
  intro m
  induction m with
  | zero =>
    intro k n hk hn
    obtain ⟨n, rfl⟩ : ∃ q, n = q + 1 := ⟨n - 1, by omega⟩
    obtain rfl : k = wl w := by omega
    rw [TX7_readsWord_L41, aget_n (by omega) (by omega), Option.bind_some, hT.2.2.1 _ (by omega), hw1.2.2, if_pos (show nI 32 = 32 from rfl), h31, h32, pk_sub hbe, pk_sub (by omega), show wb w + wl w - wb w = wl w by omega]
    by_cases c : e - b = wl w
    · rw [if_pos (by rw [c]), b2i_t c]
    · rw [if_neg (by rw [nI_eq (by omega) (by omega)]; omega), b2i_f c]
  | succ m ih =>
    intro k n hk hn
    obtain ⟨n, rfl⟩ : ∃ q, n = q + 1 := ⟨n - 1, by omega⟩
    obtain ⟨w1, w2, w3⟩ := wb_c w hw k (by omega)
    rw [TX7_readsWord_L41, aget_n (by omega) (by omega), Option.bind_some, hT.2.2.1 _ (by omega), w1, if_neg (fun y => w2 ((nI_c (c := 32) (k := 32) rfl w3 (by omega)).mp y)), nI_1]
    exact ih (k + 1) n (by omega) (by omega)
theorem m_w33 (hz : z ≤ 60) (hB : ∀ q, q < z → B q ≤ 255) {b e : Nat} (hbe : b ≤ e) (he : e ≤ z) : ∀ (m w n : Nat) (S : SS), w + m = 8 → m + 1 ≤ n → tpM B z S → S.1 64 31 = nI e → S.1 64 32 = nI b →
    WP (TX7_readsWord_L33 n (nI (wb w)) (nI w) S) (fun r => FR pTr S r ∧ r.1 64 31 = nI e ∧ r.1 64 32 = nI b ∧ (∀ u, w ≤ u → u < 8 → mtW B b (e - b) u = true → r.1 64 33 = 1 ∧ r.1 64 34 = nI u) ∧ ((∀ u, w ≤ u → u < 8 → mtW B b (e - b) u = false) → r.1 64 33 = S.1 64 33 ∧ r.1 64 34 = S.1 64 34)) := by
  intro m
  induction m with
  | zero =>
    intro w n S hw hn hT h31 h32
    obtain ⟨n, rfl⟩ : ∃ q, n = q + 1 := ⟨n - 1, by omega⟩
    rw [TX7_readsWord_L33, show (8 : Int32) = nI 8 from rfl, if_pos (by rw [nI_cmp (by omega) (by omega)]; omega)]
    exact wp_some ⟨FR_refl, h31, h32, fun u h1 h2 => by omega, fun _ => ⟨rfl, rfl⟩⟩
  | succ m ih =>
    intro w n S hw hn hT h31 h32
    obtain ⟨n, rfl⟩ : ∃ q, n = q + 1 := ⟨n - 1, by omega⟩
    have hw1 := wb_B w (by omega)
    have hw2 := wl_B w (by omega)
    have e1 := m_w41 (r := fun l1 l2 S => TX7_readsWord_L33 n l1 l2 S) hT (w := w) (by omega) hbe (by omega) h31 h32 (wl w) 0 fu (by omega) (by rw [fu_eq]; omega)
    have e2 := m_w83 (r := fun l1 l2 S => TX7_readsWord_L33 n l1 l2 S) (l3 := nI (wb w + wl w)) hz hB hT (w := w) (by omega) hbe he h31 h32 (e - b) 0 fu (decide (e - b = wl w)) (by omega) (by rw [fu_eq]; omega) (fun y => of_decide_eq_true y)
    have e3 : b2i (decide (e - b = wl w) = true) = b2i (e - b = wl w) := b2i_congr (by simp)
    rw [e3] at e2
    rw [TX7_readsWord_L33, show (8 : Int32) = nI 8 from rfl, if_neg (by rw [nI_cmp (by omega) (by omega)]; omega)]
    refine wp_eq (e1.trans e2) ?_
    unfold TX7_readsWord_J139 TX7_readsWord_J154
    rw [nI_1, nI_1, ← hw1.2.1, ite_b]
    by_cases c : mtW B b (e - b) w = true
    · have c' : (decide (e - b = wl w) && allB (chB B b w) (e - b) 0) = true := c
      rw [if_pos c']
      refine wp_fi fun S1 G1 a1 a2 a3 a4 a5 => ?_
      refine wp_fi fun S2 G2 b1 b2 b3 b4 b5 => ?_
      have F : FR pTr S S2 := G2 _ _ (by unfold pTr; omega) (G1 _ _ (by unfold pTr; omega) FR_refl)
      refine wp_mono (ih (w + 1) n S2 (by omega) (by omega) (tpM_fr F hT) (by rw [b2 64 31 (by omega), a2 64 31 (by omega)]; exact h31) (by rw [b2 64 32 (by omega), a2 64 32 (by omega)]; exact h32)) fun r hr => ?_
      obtain ⟨r1, r2, r3, r4, r5⟩ := hr
      refine ⟨FR_trans F r1, r2, r3, fun u h1 h2 hu => ?_, fun hh => ?_⟩
      · have eu := mt_uniq (by omega) h2 c hu
        have := r5 (fun u' h3 h4 => by
          by_cases e : mtW B b (e - b) u' = true
          · have := mt_uniq (by omega) h4 c e
            omega
          · simpa using e)
        rw [this.1, this.2, b1, b2 64 33 (by omega), a1, eu]
        exact ⟨rfl, rfl⟩
      · have := hh w (by omega) (by omega)
        rw [c] at this
        cases this
    · have c' : ¬ (decide (e - b = wl w) && allB (chB B b w) (e - b) 0) = true := c
      rw [if_neg c']
      refine wp_mono (ih (w + 1) n S (by omega) (by omega) hT h31 h32) fun r hr => ?_
      obtain ⟨r1, r2, r3, r4, r5⟩ := hr
      refine ⟨r1, r2, r3, fun u h1 h2 hu => ?_, fun hh => r5 (fun u h1 h2 => hh u (by omega) h2)⟩
      by_cases e : u = w
      · rw [e] at hu
        exact absurd hu c
      · exact r4 u (by omega) h2 hu
theorem m_wordL (hz : z ≤ 60) (hB : ∀ q, q < z → B q ≤ 255) : ∀ (m a n : Nat) (S : SS), a + m = z → m + 1 ≤ n → tpM B z S → S.1 64 31 = nI a → ∃ S', FR pTr S S' ∧ S'.1 64 31 = nI (runE (ltP B) m a) ∧ S'.1 64 32 = S.1 64 32 ∧ S'.1 64 33 = 4 ∧ TX7_readsWord_L0 n S = TX7_readsWord_L33 fu 0 0 S' := by
  have fin : ∀ (a n : Nat) (S : SS), a ≤ 61 → ¬ (a < z ∧ ltP B a = true) → tpM B z S → S.1 64 31 = nI a → ∃ S', FR pTr S S' ∧ S'.1 64 31 = nI a ∧ S'.1 64 32 = S.1 64 32 ∧ S'.1 64 33 = 4 ∧ TX7_readsWord_L0 (n + 1) S = TX7_readsWord_L33 fu 0 0 S' := fun a n S ha hn hT h31 => by
    refine ⟨sFI S 64 33 4, FR_FI FR_refl (by unfold pTr; omega), ?_, ?_, ?_, ?_⟩
    · simp (disch := omega) only [up2_s, up2_n, va_up_s, va_up_n]
      exact h31
    · simp (disch := omega) only [up2_s, up2_n, va_up_s, va_up_n]
    · simp (disch := omega) only [up2_s, up2_n, va_up_s, va_up_n]
    · rw [TX7_readsWord_L0, h31, m_let hz hB hT ha, Option.bind_some, ite_b, if_neg hn, letS_e]
  intro m
  induction m with
  | zero =>
    intro a n S ha hn hT h31
    obtain ⟨n, rfl⟩ : ∃ q, n = q + 1 := ⟨n - 1, by omega⟩
    exact fin a n S (by omega) (by omega) hT h31
  | succ m ih =>
    intro a n S ha hn hT h31
    obtain ⟨n, rfl⟩ : ∃ q, n = q + 1 := ⟨n - 1, by omega⟩
    rw [runE]
    by_cases e : ltP B a = true
    · rw [if_pos e]
      have F : FR pTr S (sFI S 64 31 (nI (a + 1))) := FR_FI FR_refl (by unfold pTr; omega)
      obtain ⟨S', F', s1, s2, s3, s4⟩ := ih (a + 1) n (sFI S 64 31 (nI (a + 1))) (by omega) (by omega) (tpM_fr F hT) (by simp (disch := omega) only [up2_s, up2_n, va_up_s, va_up_n])
      refine ⟨S', FR_trans F F', s1, ?_, s3, ?_⟩
      · rw [s2]
        simp (disch := omega) only [up2_s, up2_n, va_up_s, va_up_n]
      · rw [TX7_readsWord_L0, h31, m_let hz hB hT (by omega), Option.bind_some, ite_b, if_pos ⟨by omega, e⟩, nI_1, letS_e]
        exact s4
    · rw [if_neg e]
      exact fin a n S (by omega) (fun y => e y.2) hT h31
theorem m_rWord (hz : z ≤ 60) (hB : ∀ q, q < z → B q ≤ 255) {b : Nat} (hb : b ≤ z) (hT : tpM B z S) (h31 : S.1 64 31 = nI b) (h32 : S.1 64 32 = nI b) : WP (TX7_readsWord S) (fun r => FR pTr S r ∧ r.1 64 31 = nI (ltE B z b) ∧ r.1 64 32 = nI b ∧ (wd B z b < 8 → r.1 64 33 = 1 ∧ r.1 64 34 = nI (wd B z b)) ∧ (¬ wd B z b < 8 → r.1 64 33 = 4)) := by
  unfold TX7_readsWord
  have hl := ltE_B (B := B) hb
  obtain ⟨S', F, s1, s2, s3, s4⟩ := m_wordL hz hB (z - b) b fu S (by omega) (by rw [fu_eq]; omega) hT h31
  rw [s4]
  refine wp_mono (m_w33 hz hB (b := b) (e := ltE B z b) hl.1 hl.2 8 0 fu S' (by omega) (by rw [fu_eq]; omega) (tpM_fr F hT) s1 (by rw [s2]; exact h32)) fun r hr => ?_
  obtain ⟨r1, r2, r3, r4, r5⟩ := hr
  refine ⟨FR_trans F r1, r2, r3, fun h => r4 _ (by omega) h (wd_lt h), fun h => ?_⟩
  rw [(r5 (fun u _ h2 => wd_no h u h2)).1, s3]
theorem m_numL {f : Nat} {l1 : Int32} (hz : z ≤ 60) (hB : ∀ q, q < z → B q ≤ 255) : ∀ (m q n : Nat) (S : SS), q + m = z → m + 1 ≤ n → f ≤ q → tpM B z S → S.1 64 31 = nI q → S.1 64 34 = nvF B f (min (q - f) 3) →
    WP (TX7_readsNumber_L48 n l1 (nI f) S) (fun r => FR pTr S r ∧ r.1 64 31 = nI (runE (dgP B) m q) ∧ r.1 64 32 = S.1 64 32 ∧ r.1 64 33 = (if runE (dgP B) m q - f ≤ 3 then 2 else 4) ∧ (runE (dgP B) m q - f ≤ 3 → r.1 64 34 = if l1 = 0 then nvF B f (runE (dgP B) m q - f) else -nvF B f (runE (dgP B) m q - f))) := by
  have fin : ∀ (q n : Nat) (S : SS), q ≤ 61 → f ≤ q → ¬ (q < z ∧ dgP B q = true) → tpM B z S → S.1 64 31 = nI q → S.1 64 34 = nvF B f (min (q - f) 3) → WP (TX7_readsNumber_L48 (n + 1) l1 (nI f) S) (fun r => FR pTr S r ∧ r.1 64 31 = nI q ∧ r.1 64 32 = S.1 64 32 ∧ r.1 64 33 = (if q - f ≤ 3 then 2 else 4) ∧ (q - f ≤ 3 → r.1 64 34 = if l1 = 0 then nvF B f (q - f) else -nvF B f (q - f))) := fun q n S hq hf hn hT h31 h34 => by
    have j : ∀ t : Int32, WP (TX7_readsNumber_J129 l1 t S) (fun r => FR pTr S r ∧ r.1 64 31 = nI q ∧ r.1 64 32 = S.1 64 32 ∧ r.1 64 33 = t ∧ (q - f ≤ 3 → r.1 64 34 = if l1 = 0 then nvF B f (q - f) else -nvF B f (q - f))) := fun t => by
      unfold TX7_readsNumber_J129
      refine wp_fi fun S1 G1 a1 a2 a3 a4 a5 => ?_
      have hv : S1.1 64 34 = nvF B f (min (q - f) 3) := by rw [a2 64 34 (by omega)]; exact h34
      have F1 : FR pTr S S1 := G1 _ _ (by unfold pTr; omega) FR_refl
      by_cases e : l1 = 0
      · rw [if_pos e, if_pos e]
        refine wp_fi fun S2 G2 b1 b2 b3 b4 b5 => wp_some ⟨G2 _ _ (by unfold pTr; omega) F1, ?_, ?_, ?_, fun h3 => ?_⟩
        · rw [b2 64 31 (by omega), a2 64 31 (by omega)]; exact h31
        · rw [b2 64 32 (by omega), a2 64 32 (by omega)]
        · rw [b2 64 33 (by omega)]; exact a1
        · rw [b1, hv, show min (q - f) 3 = q - f by omega]
      · rw [if_neg e, if_neg e]
        refine wp_fi fun S2 G2 b1 b2 b3 b4 b5 => wp_some ⟨G2 _ _ (by unfold pTr; omega) F1, ?_, ?_, ?_, fun h3 => ?_⟩
        · rw [b2 64 31 (by omega), a2 64 31 (by omega)]; exact h31
        · rw [b2 64 32 (by omega), a2 64 32 (by omega)]
        · rw [b2 64 33 (by omega)]; exact a1
        · rw [b1, hv, show min (q - f) 3 = q - f by omega]
    rw [TX7_readsNumber_L48, h31, m_dig hz hB hT hq, Option.bind_some, ite_b, if_neg hn, pk_sub hf, show (3 : Int32) = nI 3 from rfl]
    by_cases c : q - f ≤ 3
    · rw [if_pos (by rw [nI_cmp (by omega) (by omega)]; exact c), if_pos c]
      exact j 2
    · rw [if_neg (by rw [nI_cmp (by omega) (by omega)]; exact c), if_neg c]
      exact j 4
  intro m
  induction m with
  | zero =>
    intro q n S hq hn hf hT h31 h34
    obtain ⟨n, rfl⟩ : ∃ q, n = q + 1 := ⟨n - 1, by omega⟩
    exact fin q n S (by omega) hf (by omega) hT h31 h34
  | succ m ih =>
    intro q n S hq hn hf hT h31 h34
    obtain ⟨n, rfl⟩ : ∃ q, n = q + 1 := ⟨n - 1, by omega⟩
    rw [runE]
    by_cases e : dgP B q = true
    · rw [if_pos e]
      have step : ∀ x : Int32, x = nvF B f (min (q + 1 - f) 3) → WP (TX7_readsNumber_J97 (fun l1 l2 S => TX7_readsNumber_L48 n l1 l2 S) l1 (nI f) x S) (fun r => FR pTr S r ∧ r.1 64 31 = nI (runE (dgP B) m (q + 1)) ∧ r.1 64 32 = S.1 64 32 ∧ r.1 64 33 = (if runE (dgP B) m (q + 1) - f ≤ 3 then 2 else 4) ∧ (runE (dgP B) m (q + 1) - f ≤ 3 → r.1 64 34 = if l1 = 0 then nvF B f (runE (dgP B) m (q + 1) - f) else -nvF B f (runE (dgP B) m (q + 1) - f))) := fun x hx => by
        unfold TX7_readsNumber_J97
        refine wp_fi fun S1 G1 a1 a2 a3 a4 a5 => ?_
        rw [a2 64 31 (by omega), h31, nI_1]
        refine wp_fi fun S2 G2 b1 b2 b3 b4 b5 => ?_
        have F : FR pTr S S2 := G2 _ _ (by unfold pTr; omega) (G1 _ _ (by unfold pTr; omega) FR_refl)
        refine wp_mono (ih (q + 1) n S2 (by omega) (by omega) (by omega) (tpM_fr F hT) b1 (by rw [b2 64 34 (by omega), a1, hx])) fun r hr => ?_
        obtain ⟨r1, r2, r3, r4⟩ := hr
        refine ⟨FR_trans F r1, r2, ?_, r4⟩
        rw [r3, b2 64 32 (by omega), a2 64 32 (by omega)]
      rw [TX7_readsNumber_L48, h31, m_dig hz hB hT (by omega), Option.bind_some, ite_b, if_pos ⟨by omega, e⟩, pk_sub hf, show (3 : Int32) = nI 3 from rfl]
      by_cases c : 3 ≤ q - f
      · rw [if_pos (by rw [nI_cmp (by omega) (by omega)]; exact c)]
        refine step _ ?_
        rw [h34, show min (q - f) 3 = min (q + 1 - f) 3 by omega]
      · rw [if_neg (by rw [nI_cmp (by omega) (by omega)]; exact c), aget_n (by omega) (by omega), Option.bind_some, hT.2.1 q (by omega)]
        refine step _ ?_
        rw [h34, show min (q - f) 3 = q - f by omega, show min (q + 1 - f) 3 = q - f + 1 by omega, nvF, show f + (q - f) = q by omega, Int32.mul_comm]
    · rw [if_neg e]
      exact fin q n S (by omega) hf (fun y => e y.2) hT h31 h34
theorem m_rNum (hz : z ≤ 60) (hB : ∀ q, q < z → B q ≤ 255) {b : Nat} (hb : b < z) (hT : tpM B z S) (h31 : S.1 64 31 = nI b) : WP (TX7_readsNumber S) (fun r => FR pTr S r ∧ r.1 64 31 = nI (nuT B z b) ∧ r.1 64 32 = S.1 64 32 ∧ r.1 64 33 = (if nuT B z b - nuF B z b ≤ 3 then 2 else 4) ∧ (nuT B z b - nuF B z b ≤ 3 → r.1 64 34 = nuV B z b)) := by
  have hb2 := hB b hb
  have j : ∀ (l1 s0 : Int32) (f : Nat), nI b + s0 = nI f → f ≤ z → WP (TX7_readsNumber_J34 l1 s0 (S.1 64 31) S) (fun r => FR pTr S r ∧ r.1 64 31 = nI (dgE B z f) ∧ r.1 64 32 = S.1 64 32 ∧ r.1 64 33 = (if dgE B z f - f ≤ 3 then 2 else 4) ∧ (dgE B z f - f ≤ 3 → r.1 64 34 = if l1 = 0 then nvF B f (dgE B z f - f) else -nvF B f (dgE B z f - f))) := fun l1 s0 f hf hfz => by
    unfold TX7_readsNumber_J34
    rw [h31, hf]
    refine wp_fi fun S1 G1 a1 a2 a3 a4 a5 => ?_
    refine wp_fi fun S2 G2 b1 b2 b3 b4 b5 => ?_
    have F : FR pTr S S2 := G2 _ _ (by unfold pTr; omega) (G1 _ _ (by unfold pTr; omega) FR_refl)
    rw [a1]
    refine wp_mono (m_numL (f := f) (l1 := l1) hz hB (z - f) f fu S2 (by omega) (by rw [fu_eq]; omega) (Nat.le_refl _) (tpM_fr F hT) (by rw [b2 64 31 (by omega), a1]) (by rw [b1, show min (f - f) 3 = 0 by omega]; rfl)) fun r hr => ?_
    obtain ⟨r1, r2, r3, r4⟩ := hr
    refine ⟨FR_trans F r1, r2, ?_, r4⟩
    rw [r3, b2 64 32 (by omega), a2 64 32 (by omega)]
  unfold TX7_readsNumber TX7_readsNumber_J19
  rw [h31, aget_n (by omega) (by omega), Option.bind_some, hT.2.1 b hb, ← h31]
  by_cases e : B b = 45
  · have ef : nuF B z b = b + 1 := by unfold nuF; rw [if_pos ⟨hb, e⟩]
    rw [if_pos (by rw [e]; rfl), if_neg (by decide)]
    have eV : nuV B z b = -nvF B (b + 1) (nuT B z b - (b + 1)) := by
      unfold nuV
      rw [if_pos (show b < z ∧ B b = 45 from ⟨hb, e⟩), ef]
    have eT : nuT B z b = dgE B z (b + 1) := by unfold nuT; rw [ef]
    refine wp_mono (j 1 1 (b + 1) (nI_1 b) (by omega)) fun r hr => ?_
    obtain ⟨r1, r2, r3, r4, r5⟩ := hr
    rw [eV, ef, eT]
    exact ⟨r1, r2, r3, r4, fun h => (r5 h).trans (if_neg (by decide))⟩
  · have ef : nuF B z b = b := by unfold nuF; rw [if_neg (fun y => e y.2)]
    rw [if_neg (fun y => e ((nI_c (c := 45) (k := 45) rfl hb2 (by omega)).mp y)), if_pos rfl]
    have eV : nuV B z b = nvF B b (nuT B z b - b) := by
      unfold nuV
      rw [if_neg (show ¬ (b < z ∧ B b = 45) from fun y => e y.2), ef]
    have eT : nuT B z b = dgE B z b := by unfold nuT; rw [ef]
    refine wp_mono (j 0 0 b (Int32.add_zero _) (by omega)) fun r hr => ?_
    obtain ⟨r1, r2, r3, r4, r5⟩ := hr
    rw [eV, ef, eT]
    exact ⟨r1, r2, r3, r4, fun h => (r5 h).trans (if_pos rfl)⟩
/-- a token, as it stands at b -/
def tkS (B : Nat → Nat) (z b t : Nat) (r : SS) : Prop := r.1 64 32 = nI b ∧ r.1 64 33 = nI t ∧ t ≤ 4 ∧ (t = 1 ↔ wd B z b < 8) ∧ (t = 1 → r.1 64 34 = nI (wd B z b) ∧ r.1 64 31 = nI (ltE B z b)) ∧ (t = 2 ↔ (nuF B z b < nuT B z b ∧ nuT B z b ≤ nuF B z b + 3)) ∧ (t = 2 → r.1 64 34 = nuV B z b ∧ r.1 64 31 = nI (nuT B z b)) ∧ (t = 0 ↔ z ≤ b) ∧ (t = 3 ↔ (b < z ∧ B b = 59)) ∧ (t = 3 → r.1 64 31 = nI (b + 1))
theorem wd_0 {b : Nat} (h : ltE B z b = b) : ¬ wd B z b < 8 := fun e => by
  have h1 := wd_len e
  have h2 := wl_B _ e
  omega
theorem m_J52 (hz : z ≤ 60) (hB : ∀ q, q < z → B q ≤ 255) {b : Nat} (hb : b ≤ z) (hT : tpM B z S) (h31 : S.1 64 31 = nI b) : WP (TX7_reads_J52 S) (fun r => FR pTr S r ∧ ∃ t, tkS B z b t r) := by
  unfold TX7_reads_J52
  rw [h31]
  refine wp_fi fun S1 G1 a1 a2 a3 a4 a5 => ?_
  have F1 : FR pTr S S1 := G1 _ _ (by unfold pTr; omega) FR_refl
  have T1 := tpM_fr F1 hT
  have g31 : S1.1 64 31 = nI b := by rw [a2 64 31 (by omega)]; exact h31
  rw [g31, T1.1]
  by_cases e0 : b = z
  · rw [if_pos (by rw [e0])]
    refine wp_fi fun S2 G2 b1 b2 b3 b4 b5 => wp_some ⟨G2 _ _ (by unfold pTr; omega) F1, 0, ?_⟩
    have hl : ltE B z b = b := by unfold ltE; rw [e0, Nat.sub_self]; rfl
    have hf : nuF B z b = b := by unfold nuF; rw [if_neg (by omega)]
    have ht : nuT B z b = b := by unfold nuT; rw [hf]; unfold dgE; rw [e0, Nat.sub_self]; rfl
    have hw := wd_0 hl
    refine ⟨?_, b1, by omega, by omega, fun y => by omega, by omega, fun y => by omega, by omega, by omega, fun y => by omega⟩
    rw [b2 64 32 (by omega)]; exact a1
  · have hb2 : b < z := by omega
    have hbb := hB b hb2
    rw [if_neg (by rw [nI_eq (by omega) (by omega)]; exact e0), m_let hz hB T1 (by omega), Option.bind_some, ite_b]
    by_cases e1 : ltP B b = true
    · have e1' : 97 ≤ B b ∧ B b ≤ 122 := by simpa [ltP] using e1
      have hf : nuF B z b = b := by unfold nuF; rw [if_neg (by omega)]
      have ht : nuT B z b = b := by
        unfold nuT
        rw [hf]
        exact runE_f (by simp [dgP]; omega)
      rw [if_pos ⟨hb2, e1⟩]
      refine wp_bind (m_rWord hz hB hb T1 g31 a1) fun r hr => ?_
      obtain ⟨r1, r2, r3, r4, r5⟩ := hr
      by_cases e2 : wd B z b < 8
      · obtain ⟨r6, r7⟩ := r4 e2
        exact wp_some ⟨FR_trans F1 r1, 1, r3, r6, by omega, by omega, fun _ => ⟨r7, r2⟩, by omega, fun y => by omega, by omega, by omega, fun y => by omega⟩
      · exact wp_some ⟨FR_trans F1 r1, 4, r3, r5 e2, by omega, by omega, fun y => by omega, by omega, fun y => by omega, by omega, by omega, fun y => by omega⟩
    · have e1' : ¬ (97 ≤ B b ∧ B b ≤ 122) := by simpa [ltP] using e1
      have hl : ltE B z b = b := runE_f (by simpa using e1)
      have hw := wd_0 hl
      have num : (dgP B (nuF B z b) = true ∧ nuF B z b < z) → WP (TX7_reads_J135 S1) (fun r => FR pTr S r ∧ ∃ t, tkS B z b t r) := fun hd => by
        have ht : nuF B z b + 1 ≤ nuT B z b := runE_t hd.1 (by omega)
        have h59 : B b ≠ 59 := fun y => by
          have hf : nuF B z b = b := by unfold nuF; rw [if_neg (by omega)]
          rw [hf] at hd
          have := hd.1
          simp [dgP] at this
          omega
        unfold TX7_reads_J135
        refine wp_bind (m_rNum hz hB hb2 T1 g31) fun r hr => ?_
        obtain ⟨r1, r2, r3, r4, r5⟩ := hr
        have r3' : r.1 64 32 = nI b := r3.trans a1
        by_cases e2 : nuT B z b - nuF B z b ≤ 3
        · rw [if_pos e2] at r4
          exact wp_some ⟨FR_trans F1 r1, 2, r3', r4, by omega, by omega, fun y => by omega, by omega, fun _ => ⟨r5 e2, r2⟩, by omega, by omega, fun y => by omega⟩
        · rw [if_neg e2] at r4
          exact wp_some ⟨FR_trans F1 r1, 4, r3', r4, by omega, by omega, fun y => by omega, by omega, fun y => by omega, by omega, by omega, fun y => by omega⟩
      have oth : ¬ nuF B z b < nuT B z b → WP (TX7_reads_J142 S1) (fun r => FR pTr S r ∧ ∃ t, tkS B z b t r) := fun hd => by
        unfold TX7_reads_J142 TX7_reads_J162
        rw [g31, aget_n (by omega) (by omega), Option.bind_some, T1.2.1 b hb2]
        by_cases e2 : B b = 59
        · rw [if_pos (by rw [e2]; rfl)]
          refine wp_fi fun S2 G2 b1 b2 b3 b4 b5 => ?_
          rw [b2 64 31 (by omega), g31, nI_1]
          refine wp_fi fun S3 G3 c1 c2 c3 c4 c5 => wp_some ⟨G3 _ _ (by unfold pTr; omega) (G2 _ _ (by unfold pTr; omega) F1), 3, ?_, ?_, by omega, by omega, fun y => by omega, by omega, fun y => by omega, by omega, by omega, fun _ => c1⟩
          · rw [c2 64 32 (by omega), b2 64 32 (by omega)]; exact a1
          · rw [c2 64 33 (by omega)]; exact b1
        · rw [if_neg (fun y => e2 ((nI_c (c := 59) (k := 59) rfl hbb (by omega)).mp y))]
          refine wp_fi fun S2 G2 b1 b2 b3 b4 b5 => ?_
          refine wp_fi fun S3 G3 c1 c2 c3 c4 c5 => wp_some ⟨G3 _ _ (by unfold pTr; omega) (G2 _ _ (by unfold pTr; omega) F1), 4, ?_, ?_, by omega, by omega, fun y => by omega, by omega, fun y => by omega, by omega, by omega, fun y => by omega⟩
          · rw [c2 64 32 (by omega), b2 64 32 (by omega)]; exact a1
          · rw [c2 64 33 (by omega)]; exact b1
      rw [if_neg (fun y => e1 y.2), m_dig hz hB T1 (by omega), Option.bind_some, ite_b]
      by_cases e2 : dgP B b = true
      · have e2' : 48 ≤ B b ∧ B b ≤ 57 := by simpa [dgP] using e2
        have hf : nuF B z b = b := by unfold nuF; rw [if_neg (by omega)]
        rw [if_pos ⟨hb2, e2⟩]
        exact num (by rw [hf]; exact ⟨e2, hb2⟩)
      · rw [if_neg (fun y => e2 y.2), aget_n (by omega) (by omega), Option.bind_some, T1.2.1 b hb2]
        by_cases e3 : B b = 45
        · have hf : nuF B z b = b + 1 := by unfold nuF; rw [if_pos ⟨hb2, e3⟩]
          rw [if_pos (by rw [e3]; rfl), nI_1, m_dig hz hB T1 (by omega), Option.bind_some, ite_b]
          by_cases e4 : b + 1 < z ∧ dgP B (b + 1) = true
          · rw [if_pos e4]
            exact num (by rw [hf]; exact ⟨e4.2, e4.1⟩)
          · rw [if_neg e4]
            refine oth ?_
            have ht : nuT B z b = b + 1 := by
              unfold nuT
              rw [hf]
              by_cases e5 : b + 1 < z
              · exact runE_f (by
                  by_cases e6 : dgP B (b + 1) = true
                  · exact absurd ⟨e5, e6⟩ e4
                  · simpa using e6)
              · unfold dgE
                rw [show z - (b + 1) = 0 by omega]
                rfl
            omega
        · have hf : nuF B z b = b := by unfold nuF; rw [if_neg (fun y => e3 y.2)]
          rw [if_neg (fun y => e3 ((nI_c (c := 45) (k := 45) rfl hbb (by omega)).mp y))]
          refine oth ?_
          have ht : nuT B z b = b := by
            unfold nuT
            rw [hf]
            exact runE_f (by simpa using e2)
          omega
theorem m_readsL (hz : z ≤ 60) (hB : ∀ q, q < z → B q ≤ 255) : ∀ (m a n : Nat) (S : SS), a + m = z → m + 1 ≤ n → tpM B z S → S.1 64 31 = nI a → WP (TX7_reads_L0 n S) (fun r => FR pTr S r ∧ ∃ t, tkS B z (runE (blP B) m a) t r) := by
  intro m
  induction m with
  | zero =>
    intro a n S ha hn hT h31
    obtain ⟨n, rfl⟩ : ∃ q, n = q + 1 := ⟨n - 1, by omega⟩
    rw [TX7_reads_L0, hT.1, h31, if_pos (by rw [nI_cmp (by omega) (by omega)]; omega)]
    exact m_J52 (b := a) hz hB (by omega) hT h31
  | succ m ih =>
    intro a n S ha hn hT h31
    obtain ⟨n, rfl⟩ : ∃ q, n = q + 1 := ⟨n - 1, by omega⟩
    have hb := hB a (by omega)
    have step : WP (TX7_reads_J39 (fun S => TX7_reads_L0 n S) S) (fun r => FR pTr S r ∧ ∃ t, tkS B z (runE (blP B) m (a + 1)) t r) := by
      unfold TX7_reads_J39
      rw [h31, nI_1]
      refine wp_fi fun S1 G1 a1 a2 a3 a4 a5 => ?_
      have F1 : FR pTr S S1 := G1 _ _ (by unfold pTr; omega) FR_refl
      exact wp_mono (ih (a + 1) n S1 (by omega) (by omega) (tpM_fr F1 hT) a1) fun r hr => ⟨FR_trans F1 hr.1, hr.2⟩
    have e1 : ¬ nI z ≤ S.1 64 31 := by rw [h31, nI_cmp (by omega) (by omega)]; omega
    have e2 : aget 60 (S.2.2.1 86) (S.1 64 31) = some (nI (B a)) := by rw [h31, aget_n (by omega) (by omega), hT.2.1 a (by omega)]
    rw [TX7_reads_L0, hT.1, if_neg e1, e2, Option.bind_some, Option.bind_some, runE]
    by_cases c1 : B a = 32
    · rw [if_pos (by rw [c1]; rfl), if_pos (by simp [blP, c1])]
      exact step
    · rw [if_neg (fun q => c1 ((nI_c (c := 32) (k := 32) rfl hb (by omega)).mp q))]
      by_cases c2 : B a = 10
      · rw [if_pos (by rw [c2]; rfl), if_pos (by simp [blP, c2])]
        exact step
      · rw [if_neg (fun q => c2 ((nI_c (c := 10) (k := 10) rfl hb (by omega)).mp q)), if_neg (by simp [blP, c1, c2])]
        exact m_J52 hz hB (by omega) hT h31
theorem m_reads (hz : z ≤ 60) (hB : ∀ q, q < z → B q ≤ 255) {a : Nat} (ha : a ≤ z) (hT : tpM B z S) (h31 : S.1 64 31 = nI a) : WP (TX7_reads S) (fun r => FR pTr S r ∧ ∃ t, tkS B z (sk B z a) t r) := m_readsL hz hB (z - a) a fu S (by omega) (by rw [fu_eq]; omega) hT h31
end MLX
