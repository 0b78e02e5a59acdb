/-! Texts: the class reads tokens. -/
def tpX (B : Nat → Nat) (z : Nat) (S : SS) : Prop := S.1 60 1 = nI z ∧ ∀ q, q < z → S.2.2.1 61 q = nI (B q)
def pAt (t k j : Nat) : Prop := t = 0 ∧ k = 60 ∧ j = 4
def pTx (t k j : Nat) : Prop := (t = 0 ∧ k = 60 ∧ (j = 3 ∨ j = 4)) ∨ (t = 2 ∧ k = 62)
theorem pAt_x : ∀ t k j, pAt t k j → pTx t k j := fun t k j h => by unfold pAt at h; unfold pTx; omega
theorem find_w {P : Nat → Bool} {w : Nat} (hP : P w = true) : ∀ (l : List Nat), w ∈ l → (∀ k, k ∈ l → P k = true → k = w) → l.find? P = some w
  | [], h, _ => by cases h
  | x :: t, h, hu => by
    by_cases e : P x = true
    · rw [List.find?_cons, e, hu x (List.mem_cons_self ..) e]
    · rw [List.find?_cons]
      have e' : P x = false := by simpa using e
      rw [e']
      rcases List.mem_cons.mp h with h1 | h1
      · rw [h1] at hP; exact absurd hP e
      · exact find_w hP t h1 (fun k hk => hu k (List.mem_cons_of_mem _ hk))
theorem wc_B : ∀ w, w < 8 → ∀ k, k < wl w → wc w k ≤ 255 ∧ (sBy.getD w []).getD k 0 &&& 255 = nI (wc w k) := by decide +kernel
section XLX
variable {B : Nat → Nat} {z : Nat} {S : SS} {ct : Nat → ClassId}
theorem tpX_fr {S' : SS} (h : FR pTx S S') (c : tpX B z S) : tpX B z S' := by
  refine ⟨(h.1 60 1 (by unfold pTx; omega)).trans c.1, fun q hq => ?_⟩
  rw [h.2.2.1 61 (by unfold pTx; omega)]
  exact c.2 q hq
theorem nI_lit {n k : Nat} (hn : n ≤ 255) (hk : k ≤ 255) : nI n = nI k ↔ n = k := nI_eq (by omega) (by omega)
theorem nI_c {n k : Nat} {c : Int32} (hc : c = nI k) (hn : n ≤ 255) (hk : k ≤ 255) : nI n = c ↔ n = k := by rw [hc]; exact nI_lit hn hk
theorem x_skipL (hz : z ≤ 60) (hB : ∀ q, q < z → B q ≤ 255) : ∀ (m a n : Nat) (S : SS), a + m = z → m + 1 ≤ n → tpX B z S → S.1 60 4 = nI a → WP (TX5_skipBlanks_L0 n S) (fun r => r.1 60 4 = nI (runE (blP B) m a) ∧ FR pAt S r) := by
  intro m
  induction m with
  | zero =>
    intro a n S ha hn hT h4
    obtain ⟨n, rfl⟩ : ∃ q, n = q + 1 := ⟨n - 1, by omega⟩
    rw [TX5_skipBlanks_L0, hT.1, h4, if_pos (by rw [nI_cmp (by omega) (by omega)]; omega)]
    exact wp_some ⟨h4, FR_refl⟩
  | succ m ih =>
    intro a n S ha hn hT h4
    obtain ⟨n, rfl⟩ : ∃ q, n = q + 1 := ⟨n - 1, by omega⟩
    have hb := hB a (by omega)
    have step : WP (TX5_skipBlanks_J39 (fun S => TX5_skipBlanks_L0 n S) S) (fun r => r.1 60 4 = nI (runE (blP B) m (a + 1)) ∧ FR pAt S r) := by
      unfold TX5_skipBlanks_J39
      rw [h4, nI_1]
      refine wp_fi fun S1 G1 a1 a2 a3 a4 a5 => ?_
      have F1 : FR pAt S S1 := G1 _ _ (by unfold pAt; omega) FR_refl
      exact wp_mono (ih (a + 1) n S1 (by omega) (by omega) (tpX_fr (FR_mono F1 pAt_x) hT) a1) fun r hr => ⟨hr.1, FR_trans F1 hr.2⟩
    rw [TX5_skipBlanks_L0, hT.1]
    rw [runE]
    have e1 : ¬ nI z ≤ S.1 60 4 := by rw [h4, nI_cmp (by omega) (by omega)]; omega
    have e2 : aget 60 (S.2.2.1 61) (S.1 60 4) = some (nI (B a)) := by rw [h4, aget_n (by omega) (by omega), hT.2 a (by omega)]
    rw [if_neg e1, e2, Option.bind_some, Option.bind_some]
    by_cases c1 : B a = 32
    · rw [if_pos (by rw [c1]; rfl), if_pos (by simp [blP, c1])]
      exact step
    · rw [if_neg (fun q => c1 ((nI_c (c := 32) (k := 32) rfl hb (by omega)).mp q))]
      by_cases c2 : B a = 10
      · rw [if_pos (by rw [c2]; rfl), if_pos (by simp [blP, c2])]
        exact step
      · rw [if_neg (fun q => c2 ((nI_c (c := 10) (k := 10) rfl hb (by omega)).mp q)), if_neg (by simp [blP, c1, c2])]
        exact wp_some ⟨h4, FR_refl⟩
theorem x_skip {a : Nat} (hz : z ≤ 60) (hB : ∀ q, q < z → B q ≤ 255) (ha : a ≤ z) (hT : tpX B z S) (h4 : S.1 60 4 = nI a) : WP (TX5_skipBlanks S) (fun r => r.1 60 4 = nI (sk B z a) ∧ FR pAt S r) := x_skipL hz hB (z - a) a fu S (by omega) (by rw [fu_eq]; omega) hT h4
theorem x_letL {a : Nat} (hz : z ≤ 60) (hB : ∀ q, q < z → B q ≤ 255) (hT : tpX B z S) (h4 : S.1 60 4 = nI a) : ∀ (m q n : Nat), q + m = z → m + 1 ≤ n → a ≤ q → TX5_lettersHere_L5 S n (nI q) = some (nI (runE (ltP B) m q - a)) := by
  have last : ∀ q, a ≤ q → TX5_lettersHere_J41 S (nI q) = some (nI (q - a)) := fun q hq => by
    unfold TX5_lettersHere_J41
    rw [h4, pk_sub hq]
  intro m
  induction m with
  | zero =>
    intro q n hq hn ha
    obtain ⟨n, rfl⟩ : ∃ q, n = q + 1 := ⟨n - 1, by omega⟩
    rw [TX5_lettersHere_L5, hT.1, if_pos (by rw [nI_cmp (by omega) (by omega)]; omega), last q ha]
    rfl
  | succ m ih =>
    intro q n hq hn ha
    obtain ⟨n, rfl⟩ : ∃ q, n = q + 1 := ⟨n - 1, by omega⟩
    have hb := hB q (by omega)
    rw [TX5_lettersHere_L5, hT.1, if_neg (by rw [nI_cmp (by omega) (by omega)]; omega), aget_n (by omega) (by omega), Option.bind_some, Option.bind_some, hT.2 q (by omega), last q ha, nI_1, runE]
    have c1 : nI (B q) < 97 ↔ B q < 97 := by rw [show (97 : Int32) = nI 97 from rfl, nI_ltI (by omega) (by omega)]
    have c2 : 122 < nI (B q) ↔ 122 < B q := by rw [show (122 : Int32) = nI 122 from rfl, nI_ltI (by omega) (by omega)]
    by_cases e1 : B q < 97
    · rw [if_pos (c1.mpr e1), if_neg (by simp [ltP]; omega)]
    · rw [if_neg (fun y => e1 (c1.mp y))]
      by_cases e2 : 122 < B q
      · rw [if_pos (c2.mpr e2), if_neg (by simp [ltP]; omega)]
      · rw [if_neg (fun y => e2 (c2.mp y)), if_pos (by simp [ltP]; omega)]
        exact ih (q + 1) n (by omega) (by omega) (by omega)
theorem x_let {a : Nat} (hz : z ≤ 60) (hB : ∀ q, q < z → B q ≤ 255) (ha : a ≤ z) (hT : tpX B z S) (h4 : S.1 60 4 = nI a) : TX5_lettersHere S = some (nI (ltE B z a - a)) := by
  unfold TX5_lettersHere
  rw [h4]
  exact x_letL hz hB hT h4 (z - a) a fu (by omega) (by rw [fu_eq]; omega) (Nat.le_refl _)
/-- the words' names -/
theorem tK_w (hct : ∀ i j : Nat, i < 8 → j < 8 → ct (100 + i) = ct (100 + j) → i = j) {w : Nat} (hw : w < 8) : tK ct (ct (100 + w)) = some w := by
  unfold tK
  refine find_w (by simp) _ (List.mem_range.mpr hw) fun k hk hP => ?_
  exact hct k w (List.mem_range.mp hk) hw (by simpa using hP)
theorem x_len (hct : ∀ i j : Nat, i < 8 → j < 8 → ct (100 + i) = ct (100 + j) → i = j) {w : Nat} (hw : w < 8) : tLen ct (ct (100 + w)) = some (nI (wl w)) := by
  unfold tLen
  rw [tK_w hct hw]
  rfl
theorem x_chr (hct : ∀ i j : Nat, i < 8 → j < 8 → ct (100 + i) = ct (100 + j) → i = j) {w k : Nat} (hw : w < 8) (hk : k < wl w) : tChr ct (ct (100 + w)) (nI k) = some (nI (wc w k)) := by
  have hl := wl_B w hw
  have hk' : k < sLn.getD w 0 := hk
  unfold tChr
  rw [tK_w hct hw, Option.bind_some, if_pos (iI_in hk' (by show wl w < _; omega)), iI_nat k (by omega), (wc_B w hw k hk).2]
theorem x_name : ∀ w, w < 8 → TX5_nameOf ct (nI w) S = some (ct (100 + w))
  | 0, _ => rfl
  | 1, _ => rfl
  | 2, _ => rfl
  | 3, _ => rfl
  | 4, _ => rfl
  | 5, _ => rfl
  | 6, _ => rfl
  | 7, _ => rfl
  | w + 8, h => by omega
theorem x_hereL (hct : ∀ i j : Nat, i < 8 → j < 8 → ct (100 + i) = ct (100 + j) → i = j) {a w : Nat} (hw : w < 8) (hz : z ≤ 60) (hB : ∀ q, q < z → B q ≤ 255) (hT : tpX B z S) (h4 : S.1 60 4 = nI a) (ha : a + wl w ≤ z) : ∀ (m k n : Nat), k + m = wl w → m + 1 ≤ n → TX5_isHere_L25 ct S (ct (100 + w)) n (nI (wl w)) (nI k) = some (b2i (allB (chB B a w) m k = true)) := by
  have hl := wl_B w hw
  intro m
  induction m with
  | zero =>
    intro k n hk hn
    obtain ⟨n, rfl⟩ : ∃ q, n = q + 1 := ⟨n - 1, by omega⟩
    rw [TX5_isHere_L25, if_pos (by rw [nI_cmp (by omega) (by omega)]; omega)]
    rfl
  | succ m ih =>
    intro k n hk hn
    obtain ⟨n, rfl⟩ : ∃ q, n = q + 1 := ⟨n - 1, by omega⟩
    have hb := hB (a + k) (by omega)
    have hc := (wc_B w hw k (by omega)).1
    rw [TX5_isHere_L25, if_neg (by rw [nI_cmp (by omega) (by omega)]; omega), h4, nI_add, aget_n (by omega) (by omega), Option.bind_some, hT.2 (a + k) (by omega), x_chr hct hw (by omega), Option.bind_some, nI_1, allB]
    by_cases e : B (a + k) = wc w k
    · rw [if_pos (by rw [e]), ih (k + 1) n (by omega) (by omega)]
      exact congrArg some (b2i_congr (by simp [chB, e]))
    · rw [if_neg (fun y => e ((nI_lit hb hc).mp y)), b2i_f (by simp [chB, e])]
      rfl
theorem x_here (hct : ∀ i j : Nat, i < 8 → j < 8 → ct (100 + i) = ct (100 + j) → i = j) {a w n : Nat} (hw : w < 8) (hz : z ≤ 60) (hB : ∀ q, q < z → B q ≤ 255) (hT : tpX B z S) (h4 : S.1 60 4 = nI a) (ha : a + n ≤ z) : TX5_isHere ct (ct (100 + w)) (nI n) S = some (b2i (mtW B a n w = true)) := by
  have hl := wl_B w hw
  unfold TX5_isHere
  rw [x_len hct hw, Option.bind_some]
  by_cases e : n = wl w
  · subst e
    rw [if_pos rfl, h4, hT.1, nI_add, if_pos (by rw [nI_cmp (by omega) (by omega)]; omega)]
    have := x_hereL hct hw hz hB hT h4 ha (wl w) 0 fu (by omega) (by rw [fu_eq]; omega)
    refine this.trans (congrArg some (b2i_congr ?_))
    simp [mtW]
  · rw [if_neg (fun y => e ((nI_eq (by omega) (by omega)).mp y).symm), b2i_f (by simp [mtW, e])]
    rfl
theorem x_wordL (hct : ∀ i j : Nat, i < 8 → j < 8 → ct (100 + i) = ct (100 + j) → i = j) {a n : Nat} (hz : z ≤ 60) (hB : ∀ q, q < z → B q ≤ 255) (hT : tpX B z S) (h4 : S.1 60 4 = nI a) (ha : a + n ≤ z) : ∀ (m w f : Nat), w + m = 8 → m + 1 ≤ f → TX5_wordHere_L2 ct S f (nI n) (nI w) = some (if wdF B a n m w < 8 then nI (wdF B a n m w) else -1) := by
  intro m
  induction m with
  | zero =>
    intro w f hw hf
    obtain ⟨f, rfl⟩ : ∃ q, f = q + 1 := ⟨f - 1, by omega⟩
    rw [TX5_wordHere_L2, show (8 : Int32) = nI 8 from rfl, if_pos (by rw [nI_cmp (by omega) (by omega)]; omega), wdF, if_neg (by omega)]
  | succ m ih =>
    intro w f hw hf
    obtain ⟨f, rfl⟩ : ∃ q, f = q + 1 := ⟨f - 1, by omega⟩
    rw [TX5_wordHere_L2, show (8 : Int32) = nI 8 from rfl, if_neg (by rw [nI_cmp (by omega) (by omega)]; omega), x_name w (by omega), Option.bind_some, x_here hct (by omega) hz hB hT h4 ha, Option.bind_some, ite_b, wdF, nI_1]
    by_cases e : mtW B a n w = true
    · rw [if_pos e, if_pos e, if_pos (by omega)]
    · rw [if_neg e, if_neg e]
      exact ih (w + 1) f (by omega) (by omega)
theorem x_word (hct : ∀ i j : Nat, i < 8 → j < 8 → ct (100 + i) = ct (100 + j) → i = j) {a : Nat} (hz : z ≤ 60) (hB : ∀ q, q < z → B q ≤ 255) (ha : a ≤ z) (hT : tpX B z S) (h4 : S.1 60 4 = nI a) : TX5_wordHere ct (nI (ltE B z a - a)) S = some (if wd B z a < 8 then nI (wd B z a) else -1) := by
  have := ltE_B (B := B) ha
  exact x_wordL hct hz hB hT h4 (by omega) 8 0 fu (by omega) (by rw [fu_eq]; omega)
theorem x_plan {p : Nat} {v : Int32} (hp : p < 60) (h3 : S.1 60 3 = nI p) : TX5_planNext v S = some (sFI (sAI S 62 p v) 60 3 (nI (p + 1))) := by
  unfold TX5_planNext
  rw [h3, show (60 : Int32) = nI 60 from rfl, if_neg (by rw [nI_cmp (by omega) (by omega)]; omega), if_pos (iI_in hp (by omega)), iI_nat p (by omega)]
  simp only [letS]
  rw [h3, nI_1]
/-- a number -/
theorem x_numL {f : Nat} {l1 : Int32} (hz : z ≤ 60) (hB : ∀ q, q < z → B q ≤ 255) (hT : tpX B z S) : ∀ (m q n : Nat), q + m = z → m + 1 ≤ n → f ≤ q → TX5_readNumber_L54 n l1 (nI f) (nI q) (nvF B f (q - f)) S = TX5_readNumber_J107 l1 (nI f) (nI (runE (dgP B) m q)) (nvF B f (runE (dgP B) m q - f)) S := by
  intro m
  induction m with
  | zero =>
    intro q n hq hn hf
    obtain ⟨n, rfl⟩ : ∃ q, n = q + 1 := ⟨n - 1, by omega⟩
    rw [TX5_readNumber_L54, hT.1, if_pos (by rw [nI_cmp (by omega) (by omega)]; omega), runE]
  | succ m ih =>
    intro q n hq hn hf
    obtain ⟨n, rfl⟩ : ∃ q, n = q + 1 := ⟨n - 1, by omega⟩
    have hb := hB q (by omega)
    rw [TX5_readNumber_L54, hT.1, if_neg (by rw [nI_cmp (by omega) (by omega)]; omega), aget_n (by omega) (by omega), Option.bind_some, Option.bind_some, Option.bind_some, hT.2 q (by omega), nI_1, runE]
    have c1 : nI (B q) < 48 ↔ B q < 48 := by rw [show (48 : Int32) = nI 48 from rfl, nI_ltI (by omega) (by omega)]
    have c2 : 57 < nI (B q) ↔ 57 < B q := by rw [show (57 : Int32) = nI 57 from rfl, nI_ltI (by omega) (by omega)]
    by_cases e1 : B q < 48
    · rw [if_pos (c1.mpr e1), if_neg (by simp [dgP]; omega)]
    · rw [if_neg (fun y => e1 (c1.mp y))]
      by_cases e2 : 57 < B q
      · rw [if_pos (c2.mpr e2), if_neg (by simp [dgP]; omega)]
      · rw [if_neg (fun y => e2 (c2.mp y)), if_pos (by simp [dgP]; omega)]
        have := ih (q + 1) n (by omega) (by omega) (by omega)
        rw [show q + 1 - f = q - f + 1 by omega, nvF, show f + (q - f) = q by omega] at this
        exact this
theorem x_num {b p : Nat} (hz : z ≤ 60) (hB : ∀ q, q < z → B q ≤ 255) (hb : b ≤ z) (hT : tpX B z S) (h4 : S.1 60 4 = nI b) (hp : p < 60) (h3 : S.1 60 3 = nI p) : TX5_readNumber S = if nuF B z b < nuT B z b ∧ nuT B z b ≤ nuF B z b + 3 then some (1, sFI (sFI (sAI S 62 p (nuV B z b)) 60 3 (nI (p + 1))) 60 4 (nI (nuT B z b))) else some (0, S) := by
  have hf := nuF_B (B := B) hb
  have ht := nuT_B (B := B) hb
  have last : ∀ (l1 : Int32) (m : Bool), l1 = b2i (m = true) → (m = true ↔ (b < z ∧ B b = 45)) → TX5_readNumber_J48 l1 (nI (nuF B z b)) S = if nuF B z b < nuT B z b ∧ nuT B z b ≤ nuF B z b + 3 then some (1, sFI (sFI (sAI S 62 p (nuV B z b)) 60 3 (nI (p + 1))) 60 4 (nI (nuT B z b))) else some (0, S) := fun l1 m hl hm => by
    unfold TX5_readNumber_J48
    have e := x_numL (S := S) (f := nuF B z b) (l1 := l1) hz hB hT (z - nuF B z b) (nuF B z b) fu (by omega) (by rw [fu_eq]; omega) (Nat.le_refl _)
    rw [Nat.sub_self, show nvF B (nuF B z b) 0 = 0 from rfl] at e
    rw [e]
    show TX5_readNumber_J107 l1 (nI (nuF B z b)) (nI (nuT B z b)) (nvF B (nuF B z b) (nuT B z b - nuF B z b)) S = _
    unfold TX5_readNumber_J107
    by_cases e1 : nuT B z b = nuF B z b
    · rw [if_pos (by rw [e1]), if_neg (by omega)]
      rfl
    · rw [if_neg (fun y => e1 ((nI_eq (by omega) (by omega)).mp y)), pk_sub ht.1, show (3 : Int32) = nI 3 from rfl]
      by_cases e2 : nuT B z b - nuF B z b ≤ 3
      · have hok : nuF B z b < nuT B z b ∧ nuT B z b ≤ nuF B z b + 3 := ⟨by omega, by omega⟩
        rw [if_pos (by rw [nI_cmp (by omega) (by omega)]; exact e2), if_pos hok]
        unfold TX5_readNumber_J134
        rw [x_plan hp h3, x_plan hp h3, Option.bind_some, Option.bind_some, hl, ite_b]
        unfold nuV
        by_cases e3 : b < z ∧ B b = 45
        · rw [if_pos (hm.mpr e3), if_pos e3]
          rfl
        · rw [if_neg (fun y => e3 (hm.mp y)), if_neg e3]
          rfl
      · rw [if_neg (by rw [nI_cmp (by omega) (by omega)]; exact e2), if_neg (by omega)]
        rfl
  have j0 : ¬ (b < z ∧ B b = 45) → TX5_readNumber_J30 0 S = TX5_readNumber_J48 0 (nI (nuF B z b)) S := fun h => by
    unfold TX5_readNumber_J30 nuF
    rw [if_pos rfl, if_neg h, h4]
  have j1 : (b < z ∧ B b = 45) → TX5_readNumber_J30 1 S = TX5_readNumber_J48 1 (nI (nuF B z b)) S := fun h => by
    unfold TX5_readNumber_J30 nuF
    rw [if_neg (by decide), if_pos h, h4, nI_1]
  unfold TX5_readNumber
  rw [hT.1]
  by_cases e0 : z ≤ b
  · rw [if_pos (by rw [h4, nI_cmp (by omega) (by omega)]; exact e0), j0 (by omega)]
    exact last 0 false rfl (by simp; omega)
  · have hb2 := hB b (by omega)
    rw [if_neg (by rw [h4, nI_cmp (by omega) (by omega)]; exact e0)]
    have e2 : aget 60 (S.2.2.1 61) (S.1 60 4) = some (nI (B b)) := by rw [h4, aget_n (by omega) (by omega), hT.2 b (by omega)]
    rw [e2, Option.bind_some]
    by_cases e3 : B b = 45
    · rw [if_pos (by rw [e3]; rfl), j1 ⟨by omega, e3⟩]
      exact last 1 true rfl (by simp; omega)
    · rw [if_neg (fun y => e3 ((nI_c (c := 45) (k := 45) rfl hb2 (by omega)).mp y)), j0 (fun y => e3 y.2)]
      exact last 0 false rfl (by simp; omega)
end XLX
