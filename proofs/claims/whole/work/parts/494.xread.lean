/-! Texts: the class reads clauses. -/
/-- clauses as a row f holds them, from p on, up to e -/
def PL (f : Nat → Int32) : Nat → List CL → Nat → Prop
  | p, [], e => e = p
  | p, c :: l, e => c.1 < 8 ∧ f p = nI c.1 ∧ (∀ k, k < nb c.1 → f (p + 1 + k) = c.2 k) ∧ PL f (p + 1 + nb c.1) l e
theorem x_numbs : ∀ w, w < 8 → TX5_numbersOf (nI w) = some (nI (nb w)) := by decide +kernel
section XRD
variable {B : Nat → Nat} {z : Nat} {S : SS} {ct : Nat → ClassId}
theorem x_rdN (hz : z ≤ 60) (hB : ∀ q, q < z → B q ≤ 255) {w p : Nat} (hw : w < 8) : ∀ (m k a n : Nat) (S : SS) (v : Nat → Int32), k + m = nb w → m + 1 ≤ n → a ≤ z → tpX B z S → S.1 60 4 = nI a → S.1 60 3 = nI (p + k) → p + k + 3 ≤ a → (∀ j, j < k → S.2.2.1 62 (p + j) = v j) →
    WP (TX5_readClause_L39 ct n (nI w) (nI k) S) (fun r => FR pTx S r.2 ∧ (∀ q, q < p → r.2.2.2.1 62 q = S.2.2.1 62 q) ∧ ((∃ f, nsP B z m k a v = .inl f ∧ r.1 = 0 ∧ r.2.1 60 4 = nI f) ∨ ∃ v' a', nsP B z m k a v = .inr (v', a') ∧ r.1 = 1 ∧ r.2.1 60 4 = nI a' ∧ r.2.1 60 3 = nI (p + nb w) ∧ ∀ j, j < nb w → r.2.2.2.1 62 (p + j) = v' j)) := by
  have hn4 := (wl_B w hw).2.2
  intro m
  induction m with
  | zero =>
    intro k a n S v hk hn ha hT h4 h3 hp hv
    obtain ⟨n, rfl⟩ : ∃ q, n = q + 1 := ⟨n - 1, by omega⟩
    obtain rfl : k = nb w := by omega
    rw [TX5_readClause_L39, x_numbs w hw, Option.bind_some, if_pos (by rw [nI_cmp (by omega) (by omega)]; omega)]
    exact wp_some ⟨FR_refl, fun _ _ => rfl, Or.inr ⟨v, a, rfl, rfl, h4, h3, hv⟩⟩
  | succ m ih =>
    intro k a n S v hk hn ha hT h4 h3 hp hv
    obtain ⟨n, rfl⟩ : ∃ q, n = q + 1 := ⟨n - 1, by omega⟩
    have hs := sk_B (B := B) ha
    have hf := nuF_B (B := B) hs.2
    have ht := nuT_B (B := B) hs.2
    rw [TX5_readClause_L39, x_numbs w hw, Option.bind_some, if_neg (by rw [nI_cmp (by omega) (by omega)]; omega)]
    refine wp_bind (x_skip hz hB ha hT h4) fun S1 g1 => ?_
    obtain ⟨g4, F1⟩ := g1
    have T1 := tpX_fr (FR_mono F1 pAt_x) hT
    have g3 : S1.1 60 3 = nI (p + k) := by rw [F1.1 60 3 (by unfold pAt; omega)]; exact h3
    have gr : S1.2.2.1 62 = S.2.2.1 62 := F1.2.2.1 62 (by unfold pAt; omega)
    rw [x_num hz hB hs.2 T1 g4 (by omega) g3, nsP]
    by_cases e : nuF B z (sk B z a) < nuT B z (sk B z a) ∧ nuT B z (sk B z a) ≤ nuF B z (sk B z a) + 3
    · rw [if_pos e, if_pos e, Option.bind_some, nI_1]
      have F2 : FR pTx S (sFI (sFI (sAI S1 62 (p + k) (nuV B z (sk B z a))) 60 3 (nI (p + k + 1))) 60 4 (nI (nuT B z (sk B z a)))) := FR_FI (FR_FI (FR_AI (FR_mono F1 pAt_x) (by unfold pTx; omega)) (by unfold pTx; omega)) (by unfold pTx; omega)
      show WP (TX5_readClause_L39 ct n (nI w) (nI (k + 1)) (sFI (sFI (sAI S1 62 (p + k) (nuV B z (sk B z a))) 60 3 (nI (p + k + 1))) 60 4 (nI (nuT B z (sk B z a))))) _
      have kk : ∀ q, q < p + k → (sFI (sFI (sAI S1 62 (p + k) (nuV B z (sk B z a))) 60 3 (nI (p + k + 1))) 60 4 (nI (nuT B z (sk B z a)))).2.2.1 62 q = S.2.2.1 62 q := fun q hq => by
        simp (disch := omega) only [up2_s, va_up_n]
        rw [gr]
      have hv2 : ∀ j, j < k + 1 → (sFI (sFI (sAI S1 62 (p + k) (nuV B z (sk B z a))) 60 3 (nI (p + k + 1))) 60 4 (nI (nuT B z (sk B z a)))).2.2.1 62 (p + j) = va_up v k (nuV B z (sk B z a)) j := fun j hj => by
        by_cases ej : j = k
        · rw [ej, va_up_s]
          simp only [up2_s, va_up_s]
        · rw [kk (p + j) (by omega), va_up_n _ _ ej]
          exact hv j (by omega)
      refine wp_mono (ih (k + 1) (nuT B z (sk B z a)) n _ (va_up v k (nuV B z (sk B z a))) (by omega) (by omega) ht.2 (tpX_fr F2 hT) ?_ ?_ (by omega) hv2) fun r hr => ⟨FR_trans F2 hr.1, fun q hq => (hr.2.1 q hq).trans (kk q (by omega)), hr.2.2⟩
      · simp (disch := omega) only [up2_s, up2_n, va_up_s, va_up_n]
      · simp (disch := omega) only [up2_s, up2_n, va_up_s, va_up_n]
        rw [Nat.add_assoc]
    · rw [if_neg e, if_neg e, Option.bind_some, if_pos rfl]
      exact wp_some ⟨FR_mono F1 pAt_x, fun q hq => by rw [gr], Or.inl ⟨_, rfl, rfl, g4⟩⟩
theorem x_rdC (hct : ∀ i j : Nat, i < 8 → j < 8 → ct (100 + i) = ct (100 + j) → i = j) (hz : z ≤ 60) (hB : ∀ q, q < z → B q ≤ 255) {a p : Nat} (ha : a ≤ z) (hT : tpX B z S) (h4 : S.1 60 4 = nI a) (h3 : S.1 60 3 = nI p) (hp : p ≤ a) :
    WP (TX5_readClause ct S) (fun r => FR pTx S r.2 ∧ (∀ q, q < p → r.2.2.2.1 62 q = S.2.2.1 62 q) ∧ ((∃ f, clP B z a = .inl f ∧ r.1 = 0 ∧ r.2.1 60 4 = nI f) ∨ ∃ v a', clP B z a = .inr (v, a') ∧ r.1 = 1 ∧ r.2.1 60 4 = nI a' ∧ r.2.1 60 3 = nI (p + 1 + nb (clW B z a)) ∧ r.2.2.2.1 62 p = nI (clW B z a) ∧ ∀ j, j < nb (clW B z a) → r.2.2.2.1 62 (p + 1 + j) = v j)) := by
  have hs := sk_B (B := B) ha
  have hl := ltE_B (B := B) hs.2
  unfold TX5_readClause
  refine wp_bind (x_skip hz hB ha hT h4) fun S1 g1 => ?_
  obtain ⟨g4, F1⟩ := g1
  have T1 := tpX_fr (FR_mono F1 pAt_x) hT
  have g3 : S1.1 60 3 = nI p := by rw [F1.1 60 3 (by unfold pAt; omega)]; exact h3
  have gr : S1.2.2.1 62 = S.2.2.1 62 := F1.2.2.1 62 (by unfold pAt; omega)
  rw [x_let hz hB hs.2 T1 g4, Option.bind_some, x_word hct hz hB hs.2 T1 g4, Option.bind_some]
  unfold clP clW
  by_cases e : wd B z (sk B z a) < 8
  · have h5 := wd_len e
    have h6 := wl_B _ e
    rw [if_pos e, if_pos e, if_neg (by rw [nI_z, km1, iI_eq (by omega) (by omega)]; omega), g4, nI_add, show sk B z a + (ltE B z (sk B z a) - sk B z a) = ltE B z (sk B z a) by omega]
    simp only [letS]
    rw [x_plan (p := p) (by omega) (by simp (disch := omega) only [up2_s, up2_n, va_up_s, va_up_n]; exact g3), Option.bind_some]
    have F2 : FR pTx S (sFI (sAI (sFI S1 60 4 (nI (ltE B z (sk B z a)))) 62 p (nI (wd B z (sk B z a)))) 60 3 (nI (p + 1))) := FR_FI (FR_AI (FR_FI (FR_mono F1 pAt_x) (by unfold pTx; omega)) (by unfold pTx; omega)) (by unfold pTx; omega)
    refine wp_mono (x_rdN hz hB (p := p + 1) e (nb (wd B z (sk B z a))) 0 (ltE B z (sk B z a)) fu _ (fun _ => 0) (by omega) (by rw [fu_eq]; omega) hl.2 (tpX_fr F2 hT) ?_ ?_ (by omega) (fun j hj => by omega)) fun r hr => ⟨FR_trans F2 hr.1, fun q hq => ?_, ?_⟩
    · simp (disch := omega) only [up2_s, up2_n, va_up_s, va_up_n]
    · simp (disch := omega) only [up2_s, up2_n, va_up_s, va_up_n]
    · rw [hr.2.1 q (by omega)]
      simp (disch := omega) only [up2_s, va_up_n]
      rw [gr]
    · rcases hr.2.2 with ⟨f, e1, e2, e3⟩ | ⟨v', a', e1, e2, e3, e4, e5⟩
      · exact Or.inl ⟨f, e1, e2, e3⟩
      · refine Or.inr ⟨v', a', e1, e2, e3, e4, ?_, e5⟩
        rw [hr.2.1 p (by omega)]
        simp (disch := omega) only [up2_s, up2_n, va_up_s, va_up_n]
  · rw [if_neg e, if_neg e, if_pos rfl]
    exact wp_some ⟨FR_mono F1 pAt_x, fun q hq => by rw [gr], Or.inl ⟨_, rfl, rfl, g4⟩⟩
theorem x_rdT (hct : ∀ i j : Nat, i < 8 → j < 8 → ct (100 + i) = ct (100 + j) → i = j) (hz : z ≤ 60) (hB : ∀ q, q < z → B q ≤ 255) : ∀ (m i a p n : Nat) (S : SS), i + m = 60 → m + 1 ≤ n → a ≤ z → z + 1 ≤ a + 5 * m → tpX B z S → S.1 60 4 = nI a → S.1 60 3 = nI p → p ≤ a →
    WP (TX5_read_L12 ct n (nI i) S) (fun r => FR pTx S r.2 ∧ (∀ q, q < p → r.2.2.2.1 62 q = S.2.2.1 62 q) ∧ ((∃ f, txP B z m a = .inl f ∧ f ≤ z ∧ r.1 = nI f) ∨ ∃ l e, txP B z m a = .inr l ∧ r.1 = -1 ∧ r.2.1 60 3 = nI e ∧ e ≤ 60 ∧ PL (r.2.2.2.1 62) p l e)) := by
  intro m
  induction m with
  | zero =>
    intro i a p n S hi hn ha hm
    omega
  | succ m ih =>
    intro i a p n S hi hn ha hm hT h4 h3 hp
    obtain ⟨n, rfl⟩ : ∃ q, n = q + 1 := ⟨n - 1, by omega⟩
    rw [TX5_read_L12, show (60 : Int32) = nI 60 from rfl, if_neg (by rw [nI_cmp (by omega) (by omega)]; omega)]
    refine wp_bind (x_rdC hct hz hB ha hT h4 h3 hp) fun r hr => ?_
    obtain ⟨F1, k1, hr⟩ := hr
    obtain ⟨b1, b2⟩ := clP_B (B := B) ha
    rcases hr with ⟨f, e1, e2, e3⟩ | ⟨v, a', e1, e2, e3, e4, e5, e6⟩
    · have hb := b1 f e1
      rw [if_pos e2]
      refine wp_some ⟨F1, k1, Or.inl ⟨f, ?_, hb.2, e3⟩⟩
      simp only [txP, e1]
    · obtain ⟨c1, c2, c3⟩ := b2 v a' e1
      have hs := sk_B (B := B) c3
      rw [if_neg (by rw [e2]; decide)]
      refine wp_bind (x_skip hz hB c3 (tpX_fr F1 hT) e3) fun S1 g1 => ?_
      obtain ⟨g4, F2⟩ := g1
      have F := FR_trans F1 (FR_mono F2 pAt_x)
      have T1 := tpX_fr F hT
      have g3 : S1.1 60 3 = nI (p + 1 + nb (clW B z a)) := by rw [F2.1 60 3 (by unfold pAt; omega)]; exact e4
      have gr : S1.2.2.1 62 = r.2.2.2.1 62 := F2.2.2.1 62 (by unfold pAt; omega)
      have cc : S1.1 60 4 < S1.1 60 1 ↔ ¬ z ≤ sk B z a' := by rw [g4, T1.1, nI_ltI (by omega) (by omega)]; omega
      by_cases d1 : z ≤ sk B z a'
      · rw [if_neg (fun y => cc.mp y d1)]
        refine wp_some ⟨F, fun q hq => by rw [gr]; exact k1 q hq, Or.inr ⟨[(clW B z a, v)], p + 1 + nb (clW B z a), ?_, rfl, g3, by omega, ?_⟩⟩
        · simp only [txP, e1, if_pos d1]
        · refine ⟨c1, ?_, fun k hk => ?_, rfl⟩
          · rw [gr]; exact e5
          · rw [gr]; exact e6 k hk
      · have eg : aget 60 (S1.2.2.1 61) (S1.1 60 4) = some (nI (B (sk B z a'))) := by rw [g4, aget_n (by omega) (by omega), T1.2 _ (by omega)]
        have hb := hB (sk B z a') (by omega)
        rw [if_pos (cc.mpr d1), eg, Option.bind_some]
        by_cases d2 : B (sk B z a') = 59
        · rw [if_pos (by rw [d2]; rfl), g4, nI_1, nI_1]
          refine wp_fi fun S2 G2 x1 x2 x3 x4 x5 => ?_
          have F3 : FR pTx S1 S2 := G2 _ _ (by unfold pTx; omega) FR_refl
          refine wp_mono (ih (i + 1) (sk B z a' + 1) (p + 1 + nb (clW B z a)) n S2 (by omega) (by omega) (by omega) (by omega) (tpX_fr F3 T1) x1 (by rw [x2 60 3 (by omega)]; exact g3) (by omega)) fun u hu => ?_
          obtain ⟨u1, u2, u3⟩ := hu
          have kp : ∀ q, q < p + 1 + nb (clW B z a) → u.2.2.2.1 62 q = r.2.2.2.1 62 q := fun q hq => by rw [u2 q hq, x4, gr]
          refine ⟨FR_trans F (FR_trans F3 u1), fun q hq => (kp q (by omega)).trans (k1 q hq), ?_⟩
          rcases u3 with ⟨f, y1, y2, y3⟩ | ⟨l, e, y1, y2, y3, y4, y5⟩
          · refine Or.inl ⟨f, ?_, y2, y3⟩
            simp only [txP, e1, if_neg d1, if_pos d2, y1]
          · refine Or.inr ⟨(clW B z a, v) :: l, e, ?_, y2, y3, y4, c1, ?_, fun k hk => ?_, y5⟩
            · simp only [txP, e1, if_neg d1, if_pos d2, y1]
            · rw [kp p (by omega)]; exact e5
            · have hk' : k < nb (clW B z a) := hk
              rw [kp (p + 1 + k) (by omega)]; exact e6 k hk
        · rw [if_neg (fun y => d2 ((nI_c (c := 59) (k := 59) rfl hb (by omega)).mp y))]
          refine wp_some ⟨F, fun q hq => by rw [gr]; exact k1 q hq, Or.inl ⟨sk B z a', ?_, hs.2, g4⟩⟩
          simp only [txP, e1, if_neg d1, if_neg d2]
theorem x_read (hct : ∀ i j : Nat, i < 8 → j < 8 → ct (100 + i) = ct (100 + j) → i = j) (hz : z ≤ 60) (hB : ∀ q, q < z → B q ≤ 255) (hT : tpX B z S) : WP (TX5_read ct S) (fun r => FR pTx S r.2 ∧ ((∃ f, txP B z 60 0 = .inl f ∧ f ≤ z ∧ r.1 = nI f) ∨ ∃ l e, txP B z 60 0 = .inr l ∧ r.1 = -1 ∧ r.2.1 60 3 = nI e ∧ e ≤ 60 ∧ PL (r.2.2.2.1 62) 0 l e)) := by
  unfold TX5_read
  refine wp_fi fun S1 G1 a1 a2 a3 a4 a5 => ?_
  refine wp_fi fun S2 G2 b1 b2 b3 b4 b5 => ?_
  have F : FR pTx S S2 := G2 _ _ (by unfold pTx; omega) (G1 _ _ (by unfold pTx; omega) FR_refl)
  refine wp_mono (x_rdT hct hz hB 60 0 0 0 fu S2 (by omega) (by rw [fu_eq]; omega) (by omega) (by omega) (tpX_fr F hT) (by rw [b2 60 4 (by omega)]; exact a1) b1 (by omega)) fun r hr => ⟨FR_trans F hr.1, hr.2.2⟩
end XRD
