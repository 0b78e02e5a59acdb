/-! Texts: clauses are done. -/
theorem fl0 {c : Prop} [Decidable c] {S : SS} : (if c then (zb 0).bind fun v => some (v, S) else (zb 1).bind fun v => some (v, S)) = some (b2i (¬ c), S) := by
  by_cases h : c
  · rw [if_pos h, b2i_f (fun z => z h)]; rfl
  · rw [if_neg h, b2i_t h]; rfl
theorem fl1 {c : Prop} [Decidable c] {S : SS} : (if c then (zb 1).bind fun v => some (v, S) else (zb 0).bind fun v => some (v, S)) = some (b2i c, S) := by
  by_cases h : c
  · rw [if_pos h, b2i_t h]; rfl
  · rw [if_neg h, b2i_f h]; rfl
section EXE
variable {S : SS} {s : ST}
/-- what the class does with a clause -/
def icX (x0 x1 x2 x3 x4 : Int32) (S : SS) : Option (Int32 × SS) := (if x0 = 0 then (TX6_cell x1 x2 x3 x4 S).bind fun q11 => some (b2i (¬ q11.1 < 0), q11.2) else
  (if x0 = 1 then (TX6_heat x1 x2 S).bind fun q15 => some (b2i (q15.1 = 1), q15.2) else
  (if x0 = 2 then (TX6_set x1 3 x2 S).bind fun q19 => some (b2i (¬ q19.1 = (-1000)), q19.2) else
  (if x0 = 3 then (TX6_end 0 x1 S).bind fun q23 => some (b2i (¬ q23.1 = (-1000)), q23.2) else
  (if x0 = 4 then (TX6_end 1 x1 S).bind fun q27 => some (b2i (¬ q27.1 = (-1000)), q27.2) else
  (if x0 = 5 then (TX6_rule 0 x1 S).bind fun q31 => some (b2i (¬ q31.1 = (-1000)), q31.2) else
  (if x0 = 6 then (TX6_pulse x1 x2 x3 S).bind fun q35 => some (b2i (¬ q35.1 < 0), q35.2) else
  (if x0 = 7 then (TX6_drop S).bind fun q39 => some (b2i (¬ q39.1 < 0), q39.2) else
  (zb 0).bind fun v43 => some (v43, S)))))))))
def plG (S : SS) (e q : Nat) : Int32 := if q < e then S.2.2.1 62 q else 0
theorem x_planAt {e q : Nat} (h3 : S.1 60 3 = nI e) (he : e ≤ 60) (hq : q ≤ 100) : TX5_planAt (nI q) S = some (plG S e q) := by
  unfold TX5_planAt plG
  rw [h3, if_neg (by rw [show (0 : Int32) = nI 0 from rfl, nI_ltI' (by omega) (by omega)]; omega)]
  by_cases c : q < e
  · rw [if_neg (by rw [nI_cmp (by omega) (by omega)]; omega), if_pos c, aget_n (by omega) (by omega)]
    rfl
  · rw [if_pos (by rw [nI_cmp (by omega) (by omega)]; omega), if_neg c]
theorem x_icd {e p : Nat} (h3 : S.1 60 3 = nI e) (he : e ≤ 60) (hp : p ≤ 60) : TX6_isClauseDone (nI p) S = icX (plG S e p) (plG S e (p + 1)) (plG S e (p + 2)) (plG S e (p + 3)) (plG S e (p + 4)) S := by
  unfold TX6_isClauseDone icX
  rw [nI_1, show (2 : Int32) = nI 2 from rfl, show (3 : Int32) = nI 3 from rfl, show (4 : Int32) = nI 4 from rfl, nI_add, nI_add, nI_add, x_planAt h3 he (by omega), Option.bind_some, x_planAt h3 he (by omega), Option.bind_some, x_planAt h3 he (by omega), Option.bind_some, x_planAt h3 he (by omega), Option.bind_some, x_planAt h3 he (by omega), Option.bind_some]
  simp only [fl0, fl1]
/-- a clause done: whether it is, the bar behind it -/
def EXP (s : ST) (w : Nat) (v : Nat → Int32) (q : Bool × AB) : Prop := okS (q.2, s.2) ∧
  (∀ (S : SS) (e p : Nat), CX S s → S.1 60 3 = nI e → e ≤ 60 → p + 1 + nb w ≤ e → S.2.2.1 62 p = nI w → (∀ k, k < nb w → S.2.2.1 62 (p + 1 + k) = v k) → WP (TX6_isClauseDone (nI p) S) (fun r => r.1 = b2i (q.1 = true) ∧ FR (pB 1) S r.2 ∧ CX r.2 (q.2, s.2))) ∧
  ∀ S, CM S s → (∀ k, k < nb w → S.2.2.1 87 k = v k) → WP (TX7_isDone (nI w) S) (fun r => r.1 = b2i (q.1 = true) ∧ FR pMb S r.2 ∧ CM r.2 (q.2, s.2))
theorem le0_lt {x : Int32} (h : x ≠ 0) : x ≤ 0 ↔ x < 0 := by
  obtain ⟨z, hz, rfl⟩ := i_cases x
  rw [k0, iI_le hz (by omega), iI_lt hz (by omega)]
  have : z ≠ 0 := fun e => h (by rw [e]; rfl)
  omega
theorem plG_v {e p w k : Nat} {v : Nat → Int32} (hp : p + 1 + nb w ≤ e) (hv : ∀ k, k < nb w → S.2.2.1 62 (p + 1 + k) = v k) (hk : k < nb w) : plG S e (p + 1 + k) = v k := by
  unfold plG
  rw [if_pos (by omega), hv k hk]
theorem plG_0 {e p w : Nat} (hp : p + 1 + nb w ≤ e) (hw : S.2.2.1 62 p = nI w) : plG S e p = nI w := by
  unfold plG
  rw [if_pos (by omega), hw]
theorem a87 {k : Nat} {x : Int32} (h : S.2.2.1 87 k = x) (hk : k < 4) : aget 4 (S.2.2.1 87) (nI k) = some x := by rw [aget_n hk (by omega), h]
theorem ex_cl (s : ST) (w : Nat) (v : Nat → Int32) (hs : okS s) (hw : w < 8) : ∃ q : Bool × AB, EXP s w v q := by
  match w, hw with
  | 0, _ =>
    obtain ⟨rv, A', ok, hx, hm⟩ := b_cell hs (v 0) (v 1) (v 2) (v 3)
    refine ⟨(decide (¬ rv < 0), A'), ok, fun S e p cx h3 he hp hw hv => ?_, fun S cm hv => ?_⟩
    · have g1 : plG S e (p + 1) = v 0 := plG_v hp hv (k := 0) (by decide)
      have g2 : plG S e (p + 2) = v 1 := plG_v hp hv (k := 1) (by decide)
      have g3 : plG S e (p + 3) = v 2 := plG_v hp hv (k := 2) (by decide)
      have g4 : plG S e (p + 4) = v 3 := plG_v hp hv (k := 3) (by decide)
      rw [x_icd h3 he (by omega), plG_0 hp hw, g1, g2, g3, g4]
      unfold icX
      rw [if_pos (show nI 0 = 0 from rfl)]
      refine wp_bind (hx S cx) fun q hq => ?_
      rw [hq.1]
      exact wp_some ⟨b2i_congr (by simp), hq.2⟩
    · unfold TX7_isDone
      have t0 : aget 4 (S.2.2.1 87) 0 = some (v 0) := a87 (k := 0) (hv 0 (by decide)) (by omega)
      have t1 : aget 4 (S.2.2.1 87) 1 = some (v 1) := a87 (k := 1) (hv 1 (by decide)) (by omega)
      have t2 : aget 4 (S.2.2.1 87) 2 = some (v 2) := a87 (k := 2) (hv 2 (by decide)) (by omega)
      have t3 : aget 4 (S.2.2.1 87) 3 = some (v 3) := a87 (k := 3) (hv 3 (by decide)) (by omega)
      rw [if_pos (show nI 0 = 0 from rfl), t0, Option.bind_some, t1, Option.bind_some, t2, Option.bind_some, t3, Option.bind_some]
      refine wp_bind (hm S cm) fun q hq => ?_
      rw [fl0, hq.1]
      exact wp_some ⟨b2i_congr (by simp), hq.2⟩
  | 1, _ =>
    obtain ⟨rv, A', ok, hx, hm⟩ := b_heat hs (v 0) (v 1)
    refine ⟨(decide (rv = 1), A'), ok, fun S e p cx h3 he hp hw hv => ?_, fun S cm hv => ?_⟩
    · have g1 : plG S e (p + 1) = v 0 := plG_v hp hv (k := 0) (by decide)
      have g2 : plG S e (p + 2) = v 1 := plG_v hp hv (k := 1) (by decide)
      rw [x_icd h3 he (by omega), plG_0 hp hw, g1, g2]
      unfold icX
      rw [if_neg (show ¬ nI 1 = 0 by decide), if_pos (show nI 1 = 1 from rfl)]
      refine wp_bind (hx S cx) fun q hq => ?_
      rw [hq.1]
      exact wp_some ⟨b2i_congr (by simp), hq.2⟩
    · unfold TX7_isDone
      have t0 : aget 4 (S.2.2.1 87) 0 = some (v 0) := a87 (k := 0) (hv 0 (by decide)) (by omega)
      have t1 : aget 4 (S.2.2.1 87) 1 = some (v 1) := a87 (k := 1) (hv 1 (by decide)) (by omega)
      rw [if_neg (show ¬ nI 1 = 0 by decide), if_pos (show nI 1 = 1 from rfl), t0, Option.bind_some, t1, Option.bind_some]
      refine wp_bind (hm S cm) fun q hq => ?_
      rw [fl1, hq.1]
      exact wp_some ⟨b2i_congr (by simp), hq.2⟩
  | 2, _ =>
    obtain ⟨rv, A', ok, hx, hm⟩ := b_set hs (v 0) 3 (v 1)
    refine ⟨(decide (¬ rv = -1000), A'), ok, fun S e p cx h3 he hp hw hv => ?_, fun S cm hv => ?_⟩
    · have g1 : plG S e (p + 1) = v 0 := plG_v hp hv (k := 0) (by decide)
      have g2 : plG S e (p + 2) = v 1 := plG_v hp hv (k := 1) (by decide)
      rw [x_icd h3 he (by omega), plG_0 hp hw, g1, g2]
      unfold icX
      rw [if_neg (show ¬ nI 2 = 0 by decide), if_neg (show ¬ nI 2 = 1 by decide), if_pos (show nI 2 = 2 from rfl)]
      refine wp_bind (hx S cx) fun q hq => ?_
      rw [hq.1]
      exact wp_some ⟨b2i_congr (by simp), hq.2⟩
    · unfold TX7_isDone
      have t0 : aget 4 (S.2.2.1 87) 0 = some (v 0) := a87 (k := 0) (hv 0 (by decide)) (by omega)
      have t1 : aget 4 (S.2.2.1 87) 1 = some (v 1) := a87 (k := 1) (hv 1 (by decide)) (by omega)
      rw [if_neg (show ¬ nI 2 = 0 by decide), if_neg (show ¬ nI 2 = 1 by decide), if_pos (show nI 2 = 2 from rfl), t0, Option.bind_some, t1, Option.bind_some]
      refine wp_bind (hm S cm) fun q hq => ?_
      rw [fl0, hq.1]
      exact wp_some ⟨b2i_congr (by simp), hq.2⟩
  | 3, _ =>
    obtain ⟨rv, A', ok, hx, hm⟩ := b_end hs 0 (v 0)
    refine ⟨(decide (¬ rv = -1000), A'), ok, fun S e p cx h3 he hp hw hv => ?_, fun S cm hv => ?_⟩
    · have g1 : plG S e (p + 1) = v 0 := plG_v hp hv (k := 0) (by decide)
      rw [x_icd h3 he (by omega), plG_0 hp hw, g1]
      unfold icX
      rw [if_neg (show ¬ nI 3 = 0 by decide), if_neg (show ¬ nI 3 = 1 by decide), if_neg (show ¬ nI 3 = 2 by decide), if_pos (show nI 3 = 3 from rfl)]
      refine wp_bind (hx S cx) fun q hq => ?_
      rw [hq.1]
      exact wp_some ⟨b2i_congr (by simp), hq.2⟩
    · unfold TX7_isDone
      have t0 : aget 4 (S.2.2.1 87) 0 = some (v 0) := a87 (k := 0) (hv 0 (by decide)) (by omega)
      rw [if_neg (show ¬ nI 3 = 0 by decide), if_neg (show ¬ nI 3 = 1 by decide), if_neg (show ¬ nI 3 = 2 by decide), if_pos (show nI 3 = 3 from rfl), t0, Option.bind_some]
      refine wp_bind (hm S cm) fun q hq => ?_
      rw [fl0, hq.1]
      exact wp_some ⟨b2i_congr (by simp), hq.2⟩
  | 4, _ =>
    obtain ⟨rv, A', ok, hx, hm⟩ := b_end hs 1 (v 0)
    refine ⟨(decide (¬ rv = -1000), A'), ok, fun S e p cx h3 he hp hw hv => ?_, fun S cm hv => ?_⟩
    · have g1 : plG S e (p + 1) = v 0 := plG_v hp hv (k := 0) (by decide)
      rw [x_icd h3 he (by omega), plG_0 hp hw, g1]
      unfold icX
      rw [if_neg (show ¬ nI 4 = 0 by decide), if_neg (show ¬ nI 4 = 1 by decide), if_neg (show ¬ nI 4 = 2 by decide), if_neg (show ¬ nI 4 = 3 by decide), if_pos (show nI 4 = 4 from rfl)]
      refine wp_bind (hx S cx) fun q hq => ?_
      rw [hq.1]
      exact wp_some ⟨b2i_congr (by simp), hq.2⟩
    · unfold TX7_isDone
      have t0 : aget 4 (S.2.2.1 87) 0 = some (v 0) := a87 (k := 0) (hv 0 (by decide)) (by omega)
      rw [if_neg (show ¬ nI 4 = 0 by decide), if_neg (show ¬ nI 4 = 1 by decide), if_neg (show ¬ nI 4 = 2 by decide), if_neg (show ¬ nI 4 = 3 by decide), if_pos (show nI 4 = 4 from rfl), t0, Option.bind_some]
      refine wp_bind (hm S cm) fun q hq => ?_
      rw [fl0, hq.1]
      exact wp_some ⟨b2i_congr (by simp), hq.2⟩
  | 5, _ =>
    obtain ⟨rv, A', ok, hx, hm⟩ := b_rule hs 0 (v 0)
    refine ⟨(decide (¬ rv = -1000), A'), ok, fun S e p cx h3 he hp hw hv => ?_, fun S cm hv => ?_⟩
    · have g1 : plG S e (p + 1) = v 0 := plG_v hp hv (k := 0) (by decide)
      rw [x_icd h3 he (by omega), plG_0 hp hw, g1]
      unfold icX
      rw [if_neg (show ¬ nI 5 = 0 by decide), if_neg (show ¬ nI 5 = 1 by decide), if_neg (show ¬ nI 5 = 2 by decide), if_neg (show ¬ nI 5 = 3 by decide), if_neg (show ¬ nI 5 = 4 by decide), if_pos (show nI 5 = 5 from rfl)]
      refine wp_bind (hx S cx) fun q hq => ?_
      rw [hq.1]
      exact wp_some ⟨b2i_congr (by simp), hq.2⟩
    · unfold TX7_isDone
      have t0 : aget 4 (S.2.2.1 87) 0 = some (v 0) := a87 (k := 0) (hv 0 (by decide)) (by omega)
      rw [if_neg (show ¬ nI 5 = 0 by decide), if_neg (show ¬ nI 5 = 1 by decide), if_neg (show ¬ nI 5 = 2 by decide), if_neg (show ¬ nI 5 = 3 by decide), if_neg (show ¬ nI 5 = 4 by decide), if_pos (show nI 5 = 5 from rfl), t0, Option.bind_some]
      refine wp_bind (hm S cm) fun q hq => ?_
      rw [fl0, hq.1]
      exact wp_some ⟨b2i_congr (by simp), hq.2⟩
  | 6, _ =>
    obtain ⟨rv, A', hne, ok, hx, hm⟩ := b_pulse hs (v 0) (v 1) (v 2)
    refine ⟨(decide (¬ rv < 0), A'), ok, fun S e p cx h3 he hp hw hv => ?_, fun S cm hv => ?_⟩
    · have g1 : plG S e (p + 1) = v 0 := plG_v hp hv (k := 0) (by decide)
      have g2 : plG S e (p + 2) = v 1 := plG_v hp hv (k := 1) (by decide)
      have g3 : plG S e (p + 3) = v 2 := plG_v hp hv (k := 2) (by decide)
      rw [x_icd h3 he (by omega), plG_0 hp hw, g1, g2, g3]
      unfold icX
      rw [if_neg (show ¬ nI 6 = 0 by decide), if_neg (show ¬ nI 6 = 1 by decide), if_neg (show ¬ nI 6 = 2 by decide), if_neg (show ¬ nI 6 = 3 by decide), if_neg (show ¬ nI 6 = 4 by decide), if_neg (show ¬ nI 6 = 5 by decide), if_pos (show nI 6 = 6 from rfl)]
      refine wp_bind (hx S cx) fun q hq => ?_
      rw [hq.1]
      exact wp_some ⟨b2i_congr (by simp), hq.2⟩
    · unfold TX7_isDone
      have t0 : aget 4 (S.2.2.1 87) 0 = some (v 0) := a87 (k := 0) (hv 0 (by decide)) (by omega)
      have t1 : aget 4 (S.2.2.1 87) 1 = some (v 1) := a87 (k := 1) (hv 1 (by decide)) (by omega)
      have t2 : aget 4 (S.2.2.1 87) 2 = some (v 2) := a87 (k := 2) (hv 2 (by decide)) (by omega)
      rw [if_neg (show ¬ nI 6 = 0 by decide), if_neg (show ¬ nI 6 = 1 by decide), if_neg (show ¬ nI 6 = 2 by decide), if_neg (show ¬ nI 6 = 3 by decide), if_neg (show ¬ nI 6 = 4 by decide), if_neg (show ¬ nI 6 = 5 by decide), if_pos (show nI 6 = 6 from rfl), t0, Option.bind_some, t1, Option.bind_some, t2, Option.bind_some]
      refine wp_bind (hm S cm) fun q hq => ?_
      rw [fl0, hq.1]
      exact wp_some ⟨b2i_congr (by rw [le0_lt hne]; simp), hq.2⟩
  | 7, _ =>
    obtain ⟨rv, A', ok, hx, hm⟩ := b_drop hs
    refine ⟨(decide (¬ rv < 0), A'), ok, fun S e p cx h3 he hp hw hv => ?_, fun S cm hv => ?_⟩
    · rw [x_icd h3 he (by omega), plG_0 hp hw]
      unfold icX
      rw [if_neg (show ¬ nI 7 = 0 by decide), if_neg (show ¬ nI 7 = 1 by decide), if_neg (show ¬ nI 7 = 2 by decide), if_neg (show ¬ nI 7 = 3 by decide), if_neg (show ¬ nI 7 = 4 by decide), if_neg (show ¬ nI 7 = 5 by decide), if_neg (show ¬ nI 7 = 6 by decide), if_pos (show nI 7 = 7 from rfl)]
      refine wp_bind (hx S cx) fun q hq => ?_
      rw [hq.1]
      exact wp_some ⟨b2i_congr (by simp), hq.2⟩
    · unfold TX7_isDone
      rw [if_neg (show ¬ nI 7 = 0 by decide), if_neg (show ¬ nI 7 = 1 by decide), if_neg (show ¬ nI 7 = 2 by decide), if_neg (show ¬ nI 7 = 3 by decide), if_neg (show ¬ nI 7 = 4 by decide), if_neg (show ¬ nI 7 = 5 by decide), if_neg (show ¬ nI 7 = 6 by decide)]
      refine wp_bind (hm S cm) fun q hq => ?_
      rw [fl0, hq.1]
      exact wp_some ⟨b2i_congr (by simp), hq.2⟩
  | w + 8, h => exact absurd h (by omega)
noncomputable def exC (s : ST) (w : Nat) (v : Nat → Int32) : Bool × AB := @Classical.epsilon (Bool × AB) ⟨(false, tA s)⟩ (EXP s w v)
theorem exC_ok {w : Nat} {v : Nat → Int32} (hs : okS s) (hw : w < 8) : EXP s w v (exC s w v) := by
  unfold exC
  exact Classical.epsilon_spec (ex_cl s w v hs hw)
/-- clauses done one behind the other -/
noncomputable def exL : List CL → ST → Nat × ST
  | [], s => (0, s)
  | c :: l, s => ((if (exC s c.1 c.2).1 = true then 1 else 0) + (exL l ((exC s c.1 c.2).2, s.2)).1, (exL l ((exC s c.1 c.2).2, s.2)).2)
theorem exL_ok : ∀ (l : List CL) (s : ST), okS s → (∀ c, c ∈ l → c.1 < 8) → okS (exL l s).2
  | [], s, hs, _ => hs
  | c :: l, s, hs, h => by
    rw [exL]
    exact exL_ok l _ (exC_ok hs (h c (List.mem_cons_self ..))).1 (fun d hd => h d (List.mem_cons_of_mem _ hd))
theorem PL_le {f : Nat → Int32} : ∀ (l : List CL) (p e : Nat), PL f p l e → p + l.length ≤ e
  | [], p, e, h => by
    have : e = p := h
    rw [List.length_nil]
    omega
  | c :: l, p, e, h => by
    have := PL_le l _ _ h.2.2.2
    rw [List.length_cons]
    omega
theorem PL_w {f : Nat → Int32} : ∀ (l : List CL) (p e : Nat), PL f p l e → ∀ c, c ∈ l → c.1 < 8
  | [], _, _, _, c, hc => by cases hc
  | d :: l, p, e, h, c, hc => by
    rcases List.mem_cons.mp hc with h1 | h1
    · rw [h1]; exact h.1
    · exact PL_w l _ _ h.2.2.2 c h1
theorem x_done {e : Nat} (he : e ≤ 60) : ∀ (l : List CL) (p i n cnt : Nat) (S : SS) (s : ST), okS s → CX S s → S.1 60 3 = nI e → PL (S.2.2.1 62) p l e → i ≤ p → l.length + 1 ≤ n →
    WP (TX6_clausesDone_L6 n (nI cnt) (nI p) (nI i) S) (fun r => r.1 = nI (cnt + (exL l s).1) ∧ FR (pB 1) S r.2 ∧ CX r.2 (exL l s).2)
  | [], p, i, n, cnt, S, s, hs, cx, h3, hP, hi, hn => by
    obtain ⟨n, rfl⟩ : ∃ q, n = q + 1 := ⟨n - 1, by omega⟩
    have ep : e = p := hP
    rw [TX6_clausesDone_L6, h3, if_pos (show nI e ≤ nI p by rw [ep]; exact (nI_cmp (by omega) (by omega)).mpr (Nat.le_refl _)), ite_self, exL]
    exact wp_some ⟨rfl, FR_refl, cx⟩
  | c :: l, p, i, n, cnt, S, s, hs, cx, h3, hP, hi, hn => by
    obtain ⟨n, rfl⟩ : ∃ q, n = q + 1 := ⟨n - 1, by omega⟩
    obtain ⟨p1, p2, p3, p4⟩ := hP
    have hl := PL_le _ _ _ p4
    have hx := exC_ok (v := c.2) hs p1
    rw [List.length_cons] at hn
    rw [TX6_clausesDone_L6, h3, show (60 : Int32) = nI 60 from rfl, if_neg (by rw [nI_cmp (by omega) (by omega)]; omega), if_neg (by rw [nI_cmp (by omega) (by omega)]; omega), exL]
    refine wp_bind (hx.2.1 S e p cx h3 he (by omega) p2 p3) fun r hr => ?_
    obtain ⟨r1, r2, r3⟩ := hr
    have g3 : r.2.1 60 3 = nI e := by rw [r2.1 60 3 (by unfold pB; omega)]; exact h3
    have gr : r.2.2.2.1 62 = S.2.2.1 62 := r2.2.2.1 62 (by unfold pB; omega)
    have hpl : TX5_planAt (nI p) r.2 = some (nI c.1) := by
      rw [x_planAt g3 he (by omega)]
      unfold plG
      rw [if_pos (by omega), gr, p2]
    have hw4 := wl_B _ p1
    have rest : ∀ d : Nat, WP (TX6_clausesDone_J37 (fun l1 l2 l3 S => TX6_clausesDone_L6 n l1 l2 l3 S) (nI p) (nI i) (nI d) (nI cnt) r.2) (fun u => u.1 = nI (cnt + (d + (exL l ((exC s c.1 c.2).2, s.2)).1)) ∧ FR (pB 1) S u.2 ∧ CX u.2 (exL l ((exC s c.1 c.2).2, s.2)).2) := fun d => by
      unfold TX6_clausesDone_J37
      rw [hpl, Option.bind_some, x_numbs _ p1, Option.bind_some, nI_add, show (1 : Int32) = nI 1 from rfl, nI_add, nI_add, nI_add]
      refine wp_mono (x_done he l (p + (1 + nb c.1)) (i + 1) n (cnt + d) r.2 _ hx.1 r3 g3 (by rw [gr, ← Nat.add_assoc]; exact p4) (by omega) (by omega)) fun u hu => ⟨?_, FR_trans r2 hu.2.1, hu.2.2⟩
      rw [hu.1, Nat.add_assoc]
    by_cases d : (exC s c.1 c.2).1 = true
    · rw [if_neg (fun y => (b2i_z r1).mp y d), if_pos d]
      exact rest 1
    · rw [if_pos ((b2i_z r1).mpr d), if_neg d]
      exact rest 0
end EXE
