/-! The law's loop. -/
section LAW
variable {s s' : ST} {S : SS} {Q : SS → Prop} {f : SS → Option SS}
theorem law_OO {α : Type} [DecidableEq α] {tx tm : SS → Option (α × SS)} {v : α} (cx : CX S s) (cm : CM S s) (hx : OX tx s v s') (hm : OM tm s v s') (k : ∀ S', CX S' s' → CM S' s' → WP (f S') Q) : WP ((tx S).bind fun q => (tm q.2).bind fun u => if q.1 = u.1 then f u.2 else none) Q := by
  refine wp_bind (hx S cx) fun q hq => ?_
  obtain ⟨q1, q2, q3⟩ := hq
  refine wp_bind (hm q.2 (CM_frX q2 cm)) fun u hu => ?_
  obtain ⟨u1, u2, u3⟩ := hu
  rw [q1, u1, if_pos rfl]
  exact k u.2 (CX_frM u2 q3) u3
theorem law_PO {α : Type} [DecidableEq α] {tx : SS → Option α} {tm : SS → Option (α × SS)} {v : α} (cx : CX S s) (cm : CM S s) (hx : PXo tx s v) (hm : OM tm s v s) (k : ∀ S', CX S' s → CM S' s → WP (f S') Q) : WP ((tx S).bind fun x => (tm S).bind fun u => if x = u.1 then f u.2 else none) Q := by
  rw [hx S cx, Option.bind_some]
  refine wp_bind (hm S cm) fun u hu => ?_
  obtain ⟨u1, u2, u3⟩ := hu
  rw [u1, if_pos rfl]
  exact k u.2 (CX_frM u2 cx) u3
theorem law_PP {α : Type} [DecidableEq α] {tx tm : SS → Option α} {v : α} (cx : CX S s) (cm : CM S s) (hx : PXo tx s v) (hm : PMo tm s v) (k : WP (f S) Q) : WP ((tx S).bind fun x => (tm S).bind fun y => if x = y then f S else none) Q := by
  rw [hx S cx, Option.bind_some, hm S cm, Option.bind_some, if_pos rfl]
  exact k
end LAW
def A00 : AB := ((0, 0, 1, 4, 0), (-1, -1), fun _ _ => 0, fun _ _ => 0)
def s00 : ST := (A00, none, fun _ => -1, fun _ => 0, fun _ _ => 0, 0, fun _ => 0)
theorem ok_s00 : okS s00 := by
  refine ⟨⟨by decide, by decide, by decide, by decide, by decide, by decide, by decide, by decide, by decide, by decide, by decide, fun i hi => absurd hi (Nat.not_lt_zero i), fun i hi => absurd hi (Nat.not_lt_zero i)⟩, fun K h => (by cases h), fun i hi => ⟨by show (-1 : Int) ≤ -1; decide, by show (-1 : Int) ≤ 1; decide, Nat.zero_le _⟩, Nat.zero_le _, fun i hi => absurd hi (Nat.not_lt_zero i)⟩
theorem S0_53 : ∀ i, i < 4 → S00.2.2.1 53 i = iI (-1) := by decide +kernel
theorem S0_54 : ∀ i, i < 4 → S00.2.2.1 54 i = nI 0 := by decide +kernel
theorem S0_98 : ∀ i, i < 4 → S00.2.2.1 98 i = iI (-1) := by decide +kernel
theorem S0_99 : ∀ i, i < 4 → S00.2.2.1 99 i = nI 0 := by decide +kernel
theorem S0_84 : ∀ i, i < 44 → S00.2.2.1 84 i = nI (wordsM.getD i 0) := by decide +kernel
theorem S0_85 : ∀ i, i < 8 → S00.2.2.1 85 i = nI (numbsM.getD i 0) := by decide +kernel
theorem CX_00 : CX S00 s00 := by
  refine ⟨⟨by decide +kernel, by decide +kernel, by decide +kernel, by decide +kernel, by decide +kernel, by decide +kernel, by decide +kernel, fun i hi => absurd hi (Nat.not_lt_zero i), fun i hi => absurd hi (Nat.not_lt_zero i)⟩, by decide +kernel, fun K h => (by cases h), fun i hi => ⟨S0_53 i hi, S0_54 i hi, fun j hj => absurd hj (Nat.not_lt_zero j)⟩, by decide +kernel, fun i hi => absurd hi (Nat.not_lt_zero i)⟩
theorem CM_00 : CM S00 s00 := by
  refine ⟨⟨⟨by decide +kernel, by decide +kernel, by decide +kernel, by decide +kernel, by decide +kernel, fun i hi => absurd hi (Nat.not_lt_zero i)⟩, by decide +kernel, by decide +kernel, fun i hi => absurd hi (Nat.not_lt_zero i), fun i hi => absurd hi (Nat.not_lt_zero i)⟩, by decide +kernel, fun K h => (by cases h), fun i hi => ⟨S0_98 i hi, S0_99 i hi, fun j hj => absurd hj (Nat.not_lt_zero j)⟩, ⟨by decide +kernel, fun i hi => absurd hi (Nat.not_lt_zero i)⟩, S0_84, S0_85⟩
theorem sI_at {xs : Nat → Int32} {L a k : Nat} {c : Int32} (hc : c = nI k) (h : a + k < L) (hL : L ≤ 3584) : sI xs L (nI a + c) = some (xs (a + k)) := by
  unfold sI
  rw [hc, nI_add, if_pos (iI_in h (by omega)), iI_nat _ (by omega)]
theorem sI_0 {xs : Nat → Int32} {L a : Nat} (h : a < L) (hL : L ≤ 3584) : sI xs L (nI a) = some (xs a) := by
  unfold sI
  rw [if_pos (iI_in h (by omega)), iI_nat _ (by omega)]
set_option maxHeartbeats 4000000 in
set_option maxRecDepth 100000 in
theorem TL_loop (xs : Nat → Int32) (L : Nat) (hL : L ≤ 3584) (ct : Nat → ClassId) (hct : ∀ i j : Nat, i < 8 → j < 8 → ct (100 + i) = ct (100 + j) → i = j) : ∀ (m a n : Nat) (S : SS) (s : ST), L ≤ a + 7 * m + 6 → m + 1 ≤ n → a ≤ 3584 → okS s → CX S s → CM S s → WP (TL_law_L18 ct xs L n (nI a) S) (fun _ => True) := by
  intro m
  induction m with
  | zero =>
    intro a n S s hm hn ha hs cx cm
    obtain ⟨n, rfl⟩ : ∃ q, n = q + 1 := ⟨n - 1, by omega⟩
    rw [TL_law_L18, if_pos (by rw [show Int32.ofNat L = nI L from rfl, nI_z, nI_z, show (7 : Int32) = iI 7 from rfl, iI_sub, iI_lt (by omega) (by omega)]; omega)]
    exact wp_some trivial
  | succ m ih =>
    intro a n S s hm hn ha hs cx cm
    obtain ⟨n, rfl⟩ : ∃ q, n = q + 1 := ⟨n - 1, by omega⟩
    have cc : Int32.ofNat L - 7 < nI a ↔ (L : Int) - 7 < a := by rw [show Int32.ofNat L = nI L from rfl, nI_z, nI_z, show (7 : Int32) = iI 7 from rfl, iI_sub, iI_lt (by omega) (by omega)]
    rw [TL_law_L18]
    by_cases e : (L : Int) - 7 < a
    · rw [if_pos (cc.mpr e)]
      exact wp_some trivial
    rw [if_neg (fun y => e (cc.mp y))]
    have h0 : sI xs L (nI a) = some (xs a) := sI_0 (by omega) hL
    have h1 : sI xs L (nI a + 1) = some (xs (a + 1)) := sI_at rfl (by omega) hL
    have h2 : sI xs L (nI a + 2) = some (xs (a + 2)) := sI_at rfl (by omega) hL
    have h3 : sI xs L (nI a + 3) = some (xs (a + 3)) := sI_at rfl (by omega) hL
    have h4 : sI xs L (nI a + 4) = some (xs (a + 4)) := sI_at rfl (by omega) hL
    have h5 : sI xs L (nI a + 5) = some (xs (a + 5)) := sI_at rfl (by omega) hL
    have h6 : sI xs L (nI a + 6) = some (xs (a + 6)) := sI_at rfl (by omega) hL
    have h7 : nI a + 7 = nI (a + 7) := by rw [show (7 : Int32) = nI 7 from rfl, nI_add]
    simp only [h0, h1, h2, h3, h4, h5, h6, h7, Option.bind_some]
    have K : ∀ (s' : ST) (S' : SS), okS s' → CX S' s' → CM S' s' → WP (TL_law_L18 ct xs L n (nI (a + 7)) S') (fun _ => True) := fun s' S' hs' c1 c2 => ih (a + 7) n S' s' (by omega) (by omega) (by omega) hs' c1 c2
    by_cases c0 : (xs a &&& 63) = 0
    · obtain ⟨v, s', hs', hx, hm'⟩ := a_cell hs (xs (a + 1)) (xs (a + 2)) (xs (a + 3)) (xs (a + 4))
      rw [if_pos c0]
      exact law_OO (f := fun S' => TL_law_L18 ct xs L n (nI (a + 7)) S') cx cm hx hm' (fun S' c1 c2 => K s' S' hs' c1 c2)
    rw [if_neg c0]
    by_cases c1 : (xs a &&& 63) = 1
    · obtain ⟨v, s', hs', hx, hm'⟩ := a_drop hs
      rw [if_pos c1]
      exact law_OO (f := fun S' => TL_law_L18 ct xs L n (nI (a + 7)) S') cx cm hx hm' (fun S' c1 c2 => K s' S' hs' c1 c2)
    rw [if_neg c1]
    by_cases c2 : (xs a &&& 63) = 2
    · obtain ⟨v, s', hs', hx, hm'⟩ := a_set hs (xs (a + 1)) (xs (a + 2)) (xs (a + 3))
      rw [if_pos c2]
      exact law_OO (f := fun S' => TL_law_L18 ct xs L n (nI (a + 7)) S') cx cm hx hm' (fun S' c1 c2 => K s' S' hs' c1 c2)
    rw [if_neg c2]
    by_cases c3 : (xs a &&& 63) = 3
    · obtain ⟨v, s', hs', hx, hm'⟩ := a_heat hs (xs (a + 1)) (xs (a + 2))
      rw [if_pos c3]
      exact law_OO (f := fun S' => TL_law_L18 ct xs L n (nI (a + 7)) S') cx cm hx hm' (fun S' c1 c2 => K s' S' hs' c1 c2)
    rw [if_neg c3]
    by_cases c4 : (xs a &&& 63) = 4
    · obtain ⟨v, hx, hm'⟩ := a_of hs (xs (a + 1)) (xs (a + 2))
      rw [if_pos c4]
      exact law_PP (f := fun S' => TL_law_L18 ct xs L n (nI (a + 7)) S') cx cm hx hm' (K s S hs cx cm)
    rw [if_neg c4]
    by_cases c5 : (xs a &&& 63) = 5
    · obtain ⟨v, hx, hm'⟩ := a_taken hs (xs (a + 1)) (xs (a + 2))
      rw [if_pos c5]
      exact law_PP (f := fun S' => TL_law_L18 ct xs L n (nI (a + 7)) S') cx cm hx hm' (K s S hs cx cm)
    rw [if_neg c5]
    by_cases c6 : (xs a &&& 63) = 6
    · obtain ⟨v, hx, hm'⟩ := a_kin (s := s) (xs (a + 1))
      rw [if_pos c6]
      exact law_PP (f := fun S' => TL_law_L18 ct xs L n (nI (a + 7)) S') cx cm hx hm' (K s S hs cx cm)
    rw [if_neg c6]
    by_cases c7 : (xs a &&& 63) = 7
    · obtain ⟨v, s', hs', hx, hm'⟩ := a_end hs (xs (a + 1)) (xs (a + 2))
      rw [if_pos c7]
      exact law_OO (f := fun S' => TL_law_L18 ct xs L n (nI (a + 7)) S') cx cm hx hm' (fun S' c1 c2 => K s' S' hs' c1 c2)
    rw [if_neg c7]
    by_cases c8 : (xs a &&& 63) = 8
    · obtain ⟨v, s', hs', hx, hm'⟩ := a_rule hs (xs (a + 1)) (xs (a + 2))
      rw [if_pos c8]
      exact law_OO (f := fun S' => TL_law_L18 ct xs L n (nI (a + 7)) S') cx cm hx hm' (fun S' c1 c2 => K s' S' hs' c1 c2)
    rw [if_neg c8]
    by_cases c9 : (xs a &&& 63) = 9
    · obtain ⟨v, hx, hm'⟩ := a_t hs (xs (a + 1)) (xs (a + 2))
      rw [if_pos c9]
      exact law_PP (f := fun S' => TL_law_L18 ct xs L n (nI (a + 7)) S') cx cm hx hm' (K s S hs cx cm)
    rw [if_neg c9]
    by_cases c10 : (xs a &&& 63) = 10
    · obtain ⟨v, hx, hm'⟩ := a_line (s := s)
      rw [if_pos c10]
      exact law_PP (f := fun S' => TL_law_L18 ct xs L n (nI (a + 7)) S') cx cm hx hm' (K s S hs cx cm)
    rw [if_neg c10]
    by_cases c11 : (xs a &&& 63) = 11
    · obtain ⟨v, hx, hm'⟩ := a_joint hs (xs (a + 1))
      rw [if_pos c11]
      exact law_PP (f := fun S' => TL_law_L18 ct xs L n (nI (a + 7)) S') cx cm hx hm' (K s S hs cx cm)
    rw [if_neg c11]
    by_cases c12 : (xs a &&& 63) = 12
    · obtain ⟨v, hx, hm'⟩ := a_flow hs (xs (a + 1)) (xs (a + 2))
      rw [if_pos c12]
      exact law_PO (f := fun S' => TL_law_L18 ct xs L n (nI (a + 7)) S') cx cm hx hm' (fun S' c1 c2 => K s S' hs c1 c2)
    rw [if_neg c12]
    by_cases c13 : (xs a &&& 63) = 13
    · obtain ⟨v, hx, hm'⟩ := a_stable hs (xs (a + 1))
      rw [if_pos c13]
      exact law_PP (f := fun S' => TL_law_L18 ct xs L n (nI (a + 7)) S') cx cm hx hm' (K s S hs cx cm)
    rw [if_neg c13]
    by_cases c14 : (xs a &&& 63) = 14
    · obtain ⟨v, hx, hm'⟩ := a_need hs
      rw [if_pos c14]
      exact law_PP (f := fun S' => TL_law_L18 ct xs L n (nI (a + 7)) S') cx cm hx hm' (K s S hs cx cm)
    rw [if_neg c14]
    by_cases c15 : (xs a &&& 63) = 15
    · obtain ⟨v, hx, hm'⟩ := a_sum hs (xs (a + 1))
      rw [if_pos c15]
      exact law_PP (f := fun S' => TL_law_L18 ct xs L n (nI (a + 7)) S') cx cm hx hm' (K s S hs cx cm)
    rw [if_neg c15]
    by_cases c16 : (xs a &&& 63) = 16
    · obtain ⟨v, hx, hm'⟩ := a_most hs (xs (a + 1))
      rw [if_pos c16]
      exact law_PP (f := fun S' => TL_law_L18 ct xs L n (nI (a + 7)) S') cx cm hx hm' (K s S hs cx cm)
    rw [if_neg c16]
    by_cases c17 : (xs a &&& 63) = 17
    · obtain ⟨v, s', hs', hx, hm'⟩ := a_step hs (xs (a + 1))
      rw [if_pos c17]
      exact law_OO (f := fun S' => TL_law_L18 ct xs L n (nI (a + 7)) S') cx cm hx hm' (fun S' c1 c2 => K s' S' hs' c1 c2)
    rw [if_neg c17]
    by_cases c18 : (xs a &&& 63) = 18
    · obtain ⟨v, hx, hm'⟩ := a_then hs (xs (a + 1)) (xs (a + 2)) (xs (a + 3))
      rw [if_pos c18]
      exact law_OO (f := fun S' => TL_law_L18 ct xs L n (nI (a + 7)) S') cx cm hx hm' (fun S' c1 c2 => K s S' hs c1 c2)
    rw [if_neg c18]
    by_cases c19 : (xs a &&& 63) = 19
    · obtain ⟨v, hx, hm'⟩ := a_spent hs (xs (a + 1))
      rw [if_pos c19]
      exact law_OO (f := fun S' => TL_law_L18 ct xs L n (nI (a + 7)) S') cx cm hx hm' (fun S' c1 c2 => K s S' hs c1 c2)
    rw [if_neg c19]
    by_cases c20 : (xs a &&& 63) = 20
    · obtain ⟨v, hx, hm'⟩ := a_rises hs (xs (a + 1))
      rw [if_pos c20]
      exact law_OO (f := fun S' => TL_law_L18 ct xs L n (nI (a + 7)) S') cx cm hx hm' (fun S' c1 c2 => K s S' hs c1 c2)
    rw [if_neg c20]
    by_cases c21 : (xs a &&& 63) = 21
    · obtain ⟨v, hx, hm'⟩ := a_calm hs (xs (a + 1))
      rw [if_pos c21]
      exact law_OO (f := fun S' => TL_law_L18 ct xs L n (nI (a + 7)) S') cx cm hx hm' (fun S' c1 c2 => K s S' hs c1 c2)
    rw [if_neg c21]
    by_cases c22 : (xs a &&& 63) = 22
    · obtain ⟨v, s', hs', hx, hm'⟩ := a_pulse hs (xs (a + 1)) (xs (a + 2)) (xs (a + 3))
      rw [if_pos c22]
      exact law_OO (f := fun S' => TL_law_L18 ct xs L n (nI (a + 7)) S') cx cm hx hm' (fun S' c1 c2 => K s' S' hs' c1 c2)
    rw [if_neg c22]
    by_cases c23 : (xs a &&& 63) = 23
    · obtain ⟨v, hx, hm'⟩ := a_pulseOf hs (xs (a + 1)) (xs (a + 2))
      rw [if_pos c23]
      exact law_PP (f := fun S' => TL_law_L18 ct xs L n (nI (a + 7)) S') cx cm hx hm' (K s S hs cx cm)
    rw [if_neg c23]
    by_cases c24 : (xs a &&& 63) = 24
    · obtain ⟨v, s', hs', hx, hm'⟩ := a_hush hs (xs (a + 1))
      rw [if_pos c24]
      exact law_OO (f := fun S' => TL_law_L18 ct xs L n (nI (a + 7)) S') cx cm hx hm' (fun S' c1 c2 => K s' S' hs' c1 c2)
    rw [if_neg c24]
    by_cases c25 : (xs a &&& 63) = 25
    · obtain ⟨v, hx, hm'⟩ := a_steady hs (xs (a + 1)) (xs (a + 2))
      rw [if_pos c25]
      exact law_OO (f := fun S' => TL_law_L18 ct xs L n (nI (a + 7)) S') cx cm hx hm' (fun S' c1 c2 => K s S' hs c1 c2)
    rw [if_neg c25]
    by_cases c26 : (xs a &&& 63) = 26
    · obtain ⟨v, hx, hm'⟩ := a_steadyFlow hs (xs (a + 1)) (xs (a + 2))
      rw [if_pos c26]
      exact law_OO (f := fun S' => TL_law_L18 ct xs L n (nI (a + 7)) S') cx cm hx hm' (fun S' c1 c2 => K s S' hs c1 c2)
    rw [if_neg c26]
    by_cases c27 : (xs a &&& 63) = 27
    · obtain ⟨v, hx, hm'⟩ := a_hottest hs
      rw [if_pos c27]
      exact law_OO (f := fun S' => TL_law_L18 ct xs L n (nI (a + 7)) S') cx cm hx hm' (fun S' c1 c2 => K s S' hs c1 c2)
    rw [if_neg c27]
    by_cases c28 : (xs a &&& 63) = 28
    · obtain ⟨v, s', hs', hx, hm'⟩ := a_lay hs
      rw [if_pos c28]
      exact law_OO (f := fun S' => TL_law_L18 ct xs L n (nI (a + 7)) S') cx cm hx hm' (fun S' c1 c2 => K s' S' hs' c1 c2)
    rw [if_neg c28]
    by_cases c29 : (xs a &&& 63) = 29
    · obtain ⟨v, hx, hm'⟩ := a_isSteady hs
      rw [if_pos c29]
      exact law_PO (f := fun S' => TL_law_L18 ct xs L n (nI (a + 7)) S') cx cm hx hm' (fun S' c1 c2 => K s S' hs c1 c2)
    rw [if_neg c29]
    by_cases c30 : (xs a &&& 63) = 30
    · obtain ⟨v, hx, hm'⟩ := a_buried hs (xs (a + 1)) (xs (a + 2))
      rw [if_pos c30]
      exact law_OO (f := fun S' => TL_law_L18 ct xs L n (nI (a + 7)) S') cx cm hx hm' (fun S' c1 c2 => K s S' hs c1 c2)
    rw [if_neg c30]
    by_cases c31 : (xs a &&& 63) = 31
    · obtain ⟨v, hx, hm'⟩ := a_tells hs (xs (a + 1)) (xs (a + 2)) (xs (a + 3))
      rw [if_pos c31]
      exact law_OO (f := fun S' => TL_law_L18 ct xs L n (nI (a + 7)) S') cx cm hx hm' (fun S' c1 c2 => K s S' hs c1 c2)
    rw [if_neg c31]
    by_cases c32 : (xs a &&& 63) = 32
    · obtain ⟨v, s', hs', hx, hm'⟩ := a_film hs (xs (a + 1)) (xs (a + 2)) (xs (a + 3))
      rw [if_pos c32]
      exact law_OO (f := fun S' => TL_law_L18 ct xs L n (nI (a + 7)) S') cx cm hx hm' (fun S' c1 c2 => K s' S' hs' c1 c2)
    rw [if_neg c32]
    by_cases c33 : (xs a &&& 63) = 33
    · obtain ⟨v, hx, hm'⟩ := a_drawn hs (xs (a + 1)) (xs (a + 2))
      rw [if_pos c33]
      exact law_OO (f := fun S' => TL_law_L18 ct xs L n (nI (a + 7)) S') cx cm hx hm' (fun S' c1 c2 => K s S' hs c1 c2)
    rw [if_neg c33]
    by_cases c34 : (xs a &&& 63) = 34
    · obtain ⟨v, s', hs', hx, hm'⟩ := a_feed hs (xs (a + 1)) (xs (a + 2)) (xs (a + 3)) (xs (a + 4)) (xs (a + 5)) (xs (a + 6))
      rw [if_pos c34]
      exact law_OO (f := fun S' => TL_law_L18 ct xs L n (nI (a + 7)) S') cx cm hx hm' (fun S' c1 c2 => K s' S' hs' c1 c2)
    rw [if_neg c34]
    by_cases c35 : (xs a &&& 63) = 35
    · obtain ⟨v, s', hs', hx, hm'⟩ := a_text hs ct hct
      rw [if_pos c35]
      exact law_OO (f := fun S' => TL_law_L18 ct xs L n (nI (a + 7)) S') cx cm hx hm' (fun S' c1 c2 => K s' S' hs' c1 c2)
    rw [if_neg c35]
    by_cases c36 : (xs a &&& 63) = 36
    · obtain ⟨v, s', hs', hx, hm'⟩ := a_image hs
      rw [if_pos c36]
      exact law_OO (f := fun S' => TL_law_L18 ct xs L n (nI (a + 7)) S') cx cm hx hm' (fun S' c1 c2 => K s' S' hs' c1 c2)
    rw [if_neg c36]
    by_cases c37 : (xs a &&& 63) = 37
    · obtain ⟨v, s', hs', hx, hm'⟩ := a_back hs
      rw [if_pos c37]
      exact law_OO (f := fun S' => TL_law_L18 ct xs L n (nI (a + 7)) S') cx cm hx hm' (fun S' c1 c2 => K s' S' hs' c1 c2)
    rw [if_neg c37]
    by_cases c38 : (xs a &&& 63) = 38
    · obtain ⟨v, s', hs', hx, hm'⟩ := a_load hs (xs (a + 1)) (xs (a + 2)) (xs (a + 3)) (xs (a + 4))
      rw [if_pos c38]
      exact law_OO (f := fun S' => TL_law_L18 ct xs L n (nI (a + 7)) S') cx cm hx hm' (fun S' c1 c2 => K s' S' hs' c1 c2)
    rw [if_neg c38]
    by_cases c39 : (xs a &&& 63) = 39
    · obtain ⟨v, hx, hm'⟩ := a_count hs (xs (a + 1))
      rw [if_pos c39]
      exact law_PP (f := fun S' => TL_law_L18 ct xs L n (nI (a + 7)) S') cx cm hx hm' (K s S hs cx cm)
    rw [if_neg c39]
    by_cases c40 : (xs a &&& 63) = 40
    · obtain ⟨v, s', hs', hx, hm'⟩ := a_sheet hs (xs (a + 1)) (xs (a + 2)) (xs (a + 3))
      rw [if_pos c40]
      exact law_OO (f := fun S' => TL_law_L18 ct xs L n (nI (a + 7)) S') cx cm hx hm' (fun S' c1 c2 => K s' S' hs' c1 c2)
    rw [if_neg c40]
    by_cases c41 : (xs a &&& 63) = 41
    · obtain ⟨v, s', hs', hx, hm'⟩ := a_put hs (xs (a + 1)) (xs (a + 2)) (xs (a + 3))
      rw [if_pos c41]
      exact law_OO (f := fun S' => TL_law_L18 ct xs L n (nI (a + 7)) S') cx cm hx hm' (fun S' c1 c2 => K s' S' hs' c1 c2)
    rw [if_neg c41]
    by_cases c42 : (xs a &&& 63) = 42
    · obtain ⟨v, s', hs', hx, hm'⟩ := a_copy hs (xs (a + 1)) (xs (a + 2)) (xs (a + 3)) (xs (a + 4)) (xs (a + 5))
      rw [if_pos c42]
      exact law_OO (f := fun S' => TL_law_L18 ct xs L n (nI (a + 7)) S') cx cm hx hm' (fun S' c1 c2 => K s' S' hs' c1 c2)
    rw [if_neg c42]
    exact K s S hs cx cm
theorem TL_ok (xs : Nat → Int32) (L : Nat) (hL : L ≤ 3584) (ct : Nat → ClassId) (hct : ∀ i j : Nat, i < 8 → j < 8 → ct (100 + i) = ct (100 + j) → i = j) : ∃ r, TL_law_L18 ct xs L fu 0 S00 = some r := by
  obtain ⟨r, hr, -⟩ := TL_loop xs L hL ct hct 512 0 fu S00 s00 (by omega) (by rw [fu_eq]; omega) (by omega) ok_s00 CX_00 CM_00
  exact ⟨r, hr⟩
