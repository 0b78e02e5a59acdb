/-! Pulses: those that are kept move up. -/
abbrev P3 : Type := Nat × (Nat → Nat) × (Nat → Nat) × (Nat → Int)
def cpt (keep : Nat → Bool) (dec : Nat) (A : AB) : Nat → P3
  | 0 => (0, fun _ => 0, fun _ => 0, fun _ => 0)
  | p + 1 => if keep p then ((cpt keep dec A p).1 + 1, va_up (cpt keep dec A p).2.1 (cpt keep dec A p).1 (qK A 3 p), va_up (cpt keep dec A p).2.2.1 (cpt keep dec A p).1 (qK A 4 p - dec), va_up (cpt keep dec A p).2.2.2 (cpt keep dec A p).1 (qS A 2 p)) else cpt keep dec A p
theorem cpt_le (keep : Nat → Bool) (dec : Nat) (A : AB) : ∀ p, (cpt keep dec A p).1 ≤ p
  | 0 => Nat.le_refl _
  | p + 1 => by
    have := cpt_le keep dec A p
    unfold cpt
    split
    · show (cpt keep dec A p).1 + 1 ≤ p + 1; omega
    · omega
def rowN (f : Nat → Int32) (B : Nat → Nat) (c : Nat) : Nat → Int32 := fun q => if q < c then nI (B q) else f q
def rowI (f : Nat → Int32) (B : Nat → Int) (c : Nat) : Nat → Int32 := fun q => if q < c then iI (B q) else f q
theorem rowN_s (f : Nat → Int32) (B : Nat → Nat) (c v : Nat) : (fun q => if q = c then nI v else rowN f B c q) = rowN f (va_up B c v) (c + 1) := funext fun q => by
  unfold rowN
  by_cases h : q = c
  · subst h; rw [if_pos rfl, if_pos (by omega), va_up_self]
  · rw [if_neg h]
    by_cases h2 : q < c
    · rw [if_pos h2, if_pos (by omega), va_up_ne _ _ h]
    · rw [if_neg h2, if_neg (by omega)]
theorem rowI_s (f : Nat → Int32) (B : Nat → Int) (c : Nat) (v : Int) : (fun q => if q = c then iI v else rowI f B c q) = rowI f (va_up B c v) (c + 1) := funext fun q => by
  unfold rowI
  by_cases h : q = c
  · subst h; rw [if_pos rfl, if_pos (by omega), va_up_self]
  · rw [if_neg h]
    by_cases h2 : q < c
    · rw [if_pos h2, if_pos (by omega), va_up_ne _ _ h]
    · rw [if_neg h2, if_neg (by omega)]
/-- three rows from k on hold those of q, the rest as before -/
def pRows (F : Nat → Nat → Int32) (k : Nat) (q : P3) : Nat → Nat → Int32 := va_up (va_up (va_up F k (rowN (F k) q.2.1 q.1)) (k + 1) (rowN (F (k + 1)) q.2.2.1 q.1)) (k + 2) (rowI (F (k + 2)) q.2.2.2 q.1)
theorem pRows_0 (F : Nat → Nat → Int32) (k : Nat) (x : Nat → Nat) (y : Nat → Nat) (z : Nat → Int) : pRows F k (0, x, y, z) = F := by
  unfold pRows
  have e1 : ∀ (f : Nat → Int32) (B : Nat → Nat), rowN f B 0 = f := fun f B => funext fun q => by simp [rowN]
  have e2 : ∀ (f : Nat → Int32) (B : Nat → Int), rowI f B 0 = f := fun f B => funext fun q => by simp [rowI]
  simp only [e1, e2]
  rw [va_up_id, va_up_id, va_up_id]
theorem pRows_r0 (F : Nat → Nat → Int32) (k : Nat) (q : P3) : pRows F k q k = rowN (F k) q.2.1 q.1 := by
  unfold pRows
  rw [va_up_ne _ _ (by omega), va_up_ne _ _ (by omega), va_up_self]
theorem pRows_r1 (F : Nat → Nat → Int32) (k : Nat) (q : P3) : pRows F k q (k + 1) = rowN (F (k + 1)) q.2.2.1 q.1 := by
  unfold pRows
  rw [va_up_ne _ _ (by omega), va_up_self]
theorem pRows_r2 (F : Nat → Nat → Int32) (k : Nat) (q : P3) : pRows F k q (k + 2) = rowI (F (k + 2)) q.2.2.2 q.1 := by
  unfold pRows
  rw [va_up_self]
theorem pRows_ne (F : Nat → Nat → Int32) (k : Nat) (q : P3) {j : Nat} (h : j < k ∨ k + 2 < j) : pRows F k q j = F j := by
  unfold pRows
  rw [va_up_ne _ _ (by omega), va_up_ne _ _ (by omega), va_up_ne _ _ (by omega)]
theorem up2_pt {α : Type} (F : Nat → Nat → α) (a i : Nat) (v : α) : up2 F a i v = va_up F a (fun q => if q = i then v else F a q) := by
  have := up2_row F a i (F a) v
  rwa [va_up_id] at this
theorem va_up2 {α : Type} (F : Nat → α) (a : Nat) (x y : α) : va_up (va_up F a x) a y = va_up F a y := funext fun q => by
  by_cases h : q = a
  · subst h; rw [va_up_self, va_up_self]
  · rw [va_up_ne _ _ h, va_up_ne _ _ h, va_up_ne _ _ h]
theorem va_up_comm {α : Type} (F : Nat → α) {a b : Nat} (h : a ≠ b) (x y : α) : va_up (va_up F a x) b y = va_up (va_up F b y) a x := funext fun q => by
  by_cases h1 : q = a
  · subst h1; rw [va_up_ne _ _ h, va_up_self, va_up_self]
  · by_cases h2 : q = b
    · subst h2; rw [va_up_self, va_up_ne _ _ h1, va_up_self]
    · rw [va_up_ne _ _ h2, va_up_ne _ _ h1, va_up_ne _ _ h1, va_up_ne _ _ h2]
/-- one more -/
theorem pRows_s (F : Nat → Nat → Int32) (k : Nat) (q : P3) (v w : Nat) (z : Int) : up2 (up2 (up2 (pRows F k q) k q.1 (nI v)) (k + 1) q.1 (nI w)) (k + 2) q.1 (iI z) = pRows F k (q.1 + 1, va_up q.2.1 q.1 v, va_up q.2.2.1 q.1 w, va_up q.2.2.2 q.1 z) := by
  rw [up2_pt (pRows F k q) k, pRows_r0, rowN_s]
  rw [up2_pt _ (k + 1), va_up_ne _ _ (by omega : k + 1 ≠ k), pRows_r1, rowN_s]
  rw [up2_pt _ (k + 2), va_up_ne _ _ (by omega : k + 2 ≠ k + 1), va_up_ne _ _ (by omega : k + 2 ≠ k), pRows_r2, rowI_s]
  unfold pRows
  rw [va_up_comm (va_up (va_up F k _) (k + 1) _) (by omega : k + 2 ≠ k), va_up_comm (va_up F k _) (by omega : k + 1 ≠ k), va_up2]
  rw [va_up_comm (va_up (va_up F k _) (k + 1) _) (by omega : k + 2 ≠ k + 1), va_up2, va_up2]
/-- the class's pulses at p -/
def pSet (S : SS) (p : Nat) (q : P3) : SS := (up2 S.1 p 3 (nI q.1), S.2.1, pRows S.2.2.1 (p + 1) q, S.2.2.2)
theorem up2_up2 {α : Type} (F : Nat → Nat → α) (a i : Nat) (v w : α) : up2 (up2 F a i v) a i w = up2 F a i w := funext fun x => funext fun y => by
  by_cases h : x = a ∧ y = i
  · simp [up2, h]
  · simp [up2, h]
theorem x_append {S : SS} {p : Nat} {q : P3} (hq : q.1 < 12) (v w : Nat) (z : Int) : TX2_append p (nI v) (nI w) (iI z) (pSet S p q) = some (nI (q.1 + 1), pSet S p (q.1 + 1, va_up q.2.1 q.1 v, va_up q.2.2.1 q.1 w, va_up q.2.2.2 q.1 z)) := by
  have e : (pSet S p q).1 p 3 = nI q.1 := by simp [pSet, up2]
  have e9 : up2 (pSet S p q).1 p 3 (nI (q.1 + 1)) = up2 S.1 p 3 (nI (q.1 + 1)) := up2_up2 ..
  have h12 : nI q.1 < (12 : Int32) := nI_lt (b := 12) hq (by decide)
  unfold TX2_append
  rw [e, if_pos h12, if_pos (iI_in hq (by decide))]
  dsimp only [letS]
  rw [e, if_pos (iI_in hq (by decide)), if_pos (iI_in hq (by decide)), nI_1, iI_nat q.1 (by omega)]
  refine congrArg some (Prod.ext ?_ ?_)
  · show up2 (pSet S p q).1 p 3 (nI (q.1 + 1)) p 3 = nI (q.1 + 1)
    simp [up2]
  · show (up2 (pSet S p q).1 p 3 (nI (q.1 + 1)), S.2.1, up2 (up2 (up2 (pRows S.2.2.1 (p + 1) q) (p + 1) q.1 (nI v)) (p + 2) q.1 (nI w)) (p + 3) q.1 (iI z), S.2.2.2) = _
    rw [e9, pRows_s]
    rfl
/-- what the class's pulses at p hold, of A -/
def PC (S : SS) (k : Nat) (A : AB) : Prop := ∀ r, r < qP A → S.2.2.1 k r = nI (qK A 3 r) ∧ S.2.2.1 (k + 1) r = nI (qK A 4 r) ∧ S.2.2.1 (k + 2) r = iI (qS A 2 r)
theorem pRows_hi {F : Nat → Nat → Int32} {k r : Nat} {q : P3} (h : q.1 ≤ r) : pRows F k q k r = F k r ∧ pRows F k q (k + 1) r = F (k + 1) r ∧ pRows F k q (k + 2) r = F (k + 2) r := by
  rw [pRows_r0, pRows_r1, pRows_r2]
  unfold rowN rowI
  rw [if_neg (by omega), if_neg (by omega), if_neg (by omega)]
  exact ⟨rfl, rfl, rfl⟩
/-- pulses of a cell are none any more -/
theorem x_removeL {S : SS} {p : Nat} {A : AB} (hC : PC S (p + 1) A) (h12 : qP A ≤ 12) (hK : ∀ r, r < qP A → qK A 3 r < 8) {x : Nat} (hx : x < 8) : ∀ (m r n : Nat), r + m = qP A → m + 1 ≤ n →
    TX2_removeOf_L12 p n (nI x) (nI (qP A)) (nI r) (pSet S p (cpt (fun i => !(qK A 3 i == x)) 0 A r)) = some (nI (qP A) - nI (cpt (fun i => !(qK A 3 i == x)) 0 A (qP A)).1, pSet S p (cpt (fun i => !(qK A 3 i == x)) 0 A (qP A))) := by
  intro m
  induction m with
  | zero =>
    intro r n hr hn
    obtain ⟨n, rfl⟩ : ∃ q, n = q + 1 := ⟨n - 1, by omega⟩
    unfold TX2_removeOf_L12
    rw [if_pos (by rw [nI_cmp (by omega) (by omega)]; omega), show r = qP A by omega]
    have e : (pSet S p (cpt (fun i => !(qK A 3 i == x)) 0 A (qP A))).1 p 3 = nI (cpt (fun i => !(qK A 3 i == x)) 0 A (qP A)).1 := by simp [pSet, up2]
    rw [e]
  | succ m ih =>
    intro r n hr hn
    obtain ⟨n, rfl⟩ : ∃ q, n = q + 1 := ⟨n - 1, by omega⟩
    have hle := cpt_le (fun i => !(qK A 3 i == x)) 0 A r
    obtain ⟨h1, h2, h3⟩ := pRows_hi (F := S.2.2.1) (k := p + 1) (q := cpt (fun i => !(qK A 3 i == x)) 0 A r) hle
    obtain ⟨g1, g2, g3⟩ := hC r (by omega)
    unfold TX2_removeOf_L12
    have a1 : aget 12 ((pSet S p (cpt (fun i => !(qK A 3 i == x)) 0 A r)).2.2.1 (p + 1)) (nI r) = some (nI (qK A 3 r)) := by rw [aget_n (by omega) (by decide)]; exact congrArg some (h1.trans g1)
    have a2 : aget 12 ((pSet S p (cpt (fun i => !(qK A 3 i == x)) 0 A r)).2.2.1 (p + 2)) (nI r) = some (nI (qK A 4 r)) := by rw [aget_n (by omega) (by decide)]; exact congrArg some (h2.trans g2)
    have a3 : aget 12 ((pSet S p (cpt (fun i => !(qK A 3 i == x)) 0 A r)).2.2.1 (p + 3)) (nI r) = some (iI (qS A 2 r)) := by rw [aget_n (by omega) (by decide)]; exact congrArg some (h3.trans g3)
    have hk := hK r (by omega)
    rw [if_neg (by rw [nI_cmp (by omega) (by omega)]; omega), a1, Option.bind_some]
    by_cases e : qK A 3 r = x
    · rw [if_pos (by rw [e]), nI_1]
      have ih' := ih (r + 1) n (by omega) (by omega)
      rw [show cpt (fun i => !(qK A 3 i == x)) 0 A (r + 1) = cpt (fun i => !(qK A 3 i == x)) 0 A r by rw [cpt, if_neg (by simp [e])]] at ih'
      exact ih'
    · rw [if_neg (by rw [nI_eq (by omega) (by omega)]; exact e), Option.bind_some, a2, Option.bind_some, a3, Option.bind_some, x_append (by omega), Option.bind_some, nI_1]
      have ih' := ih (r + 1) n (by omega) (by omega)
      rw [show cpt (fun i => !(qK A 3 i == x)) 0 A (r + 1) = ((cpt (fun i => !(qK A 3 i == x)) 0 A r).1 + 1, va_up (cpt (fun i => !(qK A 3 i == x)) 0 A r).2.1 (cpt (fun i => !(qK A 3 i == x)) 0 A r).1 (qK A 3 r), va_up (cpt (fun i => !(qK A 3 i == x)) 0 A r).2.2.1 (cpt (fun i => !(qK A 3 i == x)) 0 A r).1 (qK A 4 r), va_up (cpt (fun i => !(qK A 3 i == x)) 0 A r).2.2.2 (cpt (fun i => !(qK A 3 i == x)) 0 A r).1 (qS A 2 r)) by rw [cpt, if_pos (by simp [e])]; rfl] at ih'
      exact ih'
/-- a step passes -/
theorem x_passL {S : SS} {p : Nat} {A : AB} (hC : PC S (p + 1) A) (h12 : qP A ≤ 12) (hK : ∀ r, r < qP A → 1 ≤ qK A 4 r ∧ qK A 4 r ≤ 20) : ∀ (m r n : Nat), r + m = qP A → m + 1 ≤ n →
    TX2_passOne_L12 p n (nI (qP A)) (nI r) (pSet S p (cpt (fun i => decide (1 < qK A 4 i)) 1 A r)) = some (pSet S p (cpt (fun i => decide (1 < qK A 4 i)) 1 A (qP A))) := by
  intro m
  induction m with
  | zero =>
    intro r n hr hn
    obtain ⟨n, rfl⟩ : ∃ q, n = q + 1 := ⟨n - 1, by omega⟩
    unfold TX2_passOne_L12
    rw [if_pos (by rw [nI_cmp (by omega) (by omega)]; omega), show r = qP A by omega]
  | succ m ih =>
    intro r n hr hn
    obtain ⟨n, rfl⟩ : ∃ q, n = q + 1 := ⟨n - 1, by omega⟩
    have hle := cpt_le (fun i => decide (1 < qK A 4 i)) 1 A r
    obtain ⟨h1, h2, h3⟩ := pRows_hi (F := S.2.2.1) (k := p + 1) (q := cpt (fun i => decide (1 < qK A 4 i)) 1 A r) hle
    obtain ⟨g1, g2, g3⟩ := hC r (by omega)
    unfold TX2_passOne_L12
    have a1 : aget 12 ((pSet S p (cpt (fun i => decide (1 < qK A 4 i)) 1 A r)).2.2.1 (p + 1)) (nI r) = some (nI (qK A 3 r)) := by rw [aget_n (by omega) (by decide)]; exact congrArg some (h1.trans g1)
    have a2 : aget 12 ((pSet S p (cpt (fun i => decide (1 < qK A 4 i)) 1 A r)).2.2.1 (p + 2)) (nI r) = some (nI (qK A 4 r)) := by rw [aget_n (by omega) (by decide)]; exact congrArg some (h2.trans g2)
    have a3 : aget 12 ((pSet S p (cpt (fun i => decide (1 < qK A 4 i)) 1 A r)).2.2.1 (p + 3)) (nI r) = some (iI (qS A 2 r)) := by rw [aget_n (by omega) (by decide)]; exact congrArg some (h3.trans g3)
    have hk := hK r (by omega)
    rw [if_neg (by rw [nI_cmp (by omega) (by omega)]; omega), a2, Option.bind_some]
    have c1 : nI (qK A 4 r) ≤ 1 ↔ qK A 4 r ≤ 1 := by rw [show (1 : Int32) = nI 1 from rfl, nI_cmp (by omega) (by omega)]
    by_cases e : qK A 4 r ≤ 1
    · rw [if_pos (c1.mpr e), nI_1]
      have ih' := ih (r + 1) n (by omega) (by omega)
      rw [show cpt (fun i => decide (1 < qK A 4 i)) 1 A (r + 1) = cpt (fun i => decide (1 < qK A 4 i)) 1 A r by rw [cpt, if_neg (by simp; omega)]] at ih'
      exact ih'
    · rw [if_neg (fun q => e (c1.mp q)), a1, Option.bind_some, Option.bind_some, a3, Option.bind_some, show nI (qK A 4 r) - 1 = nI (qK A 4 r - 1) by rw [show (1 : Int32) = nI 1 from rfl, pk_sub (by omega)], x_append (by omega), Option.bind_some, nI_1]
      have ih' := ih (r + 1) n (by omega) (by omega)
      rw [show cpt (fun i => decide (1 < qK A 4 i)) 1 A (r + 1) = ((cpt (fun i => decide (1 < qK A 4 i)) 1 A r).1 + 1, va_up (cpt (fun i => decide (1 < qK A 4 i)) 1 A r).2.1 (cpt (fun i => decide (1 < qK A 4 i)) 1 A r).1 (qK A 3 r), va_up (cpt (fun i => decide (1 < qK A 4 i)) 1 A r).2.2.1 (cpt (fun i => decide (1 < qK A 4 i)) 1 A r).1 (qK A 4 r - 1), va_up (cpt (fun i => decide (1 < qK A 4 i)) 1 A r).2.2.2 (cpt (fun i => decide (1 < qK A 4 i)) 1 A r).1 (qS A 2 r)) by rw [cpt, if_pos (by simp; omega)]] at ih'
      exact ih'
theorem pSet_0 (S : SS) (p : Nat) (k : Nat → Bool) (d : Nat) (A : AB) : pSet S p (cpt k d A 0) = sFI S p 3 0 := by
  show (up2 S.1 p 3 (nI 0), S.2.1, pRows S.2.2.1 (p + 1) (0, _, _, _), S.2.2.2) = _
  rw [pRows_0]
  rfl
/-- A with other pulses -/
def setP (A : AB) (q : P3) : AB := ((qN A, q.1, qL A, qF A, qA A), A.2.1, fun j i => if j = 3 then q.2.1 i else if j = 4 then q.2.2.1 i else qK A j i, fun j i => if j = 2 then q.2.2.2 i else qS A j i)
/-- those of cell x go -/
def hushP (A : AB) (x : Nat) : P3 := cpt (fun i => !(qK A 3 i == x)) 0 A (qP A)
def passP (A : AB) : P3 := cpt (fun i => decide (1 < qK A 4 i)) 1 A (qP A)
theorem x_removeOf {S : SS} {p : Nat} {A : AB} (hN : S.1 p 3 = nI (qP A)) (hC : PC S (p + 1) A) (h12 : qP A ≤ 12) (hK : ∀ r, r < qP A → qK A 3 r < 8) {x : Nat} (hx : x < 8) : TX2_removeOf p (nI x) S = some (nI (qP A - (hushP A x).1), pSet S p (hushP A x)) := by
  have hf : fu = 4096 := rfl
  have h := x_removeL hC h12 hK hx (qP A) 0 fu (by omega) (by rw [hf]; omega)
  rw [pSet_0] at h
  unfold TX2_removeOf letS
  rw [hN]
  refine h.trans ?_
  rw [pk_sub (cpt_le _ _ _ _)]
  rfl
theorem x_passOne {S : SS} {p : Nat} {A : AB} (hN : S.1 p 3 = nI (qP A)) (hC : PC S (p + 1) A) (h12 : qP A ≤ 12) (hK : ∀ r, r < qP A → 1 ≤ qK A 4 r ∧ qK A 4 r ≤ 20) : TX2_passOne p S = some (pSet S p (passP A)) := by
  have hf : fu = 4096 := rfl
  have h := x_passL hC h12 hK (qP A) 0 fu (by omega) (by rw [hf]; omega)
  rw [pSet_0] at h
  unfold TX2_passOne letS
  rw [hN]
  exact h
