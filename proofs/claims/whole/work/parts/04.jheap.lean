/-! The heap's own instructions, returns and calls. -/
theorem jw_at {G : JG} {x : Hs} {H : Heap} (h : jw G x H) {a : Nat} {e : va_E} (he : x.1 a = e) (hd : e ≠ dum) : G.2.2.2.size ≤ a ∧ va_at G.2.1 vwCl (a, e) H := by
  rcases h.2.2.2.1 a with q | q
  · exact absurd (he.symm.trans q) hd
  · rw [he] at q; exact q
theorem dum_l {z : ClassId × vp_A} : (.inl z : va_E) ≠ dum := fun h => by cases h
theorem dum_r {c : Nat} {fs : List Value} (h : c ≠ 999) : (.inr (c, fs) : va_E) ≠ dum := fun q => h (by cases q; rfl)
theorem va_P1 {D : va_G} {cl : List vw_C} {q : Nat × va_E} {H : Heap} (h : va_at D cl q H) : va_P D cl [q] H := fun k z hz => by
  have h0 : k < 1 := (List.getElem?_eq_some_iff.mp hz).1
  rw [show k = 0 by omega] at hz
  cases hz
  exact h
theorem jw_upd {G : JG} {x : Hs} {H H1 : Heap} (h : jw G x H) {a : Nat} {e : va_E} (ha : G.2.2.2.size ≤ a) (hz : H1.size = H.size) (ho : ∀ q : Nat, q ≠ a → H1[q]? = H[q]?) (he : va_at G.2.1 vwCl (a, e) H1) : jw G (va_up x.1 a e, x.2) H1 := by
  refine ⟨hz.trans h.1, h.2.1, h.2.2.1, fun b => ?_, fun q hq => ?_⟩
  · by_cases hb : b = a
    · subst hb
      right
      show _ ∧ va_at G.2.1 vwCl (b, va_up x.1 b e b) H1
      rw [va_up_self]
      exact ⟨ha, he⟩
    · show va_up x.1 a e b = dum ∨ _ ∧ va_at G.2.1 vwCl (b, va_up x.1 a e b) H1
      rw [va_up_ne _ _ hb]
      rcases h.2.2.2.1 b with z | z
      · exact Or.inl z
      · exact Or.inr ⟨z.1, z.2.kept (ho b hb)⟩
  · rw [ho q (by omega)]
    exact h.2.2.2.2 q hq
theorem jw_new {G : JG} {x : Hs} {H H1 : Heap} (h : jw G x H) {e : va_E} (hz : H1.size = x.2.1 + 1) (ho : ∀ q : Nat, q < x.2.1 → H1[q]? = H[q]?) (he : va_at G.2.1 vwCl (x.2.1, e) H1) : jw G (va_up x.1 x.2.1 e, x.2.1 + 1, x.2.2) H1 := by
  refine ⟨hz, Nat.le_succ_of_le h.2.1, h.2.2.1, fun b => ?_, fun q hq => ?_⟩
  · by_cases hb : b = x.2.1
    · subst hb
      right
      show _ ∧ va_at G.2.1 vwCl (x.2.1, va_up x.1 x.2.1 e x.2.1) H1
      rw [va_up_self]
      exact ⟨h.2.1, he⟩
    · show va_up x.1 x.2.1 e b = dum ∨ _ ∧ va_at G.2.1 vwCl (b, va_up x.1 x.2.1 e b) H1
      rw [va_up_ne _ _ hb]
      rcases h.2.2.2.1 b with z | z
      · exact Or.inl z
      · have hl := z.2.lt
        exact Or.inr ⟨z.1, z.2.kept (ho b (by rw [← h.1]; exact hl))⟩
  · have := h.2.1
    rw [ho q (by omega)]
    exact h.2.2.2.2 q hq
/-! reads and writes as pure functions -/
abbrev jin (i : Int32) (n : Nat) : Prop := ¬ (i < 0 ∨ n ≤ i.toNatClampNeg)
def gI (x : Hs) (ci a j : Nat) : Option Int32 := match x.1 a with
  | .inr (c, fs) => if c = ci then (match fs[j]? with | some (.int v) => some v | _ => none) else none
  | _ => none
def gL (x : Hs) (ci a j : Nat) : Option Int64 := match x.1 a with
  | .inr (c, fs) => if c = ci then (match fs[j]? with | some (.long v) => some v | _ => none) else none
  | _ => none
def gR (x : Hs) (ci a j : Nat) : Option Nat := match x.1 a with
  | .inr (c, fs) => if c = ci then (match fs[j]? with | some (.ref v) => some v | _ => none) else none
  | _ => none
def pV (x : Hs) (ci a j : Nat) (v : Value) : Option Hs := match x.1 a with
  | .inr (c, fs) => if c = ci ∧ j < fs.length then some (va_up x.1 a (.inr (ci, fs.set j v)), x.2) else none
  | _ => none
def aI (x : Hs) (a : Nat) (i : Int32) : Option Int32 := match x.1 a with
  | .inl (c, n, .inl f) => if c = x.2.2 0 ∧ jin i n then some (f i.toNatClampNeg) else none
  | _ => none
def aC (x : Hs) (a : Nat) (i : Int32) : Option Int32 := match x.1 a with
  | .inl (c, n, .inl f) => if c = x.2.2 2 ∧ jin i n then some (f i.toNatClampNeg) else none
  | _ => none
def aL (x : Hs) (a : Nat) (i : Int32) : Option Int64 := match x.1 a with
  | .inl (c, n, .inr (.inl f)) => if c = x.2.2 1 ∧ jin i n then some (f i.toNatClampNeg) else none
  | _ => none
def aR (x : Hs) (a : Nat) (i : Int32) : Option Nat := match x.1 a with
  | .inl (c, n, .inr (.inr (.inr (.inr f)))) => if c = x.2.2 3 ∧ jin i n then f i.toNatClampNeg else none
  | _ => none
def wI (x : Hs) (a : Nat) (i v : Int32) : Option Hs := match x.1 a with
  | .inl (c, n, .inl f) => if c = x.2.2 0 ∧ jin i n then some (va_up x.1 a (.inl (c, n, .inl (upd f i.toNatClampNeg v))), x.2) else none
  | _ => none
def wC (x : Hs) (a : Nat) (i v : Int32) : Option Hs := match x.1 a with
  | .inl (c, n, .inl f) => if c = x.2.2 2 ∧ jin i n then some (va_up x.1 a (.inl (c, n, .inl (upd f i.toNatClampNeg (vp_nar .char v)))), x.2) else none
  | _ => none
def wL (x : Hs) (a : Nat) (i : Int32) (v : Int64) : Option Hs := match x.1 a with
  | .inl (c, n, .inr (.inl f)) => if c = x.2.2 1 ∧ jin i n then some (va_up x.1 a (.inl (c, n, .inr (.inl (vp_updL f i.toNatClampNeg v)))), x.2) else none
  | _ => none
def aN (x : Hs) (a : Nat) : Option Int32 := match x.1 a with
  | .inl (c, z) => if c = x.2.2 0 then some (Int32.ofNat z.1) else none
  | _ => none
def aM (x : Hs) (a : Nat) : Option Int32 := match x.1 a with
  | .inl (c, z) => if c = x.2.2 1 then some (Int32.ofNat z.1) else none
  | _ => none
def cpI (x : Hs) (a0 : Nat) (sp : Int32) (a : Nat) (dp n : Int32) : Option Hs := match x.1 a0, x.1 a with
  | .inl (c0, n0, .inl f), .inl (c1, n1, .inl g) => if c0 = x.2.2 0 ∧ c1 = x.2.2 0 ∧ ¬ sp < 0 ∧ ¬ dp < 0 ∧ ¬ n < 0 ∧ sp.toNatClampNeg + n.toNatClampNeg ≤ n0 ∧ dp.toNatClampNeg + n.toNatClampNeg ≤ n1 then some (va_up x.1 a (.inl (c1, n1, .inl (va_cpy f g sp.toNatClampNeg dp.toNatClampNeg n.toNatClampNeg))), x.2) else none
  | _, _ => none
def cpL (x : Hs) (a0 : Nat) (sp : Int32) (a : Nat) (dp n : Int32) : Option Hs := match x.1 a0, x.1 a with
  | .inl (c0, n0, .inr (.inl f)), .inl (c1, n1, .inr (.inl g)) => if c0 = x.2.2 1 ∧ c1 = x.2.2 1 ∧ ¬ sp < 0 ∧ ¬ dp < 0 ∧ ¬ n < 0 ∧ sp.toNatClampNeg + n.toNatClampNeg ≤ n0 ∧ dp.toNatClampNeg + n.toNatClampNeg ≤ n1 then some (va_up x.1 a (.inl (c1, n1, .inr (.inl (va_cpy f g sp.toNatClampNeg dp.toNatClampNeg n.toNatClampNeg)))), x.2) else none
  | _, _ => none
def zb (v : Int32) : Option Int32 := if v = 0 ∨ v = 1 then some v else none
theorem gI_some {x : Hs} {ci a j : Nat} {v : Int32} (h : gI x ci a j = some v) : ∃ fs : List Value, x.1 a = .inr (ci, fs) ∧ fs[j]? = some (.int v) := by
  unfold gI at h
  split at h
  · rename_i c fs he
    by_cases hc : c = ci
    · rw [if_pos hc] at h
      split at h
      · rename_i v' hv
        cases h
        exact ⟨fs, by rw [he, hc], hv⟩
      · cases h
    · rw [if_neg hc] at h; cases h
  · cases h
theorem gL_some {x : Hs} {ci a j : Nat} {v : Int64} (h : gL x ci a j = some v) : ∃ fs : List Value, x.1 a = .inr (ci, fs) ∧ fs[j]? = some (.long v) := by
  unfold gL at h
  split at h
  · rename_i c fs he
    by_cases hc : c = ci
    · rw [if_pos hc] at h
      split at h
      · rename_i v' hv
        cases h
        exact ⟨fs, by rw [he, hc], hv⟩
      · cases h
    · rw [if_neg hc] at h; cases h
  · cases h
theorem gR_some {x : Hs} {ci a j : Nat} {v : Nat} (h : gR x ci a j = some v) : ∃ fs : List Value, x.1 a = .inr (ci, fs) ∧ fs[j]? = some (.ref v) := by
  unfold gR at h
  split at h
  · rename_i c fs he
    by_cases hc : c = ci
    · rw [if_pos hc] at h
      split at h
      · rename_i v' hv
        cases h
        exact ⟨fs, by rw [he, hc], hv⟩
      · cases h
    · rw [if_neg hc] at h; cases h
  · cases h
theorem pV_some {x y : Hs} {ci a j : Nat} {v : Value} (h : pV x ci a j v = some y) : ∃ fs : List Value, x.1 a = .inr (ci, fs) ∧ j < fs.length ∧ y = (va_up x.1 a (.inr (ci, fs.set j v)), x.2) := by
  unfold pV at h
  split at h
  · rename_i c fs he
    by_cases hc : c = ci ∧ j < fs.length
    · rw [if_pos hc] at h
      cases h
      exact ⟨fs, by rw [he, hc.1], hc.2, rfl⟩
    · rw [if_neg hc] at h; cases h
  · cases h
theorem aI_some {x : Hs} {a : Nat} {i : Int32} {v : Int32} (h : aI x a i = some v) : ∃ (n : Nat) (f : Nat → Int32), x.1 a = .inl (x.2.2 0, n, .inl f) ∧ jin i n ∧ f i.toNatClampNeg = v := by
  unfold aI at h
  split at h
  · rename_i c n f he
    by_cases hc : c = x.2.2 0 ∧ jin i n
    · rw [if_pos hc] at h
      cases h
      exact ⟨n, f, by rw [he, hc.1], hc.2, rfl⟩
    · rw [if_neg hc] at h; cases h
  · cases h
theorem aC_some {x : Hs} {a : Nat} {i : Int32} {v : Int32} (h : aC x a i = some v) : ∃ (n : Nat) (f : Nat → Int32), x.1 a = .inl (x.2.2 2, n, .inl f) ∧ jin i n ∧ f i.toNatClampNeg = v := by
  unfold aC at h
  split at h
  · rename_i c n f he
    by_cases hc : c = x.2.2 2 ∧ jin i n
    · rw [if_pos hc] at h
      cases h
      exact ⟨n, f, by rw [he, hc.1], hc.2, rfl⟩
    · rw [if_neg hc] at h; cases h
  · cases h
theorem aL_some {x : Hs} {a : Nat} {i : Int32} {v : Int64} (h : aL x a i = some v) : ∃ (n : Nat) (f : Nat → Int64), x.1 a = .inl (x.2.2 1, n, .inr (.inl f)) ∧ jin i n ∧ f i.toNatClampNeg = v := by
  unfold aL at h
  split at h
  · rename_i c n f he
    by_cases hc : c = x.2.2 1 ∧ jin i n
    · rw [if_pos hc] at h
      cases h
      exact ⟨n, f, by rw [he, hc.1], hc.2, rfl⟩
    · rw [if_neg hc] at h; cases h
  · cases h
theorem aR_some {x : Hs} {a : Nat} {i : Int32} {v : Nat} (h : aR x a i = some v) : ∃ (n : Nat) (f : Nat → Option Nat), x.1 a = .inl (x.2.2 3, n, .inr (.inr (.inr (.inr f)))) ∧ jin i n ∧ f i.toNatClampNeg = some v := by
  unfold aR at h
  split at h
  · rename_i c n f he
    by_cases hc : c = x.2.2 3 ∧ jin i n
    · rw [if_pos hc] at h
      exact ⟨n, f, by rw [he, hc.1], hc.2, h⟩
    · rw [if_neg hc] at h; cases h
  · cases h
theorem wI_some {x y : Hs} {a : Nat} {i : Int32} {v : Int32} (h : wI x a i v = some y) : ∃ (n : Nat) (f : Nat → Int32), x.1 a = .inl (x.2.2 0, n, .inl f) ∧ jin i n ∧ y = (va_up x.1 a (.inl (x.2.2 0, n, .inl (upd f i.toNatClampNeg v))), x.2) := by
  unfold wI at h
  split at h
  · rename_i c n f he
    by_cases hc : c = x.2.2 0 ∧ jin i n
    · rw [if_pos hc] at h
      cases h
      exact ⟨n, f, by rw [he, hc.1], hc.2, by rw [hc.1]⟩
    · rw [if_neg hc] at h; cases h
  · cases h
theorem wC_some {x y : Hs} {a : Nat} {i : Int32} {v : Int32} (h : wC x a i v = some y) : ∃ (n : Nat) (f : Nat → Int32), x.1 a = .inl (x.2.2 2, n, .inl f) ∧ jin i n ∧ y = (va_up x.1 a (.inl (x.2.2 2, n, .inl (upd f i.toNatClampNeg (vp_nar .char v)))), x.2) := by
  unfold wC at h
  split at h
  · rename_i c n f he
    by_cases hc : c = x.2.2 2 ∧ jin i n
    · rw [if_pos hc] at h
      cases h
      exact ⟨n, f, by rw [he, hc.1], hc.2, by rw [hc.1]⟩
    · rw [if_neg hc] at h; cases h
  · cases h
theorem wL_some {x y : Hs} {a : Nat} {i : Int32} {v : Int64} (h : wL x a i v = some y) : ∃ (n : Nat) (f : Nat → Int64), x.1 a = .inl (x.2.2 1, n, .inr (.inl f)) ∧ jin i n ∧ y = (va_up x.1 a (.inl (x.2.2 1, n, .inr (.inl (vp_updL f i.toNatClampNeg v)))), x.2) := by
  unfold wL at h
  split at h
  · rename_i c n f he
    by_cases hc : c = x.2.2 1 ∧ jin i n
    · rw [if_pos hc] at h
      cases h
      exact ⟨n, f, by rw [he, hc.1], hc.2, by rw [hc.1]⟩
    · rw [if_neg hc] at h; cases h
  · cases h
theorem cpI_some {x y : Hs} {a0 a : Nat} {sp dp n : Int32} (h : cpI x a0 sp a dp n = some y) : ∃ (n0 n1 : Nat) (f g : Nat → Int32), x.1 a0 = .inl (x.2.2 0, n0, .inl f) ∧ x.1 a = .inl (x.2.2 0, n1, .inl g) ∧ (¬ sp < 0 ∧ ¬ dp < 0 ∧ ¬ n < 0 ∧ sp.toNatClampNeg + n.toNatClampNeg ≤ n0 ∧ dp.toNatClampNeg + n.toNatClampNeg ≤ n1) ∧ y = (va_up x.1 a (.inl (x.2.2 0, n1, .inl (va_cpy f g sp.toNatClampNeg dp.toNatClampNeg n.toNatClampNeg))), x.2) := by
  unfold cpI at h
  split at h
  · rename_i c0 n0 f c1 n1 g he0 he1
    by_cases hc : c0 = x.2.2 0 ∧ c1 = x.2.2 0 ∧ ¬ sp < 0 ∧ ¬ dp < 0 ∧ ¬ n < 0 ∧ sp.toNatClampNeg + n.toNatClampNeg ≤ n0 ∧ dp.toNatClampNeg + n.toNatClampNeg ≤ n1
    · rw [if_pos hc] at h
      cases h
      exact ⟨n0, n1, f, g, by rw [he0, hc.1], by rw [he1, hc.2.1], hc.2.2, by rw [hc.2.1]⟩
    · rw [if_neg hc] at h; cases h
  · cases h
theorem cpL_some {x y : Hs} {a0 a : Nat} {sp dp n : Int32} (h : cpL x a0 sp a dp n = some y) : ∃ (n0 n1 : Nat) (f g : Nat → Int64), x.1 a0 = .inl (x.2.2 1, n0, .inr (.inl f)) ∧ x.1 a = .inl (x.2.2 1, n1, .inr (.inl g)) ∧ (¬ sp < 0 ∧ ¬ dp < 0 ∧ ¬ n < 0 ∧ sp.toNatClampNeg + n.toNatClampNeg ≤ n0 ∧ dp.toNatClampNeg + n.toNatClampNeg ≤ n1) ∧ y = (va_up x.1 a (.inl (x.2.2 1, n1, .inr (.inl (va_cpy f g sp.toNatClampNeg dp.toNatClampNeg n.toNatClampNeg)))), x.2) := by
  unfold cpL at h
  split at h
  · rename_i c0 n0 f c1 n1 g he0 he1
    by_cases hc : c0 = x.2.2 1 ∧ c1 = x.2.2 1 ∧ ¬ sp < 0 ∧ ¬ dp < 0 ∧ ¬ n < 0 ∧ sp.toNatClampNeg + n.toNatClampNeg ≤ n0 ∧ dp.toNatClampNeg + n.toNatClampNeg ≤ n1
    · rw [if_pos hc] at h
      cases h
      exact ⟨n0, n1, f, g, by rw [he0, hc.1], by rw [he1, hc.2.1], hc.2.2, by rw [hc.2.1]⟩
    · rw [if_neg hc] at h; cases h
  · cases h
theorem aN_some {x : Hs} {a : Nat} {v : Int32} (h : aN x a = some v) : ∃ z : vp_A, x.1 a = .inl (x.2.2 0, z) ∧ Int32.ofNat z.1 = v := by
  unfold aN at h
  split at h
  · rename_i c z he
    by_cases hc : c = x.2.2 0
    · rw [if_pos hc] at h
      cases h
      exact ⟨z, by rw [he, hc], rfl⟩
    · rw [if_neg hc] at h; cases h
  · cases h
theorem aM_some {x : Hs} {a : Nat} {v : Int32} (h : aM x a = some v) : ∃ z : vp_A, x.1 a = .inl (x.2.2 1, z) ∧ Int32.ofNat z.1 = v := by
  unfold aM at h
  split at h
  · rename_i c z he
    by_cases hc : c = x.2.2 1
    · rw [if_pos hc] at h
      cases h
      exact ⟨z, by rw [he, hc], rfl⟩
    · rw [if_neg hc] at h; cases h
  · cases h
/-- what is known of a class of the table -/
def jcl (ci : Nat) (C : String) (T : u_T) (N : Nat) (ty : Nat → FieldType) : Prop := vwCl[ci]? = some (C, T, N) ∧ ci ≠ 999 ∧ (∀ w ∈ u_ws C T N, w ∈ jt) ∧ (∀ k, k < N → parseFieldDescriptor (T k).2.2.1 = some (ty k)) ∧ ∀ a, a < N → ∀ b, b < N → a ≠ b → (T a).2.1 ≠ (T b).2.1
/-- a field's link, by its class -/
def jf (own : String) (i ci j : Nat) (fty : FieldType) (fin : Bool) : Prop := ∃ (C : String) (T : u_T) (N : Nat) (ty : Nat → FieldType), jcl ci C T N ty ∧ j < N ∧ Cond.fieldLink own i (T j).1 (T j).2.1 (T j).2.2.1 ∈ jt ∧ ty j = fty ∧ (T j).2.2.2 = fin ∧ (T j).1 = C
section JH
variable {G : JG} {own : String} {cc : ByteArray} {nL : Nat} {Z : JZ} {ρ : Type} {E : ρ → JR} {pc pc' : Nat} {lv : List (Nat × Value)} {st : List Value} {x : Hs} {k n : Nat} {t : Option ρ}
theorem j_gI (pc' : Nat) {a i ci j : Nat} {fty : FieldType} {fin : Bool} {kk : Int32 → Option ρ} (f : jf own i ci j fty fin) (d : decode cc pc = .ok (.getfield i, 3)) (hp : pc + 3 = pc') (h : ∀ v, JM G own cc nL Z E pc' lv (.int v :: st) x k n (kk v)) : JM G own cc nL Z E pc lv (.ref a :: st) x k n ((gI x ci a j).bind kk) := by
  subst hp
  intro r hr p e s m args below meth c hE H locs ls hw hS hl
  obtain ⟨hx, hb, hml, hrt, ho, hts, hlk, hK, hN, hz, hnm, hX⟩ := id hE
  obtain ⟨v, hv, hr⟩ := Option.bind_eq_some_iff.mp hr
  obtain ⟨fs, he, hj⟩ := gI_some hv
  obtain ⟨C, T, N, ty, ⟨hc, h9, hin, hty, hnd⟩, hjN, hlink, -, -, -⟩ := f
  exact va_get hx hb hts hin ho hK (va_P1 (jw_at hw he (dum_r h9)).2) 0 rfl hc j hjN (hts _ hlink) (fun _ h => h) hj d (h v r hr p e s m args below meth c hE H locs ls hw hS hl)
theorem j_gL (pc' : Nat) {a i ci j : Nat} {fty : FieldType} {fin : Bool} {kk : Int64 → Option ρ} (f : jf own i ci j fty fin) (d : decode cc pc = .ok (.getfield i, 3)) (hp : pc + 3 = pc') (h : ∀ v, JM G own cc nL Z E pc' lv (.long v :: st) x k n (kk v)) : JM G own cc nL Z E pc lv (.ref a :: st) x k n ((gL x ci a j).bind kk) := by
  subst hp
  intro r hr p e s m args below meth c hE H locs ls hw hS hl
  obtain ⟨hx, hb, hml, hrt, ho, hts, hlk, hK, hN, hz, hnm, hX⟩ := id hE
  obtain ⟨v, hv, hr⟩ := Option.bind_eq_some_iff.mp hr
  obtain ⟨fs, he, hj⟩ := gL_some hv
  obtain ⟨C, T, N, ty, ⟨hc, h9, hin, hty, hnd⟩, hjN, hlink, -, -, -⟩ := f
  exact va_get hx hb hts hin ho hK (va_P1 (jw_at hw he (dum_r h9)).2) 0 rfl hc j hjN (hts _ hlink) (fun _ h => h) hj d (h v r hr p e s m args below meth c hE H locs ls hw hS hl)
theorem j_gR (pc' : Nat) {a i ci j : Nat} {fty : FieldType} {fin : Bool} {kk : Nat → Option ρ} (f : jf own i ci j fty fin) (d : decode cc pc = .ok (.getfield i, 3)) (hp : pc + 3 = pc') (h : ∀ v, JM G own cc nL Z E pc' lv (.ref v :: st) x k n (kk v)) : JM G own cc nL Z E pc lv (.ref a :: st) x k n ((gR x ci a j).bind kk) := by
  subst hp
  intro r hr p e s m args below meth c hE H locs ls hw hS hl
  obtain ⟨hx, hb, hml, hrt, ho, hts, hlk, hK, hN, hz, hnm, hX⟩ := id hE
  obtain ⟨v, hv, hr⟩ := Option.bind_eq_some_iff.mp hr
  obtain ⟨fs, he, hj⟩ := gR_some hv
  obtain ⟨C, T, N, ty, ⟨hc, h9, hin, hty, hnd⟩, hjN, hlink, -, -, -⟩ := f
  exact va_get hx hb hts hin ho hK (va_P1 (jw_at hw he (dum_r h9)).2) 0 rfl hc j hjN (hts _ hlink) (fun _ h => h) hj d (h v r hr p e s m args below meth c hE H locs ls hw hS hl)
theorem j_put (pc' : Nat) {a i ci j : Nat} {fty : FieldType} {v : Value} {kk : Hs → Option ρ} (f : jf own i ci j fty false) (d : decode cc pc = .ok (.putfield i, 3)) (hp : pc + 3 = pc') (hn : narrow fty v = v) (hfit : fits fty v = true) (h : ∀ y, JM G own cc nL Z E pc' lv st y k n (kk y)) : JM G own cc nL Z E pc lv (v :: .ref a :: st) x k n ((pV x ci a j v).bind kk) := by
  subst hp
  intro r hr p e s m args below meth c hE H locs ls hw hS hl
  obtain ⟨hx, hb, hml, hrt, ho, hts, hlk, hK, hN, hz, hnm, hX⟩ := id hE
  obtain ⟨y, hy, hr⟩ := Option.bind_eq_some_iff.mp hr
  obtain ⟨fs, he, hjl, rfl⟩ := pV_some hy
  obtain ⟨C, T, N, ty, ⟨hc, h9, hin, hty, hnd⟩, hjN, hlink, hft, hfin, hdc⟩ := f
  obtain ⟨hA, hat⟩ := jw_at hw he (dum_r h9)
  have hap := va_apart (own := own) hts hin ty hty hnd hK hc
  obtain ⟨rr, h1, cell, q1, q2, q3, q4⟩ := hat
  have hrr : rr = (C, T, N) := Option.some.inj (h1.symm.trans hc)
  subst hrr
  obtain ⟨hS9, hfc, kC, hkC, hkind⟩ := hK.1 ci _ hc
  obtain ⟨cf, kf, fi, ff, hi, hsl⟩ := hS9 j hjN
  have hlay := hts _ (hin _ (u_in_lay hjN))
  unfold u_lay at hlay
  rw [if_neg (by rw [hfin]; decide)] at hlay
  have hst := (u_facts hfc hkC (u_lays hts hin hjN) hi).1
  have h6 := u_store hfc hkC hkind hlay hi (by rw [hty j hjN, hft]) hn hfit
  refine W.putK hx hb (f := ff) ⟨ho, hts _ hlink, ⟨_, _, _, hi⟩, hst⟩ (by rw [q2]; exact h6) q1 q3 (by rw [hsl]; exact k2_hasslot (q4 j hjN)) rfl rfl d fun H' e1 e2 e3 => ?_
  rw [hsl] at e1 ⊢
  exact h _ r hr p e s m args below meth c hE H' _ ls (jw_upd hw hA e2 e3 ⟨_, hc, t_OB.to (V := updV (vp_V fs) j v) ⟨_, e1, q2, q3, t_set q4 hap hjN v⟩ (fun j9 _ => vp_updV_set hjl v j9)⟩) (hS.put e2 e3 hA) hl
theorem j_putF (pc' : Nat) {a i ci j : Nat} {fty : FieldType} {v : Value} {kk : Hs → Option ρ} (f : jf own i ci j fty true) (hini : Z.2.1 = "<init>") (hown : ∀ C T N, vwCl[ci]? = some (C, T, N) → C = own) (d : decode cc pc = .ok (.putfield i, 3)) (hp : pc + 3 = pc') (hn : narrow fty v = v) (hfit : fits fty v = true) (h : ∀ y, JM G own cc nL Z E pc' lv st y k n (kk y)) : JM G own cc nL Z E pc lv (v :: .ref a :: st) x k n ((pV x ci a j v).bind kk) := by
  subst hp
  intro r hr p e s m args below meth c hE H locs ls hw hS hl
  obtain ⟨hx, hb, hml, hrt, ho, hts, hlk, hK, hN, hz, hnm, hX⟩ := id hE
  obtain ⟨y, hy, hr⟩ := Option.bind_eq_some_iff.mp hr
  obtain ⟨fs, he, hjl, rfl⟩ := pV_some hy
  obtain ⟨C, T, N, ty, ⟨hc, h9, hin, hty, hnd⟩, hjN, hlink, hft, hfin, hdc⟩ := f
  have hdecl : (T j).1 = own := hdc.trans (hown _ _ _ hc)
  obtain ⟨hA, hat⟩ := jw_at hw he (dum_r h9)
  have hap := va_apart (own := own) hts hin ty hty hnd hK hc
  obtain ⟨rr, h1, cell, q1, q2, q3, q4⟩ := hat
  have hrr : rr = (C, T, N) := Option.some.inj (h1.symm.trans hc)
  subst hrr
  obtain ⟨hS9, hfc, kC, hkC, hkind⟩ := hK.1 ci _ hc
  obtain ⟨cf, kf, fi, ff, hi, hsl⟩ := hS9 j hjN
  have hlay := hts _ (hin _ (u_in_lay hjN))
  unfold u_lay at hlay
  rw [if_pos hfin] at hlay
  have hst := (u_facts hfc hkC (u_lays hts hin hjN) hi).1
  have hcf : m.cls = cf := by
    obtain ⟨_, _, c', _, _, _, -, -, hf', -, -, -, hown2, -⟩ := Cond.laysFinal_spec hlay
    have e1 : c' = cf := by have := hi.symm.trans hf'; simp at this; exact this.1.symm
    rw [hdecl] at hown2
    rw [← e1]; exact Option.some.inj (ho.symm.trans hown2)
  have h6 := u_fits hfc hkC hkind (Or.inr hlay) hi (by rw [hty j hjN, hft]) hn hfit
  refine W.putFinK hx hb ho (hts _ hlink) hi hst hcf (hnm.trans hini) (by rw [q2]; exact h6) q1 q3 (by rw [hsl]; exact k2_hasslot (q4 j hjN)) rfl rfl d fun H' e1 e2 e3 => ?_
  rw [hsl] at e1 ⊢
  exact h _ r hr p e s m args below meth c hE H' _ ls (jw_upd hw hA e2 e3 ⟨_, hc, t_OB.to (V := updV (vp_V fs) j v) ⟨_, e1, q2, q3, t_set q4 hap hjN v⟩ (fun j9 _ => vp_updV_set hjl v j9)⟩) (hS.put e2 e3 hA) hl
theorem j_aI (pc' : Nat) {a : Nat} {i : Int32} {kk : Int32 → Option ρ} (d : decode cc pc = .ok (.iaload, 1)) (hp : pc + 1 = pc') (h : ∀ v, JM G own cc nL Z E pc' lv (.int v :: st) x k n (kk v)) : JM G own cc nL Z E pc lv (.int i :: .ref a :: st) x k n ((aI x a i).bind kk) := by
  subst hp
  intro r hr p e s m args below meth c hE H locs ls hw hS hl
  obtain ⟨hx, hb, hml, hrt, ho, hts, hlk, hK, hN, hz, hnm, hX⟩ := id hE
  obtain ⟨v, hv, hr⟩ := Option.bind_eq_some_iff.mp hr
  obtain ⟨N, f, he, hi, rfl⟩ := aI_some hv
  exact va_iald hx hb hK (va_P1 (jw_at hw he dum_l).2) 0 0 rfl (by rw [hw.2.2.1]; rfl) hi d (h _ r hr p e s m args below meth c hE H locs ls hw hS hl)
theorem j_aC (pc' : Nat) {a : Nat} {i : Int32} {kk : Int32 → Option ρ} (d : decode cc pc = .ok (.caload, 1)) (hp : pc + 1 = pc') (h : ∀ v, JM G own cc nL Z E pc' lv (.int v :: st) x k n (kk v)) : JM G own cc nL Z E pc lv (.int i :: .ref a :: st) x k n ((aC x a i).bind kk) := by
  subst hp
  intro r hr p e s m args below meth c hE H locs ls hw hS hl
  obtain ⟨hx, hb, hml, hrt, ho, hts, hlk, hK, hN, hz, hnm, hX⟩ := id hE
  obtain ⟨v, hv, hr⟩ := Option.bind_eq_some_iff.mp hr
  obtain ⟨N, f, he, hi, rfl⟩ := aC_some hv
  exact va_cald hx hb hK (va_P1 (jw_at hw he dum_l).2) 0 2 rfl (by rw [hw.2.2.1]; rfl) hi d (h _ r hr p e s m args below meth c hE H locs ls hw hS hl)
theorem j_aL (pc' : Nat) {a : Nat} {i : Int32} {kk : Int64 → Option ρ} (d : decode cc pc = .ok (.laload, 1)) (hp : pc + 1 = pc') (h : ∀ v, JM G own cc nL Z E pc' lv (.long v :: st) x k n (kk v)) : JM G own cc nL Z E pc lv (.int i :: .ref a :: st) x k n ((aL x a i).bind kk) := by
  subst hp
  intro r hr p e s m args below meth c hE H locs ls hw hS hl
  obtain ⟨hx, hb, hml, hrt, ho, hts, hlk, hK, hN, hz, hnm, hX⟩ := id hE
  obtain ⟨v, hv, hr⟩ := Option.bind_eq_some_iff.mp hr
  obtain ⟨N, f, he, hi, rfl⟩ := aL_some hv
  exact va_lald hx hb hK (va_P1 (jw_at hw he dum_l).2) 0 1 rfl (by rw [hw.2.2.1]; rfl) hi d (h _ r hr p e s m args below meth c hE H locs ls hw hS hl)
theorem j_aR (pc' : Nat) {a : Nat} {i : Int32} {kk : Nat → Option ρ} (d : decode cc pc = .ok (.aaload, 1)) (hp : pc + 1 = pc') (h : ∀ v, JM G own cc nL Z E pc' lv (.ref v :: st) x k n (kk v)) : JM G own cc nL Z E pc lv (.int i :: .ref a :: st) x k n ((aR x a i).bind kk) := by
  subst hp
  intro r hr p e s m args below meth c hE H locs ls hw hS hl
  obtain ⟨hx, hb, hml, hrt, ho, hts, hlk, hK, hN, hz, hnm, hX⟩ := id hE
  obtain ⟨v, hv, hr⟩ := Option.bind_eq_some_iff.mp hr
  obtain ⟨N, f, he, hi, hf⟩ := aR_some hv
  have hlt : i.toNatClampNeg < N := Nat.not_le.mp fun q => hi (Or.inr q)
  have hty : (jty G.2.2.1)[3]? = some (x.2.2 3, .array .int) := by rw [hw.2.2.1]; rfl
  exact W.aald (v := .ref v) (ty := .array .int) hx hb (jw_at hw he dum_l).2 ((hK.2 3 _ hty).1 N (fun j => va_rf (f j))) rfl (fun q => by cases q) (by show ¬ (i < 0 ∨ (arrV _ _ _).slots.size ≤ _); rw [arrV_size]; exact hi) (by show (arrV _ _ _).slots[_]? = _; rw [arrV_read _ _ hlt, hf]; rfl) rfl rfl d (h _ r hr p e s m args below meth c hE H locs ls hw hS hl)
theorem j_aN (pc' : Nat) {a : Nat} {kk : Int32 → Option ρ} (d : decode cc pc = .ok (.arraylength, 1)) (hp : pc + 1 = pc') (h : ∀ v, JM G own cc nL Z E pc' lv (.int v :: st) x k n (kk v)) : JM G own cc nL Z E pc lv (.ref a :: st) x k n ((aN x a).bind kk) := by
  subst hp
  intro r hr p e s m args below meth c hE H locs ls hw hS hl
  obtain ⟨hx, hb, hml, hrt, ho, hts, hlk, hK, hN, hz, hnm, hX⟩ := id hE
  obtain ⟨v, hv, hr⟩ := Option.bind_eq_some_iff.mp hr
  obtain ⟨z, he, hz9⟩ := aN_some hv
  exact va_alen hx hb hK (va_P1 (jw_at hw he dum_l).2) 0 0 rfl (ty := .int) (by rw [hw.2.2.1]; rfl) hz9 d (h _ r hr p e s m args below meth c hE H locs ls hw hS hl)
theorem j_aM (pc' : Nat) {a : Nat} {kk : Int32 → Option ρ} (d : decode cc pc = .ok (.arraylength, 1)) (hp : pc + 1 = pc') (h : ∀ v, JM G own cc nL Z E pc' lv (.int v :: st) x k n (kk v)) : JM G own cc nL Z E pc lv (.ref a :: st) x k n ((aM x a).bind kk) := by
  subst hp
  intro r hr p e s m args below meth c hE H locs ls hw hS hl
  obtain ⟨hx, hb, hml, hrt, ho, hts, hlk, hK, hN, hz, hnm, hX⟩ := id hE
  obtain ⟨v, hv, hr⟩ := Option.bind_eq_some_iff.mp hr
  obtain ⟨z, he, hz9⟩ := aM_some hv
  exact va_alen hx hb hK (va_P1 (jw_at hw he dum_l).2) 0 1 rfl (ty := .long) (by rw [hw.2.2.1]; rfl) hz9 d (h _ r hr p e s m args below meth c hE H locs ls hw hS hl)
theorem j_wI (pc' : Nat) {a : Nat} {i : Int32} {v : Int32} {kk : Hs → Option ρ} (d : decode cc pc = .ok (.iastore, 1)) (hp : pc + 1 = pc') (h : ∀ y, JM G own cc nL Z E pc' lv st y k n (kk y)) : JM G own cc nL Z E pc lv (.int v :: .int i :: .ref a :: st) x k n ((wI x a i v).bind kk) := by
  subst hp
  intro r hr p e s m args below meth c hE H locs ls hw hS hl
  obtain ⟨hx, hb, hml, hrt, ho, hts, hlk, hK, hN, hz, hnm, hX⟩ := id hE
  obtain ⟨y, hy, hr⟩ := Option.bind_eq_some_iff.mp hr
  obtain ⟨N, f, he, hi, rfl⟩ := wI_some hy
  obtain ⟨hA, hat⟩ := jw_at hw he dum_l
  have hty : (jty G.2.2.1)[0]? = some (x.2.2 0, .int) := by rw [hw.2.2.1]; rfl
  refine W.iast hx hb hat ((hK.2 0 _ hty).1 N (fun j => .int (f j))) (fun q => by cases q) (by show ¬ (i < 0 ∨ (arrV _ _ _).slots.size ≤ _); rw [arrV_size]; exact hi) rfl rfl d fun H1 e1 z1 oq => ?_
  refine h _ r hr p e s m args below meth c hE H1 _ ls (jw_upd hw hA z1 oq ?_) (hS.put z1 oq hA) hl
  show H1[a]? = some (vp_cell _ _)
  rw [e1]
  rw [vp_cell_i, vp_cell_i, arrV_store]
  congr 2
  funext q
  by_cases hq : q = i.toNatClampNeg
  · subst hq
    simp [updV, upd]
  · simp [updV, upd, hq]
theorem j_wC (pc' : Nat) {a : Nat} {i : Int32} {v : Int32} {kk : Hs → Option ρ} (d : decode cc pc = .ok (.castore, 1)) (hp : pc + 1 = pc') (h : ∀ y, JM G own cc nL Z E pc' lv st y k n (kk y)) : JM G own cc nL Z E pc lv (.int v :: .int i :: .ref a :: st) x k n ((wC x a i v).bind kk) := by
  subst hp
  intro r hr p e s m args below meth c hE H locs ls hw hS hl
  obtain ⟨hx, hb, hml, hrt, ho, hts, hlk, hK, hN, hz, hnm, hX⟩ := id hE
  obtain ⟨y, hy, hr⟩ := Option.bind_eq_some_iff.mp hr
  obtain ⟨N, f, he, hi, rfl⟩ := wC_some hy
  obtain ⟨hA, hat⟩ := jw_at hw he dum_l
  have hty : (jty G.2.2.1)[2]? = some (x.2.2 2, .char) := by rw [hw.2.2.1]; rfl
  refine W.cast hx hb hat ((hK.2 2 _ hty).1 N (fun j => .int (f j))) (fun q => by cases q) (by show ¬ (i < 0 ∨ (arrV _ _ _).slots.size ≤ _); rw [arrV_size]; exact hi) rfl rfl d fun H1 e1 z1 oq => ?_
  refine h _ r hr p e s m args below meth c hE H1 _ ls (jw_upd hw hA z1 oq ?_) (hS.put z1 oq hA) hl
  show H1[a]? = some (vp_cell _ _)
  rw [e1]
  rw [vp_cell_i, vp_cell_i, arrV_store]
  congr 2
  funext q
  by_cases hq : q = i.toNatClampNeg
  · subst hq
    simp [updV, upd, vp_nar]
    try rfl
  · simp [updV, upd, hq]
theorem j_wL (pc' : Nat) {a : Nat} {i : Int32} {v : Int64} {kk : Hs → Option ρ} (d : decode cc pc = .ok (.lastore, 1)) (hp : pc + 1 = pc') (h : ∀ y, JM G own cc nL Z E pc' lv st y k n (kk y)) : JM G own cc nL Z E pc lv (.long v :: .int i :: .ref a :: st) x k n ((wL x a i v).bind kk) := by
  subst hp
  intro r hr p e s m args below meth c hE H locs ls hw hS hl
  obtain ⟨hx, hb, hml, hrt, ho, hts, hlk, hK, hN, hz, hnm, hX⟩ := id hE
  obtain ⟨y, hy, hr⟩ := Option.bind_eq_some_iff.mp hr
  obtain ⟨N, f, he, hi, rfl⟩ := wL_some hy
  obtain ⟨hA, hat⟩ := jw_at hw he dum_l
  have hty : (jty G.2.2.1)[1]? = some (x.2.2 1, .long) := by rw [hw.2.2.1]; rfl
  refine W.last hx hb hat ((hK.2 1 _ hty).1 N (fun j => .long (f j))) (fun q => by cases q) (by show ¬ (i < 0 ∨ (arrV _ _ _).slots.size ≤ _); rw [arrV_size]; exact hi) rfl rfl d fun H1 e1 z1 oq => ?_
  refine h _ r hr p e s m args below meth c hE H1 _ ls (jw_upd hw hA z1 oq ?_) (hS.put z1 oq hA) hl
  show H1[a]? = some (vp_cell _ _)
  rw [e1]
  rw [vp_cell_l, vp_cell_l, arrV_store]
  congr 2
  funext q
  by_cases hq : q = i.toNatClampNeg
  · subst hq
    simp [updV, vp_updL]
  · simp [updV, vp_updL, hq]
end JH
