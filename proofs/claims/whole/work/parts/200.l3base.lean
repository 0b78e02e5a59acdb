/-! The heap behind both constructors, as four pictures: S.1 k j the int field j of cell k, S.2.1 the long ones, S.2.2.1 k the int (or char) array at cell k, S.2.2.2 k the long one. -/
abbrev SS : Type := (Nat → Nat → Int32) × (Nat → Nat → Int64) × (Nat → Nat → Int32) × (Nat → Nat → Int64)
abbrev Shp : Type := (Nat × List (Nat × Nat)) ⊕ (Nat × Nat × Nat)
def SHL : List Shp := [.inl (5, [(2, 1), (2, 16), (2, 31), (2, 46), (2, 52), (2, 60), (2, 63), (0, 0)]),
  .inl (0, [(0, 0), (2, 2), (2, 3), (2, 4), (2, 5), (2, 6), (2, 7), (2, 8), (2, 9), (1, 0), (2, 10), (0, 0), (0, 0), (2, 11), (2, 15)]),
  .inr (0, 8, 0),
  .inr (0, 8, 0),
  .inr (0, 8, 0),
  .inr (0, 8, 0),
  .inr (0, 8, 0),
  .inr (0, 8, 0),
  .inr (0, 8, 0),
  .inr (1, 8, 0),
  .inr (0, 2, 0),
  .inl (1, [(2, 12), (2, 13), (2, 14), (0, 0)]),
  .inr (0, 12, 0),
  .inr (0, 12, 0),
  .inr (0, 12, 0),
  .inr (1, 8, 0),
  .inl (0, [(0, 0), (2, 17), (2, 18), (2, 19), (2, 20), (2, 21), (2, 22), (2, 23), (2, 24), (1, 0), (2, 25), (0, 0), (0, 0), (2, 26), (2, 30)]),
  .inr (0, 8, 0),
  .inr (0, 8, 0),
  .inr (0, 8, 0),
  .inr (0, 8, 0),
  .inr (0, 8, 0),
  .inr (0, 8, 0),
  .inr (0, 8, 0),
  .inr (1, 8, 0),
  .inr (0, 2, 0),
  .inl (1, [(2, 27), (2, 28), (2, 29), (0, 0)]),
  .inr (0, 12, 0),
  .inr (0, 12, 0),
  .inr (0, 12, 0),
  .inr (1, 8, 0),
  .inl (0, [(0, 0), (2, 32), (2, 33), (2, 34), (2, 35), (2, 36), (2, 37), (2, 38), (2, 39), (1, 0), (2, 40), (0, 0), (0, 0), (2, 41), (2, 45)]),
  .inr (0, 8, 0),
  .inr (0, 8, 0),
  .inr (0, 8, 0),
  .inr (0, 8, 0),
  .inr (0, 8, 0),
  .inr (0, 8, 0),
  .inr (0, 8, 0),
  .inr (1, 8, 0),
  .inr (0, 2, 0),
  .inl (1, [(2, 42), (2, 43), (2, 44), (0, 0)]),
  .inr (0, 12, 0),
  .inr (0, 12, 0),
  .inr (0, 12, 0),
  .inr (1, 8, 0),
  .inl (3, [(2, 47), (1, 0), (2, 48), (2, 49), (2, 50), (2, 51)]),
  .inr (1, 8, 0),
  .inr (1, 9, 0),
  .inr (1, 10, 0),
  .inr (1, 9, 0),
  .inr (1, 9, 0),
  .inl (2, [(2, 53), (2, 54), (2, 55)]),
  .inr (0, 4, 0),
  .inr (0, 4, 0),
  .inr (3, 4, 56),
  .inr (0, 40, 0),
  .inr (0, 40, 0),
  .inr (0, 40, 0),
  .inr (0, 40, 0),
  .inl (4, [(2, 61), (0, 0), (2, 62), (0, 0), (0, 0)]),
  .inr (0, 60, 0),
  .inr (0, 60, 0),
  .inr (0, 10, 0),
  .inl (6, [(0, 0), (2, 65), (2, 66), (2, 67), (2, 68), (2, 69), (1, 0), (2, 70), (2, 71), (0, 0), (2, 72), (2, 73), (2, 74), (2, 75), (1, 0), (0, 0), (2, 76), (2, 77), (2, 78), (2, 79), (0, 0), (2, 80), (2, 81), (2, 82), (1, 0), (2, 83), (2, 84), (2, 85), (2, 86), (0, 0), (0, 0), (0, 0), (0, 0), (0, 0), (0, 0), (2, 87), (0, 0), (0, 0), (0, 0), (2, 88), (2, 89), (2, 90), (2, 91), (2, 92), (1, 0), (2, 93), (2, 94), (0, 0), (2, 95), (2, 96), (2, 97), (2, 98), (2, 99), (2, 100), (2, 101)]),
  .inr (0, 8, 0),
  .inr (0, 8, 0),
  .inr (0, 8, 0),
  .inr (0, 8, 0),
  .inr (1, 8, 0),
  .inr (0, 2, 0),
  .inr (0, 2, 0),
  .inr (0, 12, 0),
  .inr (0, 12, 0),
  .inr (0, 12, 0),
  .inr (1, 8, 0),
  .inr (0, 12, 0),
  .inr (0, 12, 0),
  .inr (0, 12, 0),
  .inr (1, 8, 0),
  .inr (1, 9, 0),
  .inr (1, 10, 0),
  .inr (1, 8, 0),
  .inr (0, 10, 0),
  .inr (2, 44, 0),
  .inr (0, 8, 0),
  .inr (0, 60, 0),
  .inr (0, 4, 0),
  .inr (0, 8, 0),
  .inr (0, 8, 0),
  .inr (0, 8, 0),
  .inr (0, 8, 0),
  .inr (1, 8, 0),
  .inr (0, 2, 0),
  .inr (0, 2, 0),
  .inr (0, 12, 0),
  .inr (0, 12, 0),
  .inr (0, 12, 0),
  .inr (0, 4, 0),
  .inr (0, 4, 0),
  .inr (0, 160, 0),
  .inr (0, 40, 0)]
def HL (t : Nat) (ct : Nat → ClassId) (cs : List va_E) : Hs := (fun a => if t ≤ a then cs.getD (a - t) dum else dum, t + cs.length, ct)
def fldOf (t : Nat) (S : SS) (k j : Nat) (q : Nat × Nat) : Value := if q.1 = 0 then .int (S.1 k j) else if q.1 = 1 then .long (S.2.1 k j) else .ref (t + q.2)
def cellOf (t : Nat) (ct : Nat → ClassId) (S : SS) (k : Nat) (sh : Shp) : va_E := match sh with
  | .inl (ci, fs) => .inr (ci, fs.zipIdx.map (fun q => fldOf t S k q.2 q.1))
  | .inr (0, n, _) => .inl (ct 0, n, .inl (S.2.2.1 k))
  | .inr (1, n, _) => .inl (ct 1, n, .inr (.inl (S.2.2.2 k)))
  | .inr (2, n, _) => .inl (ct 2, n, .inl (S.2.2.1 k))
  | .inr (_, n, f) => .inl (ct 3, n, .inr (.inr (.inr (.inr (fun i => if i < n then some (t + f + i) else none)))))
def cellsOf (t : Nat) (ct : Nat → ClassId) (S : SS) : List va_E := SHL.zipIdx.map (fun q => cellOf t ct S q.2 q.1)
def HH (t : Nat) (ct : Nat → ClassId) (S : SS) : Hs := HL t ct (cellsOf t ct S)
/-- one place of a picture -/
def up2 {α : Type} (f : Nat → Nat → α) (k j : Nat) (v : α) : Nat → Nat → α := fun a b => if a = k ∧ b = j then v else f a b
abbrev sFI (S : SS) (k j : Nat) (v : Int32) : SS := (up2 S.1 k j v, S.2)
abbrev sFL (S : SS) (k j : Nat) (v : Int64) : SS := (S.1, up2 S.2.1 k j v, S.2.2)
abbrev sAI (S : SS) (k j : Nat) (v : Int32) : SS := (S.1, S.2.1, up2 S.2.2.1 k j v, S.2.2.2)
abbrev sAL (S : SS) (k j : Nat) (v : Int64) : SS := (S.1, S.2.1, S.2.2.1, up2 S.2.2.2 k j v)
/-- a whole row of a picture -/
abbrev sRI (S : SS) (k : Nat) (f : Nat → Int32) : SS := (S.1, S.2.1, va_up S.2.2.1 k f, S.2.2.2)
abbrev sRL (S : SS) (k : Nat) (f : Nat → Int64) : SS := (S.1, S.2.1, S.2.2.1, va_up S.2.2.2 k f)
theorem HL_at {t : Nat} {ct : Nat → ClassId} {cs : List va_E} {k : Nat} : (HL t ct cs).1 (t + k) = cs.getD k dum := by
  show (if t ≤ t + k then cs.getD (t + k - t) dum else dum) = _
  rw [if_pos (by omega), Nat.add_sub_cancel_left]
theorem HH_at {t : Nat} {ct : Nat → ClassId} {S : SS} {k : Nat} {sh : Shp} (h : SHL[k]? = some sh) : (HH t ct S).1 (t + k) = cellOf t ct S k sh := by
  unfold HH
  rw [HL_at]
  unfold cellsOf
  rw [List.getD_eq_getElem?_getD, List.getElem?_map, List.getElem?_zipIdx, h]
  simp
theorem HH_22 {t : Nat} {ct : Nat → ClassId} {S : SS} : (HH t ct S).2.2 = ct := rfl
theorem HH_21 {t : Nat} {ct : Nat → ClassId} {S S' : SS} : (HH t ct S).2 = (HH t ct S').2 := by
  show (t + (cellsOf t ct S).length, ct) = (t + (cellsOf t ct S').length, ct)
  simp [cellsOf]
theorem HH_fld {t : Nat} {ct : Nat → ClassId} {S : SS} {k j ci : Nat} {fs : List (Nat × Nat)} {q : Nat × Nat} (h : SHL[k]? = some (.inl (ci, fs))) (hj : fs[j]? = some q) : ∃ l, (HH t ct S).1 (t + k) = .inr (ci, l) ∧ l[j]? = some (fldOf t S k j q) := by
  refine ⟨_, HH_at h, ?_⟩
  rw [List.getElem?_map, List.getElem?_zipIdx, hj]
  simp
theorem HH_gI {t : Nat} {ct : Nat → ClassId} {S : SS} {k j ci z : Nat} {fs : List (Nat × Nat)} (h : SHL[k]? = some (.inl (ci, fs))) (hj : fs[j]? = some (0, z)) : gI (HH t ct S) ci (t + k) j = some (S.1 k j) := by
  obtain ⟨l, h1, h2⟩ := HH_fld (t := t) (ct := ct) (S := S) h hj
  unfold gI
  rw [h1]
  simp [h2, fldOf]
theorem HH_gL {t : Nat} {ct : Nat → ClassId} {S : SS} {k j ci z : Nat} {fs : List (Nat × Nat)} (h : SHL[k]? = some (.inl (ci, fs))) (hj : fs[j]? = some (1, z)) : gL (HH t ct S) ci (t + k) j = some (S.2.1 k j) := by
  obtain ⟨l, h1, h2⟩ := HH_fld (t := t) (ct := ct) (S := S) h hj
  unfold gL
  rw [h1]
  simp [h2, fldOf]
theorem HH_gR {t : Nat} {ct : Nat → ClassId} {S : SS} {k j ci z : Nat} {fs : List (Nat × Nat)} (h : SHL[k]? = some (.inl (ci, fs))) (hj : fs[j]? = some (2, z)) : gR (HH t ct S) ci (t + k) j = some (t + z) := by
  obtain ⟨l, h1, h2⟩ := HH_fld (t := t) (ct := ct) (S := S) h hj
  unfold gR
  rw [h1]
  simp [h2, fldOf]
theorem HH_vO {t : Nat} {ct : Nat → ClassId} {S : SS} {k ci : Nat} {fs : List (Nat × Nat)} (h : SHL[k]? = some (.inl (ci, fs))) : vO (HH t ct S) ci (t + k) = some () := by
  unfold vO
  rw [HH_at h]
  simp [cellOf]
/-- another cell's picture: the heap is that of another picture if it differs there alone -/
theorem HH_upd {t : Nat} {ct : Nat → ClassId} {S S' : SS} {k : Nat} {sh : Shp} {e : va_E} (h : SHL[k]? = some sh) (he : cellOf t ct S' k sh = e) (ho : ∀ j sh', j ≠ k → SHL[j]? = some sh' → cellOf t ct S' j sh' = cellOf t ct S j sh') : (va_up (HH t ct S).1 (t + k) e, (HH t ct S).2) = HH t ct S' := by
  refine Prod.ext (funext fun a => ?_) HH_21
  show va_up (HH t ct S).1 (t + k) e a = (HH t ct S').1 a
  by_cases ha : a = t + k
  · subst ha
    rw [va_up_self, HH_at h, he]
  · rw [va_up_ne _ _ ha]
    by_cases h1 : t ≤ a
    · obtain ⟨j, rfl⟩ : ∃ j, a = t + j := ⟨a - t, by omega⟩
      cases hj : SHL[j]? with
      | none =>
        have g : ∀ S : SS, (HH t ct S).1 (t + j) = dum := fun S => by
          unfold HH
          rw [HL_at]
          unfold cellsOf
          rw [List.getD_eq_getElem?_getD, List.getElem?_map, List.getElem?_zipIdx, hj]
          rfl
        rw [g, g]
      | some sh' => rw [HH_at hj, HH_at hj, ho j sh' (fun q => ha (by rw [q])) hj]
    · have g : ∀ S : SS, (HH t ct S).1 a = dum := fun S => by
        show (if t ≤ a then _ else dum) = dum
        rw [if_neg h1]
      rw [g, g]
theorem up2_ne {α : Type} {f : Nat → Nat → α} {k j a : Nat} {v : α} (h : a ≠ k) : up2 f k j v a = f a := funext fun b => by simp [up2, h]
theorem cellOf_FI {t : Nat} {ct : Nat → ClassId} {S : SS} {k j a : Nat} {v : Int32} {sh : Shp} (h : a ≠ k) : cellOf t ct (sFI S k j v) a sh = cellOf t ct S a sh := by
  unfold cellOf fldOf
  simp only [up2_ne h]
theorem cellOf_FL {t : Nat} {ct : Nat → ClassId} {S : SS} {k j a : Nat} {v : Int64} {sh : Shp} (h : a ≠ k) : cellOf t ct (sFL S k j v) a sh = cellOf t ct S a sh := by
  unfold cellOf fldOf
  simp only [up2_ne h]
theorem cellOf_AI {t : Nat} {ct : Nat → ClassId} {S : SS} {k j a : Nat} {v : Int32} {sh : Shp} (h : a ≠ k) : cellOf t ct (sAI S k j v) a sh = cellOf t ct S a sh := by
  unfold cellOf fldOf
  simp only [up2_ne h]
theorem cellOf_AL {t : Nat} {ct : Nat → ClassId} {S : SS} {k j a : Nat} {v : Int64} {sh : Shp} (h : a ≠ k) : cellOf t ct (sAL S k j v) a sh = cellOf t ct S a sh := by
  unfold cellOf fldOf
  simp only [up2_ne h]
theorem cellOf_RI {t : Nat} {ct : Nat → ClassId} {S : SS} {k a : Nat} {f : Nat → Int32} {sh : Shp} (h : a ≠ k) : cellOf t ct (sRI S k f) a sh = cellOf t ct S a sh := by
  unfold cellOf fldOf
  simp only [va_up_ne _ _ h]
theorem cellOf_RL {t : Nat} {ct : Nat → ClassId} {S : SS} {k a : Nat} {f : Nat → Int64} {sh : Shp} (h : a ≠ k) : cellOf t ct (sRL S k f) a sh = cellOf t ct S a sh := by
  unfold cellOf fldOf
  simp only [va_up_ne _ _ h]
theorem zmap_set {α β : Type} (f g : α × Nat → β) (l : List α) (j : Nat) (q : α) (v : β) (hq : l[j]? = some q) (hv : g (q, j) = v) (ho : ∀ i q', i ≠ j → l[i]? = some q' → g (q', i) = f (q', i)) : l.zipIdx.map g = (l.zipIdx.map f).set j v := by
  apply List.ext_getElem?
  intro i
  by_cases hi : i = j
  · subst hi
    have hl : i < (l.zipIdx.map f).length := by
      have := (List.getElem?_eq_some_iff.mp hq).1
      simpa using this
    rw [List.getElem?_set_self hl, List.getElem?_map, List.getElem?_zipIdx, hq]
    simp [hv]
  · rw [List.getElem?_set_ne (Ne.symm hi), List.getElem?_map, List.getElem?_map, List.getElem?_zipIdx]
    cases h : l[i]? with
    | none => rfl
    | some q' =>
      have := ho i q' hi h
      simp [this]
theorem HH_pI {t : Nat} {ct : Nat → ClassId} {S : SS} {k j ci z : Nat} {fs : List (Nat × Nat)} {v : Int32} (h : SHL[k]? = some (.inl (ci, fs))) (hj : fs[j]? = some (0, z)) : pV (HH t ct S) ci (t + k) j (.int v) = some (HH t ct (sFI S k j v)) := by
  unfold pV
  rw [HH_at h]
  have hl : j < fs.length := (List.getElem?_eq_some_iff.mp hj).1
  have hl2 : ci = ci ∧ j < (fs.zipIdx.map (fun q => fldOf t S k q.2 q.1)).length := ⟨rfl, by simpa using hl⟩
  show (if ci = ci ∧ j < (fs.zipIdx.map (fun q => fldOf t S k q.2 q.1)).length then some _ else none) = _
  rw [if_pos hl2]
  refine congrArg some (HH_upd h ?_ (fun a sh' ha _ => cellOf_FI ha))
  show (.inr (ci, fs.zipIdx.map (fun q => fldOf t (sFI S k j v) k q.2 q.1)) : va_E) = _
  rw [zmap_set (fun q => fldOf t S k q.2 q.1) _ fs j (0, z) (.int v) hj (by simp [fldOf, up2]) (fun i q' hi _ => by simp [fldOf, up2, hi])]
theorem HH_pL {t : Nat} {ct : Nat → ClassId} {S : SS} {k j ci z : Nat} {fs : List (Nat × Nat)} {v : Int64} (h : SHL[k]? = some (.inl (ci, fs))) (hj : fs[j]? = some (1, z)) : pV (HH t ct S) ci (t + k) j (.long v) = some (HH t ct (sFL S k j v)) := by
  unfold pV
  rw [HH_at h]
  have hl : j < fs.length := (List.getElem?_eq_some_iff.mp hj).1
  have hl2 : ci = ci ∧ j < (fs.zipIdx.map (fun q => fldOf t S k q.2 q.1)).length := ⟨rfl, by simpa using hl⟩
  show (if ci = ci ∧ j < (fs.zipIdx.map (fun q => fldOf t S k q.2 q.1)).length then some _ else none) = _
  rw [if_pos hl2]
  refine congrArg some (HH_upd h ?_ (fun a sh' ha _ => cellOf_FL ha))
  show (.inr (ci, fs.zipIdx.map (fun q => fldOf t (sFL S k j v) k q.2 q.1)) : va_E) = _
  rw [zmap_set (fun q => fldOf t S k q.2 q.1) _ fs j (1, z) (.long v) hj (by simp [fldOf, up2]) (fun i q' hi _ => by simp [fldOf, up2, hi])]
theorem HH_aI {t : Nat} {ct : Nat → ClassId} {S : SS} {k n z : Nat} {i : Int32} (h : SHL[k]? = some (.inr (0, n, z))) : aI (HH t ct S) (t + k) i = if jin i n then some (S.2.2.1 k i.toNatClampNeg) else none := by
  unfold aI
  rw [HH_at h]
  simp [cellOf, HH_22]
theorem HH_aC {t : Nat} {ct : Nat → ClassId} {S : SS} {k n z : Nat} {i : Int32} (h : SHL[k]? = some (.inr (2, n, z))) : aC (HH t ct S) (t + k) i = if jin i n then some (S.2.2.1 k i.toNatClampNeg) else none := by
  unfold aC
  rw [HH_at h]
  simp [cellOf, HH_22]
theorem HH_aL {t : Nat} {ct : Nat → ClassId} {S : SS} {k n z : Nat} {i : Int32} (h : SHL[k]? = some (.inr (1, n, z))) : aL (HH t ct S) (t + k) i = if jin i n then some (S.2.2.2 k i.toNatClampNeg) else none := by
  unfold aL
  rw [HH_at h]
  simp [cellOf, HH_22]
theorem HH_aR {t : Nat} {ct : Nat → ClassId} {S : SS} {k n z : Nat} {i : Int32} (h : SHL[k]? = some (.inr (3, n, z))) : aR (HH t ct S) (t + k) i = if jin i n then some (t + z + i.toNatClampNeg) else none := by
  unfold aR
  rw [HH_at h]
  by_cases hi : jin i n
  · have h9 : i.toNatClampNeg < n := Nat.not_le.mp fun q => hi (Or.inr q)
    simp only [cellOf, HH_22]
    rw [if_pos ⟨trivial, hi⟩, if_pos hi, if_pos h9]
  · simp only [cellOf, HH_22]
    rw [if_neg (fun q => hi q.2), if_neg hi]
theorem HH_aN {t : Nat} {ct : Nat → ClassId} {S : SS} {k n z : Nat} (h : SHL[k]? = some (.inr (0, n, z))) : aN (HH t ct S) (t + k) = some (Int32.ofNat n) := by
  unfold aN
  rw [HH_at h]
  simp [cellOf, HH_22]
theorem HH_aM {t : Nat} {ct : Nat → ClassId} {S : SS} {k n z : Nat} (h : SHL[k]? = some (.inr (1, n, z))) : aM (HH t ct S) (t + k) = some (Int32.ofNat n) := by
  unfold aM
  rw [HH_at h]
  simp [cellOf, HH_22]
theorem upd_up2I {f : Nat → Nat → Int32} {k j : Nat} {v : Int32} : upd (f k) j v = up2 f k j v k := funext fun b => by simp [upd, up2]
theorem upd_up2L {f : Nat → Nat → Int64} {k j : Nat} {v : Int64} : vp_updL (f k) j v = up2 f k j v k := funext fun b => by simp [vp_updL, up2]
theorem HH_wI {t : Nat} {ct : Nat → ClassId} {S : SS} {k n z : Nat} {i v : Int32} (h : SHL[k]? = some (.inr (0, n, z))) : wI (HH t ct S) (t + k) i v = if jin i n then some (HH t ct (sAI S k i.toNatClampNeg v)) else none := by
  unfold wI
  rw [HH_at h]
  by_cases hi : jin i n
  · simp only [cellOf, HH_22]
    rw [if_pos ⟨trivial, hi⟩, if_pos hi]
    refine congrArg some (HH_upd h ?_ (fun a sh' ha _ => cellOf_AI ha))
    simp [cellOf, upd_up2I]
  · simp only [cellOf, HH_22]
    rw [if_neg (fun q => hi q.2), if_neg hi]
theorem HH_wL {t : Nat} {ct : Nat → ClassId} {S : SS} {k n z : Nat} {i : Int32} {v : Int64} (h : SHL[k]? = some (.inr (1, n, z))) : wL (HH t ct S) (t + k) i v = if jin i n then some (HH t ct (sAL S k i.toNatClampNeg v)) else none := by
  unfold wL
  rw [HH_at h]
  by_cases hi : jin i n
  · simp only [cellOf, HH_22]
    rw [if_pos ⟨trivial, hi⟩, if_pos hi]
    refine congrArg some (HH_upd h ?_ (fun a sh' ha _ => cellOf_AL ha))
    simp [cellOf, upd_up2L]
  · simp only [cellOf, HH_22]
    rw [if_neg (fun q => hi q.2), if_neg hi]
theorem HH_cpI {t : Nat} {ct : Nat → ClassId} {S : SS} {k0 k n0 n1 z0 z1 : Nat} {sp dp n : Int32} (h0 : SHL[k0]? = some (.inr (0, n0, z0))) (h : SHL[k]? = some (.inr (0, n1, z1))) (hc : ¬ sp < 0 ∧ ¬ dp < 0 ∧ ¬ n < 0 ∧ sp.toNatClampNeg + n.toNatClampNeg ≤ n0 ∧ dp.toNatClampNeg + n.toNatClampNeg ≤ n1) : cpI (HH t ct S) (t + k0) sp (t + k) dp n = some (HH t ct (sRI S k (va_cpy (S.2.2.1 k0) (S.2.2.1 k) sp.toNatClampNeg dp.toNatClampNeg n.toNatClampNeg))) := by
  unfold cpI
  rw [HH_at h0, HH_at h]
  simp only [cellOf, HH_22]
  rw [if_pos ⟨trivial, trivial, hc⟩]
  refine congrArg some (HH_upd h ?_ (fun a sh' ha _ => cellOf_RI ha))
  simp [cellOf, va_up_self]
theorem HH_cpL {t : Nat} {ct : Nat → ClassId} {S : SS} {k0 k n0 n1 z0 z1 : Nat} {sp dp n : Int32} (h0 : SHL[k0]? = some (.inr (1, n0, z0))) (h : SHL[k]? = some (.inr (1, n1, z1))) (hc : ¬ sp < 0 ∧ ¬ dp < 0 ∧ ¬ n < 0 ∧ sp.toNatClampNeg + n.toNatClampNeg ≤ n0 ∧ dp.toNatClampNeg + n.toNatClampNeg ≤ n1) : cpL (HH t ct S) (t + k0) sp (t + k) dp n = some (HH t ct (sRL S k (va_cpy (S.2.2.2 k0) (S.2.2.2 k) sp.toNatClampNeg dp.toNatClampNeg n.toNatClampNeg))) := by
  unfold cpL
  rw [HH_at h0, HH_at h]
  simp only [cellOf, HH_22]
  rw [if_pos ⟨trivial, trivial, hc⟩]
  refine congrArg some (HH_upd h ?_ (fun a sh' ha _ => cellOf_RL ha))
  simp [cellOf, va_up_self]
