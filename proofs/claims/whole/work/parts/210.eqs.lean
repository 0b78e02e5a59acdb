/-! Rows for terms over the four pictures. -/
def EQ {α β : Type} (l : Option α) (r : Option β) (f : β → α) : Prop := l = r.map f
def hwI (t : Nat) (ct : Nat → ClassId) (q : Int32 × SS) : Int32 × Hs := (q.1, HH t ct q.2)
def hwL (t : Nat) (ct : Nat → ClassId) (q : Int64 × SS) : Int64 × Hs := (q.1, HH t ct q.2)
def letS {α β : Type} (s : α) (f : α → β) : β := f s
def aget {α : Type} (n : Nat) (f : Nat → α) (i : Int32) : Option α := if jin i n then some (f i.toNatClampNeg) else none
abbrev cpok (sp dp n : Int32) (n0 n1 : Nat) : Prop := ¬ sp < 0 ∧ ¬ dp < 0 ∧ ¬ n < 0 ∧ sp.toNatClampNeg + n.toNatClampNeg ≤ n0 ∧ dp.toNatClampNeg + n.toNatClampNeg ≤ n1
theorem HH_cpIE {t : Nat} {ct : Nat → ClassId} {S : SS} {k0 k n0 n1 z0 z1 : Nat} {sp dp n : Int32} (h0 : SHL[k0]? = some (.inr (0, n0, z0))) (h : SHL[k]? = some (.inr (0, n1, z1))) : cpI (HH t ct S) (t + k0) sp (t + k) dp n = if cpok sp dp n n0 n1 then some (HH t ct (sRI S k (va_cpy (S.2.2.1 k0) (S.2.2.1 k) sp.toNatClampNeg dp.toNatClampNeg n.toNatClampNeg))) else none := by
  by_cases hc : cpok sp dp n n0 n1
  · rw [if_pos hc, HH_cpI h0 h hc]
  · rw [if_neg hc]
    unfold cpI
    rw [HH_at h0, HH_at h]
    simp only [cellOf, HH_22]
    rw [if_neg (fun q => hc q.2.2)]
theorem HH_cpLE {t : Nat} {ct : Nat → ClassId} {S : SS} {k0 k n0 n1 z0 z1 : Nat} {sp dp n : Int32} (h0 : SHL[k0]? = some (.inr (1, n0, z0))) (h : SHL[k]? = some (.inr (1, n1, z1))) : cpL (HH t ct S) (t + k0) sp (t + k) dp n = if cpok sp dp n n0 n1 then some (HH t ct (sRL S k (va_cpy (S.2.2.2 k0) (S.2.2.2 k) sp.toNatClampNeg dp.toNatClampNeg n.toNatClampNeg))) else none := by
  by_cases hc : cpok sp dp n n0 n1
  · rw [if_pos hc, HH_cpL h0 h hc]
  · rw [if_neg hc]
    unfold cpL
    rw [HH_at h0, HH_at h]
    simp only [cellOf, HH_22]
    rw [if_neg (fun q => hc q.2.2)]
section EQS
variable {α β : Type} {f : β → α}
theorem e_none : EQ none none f := rfl
theorem e_ret {a : α} {b : β} (h : f b = a) : EQ (some a) (some b) f := by rw [← h]; rfl
theorem e_get {γ : Type} {o : Option γ} {v : γ} {k : γ → Option α} {r : Option β} (h : o = some v) (hk : EQ (k v) r f) : EQ (o.bind k) r f := by rw [h]; exact hk
theorem e_bind {γ : Type} {o o' : Option γ} {k : γ → Option α} {k' : γ → Option β} (h : o = o') (hk : ∀ v, EQ (k v) (k' v) f) : EQ (o.bind k) (o'.bind k') f := by
  rw [h]
  cases o' with
  | none => rfl
  | some v => exact hk v
theorem e_call {γ δ : Type} {g : δ → γ} {o : Option γ} {o' : Option δ} {k : γ → Option α} {k' : δ → Option β} (h : o = o'.map g) (hk : ∀ v, EQ (k (g v)) (k' v) f) : EQ (o.bind k) (o'.bind k') f := by
  rw [h]
  cases o' with
  | none => rfl
  | some v => exact hk v
theorem e_ite {c : Prop} [Decidable c] {a a' : Option α} {b b' : Option β} (h1 : EQ a b f) (h2 : EQ a' b' f) : EQ (if c then a else a') (if c then b else b') f := by
  by_cases h : c
  · rw [if_pos h, if_pos h]; exact h1
  · rw [if_neg h, if_neg h]; exact h2
theorem e_wr {γ : Type} {c : Prop} [Decidable c] {o : Option γ} {v : γ} {k : γ → Option α} {r : Option β} (h : o = if c then some v else none) (hk : EQ (k v) r f) : EQ (o.bind k) (if c then r else none) f := by
  rw [h]
  by_cases hc : c
  · rw [if_pos hc, if_pos hc]; exact hk
  · rw [if_neg hc, if_neg hc]; rfl
theorem e_row {γ : Type} {c : Prop} [Decidable c] {o : Option γ} {v : γ} {k : γ → Option α} {r : Option β} (h : o = if c then some v else none) (hk : c → EQ (k v) r f) : EQ (o.bind k) (if c then r else none) f := by
  rw [h]
  by_cases hc : c
  · rw [if_pos hc, if_pos hc]; exact hk hc
  · rw [if_neg hc, if_neg hc]; rfl
theorem e_put {γ δ : Type} {s : γ} {g : γ → δ} {o : Option δ} {k : δ → Option α} {r : γ → Option β} (h : o = some (g s)) (hk : ∀ y, EQ (k (g y)) (r y) f) : EQ (o.bind k) (letS s r) f := by rw [h]; exact hk s
theorem e_wrS {γ δ : Type} {c : Prop} [Decidable c] {s : γ} {g : γ → δ} {o : Option δ} {k : δ → Option α} {r : γ → Option β} (h : o = if c then some (g s) else none) (hk : ∀ y, EQ (k (g y)) (r y) f) : EQ (o.bind k) (if c then letS s r else none) f := by
  rw [h]
  by_cases hc : c
  · rw [if_pos hc, if_pos hc]; exact hk s
  · rw [if_neg hc, if_neg hc]; rfl
end EQS
theorem row_ok {i : Int32} (h : jin i 4) : SHL[56 + i.toNatClampNeg]? = some (.inr (0, 40, 0)) := by
  have h9 : i.toNatClampNeg < 4 := Nat.not_le.mp fun q => h (Or.inr q)
  revert h9
  generalize i.toNatClampNeg = m
  intro h9
  match m, h9 with
  | 0, _ => rfl
  | 1, _ => rfl
  | 2, _ => rfl
  | 3, _ => rfl
def isP (p : Nat) : Prop := SHL[p]? = some (.inl (1, [(2, p + 1), (2, p + 2), (2, p + 3), (0, 0)])) ∧ SHL[p + 1]? = some (.inr (0, 12, 0)) ∧ SHL[p + 2]? = some (.inr (0, 12, 0)) ∧ SHL[p + 3]? = some (.inr (0, 12, 0))
def isB (b : Nat) : Prop := SHL[b]? = some (.inl (0, [(0, 0), (2, b + 1), (2, b + 2), (2, b + 3), (2, b + 4), (2, b + 5), (2, b + 6), (2, b + 7), (2, b + 8), (1, 0), (2, b + 9), (0, 0), (0, 0), (2, b + 10), (2, b + 14)])) ∧ SHL[b + 1]? = some (.inr (0, 8, 0)) ∧ SHL[b + 2]? = some (.inr (0, 8, 0)) ∧ SHL[b + 3]? = some (.inr (0, 8, 0)) ∧ SHL[b + 4]? = some (.inr (0, 8, 0)) ∧ SHL[b + 5]? = some (.inr (0, 8, 0)) ∧ SHL[b + 6]? = some (.inr (0, 8, 0)) ∧ SHL[b + 7]? = some (.inr (0, 8, 0)) ∧ SHL[b + 8]? = some (.inr (1, 8, 0)) ∧ SHL[b + 9]? = some (.inr (0, 2, 0)) ∧ isP (b + 10) ∧ SHL[b + 14]? = some (.inr (1, 8, 0))
theorem isP_11 : isP 11 := ⟨rfl, rfl, rfl, rfl⟩
theorem isP_26 : isP 26 := ⟨rfl, rfl, rfl, rfl⟩
theorem isP_41 : isP 41 := ⟨rfl, rfl, rfl, rfl⟩
theorem isB_1 : isB 1 := ⟨rfl, rfl, rfl, rfl, rfl, rfl, rfl, rfl, rfl, rfl, ⟨rfl, rfl, rfl, rfl⟩, rfl⟩
theorem isB_16 : isB 16 := ⟨rfl, rfl, rfl, rfl, rfl, rfl, rfl, rfl, rfl, rfl, ⟨rfl, rfl, rfl, rfl⟩, rfl⟩
theorem isB_31 : isB 31 := ⟨rfl, rfl, rfl, rfl, rfl, rfl, rfl, rfl, rfl, rfl, ⟨rfl, rfl, rfl, rfl⟩, rfl⟩
def tK (ct : Nat → ClassId) (a : Nat) : Option Nat := (List.range 8).find? (fun k => ct (100 + k) == a)
def tLen (ct : Nat → ClassId) (a : Nat) : Option Int32 := (tK ct a).bind fun k => some (nI (sLn.getD k 0))
def tChr (ct : Nat → ClassId) (a : Nat) (i : Int32) : Option Int32 := (tK ct a).bind fun k => if jin i (sLn.getD k 0) then some ((sBy.getD k []).getD i.toNatClampNeg 0 &&& 255) else none
