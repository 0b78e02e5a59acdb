/-! Call: buried. -/
section BUR
variable {S : SS} {A : AB} {s : ST}
theorem ah_wS (A : AB) (g : Nat → Nat → Int) : ∀ k, ahP (wS A g) k = ahP A k
  | 0 => rfl
  | k + 1 => by rw [ahP, ahP, ah_wS A g k]; rfl
theorem whN_set (A : AB) (i : Nat) (v : Int) : whN (setS A 0 i v) = whN A := by
  have := ah_wS A (up2 A.2.2.2 0 i v) (qN A)
  exact congrArg Prod.fst this
def bsP (A : AB) (it : Nat → Int32) (i : Nat) (v : Int) (k : Nat) : Bool := decide (lI (stG (setS A 0 i v) k / whN A) = (it k).toInt64)
/-- whether all that is told is so, v being the source of i -/
def bsB (A : AB) (it : Nat → Int32) (N i : Nat) (v : Int) : Bool := allB (bsP A it i v) N 0
theorem setS2 (A : AB) (j i : Nat) (v w : Int) : setS (setS A j i v) j i w = setS A j i w := by
  unfold setS
  rw [up2_up2]
theorem setS_self (A : AB) (j i : Nat) : setS A j i (qS A j i) = A := by
  unfold setS
  rw [up2_self rfl]
theorem CB_src {i : Nat} {v : Int} (h : CB S 16 A) (hi : i < qN A) : CB (sAI S 20 i (iI v)) 16 (setS A 0 i v) := by
  obtain ⟨g1, g2, g3, g4, g5, g6, g7, g8⟩ := h.2.2.2.2.2.2.2.1 i hi
  refine CB_upd (i := i) h (fun q hq _ => hq) h.1 rfl rfl rfl rfl (fun r h1 h2 q hq => ?_) (fun _ _ => rfl) (fun r h1 h2 => ?_) rfl rfl (fun _ _ _ => rfl) (fun _ => rfl) (fun _ => rfl) (fun j' q hq => ?_) (fun q => ?_) (fun _ => ⟨?_, ?_, ?_, ?_, ?_, ?_, ?_, ?_⟩)
  · simp [up2, hq]
  · simp (disch := omega) only [up2_s, up2_n, va_up_s, va_up_n]
  · simp [setS, up2, qS, hq]
  · simp [setS, up2, qS]
  · simp [up2]; exact g1
  · simp [up2]; exact g2
  · simp [up2]; exact g3
  · simp [setS, up2, qS]
  · simp [up2]; exact g5
  · simp [up2]; exact g6
  · simp [up2]; exact g7
  · simp [setS, up2, qS]; exact g8
def pBx (t k j : Nat) : Prop := pSx t k j ∨ pB 16 t k j
theorem pBx_s : ∀ t k j, pBx t k j → pXs t k j := fun t k j h => by unfold pBx pSx pB at h; unfold pXs; omega
theorem x_mbL {it : Nat → Int32} {N sh i n0 : Nat} {v : Int} (hN : N ≤ n0) (h8 : n0 ≤ 8) (hsh : sh < 4) (hw : 0 < whN A) (hw2 : whN A ≤ 78310985281) (h54 : S.2.2.1 54 sh = nI N) (hit : ∀ q, q < N → S.2.2.1 (56 + sh) q = it q) (h46 : S.2.1 46 1 = lI (whN A)) (h47 : ∀ q, q < n0 → S.2.2.2 47 q = lI (stG (setS A 0 i v) q)) (hb : ∀ q, q < n0 → l63 (stG (setS A 0 i v) q)) : ∀ (m k n : Nat), k + m = N → m + 1 ≤ n → TX6_mayBeBuried_L24 n (nI sh) (nI k) S = some (b2i (allB (bsP A it i v) m k = true), S) := by
  intro m
  induction m with
  | zero =>
    intro k n hk hn
    obtain ⟨n, rfl⟩ : ∃ q, n = q + 1 := ⟨n - 1, by omega⟩
    rw [TX6_mayBeBuried_L24, aget_n hsh (by omega), Option.bind_some, h54, if_pos (by rw [nI_cmp (by omega) (by omega)]; omega)]
    rfl
  | succ m ih =>
    intro k n hk hn
    obtain ⟨n, rfl⟩ : ∃ q, n = q + 1 := ⟨n - 1, by omega⟩
    rw [TX6_mayBeBuried_L24, aget_n hsh (by omega), Option.bind_some, h54, if_neg (by rw [nI_cmp (by omega) (by omega)]; omega), aget_n (by omega) (by omega), Option.bind_some, h46, h47 k (by omega), x_whole (hb k (by omega)) hw (by omega), Option.bind_some, if_pos (iI_in hsh (by omega)), iI_nat sh (by omega), aget_n (by omega) (by omega), Option.bind_some, hit k (by omega), nI_1, allB]
    by_cases e : lI (stG (setS A 0 i v) k / whN A) = (it k).toInt64
    · rw [if_pos e, ih (k + 1) n (by omega) (by omega)]
      exact congrArg (fun x => some (x, S)) (b2i_congr (by simp [bsP, e]))
    · rw [if_neg e, b2i_f (by simp [bsP, e])]
      rfl
theorem x_mb {it : Nat → Int32} {N sh i : Nat} {v v0 : Int} (h : CB S 16 (setS A 0 i v0)) (hA : okA 1008000000000000 A) (hi : i < qN A) (hv : -9 ≤ v ∧ v ≤ 9) (hN : N ≤ qN A) (hsh : sh < 4) (hw : 0 < whN A) (h54 : S.2.2.1 54 sh = nI N) (hit : ∀ q, q < N → S.2.2.1 (56 + sh) q = it q) :
    WP (TX6_mayBeBuried (nI sh) (nI i) (iI v) S) (fun r => r.1 = b2i (bsB A it N i v = true) ∧ FR pBx S r.2 ∧ CB r.2 16 (setS A 0 i v)) := by
  have h8 := ok_n hA
  have hwB := wh_N hA
  have hok : okA 1008000000000000 (setS A 0 i v) := ok_setS hA (Or.inl ⟨rfl, hv⟩)
  have hC := CB_src (v := v) h hi
  rw [setS2] at hC
  unfold TX6_mayBeBuried
  rw [if_pos (iI_in (by omega) (by omega)), iI_nat i (by omega)]
  simp only [letS]
  have F0 : FR pBx S (sAI S 20 i (iI v)) := FR_AI FR_refl (by unfold pBx pB; omega)
  refine wp_bind (x_solve hC hok (by omega) (by show 1 ≤ qN A; omega)) fun r hr => ?_
  obtain ⟨r1, r2, r3⟩ := hr
  have F : FR pBx S r := FR_trans F0 (FR_mono r1 (fun _ _ _ z => Or.inl z))
  rw [whN_set] at r2
  have e := x_mbL (S := r) (A := A) (it := it) (i := i) (v := v) (sh := sh) hN h8 hsh hw hwB.2 (by rw [F.2.2.1 54 (by unfold pBx pSx pB; omega)]; exact h54) (fun q hq => by rw [F.2.2.1 (56 + sh) (by unfold pBx pSx pB; omega)]; exact hit q hq) r2 r3 (fun q hq => by have := st_B hok (i := q) hq; omega) N 0 fu (by omega) (by rw [fu_eq]; omega)
  exact wp_eq e (wp_some ⟨rfl, F, CB_sx r1 (by omega) hC⟩)
/-- of one cell: how many, the first -/
def inG (B : Nat → Bool) (i : Nat) : Nat → Nat → Nat × Int32 → Nat × Int32
  | 0, _, p => p
  | m + 1, w, p => inG B i m (w + 1) (if B w = true then (p.1 + 1, if p.1 = 0 then iI (100 * i + ((w : Int) - 9) + 9) else p.2) else p)
def outG (B : Nat → Nat → Bool) : Nat → Nat → Nat × Int32 → Nat × Int32
  | 0, _, p => p
  | m + 1, i, p => outG B m (i + 1) (inG (B i) i 19 0 p)
theorem inG_le (B : Nat → Bool) (i : Nat) : ∀ m w p, (inG B i m w p).1 ≤ p.1 + m
  | 0, w, p => Nat.le_refl _
  | m + 1, w, p => by
    rw [inG]
    have := inG_le B i m (w + 1) (if B w = true then (p.1 + 1, if p.1 = 0 then iI (100 * i + ((w : Int) - 9) + 9) else p.2) else p)
    by_cases e : B w = true
    · rw [if_pos e] at this ⊢
      have h2 : (inG B i m (w + 1) (p.1 + 1, if p.1 = 0 then iI (100 * i + ((w : Int) - 9) + 9) else p.2)).1 ≤ (p.1 + 1) + m := this
      omega
    · rw [if_neg e] at this ⊢
      omega
theorem inG_keep (B : Nat → Bool) (i : Nat) : ∀ m w p, p.1 ≠ 0 → (inG B i m w p).2 = p.2 ∧ (inG B i m w p).1 ≠ 0
  | 0, w, p, h => ⟨rfl, h⟩
  | m + 1, w, p, h => by
    rw [inG]
    by_cases e : B w = true
    · rw [if_pos e, if_neg h]
      exact inG_keep B i m (w + 1) (p.1 + 1, p.2) (Nat.succ_ne_zero _)
    · rw [if_neg e]
      exact inG_keep B i m (w + 1) p h
theorem outG_keep (B : Nat → Nat → Bool) : ∀ m i p, p.1 ≠ 0 → (outG B m i p).2 = p.2
  | 0, i, p, h => rfl
  | m + 1, i, p, h => by
    rw [outG]
    have := inG_keep (B i) i 19 0 p h
    rw [outG_keep B m (i + 1) _ this.2, this.1]
theorem iw_next (w : Nat) : iI ((w : Int) - 9) + 1 = iI (((w + 1 : Nat) : Int) - 9) := by
  rw [k1, iI_add]
  congr 1
  omega
theorem iw_gt {w : Nat} (h : w ≤ 20) : 9 < iI ((w : Int) - 9) ↔ 19 ≤ w := by
  rw [show (9 : Int32) = iI 9 from rfl, iI_lt (by omega) (by omega)]
  omega
theorem iw_val (i w : Nat) : 100 * nI i + iI ((w : Int) - 9) + 9 = iI (100 * i + ((w : Int) - 9) + 9) := by
  rw [show (9 : Int32) = iI 9 from rfl, show (100 : Int32) = iI 100 from rfl, nI_z, iI_mul, iI_add, iI_add]
def bB (A : AB) (it : Nat → Int32) (N i w : Nat) : Bool := bsB A it N i ((w : Int) - 9)
/-- what the class's loops keep -/
def bI (A : AB) (it : Nat → Int32) (N sh : Nat) (S : SS) : Prop := CB S 1 A ∧ S.2.2.1 54 sh = nI N ∧ ∀ q, q < N → S.2.2.1 (56 + sh) q = it q
theorem bI_fr {it : Nat → Int32} {N sh : Nat} {S' : SS} (h : FR pBx S S') (c : bI A it N sh S) : bI A it N sh S' := by
  refine ⟨CB_fr' h (fun t k j h1 h2 => by unfold pBx pSx pB; omega) c.1, ?_, fun q hq => ?_⟩
  · rw [h.2.2.1 54 (by unfold pBx pSx pB; omega)]; exact c.2.1
  · rw [h.2.2.1 (56 + sh) (by unfold pBx pSx pB; omega)]; exact c.2.2 q hq
/-- the source is put back -/
theorem x_putb {it : Nat → Int32} {N sh i : Nat} {v0 : Int} (c : bI A it N sh S) (h : CB S 16 (setS A 0 i v0)) (hi : i < qN A) : S.2.2.1 5 i = iI (qS A 0 i) ∧ CB (sAI S 20 i (iI (qS A 0 i))) 16 A := by
  refine ⟨((CB1 c.1).2.2.2.2.2.2.2.1 i hi).2.2.2.1, ?_⟩
  have := CB_src (v := qS A 0 i) h hi
  rw [setS2, setS_self] at this
  exact this
theorem x_hm30 {r : Int32 → Int32 → Int32 → SS → Option (Int32 × SS)} {it : Nat → Int32} {N sh i : Nat} (hA : okA 1008000000000000 A) (hi : i < qN A) (hN : N ≤ qN A) (hsh : sh < 4) (hw : 0 < whN A) : ∀ (m w n : Nat) (p : Nat × Int32) (S : SS) (v0 : Int), w + m = 19 → m + 1 ≤ n → bI A it N sh S → CB S 16 (setS A 0 i v0) →
    ∃ S', FR pBx S S' ∧ CB S' 16 A ∧ TX6_howManyBuried_L30 r n (nI sh) (nI p.1) (nI i) (iI ((w : Int) - 9)) S = r (nI sh) (nI (inG (bB A it N i) i m w p).1) (nI (i + 1)) S' := by
  have h8 := ok_n hA
  intro m
  induction m with
  | zero =>
    intro w n p S v0 hm hn c h
    obtain ⟨n, rfl⟩ : ∃ q, n = q + 1 := ⟨n - 1, by omega⟩
    obtain ⟨e5, hC⟩ := x_putb c h hi
    refine ⟨_, FR_AI FR_refl (by unfold pBx pB; omega), hC, ?_⟩
    rw [TX6_howManyBuried_L30, if_pos ((iw_gt (by omega)).mpr (by omega)), aget_n (by omega) (by omega), Option.bind_some, if_pos (iI_in (by omega) (by omega)), iI_nat i (by omega), e5, nI_1]
    rfl
  | succ m ih =>
    intro w n p S v0 hm hn c h
    obtain ⟨n, rfl⟩ : ∃ q, n = q + 1 := ⟨n - 1, by omega⟩
    obtain ⟨q, eq, q1, q2, q3⟩ := x_mb (it := it) (N := N) (v := (w : Int) - 9) h hA hi (by omega) hN hsh hw c.2.1 c.2.2
    rw [TX6_howManyBuried_L30, if_neg (fun z => by have := (iw_gt (by omega)).mp z; omega), eq, Option.bind_some, inG]
    unfold TX6_howManyBuried_J54
    rw [iw_next]
    by_cases e : bB A it N i w = true
    · rw [if_neg (fun z => (b2i_z q1).mp z e), if_pos e, nI_1]
      obtain ⟨S', F, hC, ee⟩ := ih (w + 1) n (p.1 + 1, if p.1 = 0 then iI (100 * i + ((w : Int) - 9) + 9) else p.2) q.2 ((w : Int) - 9) (by omega) (by omega) (bI_fr q2 c) q3
      exact ⟨S', FR_trans q2 F, hC, ee⟩
    · rw [if_pos ((b2i_z q1).mpr e), if_neg e, Int32.add_zero]
      obtain ⟨S', F, hC, ee⟩ := ih (w + 1) n p q.2 ((w : Int) - 9) (by omega) (by omega) (bI_fr q2 c) q3
      exact ⟨S', FR_trans q2 F, hC, ee⟩
theorem x_hm15 {it : Nat → Int32} {N sh : Nat} (hA : okA 1008000000000000 A) (hN : N ≤ qN A) (hsh : sh < 4) (hw : 0 < whN A ∨ qN A = 0) : ∀ (m i n : Nat) (p : Nat × Int32) (S : SS), i + m = qN A → m + 1 ≤ n → bI A it N sh S → CB S 16 A →
    WP (TX6_howManyBuried_L15 n (nI sh) (nI p.1) (nI i) S) (fun r => r.1 = nI (outG (bB A it N) m i p).1 ∧ FR pBx S r.2) := by
  have h8 := ok_n hA
  intro m
  induction m with
  | zero =>
    intro i n p S hm hn c h
    obtain ⟨n, rfl⟩ : ∃ q, n = q + 1 := ⟨n - 1, by omega⟩
    rw [TX6_howManyBuried_L15, c.1.1, if_pos (by rw [nI_cmp (by omega) (by omega)]; omega)]
    exact wp_some ⟨rfl, FR_refl⟩
  | succ m ih =>
    intro i n p S hm hn c h
    obtain ⟨n, rfl⟩ : ∃ q, n = q + 1 := ⟨n - 1, by omega⟩
    have h' : CB S 16 (setS A 0 i (qS A 0 i)) := by rw [setS_self]; exact h
    obtain ⟨S', F, hC, ee⟩ := x_hm30 (r := fun l1 l2 l3 S => TX6_howManyBuried_L15 n l1 l2 l3 S) (it := it) hA (i := i) (by omega) hN hsh (by omega) 19 0 fu p S _ (by omega) (by rw [fu_eq]; omega) c h'
    rw [TX6_howManyBuried_L15, c.1.1, if_neg (by rw [nI_cmp (by omega) (by omega)]; omega), outG]
    refine wp_eq ee ?_
    exact wp_mono (ih (i + 1) n (inG (bB A it N i) i 19 0 p) S' (by omega) (by omega) (bI_fr F c) hC) fun q hq => ⟨hq.1, FR_trans F hq.2⟩
theorem x_fb27 {r : Int32 → Int32 → SS → Option (Int32 × SS)} {it : Nat → Int32} {N sh i : Nat} (hA : okA 1008000000000000 A) (hi : i < qN A) (hN : N ≤ qN A) (hsh : sh < 4) (hw : 0 < whN A) : ∀ (m w n : Nat) (S : SS) (v0 : Int), w + m = 19 → m + 1 ≤ n → bI A it N sh S → CB S 16 (setS A 0 i v0) →
    ∃ S', FR pBx S S' ∧ ((CB S' 16 A ∧ inG (bB A it N i) i m w (0, -1) = (0, -1) ∧ TX6_firstBuried_L27 r n (nI sh) (nI i) (iI ((w : Int) - 9)) S = r (nI sh) (nI (i + 1)) S') ∨ ((inG (bB A it N i) i m w (0, -1)).1 ≠ 0 ∧ TX6_firstBuried_L27 r n (nI sh) (nI i) (iI ((w : Int) - 9)) S = some ((inG (bB A it N i) i m w (0, -1)).2, S'))) := by
  have h8 := ok_n hA
  intro m
  induction m with
  | zero =>
    intro w n S v0 hm hn c h
    obtain ⟨n, rfl⟩ : ∃ q, n = q + 1 := ⟨n - 1, by omega⟩
    obtain ⟨e5, hC⟩ := x_putb c h hi
    refine ⟨_, FR_AI FR_refl (by unfold pBx pB; omega), Or.inl ⟨hC, rfl, ?_⟩⟩
    rw [TX6_firstBuried_L27, if_pos ((iw_gt (by omega)).mpr (by omega)), aget_n (by omega) (by omega), Option.bind_some, if_pos (iI_in (by omega) (by omega)), iI_nat i (by omega), e5, nI_1]
    rfl
  | succ m ih =>
    intro w n S v0 hm hn c h
    obtain ⟨n, rfl⟩ : ∃ q, n = q + 1 := ⟨n - 1, by omega⟩
    obtain ⟨q, eq, q1, q2, q3⟩ := x_mb (it := it) (N := N) (v := (w : Int) - 9) h hA hi (by omega) hN hsh hw c.2.1 c.2.2
    rw [TX6_firstBuried_L27, if_neg (fun z => by have := (iw_gt (by omega)).mp z; omega), eq, Option.bind_some, inG, iw_next, iw_val]
    by_cases e : bB A it N i w = true
    · rw [if_neg (fun z => (b2i_z q1).mp z e), if_pos e]
      have k := inG_keep (bB A it N i) i m (w + 1) (0 + 1, iI (100 * i + ((w : Int) - 9) + 9)) (Nat.succ_ne_zero 0)
      refine ⟨q.2, q2, Or.inr ⟨k.2, ?_⟩⟩
      exact congrArg (fun x => some (x, q.2)) k.1.symm
    · rw [if_pos ((b2i_z q1).mpr e), if_neg e]
      obtain ⟨S', F, ee⟩ := ih (w + 1) n q.2 ((w : Int) - 9) (by omega) (by omega) (bI_fr q2 c) q3
      exact ⟨S', FR_trans q2 F, ee⟩
theorem x_fb13 {it : Nat → Int32} {N sh : Nat} (hA : okA 1008000000000000 A) (hN : N ≤ qN A) (hsh : sh < 4) (hw : 0 < whN A ∨ qN A = 0) : ∀ (m i n : Nat) (S : SS), i + m = qN A → m + 1 ≤ n → bI A it N sh S → CB S 16 A →
    WP (TX6_firstBuried_L13 n (nI sh) (nI i) S) (fun r => r.1 = (outG (bB A it N) m i (0, -1)).2 ∧ FR pBx S r.2) := by
  have h8 := ok_n hA
  intro m
  induction m with
  | zero =>
    intro i n S hm hn c h
    obtain ⟨n, rfl⟩ : ∃ q, n = q + 1 := ⟨n - 1, by omega⟩
    rw [TX6_firstBuried_L13, c.1.1, if_pos (by rw [nI_cmp (by omega) (by omega)]; omega)]
    exact wp_some ⟨rfl, FR_refl⟩
  | succ m ih =>
    intro i n S hm hn c h
    obtain ⟨n, rfl⟩ : ∃ q, n = q + 1 := ⟨n - 1, by omega⟩
    have h' : CB S 16 (setS A 0 i (qS A 0 i)) := by rw [setS_self]; exact h
    obtain ⟨S', F, ee⟩ := x_fb27 (r := fun l1 l2 S => TX6_firstBuried_L13 n l1 l2 S) (it := it) hA (i := i) (by omega) hN hsh (by omega) 19 0 fu S _ (by omega) (by rw [fu_eq]; omega) c h'
    rw [TX6_firstBuried_L13, c.1.1, if_neg (by rw [nI_cmp (by omega) (by omega)]; omega), outG]
    rcases ee with ⟨hC, e1, e2⟩ | ⟨e1, e2⟩
    · rw [e1]
      refine wp_eq e2 ?_
      exact wp_mono (ih (i + 1) n S' (by omega) (by omega) (bI_fr F c) hC) fun q hq => ⟨hq.1, FR_trans F hq.2⟩
    · refine wp_eq e2 (wp_some ⟨?_, F⟩)
      exact (outG_keep (bB A it N) m (i + 1) _ e1).symm
theorem m_isoL {it : Nat → Int32} {N sh i n0 : Nat} {v : Int} (hN : N ≤ n0) (h8 : n0 ≤ 8) (hsh : sh < 4) (hw : 0 < whN A) (hw2 : whN A ≤ 78310985281) (h54 : S.2.2.1 99 sh = nI N) (hit : ∀ q, q < N → S.2.2.1 100 (40 * sh + q) = it q) (h24 : S.2.1 64 24 = lI (whN A)) (h82 : ∀ q, q < n0 → S.2.2.2 82 q = lI (stG (setS A 0 i v) q)) (hb : ∀ q, q < n0 → l63 (stG (setS A 0 i v) q)) : ∀ (m k n : Nat) (f : Bool), k + m = N → m + 1 ≤ n → TX7_isSo_L4 S n (nI sh) (b2i (f = true)) (nI k) = some (b2i ((f && allB (bsP A it i v) m k) = true)) := by
  intro m
  induction m with
  | zero =>
    intro k n f hk hn
    obtain ⟨n, rfl⟩ : ∃ q, n = q + 1 := ⟨n - 1, by omega⟩
    rw [TX7_isSo_L4, aget_n hsh (by omega), Option.bind_some, h54, if_pos (by rw [nI_cmp (by omega) (by omega)]; omega)]
    cases f <;> rfl
  | succ m ih =>
    intro k n f hk hn
    obtain ⟨n, rfl⟩ : ∃ q, n = q + 1 := ⟨n - 1, by omega⟩
    have i1 := ih (k + 1) n true (by omega) (by omega)
    have i0 := ih (k + 1) n false (by omega) (by omega)
    rw [show b2i (true = true) = 1 from rfl] at i1
    rw [show b2i (false = true) = 0 from rfl] at i0
    rw [TX7_isSo_L4, aget_n hsh (by omega), Option.bind_some, h54, if_neg (by rw [nI_cmp (by omega) (by omega)]; omega), nI_1, aget_n (by omega) (by omega), Option.bind_some, h24, h82 k (by omega), fdiv_l (hb k (by omega)) hw (by omega), Option.bind_some, show (40 : Int32) = nI 40 from rfl, pk_mul, nI_add, aget_n (by omega) (by omega), Option.bind_some, hit k (by omega), i1, i0, allB]
    cases f
    · rw [if_pos (show b2i (false = true) = 0 from rfl)]
      rfl
    · rw [if_neg (show ¬ b2i (true = true) = 0 by decide)]
      by_cases e : lI (stG (setS A 0 i v) k / whN A) = (it k).toInt64
      · rw [if_pos e]
        exact congrArg some (b2i_congr (by simp [bsP, e]))
      · rw [if_neg e]
        exact congrArg some (b2i_congr (by simp [bsP, e]))
/-- what the reference's loops keep -/
def bM (A : AB) (it : Nat → Int32) (N sh : Nat) (S : SS) : Prop := MC S A ∧ S.2.2.1 99 sh = nI N ∧ ∀ q, q < N → S.2.2.1 100 (40 * sh + q) = it q
theorem bM_fr {it : Nat → Int32} {N sh : Nat} {S' : SS} (h : FR pSt S S') (c : bM A it N sh S) : bM A it N sh S' := by
  refine ⟨MC_st h c.1, ?_, fun q hq => ?_⟩
  · rw [h.2.2.1 99 (by unfold pSt; omega)]; exact c.2.1
  · rw [h.2.2.1 100 (by unfold pSt; omega)]; exact c.2.2 q hq
theorem m_bu89 {r : Int32 → Int32 → Int32 → Int32 → Int32 → SS → Option (Int32 × SS)} {it : Nat → Int32} {N sh i : Nat} {a2 : Int32} (hA : okA 1008000000000000 A) (hi : i < qN A) (hN : N ≤ qN A) (hsh : sh < 4) (hw : 0 < whN A) : ∀ (m w n : Nat) (p : Nat × Int32) (S : SS), w + m = 19 → m + 1 ≤ n → p.1 + m < 1000 → bM A it N sh S →
    ∃ S', FR pSt S S' ∧ TX7_buried_L89 r n (nI sh) a2 (nI p.1) p.2 (nI i) (iI ((w : Int) - 9)) S = r (nI sh) a2 (nI (inG (bB A it N i) i m w p).1) (inG (bB A it N i) i m w p).2 (nI (i + 1)) S' := by
  have h8 := ok_n hA
  have hwB := wh_N hA
  intro m
  induction m with
  | zero =>
    intro w n p S hm hn hp c
    obtain ⟨n, rfl⟩ : ∃ q, n = q + 1 := ⟨n - 1, by omega⟩
    refine ⟨S, FR_refl, ?_⟩
    rw [TX7_buried_L89, if_pos ((iw_gt (by omega)).mpr (by omega)), nI_1]
    rfl
  | succ m ih =>
    intro w n p S hm hn hp c
    obtain ⟨n, rfl⟩ : ∃ q, n = q + 1 := ⟨n - 1, by omega⟩
    obtain ⟨q, eq, q1, q2, q3, q4⟩ := m_stdV (v := (w : Int) - 9) c.1 hA hi (by omega)
    have hok : okA 1008000000000000 (setS A 0 i ((w : Int) - 9)) := ok_setS hA (Or.inl ⟨rfl, by omega⟩)
    rw [whM_n (by show 1 ≤ qN A; omega), whN_set] at q3
    have c' := bM_fr q2 c
    have es := m_isoL (S := q.2) (A := A) (it := it) (i := i) (v := (w : Int) - 9) (sh := sh) hN h8 hsh hw hwB.2 c'.2.1 c'.2.2 q3 q4 (fun x hx => by have := st_B hok (i := x) hx; omega) N 0 fu true (by omega) (by rw [fu_eq]; omega)
    have es' : TX7_isSo (nI sh) q.2 = some (b2i (bB A it N i w = true)) := es
    rw [TX7_buried_L89, if_neg (fun z => by have := (iw_gt (by omega)).mp z; omega), eq, Option.bind_some, es', Option.bind_some, inG, iw_next, iw_val, ite_b]
    by_cases e : bB A it N i w = true
    · rw [if_pos e, if_pos e, nI_1]
      obtain ⟨S', F, ee⟩ := ih (w + 1) n (p.1 + 1, if p.1 = 0 then iI (100 * i + ((w : Int) - 9) + 9) else p.2) q.2 (by omega) (by omega) (by show p.1 + 1 + m < 1000; omega) c'
      refine ⟨S', FR_trans q2 F, ?_⟩
      by_cases e0 : p.1 = 0
      · rw [if_pos (by rw [e0]; rfl)]
        rw [if_pos e0] at ee ⊢
        exact ee
      · rw [if_neg (nI_ne0 (by omega) (by omega))]
        rw [if_neg e0] at ee ⊢
        exact ee
    · rw [if_neg e, if_neg e]
      obtain ⟨S', F, ee⟩ := ih (w + 1) n p q.2 (by omega) (by omega) (by omega) c'
      exact ⟨S', FR_trans q2 F, ee⟩
theorem m_bu76 {it : Nat → Int32} {N sh : Nat} {a2 : Int32} (hA : okA 1008000000000000 A) (hN : N ≤ qN A) (hsh : sh < 4) (hw : 0 < whN A ∨ qN A = 0) : ∀ (m i n : Nat) (p : Nat × Int32) (S : SS), i + m = qN A → m + 1 ≤ n → p.1 + 19 * m < 1000 → bM A it N sh S →
    WP (TX7_buried_L76 n (nI sh) a2 (nI p.1) p.2 (nI i) S) (fun r => r.1 = (if a2 = 0 then (outG (bB A it N) m i p).2 else nI (outG (bB A it N) m i p).1) ∧ FR pSt S r.2) := by
  have h8 := ok_n hA
  intro m
  induction m with
  | zero =>
    intro i n p S hm hn hp c
    obtain ⟨n, rfl⟩ : ∃ q, n = q + 1 := ⟨n - 1, by omega⟩
    rw [TX7_buried_L76, c.1.1, if_pos (by rw [nI_cmp (by omega) (by omega)]; omega)]
    by_cases e : a2 = 0
    · rw [if_pos e, if_pos e]
      exact wp_some ⟨rfl, FR_refl⟩
    · rw [if_neg e, if_neg e]
      exact wp_some ⟨rfl, FR_refl⟩
  | succ m ih =>
    intro i n p S hm hn hp c
    obtain ⟨n, rfl⟩ : ∃ q, n = q + 1 := ⟨n - 1, by omega⟩
    obtain ⟨S', F, ee⟩ := m_bu89 (r := fun l1 l2 l3 l4 l5 S => TX7_buried_L76 n l1 l2 l3 l4 l5 S) (it := it) (a2 := a2) hA (i := i) (by omega) hN hsh (by omega) 19 0 fu p S (by omega) (by rw [fu_eq]; omega) (by omega) c
    have hle := inG_le (bB A it N i) i 19 0 p
    rw [TX7_buried_L76, c.1.1, if_neg (by rw [nI_cmp (by omega) (by omega)]; omega), outG]
    refine wp_eq ee ?_
    exact wp_mono (ih (i + 1) n (inG (bB A it N i) i 19 0 p) S' (by omega) (by omega) (by omega) (bM_fr F c)) fun q hq => ⟨hq.1, FR_trans F hq.2⟩
theorem a_buried (hs : okS s) (a1 a2 : Int32) : ∃ v, OX (TX6_buried a1 a2) s v s ∧ OM (TX7_buried a1 a2) s v s := by
  obtain ⟨z1, h1, rfl⟩ := i_cases a1
  obtain ⟨z2, h2, rfl⟩ := i_cases a2
  have h8 := ok_n hs.1
  have hA := okS_8 hs
  rcases emn (0 ≤ z1 ∧ z1 ≤ 3) with c1 | c1
  · refine ⟨-2, OX_no fun S c => ?_, OM_no fun S c => ?_⟩
    · unfold TX6_buried
      rw [x_isSheet h1, Option.bind_some, ite_b, if_neg c1]
    · unfold TX7_buried
      rw [m_isSheet h1, Option.bind_some, ite_b, if_neg c1]
  rcases emn (z2 = 0 ∨ z2 = 1) with c2 | c2
  · refine ⟨-2, OX_no fun S c => ?_, OM_no fun S c => ?_⟩
    · unfold TX6_buried
      rw [x_isSheet h1, Option.bind_some, ite_b, if_pos c1, x_bit h2, Option.bind_some, ite_b, if_neg c2]
    · unfold TX7_buried
      rw [m_isSheet h1, Option.bind_some, ite_b, if_pos c1, m_bit h2, Option.bind_some, ite_b, if_neg c2]
  obtain ⟨sh, rfl⟩ := i_nat c1.1
  have hsh : sh < 4 := by omega
  obtain ⟨o1, o2, o3⟩ := hs.2.2.1 sh hsh
  have c0 : nI (qN (tA s)) ≤ 0 ↔ qN (tA s) = 0 := by rw [nI_z, k0, iI_le (by omega) (by omega)]; omega
  have xe : ∀ S, CX S s → TX6_buried (iI sh) (iI z2) S = if tSo s sh = -1 then some (-11, S) else if tSz s sh ≤ qN (tA s) then (if qN (tA s) = 0 ∨ 0 < whN (tA s) then TX6_buried_J76 (nI sh) (iI z2) S else some (-3, S)) else some (-2, S) := fun S cx => by
    obtain ⟨-, e2, -⟩ := cx.2.2.2.1 sh hsh
    unfold TX6_buried
    rw [x_isSheet h1, Option.bind_some, ite_b, if_pos c1, x_bit h2, Option.bind_some, ite_b, if_pos c2, ← nI_z sh, x_missing cx hs hsh, Option.bind_some, ite_b, aget_n hsh (by omega), Option.bind_some, e2, (CB1 cx.1).1, x_canRest cx.1 hA, Option.bind_some, ite_b]
    by_cases d1 : tSo s sh = -1
    · rw [if_pos d1, if_pos d1]
    · rw [if_neg d1, if_neg d1]
      by_cases d2 : tSz s sh ≤ qN (tA s)
      · rw [if_pos (by rw [nI_cmp (by omega) (by omega)]; exact d2), if_pos d2]
        by_cases d3 : qN (tA s) = 0
        · rw [if_pos (c0.mpr d3), if_pos (Or.inl d3)]
        · rw [if_neg (fun z => d3 (c0.mp z))]
          by_cases d4 : 0 < whN (tA s)
          · rw [if_pos ⟨by omega, d4⟩, if_pos (Or.inr d4)]
          · rw [if_neg (fun z => d4 z.2), if_neg (by omega)]
      · rw [if_neg (by rw [nI_cmp (by omega) (by omega)]; exact d2), if_neg d2]
  have me : ∀ S, CM S s → ∃ r, FR pSt S r ∧ TX7_buried (iI sh) (iI z2) S = if tSo s sh = -1 then some (-11, r) else if tSz s sh ≤ qN (tA s) then (if qN (tA s) = 0 ∨ 0 < whN (tA s) then TX7_buried_J68 (nI sh) (iI z2) r else some (-3, r)) else some (-2, r) := fun S cm => by
    obtain ⟨e1, e2, -⟩ := cm.2.2.2.1 sh hsh
    obtain ⟨q, eq, q1, q2, q3, q4⟩ := m_std0 cm.1.1 hA
    have cc : iI (tSo s sh) = -1 ↔ tSo s sh = -1 := by rw [km1, iI_eq (by omega) (by omega)]
    unfold TX7_buried
    rw [m_isSheet h1, Option.bind_some, ite_b, if_pos c1, m_bit h2, Option.bind_some, ite_b, if_pos c2, ← nI_z sh, aget_n hsh (by omega), Option.bind_some, e1, aget_n hsh (by omega), Option.bind_some, e2, cm.1.1.1, eq, Option.bind_some]
    by_cases d1 : tSo s sh = -1
    · exact ⟨S, FR_refl, by rw [if_pos (cc.mpr d1), if_pos d1]⟩
    · rw [if_neg (fun z => d1 (cc.mp z))]
      by_cases d2 : tSz s sh ≤ qN (tA s)
      · rw [if_pos (by rw [nI_cmp (by omega) (by omega)]; exact d2)]
        by_cases d3 : qN (tA s) = 0
        · exact ⟨S, FR_refl, by rw [if_pos (c0.mpr d3), if_neg d1, if_pos d2, if_pos (Or.inl d3)]⟩
        · refine ⟨q.2, q2, ?_⟩
          rw [if_neg (fun z => d3 (c0.mp z)), if_neg d1, if_pos d2]
          by_cases d4 : 0 < whN (tA s)
          · rw [if_neg (fun z => (b2i_z q1).mp z (whM_pos.mpr ⟨by omega, d4⟩)), if_pos (Or.inr d4)]
          · rw [if_pos ((b2i_z q1).mpr (fun z => d4 (whM_pos.mp z).2)), if_neg (by omega)]
      · exact ⟨S, FR_refl, by rw [if_neg (by rw [nI_cmp (by omega) (by omega)]; exact d2), if_neg d1, if_neg d2]⟩
  by_cases d1 : tSo s sh = -1
  · refine ⟨-11, OX_no fun S c => ?_, fun S cm => ?_⟩
    · rw [xe S c, if_pos d1]
    · obtain ⟨r, F, er⟩ := me S cm
      rw [if_pos d1] at er
      exact wp_eq er (wp_some ⟨rfl, OM_st cm F⟩)
  by_cases d2 : tSz s sh ≤ qN (tA s)
  · by_cases d3 : qN (tA s) = 0 ∨ 0 < whN (tA s)
    · refine ⟨if iI z2 = 0 then (outG (bB (tA s) (tIt s sh) (tSz s sh)) (qN (tA s)) 0 (0, -1)).2 else nI (outG (bB (tA s) (tIt s sh) (tSz s sh)) (qN (tA s)) 0 (0, -1)).1, fun S cx => ?_, fun S cm => ?_⟩
      · rw [xe S cx, if_neg d1, if_pos d2, if_pos d3]
        obtain ⟨-, e2, e3⟩ := cx.2.2.2.1 sh hsh
        obtain ⟨q, eq, F1, hC⟩ := x_become (b := 16) cx.1 h8 (ok_p hA) (by omega)
        have F1' : FR pBx S q := FR_mono F1 (fun _ _ _ z => Or.inr z)
        have c : bI (tA s) (tIt s sh) (tSz s sh) sh q := bI_fr F1' ⟨cx.1, e2, e3⟩
        have fin : ∀ r : SS, FR pBx q r → FR pX S r ∧ CX r s := fun r F2 => by
          have F := FR_trans F1' F2
          exact ⟨FR_mono F (fun _ _ _ z => pXs_X _ _ _ (pBx_s _ _ _ z)), CX_frs (FR_mono F pBx_s) cx⟩
        unfold TX6_buried_J76
        by_cases e : iI z2 = 0
        · rw [if_pos e, if_pos e]
          unfold TX6_firstBuried
          rw [eq, Option.bind_some]
          refine wp_bind (x_fb13 hA d2 hsh (by omega) (qN (tA s)) 0 fu q (by omega) (by rw [fu_eq]; omega) c hC) fun r hr => ?_
          exact wp_some ⟨hr.1, fin _ hr.2⟩
        · rw [if_neg e, if_neg e]
          unfold TX6_howManyBuried
          rw [eq, Option.bind_some]
          refine wp_bind (x_hm15 hA d2 hsh (by omega) (qN (tA s)) 0 fu (0, -1) q (by omega) (by rw [fu_eq]; omega) c hC) fun r hr => ?_
          exact wp_some ⟨hr.1, fin _ hr.2⟩
      · obtain ⟨r, F, er⟩ := me S cm
        rw [if_neg d1, if_pos d2, if_pos d3] at er
        obtain ⟨-, e2, e3⟩ := cm.2.2.2.1 sh hsh
        have c : bM (tA s) (tIt s sh) (tSz s sh) sh r := bM_fr F ⟨cm.1.1, e2, e3⟩
        refine wp_eq er ?_
        unfold TX7_buried_J68
        exact wp_mono (m_bu76 (a2 := iI z2) hA d2 hsh (by omega) (qN (tA s)) 0 fu (0, -1) r (by omega) (by rw [fu_eq]; omega) (by show 0 + 19 * qN (tA s) < 1000; omega) c) fun q hq => ⟨hq.1, OM_st cm (FR_trans F hq.2)⟩
    · refine ⟨-3, OX_no fun S c => ?_, fun S cm => ?_⟩
      · rw [xe S c, if_neg d1, if_pos d2, if_neg d3]
      · obtain ⟨r, F, er⟩ := me S cm
        rw [if_neg d1, if_pos d2, if_neg d3] at er
        exact wp_eq er (wp_some ⟨rfl, OM_st cm F⟩)
  · refine ⟨-2, OX_no fun S c => ?_, fun S cm => ?_⟩
    · rw [xe S c, if_neg d1, if_neg d2]
    · obtain ⟨r, F, er⟩ := me S cm
      rw [if_neg d1, if_neg d2] at er
      exact wp_eq er (wp_some ⟨rfl, OM_st cm F⟩)
end BUR
