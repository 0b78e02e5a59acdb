/-! String constants: length and charAt of a constant of the tape, walked by hand; narrow returns; the law's own script. -/
theorem jS_at {G : JG} {x : Hs} {s : State} {H : Heap} {locs : List Loc} (hw : jw G x H) (hz : G.2.2.2.size ≤ s.heap.size) (hS : va_S (jA G) s.heap H locs) : ∀ a : Nat, a < G.2.2.2.size → ¬ jA G a → s.heap[a]? = G.2.2.2[a]? := fun a h1 h2 => (hS.2.1 a (by omega) h2).symm.trans (hw.2.2.2.2 a h1)
def sK (x : Hs) (a : Nat) : Option Nat := (List.range 8).find? (fun k => x.2.2 (100 + k) == a)
def sLen (x : Hs) (a : Nat) : Option Int32 := (sK x a).bind fun k => some (nI (sLn.getD k 0))
def sChr (x : Hs) (a : Nat) (i : Int32) : Option Int32 := (sK x a).bind fun k => if jin i (sLn.getD k 0) then some ((sBy.getD k []).getD i.toNatClampNeg 0 &&& 255) else none
theorem sK_some {x : Hs} {a k : Nat} (h : sK x a = some k) : k < 8 ∧ a = x.2.2 (100 + k) := by
  unfold sK at h
  have h1 := List.find?_some h
  have h2 := List.mem_of_find?_eq_some h
  have h3 : x.2.2 (100 + k) = a := by simpa using h1
  exact ⟨List.mem_range.mp h2, h3.symm⟩
section JS
variable {G : JG} {own : String} {cc : ByteArray} {nL : Nat} {Z : JZ} {ρ : Type} {E : ρ → JR} {pc pc' : Nat} {lv : List (Nat × Value)} {st : List Value} {x : Hs} {k n : Nat} {t : Option ρ}
theorem j_sval (pc' q : Nat) (hq : q < 8) {i : Nat} (w : Cond.fieldLink own i "java/lang/String" "value" "[B" ∈ jt) (d : decode cc pc = .ok (.getfield i, 3)) (hp : pc + 3 = pc') (h : JM G own cc nL Z E pc' lv (.ref (x.2.2 (200 + q)) :: st) x k n t) : JM G own cc nL Z E pc lv (.ref (x.2.2 (100 + q)) :: st) x k n t := by
  subst hp
  intro r hr p e s m args below meth c hE H locs ls hw hS hl
  obtain ⟨hx, hb, hml, hrt, ho, hts, hlk, hK, hN, hz, hnm, hX⟩ := id hE
  obtain ⟨xh, xt, xc⟩ := x
  have hct : xc = G.2.2.1 := hw.2.2.1
  subst hct
  have hV := hN.2.2.2.1.kept (jS_at hw hz hS)
  exact vk_getf hx hb (hV.1 q hq).2.2.1 hS ho (hts _ w) (fun _ h => h) d (h r hr p e s m args below meth c hE H locs ls hw hS hl)
theorem j_scod (pc' q : Nat) (hq : q < 8) {i : Nat} (w : Cond.fieldLink own i "java/lang/String" "coder" "B" ∈ jt) (d : decode cc pc = .ok (.getfield i, 3)) (hp : pc + 3 = pc') (h : JM G own cc nL Z E pc' lv (.int 0 :: st) x k n t) : JM G own cc nL Z E pc lv (.ref (x.2.2 (100 + q)) :: st) x k n t := by
  subst hp
  intro r hr p e s m args below meth c hE H locs ls hw hS hl
  obtain ⟨hx, hb, hml, hrt, ho, hts, hlk, hK, hN, hz, hnm, hX⟩ := id hE
  obtain ⟨xh, xt, xc⟩ := x
  have hct : xc = G.2.2.1 := hw.2.2.1
  subst hct
  have hV := hN.2.2.2.1.kept (jS_at hw hz hS)
  exact vk_getf hx hb (hV.1 q hq).2.1 hS ho (hts _ w) (fun _ h => h) d (h r hr p e s m args below meth c hE H locs ls hw hS hl)
theorem j_slen (pc' q : Nat) (hq : q < 8) (d : decode cc pc = .ok (.arraylength, 1)) (hp : pc + 1 = pc') (h : JM G own cc nL Z E pc' lv (.int (nI (sLn.getD q 0)) :: st) x k n t) : JM G own cc nL Z E pc lv (.ref (x.2.2 (200 + q)) :: st) x k n t := by
  subst hp
  intro r hr p e s m args below meth c hE H locs ls hw hS hl
  obtain ⟨hx, hb, hml, hrt, ho, hts, hlk, hK, hN, hz, hnm, hX⟩ := id hE
  obtain ⟨xh, xt, xc⟩ := x
  have hct : xc = G.2.2.1 := hw.2.2.1
  subst hct
  have hV := hN.2.2.2.1.kept (jS_at hw hz hS)
  exact va_tlen hx hb (hV.1 q hq).2.2.2 hS rfl d (h r hr p e s m args below meth c hE H locs ls hw hS hl)
theorem j_sbyte (pc' q : Nat) (hq : q < 8) {i : Int32} (hi : jin i (sLn.getD q 0)) (d : decode cc pc = .ok (.baload, 1)) (hp : pc + 1 = pc') (h : JM G own cc nL Z E pc' lv (.int ((sBy.getD q []).getD i.toNatClampNeg 0) :: st) x k n t) : JM G own cc nL Z E pc lv (.int i :: .ref (x.2.2 (200 + q)) :: st) x k n t := by
  subst hp
  intro r hr p e s m args below meth c hE H locs ls hw hS hl
  obtain ⟨hx, hb, hml, hrt, ho, hts, hlk, hK, hN, hz, hnm, hX⟩ := id hE
  obtain ⟨xh, xt, xc⟩ := x
  have hct : xc = G.2.2.1 := hw.2.2.1
  subst hct
  have hV := hN.2.2.2.1.kept (jS_at hw hz hS)
  exact va_tb hx hb (hV.1 q hq).2.2.2 hS hi rfl d (h r hr p e s m args below meth c hE H locs ls hw hS hl)
theorem j_compact (pc' : Nat) {i : Nat} (w : Cond.fieldLink own i "java/lang/String" "COMPACT_STRINGS" "Z" ∈ jt) (d : decode cc pc = .ok (.getstatic i, 3)) (hp : pc + 3 = pc') (h : JM G own cc nL Z E pc' lv (.int 1 :: st) x k n t) : JM G own cc nL Z E pc lv st x k n t := by
  subst hp
  intro r hr p e s m args below meth c hE H locs ls hw hS hl
  obtain ⟨hx, hb, hml, hrt, ho, hts, hlk, hK, hN, hz, hnm, hX⟩ := id hE
  exact va_gets hx hb (hN.2.2.2.2.1.kept (jS_at hw hz hS)) hS ho (hts _ w) (fun _ h => h) d (h r hr p e s m args below meth c hE H locs ls hw hS hl)
theorem j_sioobe (pc' : Nat) {i : Nat} (w : Cond.fieldLink own i "jdk/internal/util/Preconditions" "SIOOBE_FORMATTER" "Ljava/util/function/BiFunction;" ∈ jt) (d : decode cc pc = .ok (.getstatic i, 3)) (hp : pc + 3 = pc') (h : ∀ v : Value, (v = .null ∨ ∃ a, v = .ref a) → JM G own cc nL Z E pc' lv (v :: st) x k n t) : JM G own cc nL Z E pc lv st x k n t := by
  subst hp
  intro r hr p e s m args below meth c hE H locs ls hw hS hl
  obtain ⟨hx, hb, hml, hrt, ho, hts, hlk, hK, hN, hz, hnm, hX⟩ := id hE
  rcases hN.2.2.2.2.2.kept (jS_at hw hz hS) with hq | ⟨a, hq⟩
  · exact va_gets hx hb hq hS ho (hts _ w) (fun _ h => h) d (h .null (Or.inl rfl) r hr p e s m args below meth c hE H locs ls hw hS hl)
  · exact va_gets hx hb hq hS ho (hts _ w) (fun _ h => h) d (h (.ref a) (Or.inr ⟨a, rfl⟩) r hr p e s m args below meth c hE H locs ls hw hS hl)
theorem j_ldcS (pc' q : Nat) (hq : q < 8) {i : Nat} (hi : sIx q = i) (hown : own = RX5) (d : decode cc pc = .ok (.ldc i, 2)) (hp : pc + 2 = pc') (h : JM G own cc nL Z E pc' lv (.ref (x.2.2 (100 + q)) :: st) x k n t) : JM G own cc nL Z E pc lv st x k n t := by
  subst hp
  subst hi
  subst hown
  intro r hr p e s m args below meth c hE H locs ls hw hS hl
  obtain ⟨hx, hb, hml, hrt, ho, hts, hlk, hK, hN, hz, hnm, hX⟩ := id hE
  obtain ⟨xh, xt, xc⟩ := x
  have hct : xc = G.2.2.1 := hw.2.2.1
  subst hct
  exact va_ldcS hx hb ho (hN.2.2.1 q hq) d (h r hr p e s m args below meth c hE H locs ls hw hS hl)
theorem j_i2c (pc' : Nat) {u : Int32} (d : decode cc pc = .ok (.i2c, 1)) (hp : pc + 1 = pc') (h : JM G own cc nL Z E pc' lv (.int (u.toUInt32 % 65536).toInt32 :: st) x k n t) : JM G own cc nL Z E pc lv (.int u :: st) x k n t := by
  subst hp
  exact jm1 (fun p e s m args below meth c H locs Q ls hx hb _ _ hl kk => lv_i2c hx hb d rfl (kk ls hl)) h
theorem j_callVS_i (pc' : Nat) {mir : Option Int32} {kk : Int32 → Option ρ} {y : MethodName} {cc' : ByteArray} {nL' i n' a : Nat} {ret' : Option FieldType} {R' : Room} {As : List Value} (hc : ∀ q, mir = some q → JC G y cc' nL' ret' R' 0 0 (.ref a :: As) x (some (.int q), x)) (w0 : jsC y cc' nL' ret' n') (w1 : Cond.methodLink own i y ∈ jt) (w2 : Cond.instanceMethod y ∈ jt) (w3 : Cond.selects y.cls y y ∈ jt) (hy : y.cls = "java/lang/String") (ha : ∀ q, mir = some q → ∃ q9, q9 < 8 ∧ a = x.2.2 (100 + q9)) (hR : R'.cells = 0 ∧ R'.slots = 0 ∧ R'.frames + 1 ≤ Z.2.2.1.frames ∧ 8 + (nL' + 11) + R'.locals ≤ Z.2.2.1.locals) (hst : (st.map fun v => v.category).sum ≤ 8) (hcs : k + 0 ≤ Z.2.2.1.cells ∧ n + 0 ≤ Z.2.2.1.slots) (hn : As.length = n') (d : decode cc pc = .ok (.invokevirtual i, 3)) (hp : pc + 3 = pc') {st0 : List Value} (hs0 : As.reverse ++ .ref a :: st = st0) (h : ∀ q, JM G own cc nL Z E pc' lv (.int q :: st) x k n (kk q)) : JM G own cc nL Z E pc lv st0 x k n (mir.bind kk) := by
  subst hp
  subst hs0
  intro r hr p e s m args below meth c hE H locs ls hw hS hl
  obtain ⟨hx, hb, hml, hrt, ho, hts, hlk, hK, hN, hz, hnm, hX⟩ := id hE
  obtain ⟨q, hq, hr⟩ := Option.bind_eq_some_iff.mp hr
  obtain ⟨q9, hq9, rfl⟩ := ha q hq
  have hV := hN.2.2.2.1.kept (jS_at hw hz hS)
  have hrec : ∃ cell : Cell, H[x.2.2 (100 + q9)]? = some cell ∧ cell.vm.isStatics = false ∧ s.vm.findClass y.cls = some cell.cls := by
    rw [hy, hw.2.2.1]
    exact vk_recv (adK := fun k => G.2.2.1 (100 + k)) (i := q9) hV hq9 hS
  exact jcall (r := (some (.int q), x)) (va_runV (As := As) (rest := st) ⟨hx, hb, hml, ho, hts⟩ (hc q hq) ⟨callB_of n' hts (jt_good w0.1) rfl hR.1 hR.2.1 (hts _ w0.2.1) (hts _ w1) w0.2.2 hR.2.2, hts _ w2, hts _ w3⟩ ⟨jPc_blind, hrec, jPc_at hw hK hN⟩ rfl hn hl.1 rfl (lv_room hst) d hcs) hS (fun H1 locs1 hw1 hS1 => h q r hr p e s m args below meth c hE H1 locs1 ls hw1 hS1 hl)
/-- the law's own script -/
def sI (xs : Nat → Int32) (L : Nat) (i : Int32) : Option Int32 := if jin i L then some (xs i.toNatClampNeg) else none
theorem j_sI (pc' : Nat) {b L : Nat} {xs : Nat → Int32} {i : Int32} {kk : Int32 → Option ρ} (hext : ∀ args s, Z.2.2.2.2 args s → va_X b L xs s s.heap ∧ b < s.heap.size ∧ s.heap.size = G.2.2.2.size) (d : decode cc pc = .ok (.iaload, 1)) (hp : pc + 1 = pc') (h : ∀ v, JM G own cc nL Z E pc' lv (.int v :: st) x k n (kk v)) : JM G own cc nL Z E pc lv (.int i :: .ref b :: st) x k n ((sI xs L i).bind kk) := by
  subst hp
  intro r hr p e s m args below meth c hE H locs ls hw hS hl
  obtain ⟨hx, hb, hml, hrt, ho, hts, hlk, hK, hN, hz, hnm, hX⟩ := id hE
  obtain ⟨hx1, hx2, hx3⟩ := hext _ _ hX
  unfold sI at hr
  by_cases hi : jin i L
  · rw [if_pos hi] at hr
    exact va_sld hx hb hx1 hx2 (fun q => by unfold jA at q; omega) hS hi d (h _ r hr p e s m args below meth c hE H locs ls hw hS hl)
  · rw [if_neg hi] at hr
    cases hr
theorem j_sN (pc' : Nat) {b L : Nat} {xs : Nat → Int32} (hext : ∀ args s, Z.2.2.2.2 args s → va_X b L xs s s.heap ∧ b < s.heap.size ∧ s.heap.size = G.2.2.2.size) (d : decode cc pc = .ok (.arraylength, 1)) (hp : pc + 1 = pc') (h : JM G own cc nL Z E pc' lv (.int (Int32.ofNat L) :: st) x k n t) : JM G own cc nL Z E pc lv (.ref b :: st) x k n t := by
  subst hp
  intro r hr p e s m args below meth c hE H locs ls hw hS hl
  obtain ⟨hx, hb, hml, hrt, ho, hts, hlk, hK, hN, hz, hnm, hX⟩ := id hE
  obtain ⟨hx1, hx2, hx3⟩ := hext _ _ hX
  exact va_slen hx hb hx1 hx2 (fun q => by unfold jA at q; omega) hS d (h r hr p e s m args below meth c hE H locs ls hw hS hl)
end JS
section JS2
variable {G : JG} {own : String} {cc : ByteArray} {nL : Nat} {nm : String} {R : Room} {mc ms : Nat} {ρ : Type} {E : ρ → JR} {pc pc' : Nat} {lv : List (Nat × Value)} {st : List Value} {x : Hs} {k n : Nat} {t : Option ρ}
theorem j_nret {ty : FieldType} {v : Int32} {q : ρ} (hn : narrow ty (.int v) = .int v) (d : decode cc pc = .ok (.ireturn, 1)) (he : E q = (some (.int v), x)) : JM G own cc nL (jZ G (some ty) nm R mc ms) E pc lv [.int v] x mc ms (some q) := by
  intro r hr p e s m args below meth c hE H locs ls hw hS hl
  obtain ⟨hx, hb, hml, hrt, ho, hts, hlk, hK, hN, hz, hnm, hX⟩ := id hE
  cases hr
  exact W.zret hx hb hrt hn (fun t ht hW => ⟨by rw [he], by rw [he, ht]; exact hw, hS.F ht⟩) hS.2.2 d (hlocks := hlk)
theorem j_aret {C : String} {a : Nat} {q : ρ} (d : decode cc pc = .ok (.areturn, 1)) (he : E q = (some (.ref a), x)) : JM G own cc nL (jZ G (some (.object C)) nm R mc ms) E pc lv [.ref a] x mc ms (some q) := by
  intro r hr p e s m args below meth c hE H locs ls hw hS hl
  obtain ⟨hx, hb, hml, hrt, ho, hts, hlk, hK, hN, hz, hnm, hX⟩ := id hE
  cases hr
  exact W.aret hx hb hrt (Or.inl ⟨C, rfl⟩) (Or.inr ⟨a, rfl⟩) (fun t ht hW => ⟨by rw [he], by rw [he, ht]; exact hw, hS.F ht⟩) hS.2.2 d (hlocks := hlk)
end JS2
