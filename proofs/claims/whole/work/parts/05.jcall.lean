/-! Copies, returns, contracts, calls, births. -/
section JC1
variable {G : JG} {own : String} {cc : ByteArray} {nL : Nat} {Z : JZ} {ρ : Type} {E : ρ → JR} {pc pc' : Nat} {lv : List (Nat × Value)} {st : List Value} {x : Hs} {k n : Nat} {t : Option ρ}
theorem j_cpI (pc' : Nat) {a0 a i : Nat} {sp dp nn : Int32} {kk : Hs → Option ρ} (w1 : Cond.methodLink own i arraycopyName ∈ jt) (w2 : Cond.native arraycopyName ∈ jt) (w3 : Cond.static arraycopyName ∈ jt) (w4 : Cond.initialized "java/lang/System" ∈ jt) (hfr : 1 ≤ Z.2.2.1.frames) (hlo : (st.map fun v => v.category).sum + (nativeFrameWords "java/lang/System" "arraycopy" 5 + 11) ≤ Z.2.2.1.locals) (d : decode cc pc = .ok (.invokestatic i, 3)) (hp : pc + 3 = pc') (h : ∀ y, JM G own cc nL Z E pc' lv st y k n (kk y)) : JM G own cc nL Z E pc lv (.int nn :: .int dp :: .ref a :: .int sp :: .ref a0 :: st) x k n ((cpI x a0 sp a dp nn).bind kk) := by
  subst hp
  intro r hr p e s m args below meth c hE H locs ls hw hS hl
  obtain ⟨hx, hb, hml, hrt, ho, hts, hlk, hK, hN, hz, hnm, hX⟩ := id hE
  obtain ⟨y, hy, hr⟩ := Option.bind_eq_some_iff.mp hr
  obtain ⟨n0, n1, f, g, he0, he1, ⟨h1, h2, h3, h4, h5⟩, rfl⟩ := cpI_some hy
  obtain ⟨hA0, hc0⟩ := jw_at hw he0 dum_l
  obtain ⟨hA, hc1⟩ := jw_at hw he1 dum_l
  have hty : (jty G.2.2.1)[0]? = some (x.2.2 0, .int) := by rw [hw.2.2.1]; rfl
  have nn9 : ∀ z : Int32, ¬ z < 0 → z.toInt = (z.toNatClampNeg : Int) := by
    intro z hz
    have hz0 : (0 : Int) ≤ z.toInt := by
      have := Int32.not_lt.mp hz
      simpa using Int32.le_iff_toInt_le.mp this
    show z.toInt = ((z.toInt.toNat : Nat) : Int)
    omega
  intro T hT X
  have hc0 : H[a0]? = some (vp_cell (x.2.2 0) (n0, .inl f)) := hc0
  have hc1 : H[a]? = some (vp_cell (x.2.2 0) (n1, .inl g)) := hc1
  obtain ⟨-, k0, hk0, cm0, hkk0⟩ := (hK.2 0 _ hty).1 n0 (fun j => .int (f j))
  obtain ⟨-, k1, hk1, cm1, hkk1⟩ := (hK.2 0 _ hty).1 n1 (fun j => .int (g j))
  obtain ⟨vm', X', step⟩ := X.arraycopy hx ho (hts _ w1) (hts _ w2) (hts _ w3) (hts _ w4) (src := a0) (dst := a) (cs := vp_cell (x.2.2 0) (n0, .inl f)) (cd := vp_cell (x.2.2 0) (n1, .inl g)) (srcPos := sp) (destPos := dp) (n := nn) (by rw [hT]; exact hc0) (by rw [hT]; exact hc1)
    (fun _ h => by cases h) (fun _ h => by cases h) (fun h => by cases h) (fun h => by cases h) hk0 hk1 hkk0 hkk1 (by rfl) h1 h2 h3
    (by rw [nn9 sp h1, nn9 nn h3]; show ¬ _ > ((arrV (x.2.2 0) n0 (fun j => .int (f j))).slots.size : Int); rw [arrV_size]; omega)
    (by rw [nn9 dp h2, nn9 nn h3]; show ¬ _ > ((arrV (x.2.2 0) n1 (fun j => .int (g j))).slots.size : Int); rw [arrV_size]; omega)
    (fun vm₁ _ i hi => by
      have e : (vp_cell (x.2.2 0) (n0, .inl f)).slots.getD (sp.toNatClampNeg + i) .null = .int (f (sp.toNatClampNeg + i)) := by
        show (arrV (x.2.2 0) n0 (fun j => .int (f j))).slots.getD _ _ = _
        rw [Array.getD_eq_getD_getElem?, arrV_read _ _ (by omega)]
        rfl
      refine ⟨?_, ?_⟩
      · rw [e]
        rfl
      · rw [e]
        exact trivial)
    (g := F0 m pc ls (.int nn :: .int dp :: .ref a :: .int sp :: .ref a0 :: st)) rfl (by rw [hml]; exact hl.1) (rest := st) rfl (by rw [hb]; exact d) hfr (by show 2 * 0 + _ + _ ≤ _; omega)
  have e1 : copied (vp_cell (x.2.2 0) (n0, .inl f)) (vp_cell (x.2.2 0) (n1, .inl g)) sp dp nn = vp_cell (x.2.2 0) (n1, .inl (va_cpy f g sp.toNatClampNeg dp.toNatClampNeg nn.toNatClampNeg)) := va_copied (fun z => .int z) (x.2.2 0) (x.2.2 0) f g h4
  rw [e1] at X' step
  have hl9 : a < H.size := (Array.getElem?_eq_some_iff.mp hc1).1
  have hheap : ((T.setVm vm').setCell a (vp_cell (x.2.2 0) (n1, .inl (va_cpy f g sp.toNatClampNeg dp.toNatClampNeg nn.toNatClampNeg)))).heap = H.setIfInBounds a (vp_cell (x.2.2 0) (n1, .inl (va_cpy f g sp.toNatClampNeg dp.toNatClampNeg nn.toNatClampNeg))) := by rw [← hT]; rfl
  have oq : ∀ q : Nat, q ≠ a → (H.setIfInBounds a (vp_cell (x.2.2 0) (n1, .inl (va_cpy f g sp.toNatClampNeg dp.toNatClampNeg nn.toNatClampNeg))))[q]? = H[q]? := fun q hq => by simp [Array.getElem?_setIfInBounds, Ne.symm hq]
  obtain ⟨t, a1, b1⟩ := h _ r hr p e s m args below meth c hE _ _ ls (jw_upd hw hA (by simp) oq (show (H.setIfInBounds a _)[a]? = some _ by simp [Array.getElem?_setIfInBounds, hl9])) ⟨by simp; exact hS.1, fun q g1 g2 => by
      rw [oq q (fun e => g2 (by rw [e]; exact hA))]
      exact hS.2.1 q g1 g2, fun q hq => by
      rcases List.mem_append.mp hq with h | h
      · exact hS.2.2 q h
      · obtain ⟨z, -, hz⟩ := List.mem_map.mp h
        rw [← hz]
        exact hA⟩ hl _ hheap X'
  exact ⟨t, step t a1, b1⟩
theorem j_cpL (pc' : Nat) {a0 a i : Nat} {sp dp nn : Int32} {kk : Hs → Option ρ} (w1 : Cond.methodLink own i arraycopyName ∈ jt) (w2 : Cond.native arraycopyName ∈ jt) (w3 : Cond.static arraycopyName ∈ jt) (w4 : Cond.initialized "java/lang/System" ∈ jt) (hfr : 1 ≤ Z.2.2.1.frames) (hlo : (st.map fun v => v.category).sum + (nativeFrameWords "java/lang/System" "arraycopy" 5 + 11) ≤ Z.2.2.1.locals) (d : decode cc pc = .ok (.invokestatic i, 3)) (hp : pc + 3 = pc') (h : ∀ y, JM G own cc nL Z E pc' lv st y k n (kk y)) : JM G own cc nL Z E pc lv (.int nn :: .int dp :: .ref a :: .int sp :: .ref a0 :: st) x k n ((cpL x a0 sp a dp nn).bind kk) := by
  subst hp
  intro r hr p e s m args below meth c hE H locs ls hw hS hl
  obtain ⟨hx, hb, hml, hrt, ho, hts, hlk, hK, hN, hz, hnm, hX⟩ := id hE
  obtain ⟨y, hy, hr⟩ := Option.bind_eq_some_iff.mp hr
  obtain ⟨n0, n1, f, g, he0, he1, ⟨h1, h2, h3, h4, h5⟩, rfl⟩ := cpL_some hy
  obtain ⟨hA0, hc0⟩ := jw_at hw he0 dum_l
  obtain ⟨hA, hc1⟩ := jw_at hw he1 dum_l
  have hty : (jty G.2.2.1)[1]? = some (x.2.2 1, .long) := by rw [hw.2.2.1]; rfl
  have nn9 : ∀ z : Int32, ¬ z < 0 → z.toInt = (z.toNatClampNeg : Int) := by
    intro z hz
    have hz0 : (0 : Int) ≤ z.toInt := by
      have := Int32.not_lt.mp hz
      simpa using Int32.le_iff_toInt_le.mp this
    show z.toInt = ((z.toInt.toNat : Nat) : Int)
    omega
  intro T hT X
  have hc0 : H[a0]? = some (vp_cell (x.2.2 1) (n0, .inr (.inl f))) := hc0
  have hc1 : H[a]? = some (vp_cell (x.2.2 1) (n1, .inr (.inl g))) := hc1
  obtain ⟨-, k0, hk0, cm0, hkk0⟩ := (hK.2 1 _ hty).1 n0 (fun j => .long (f j))
  obtain ⟨-, k1, hk1, cm1, hkk1⟩ := (hK.2 1 _ hty).1 n1 (fun j => .long (g j))
  obtain ⟨vm', X', step⟩ := X.arraycopy hx ho (hts _ w1) (hts _ w2) (hts _ w3) (hts _ w4) (src := a0) (dst := a) (cs := vp_cell (x.2.2 1) (n0, .inr (.inl f))) (cd := vp_cell (x.2.2 1) (n1, .inr (.inl g))) (srcPos := sp) (destPos := dp) (n := nn) (by rw [hT]; exact hc0) (by rw [hT]; exact hc1)
    (fun _ h => by cases h) (fun _ h => by cases h) (fun h => by cases h) (fun h => by cases h) hk0 hk1 hkk0 hkk1 (by rfl) h1 h2 h3
    (by rw [nn9 sp h1, nn9 nn h3]; show ¬ _ > ((arrV (x.2.2 1) n0 (fun j => .long (f j))).slots.size : Int); rw [arrV_size]; omega)
    (by rw [nn9 dp h2, nn9 nn h3]; show ¬ _ > ((arrV (x.2.2 1) n1 (fun j => .long (g j))).slots.size : Int); rw [arrV_size]; omega)
    (fun vm₁ _ i hi => by
      have e : (vp_cell (x.2.2 1) (n0, .inr (.inl f))).slots.getD (sp.toNatClampNeg + i) .null = .long (f (sp.toNatClampNeg + i)) := by
        show (arrV (x.2.2 1) n0 (fun j => .long (f j))).slots.getD _ _ = _
        rw [Array.getD_eq_getD_getElem?, arrV_read _ _ (by omega)]
        rfl
      refine ⟨?_, ?_⟩
      · rw [e]
        rfl
      · rw [e]
        exact trivial)
    (g := F0 m pc ls (.int nn :: .int dp :: .ref a :: .int sp :: .ref a0 :: st)) rfl (by rw [hml]; exact hl.1) (rest := st) rfl (by rw [hb]; exact d) hfr (by show 2 * 0 + _ + _ ≤ _; omega)
  have e1 : copied (vp_cell (x.2.2 1) (n0, .inr (.inl f))) (vp_cell (x.2.2 1) (n1, .inr (.inl g))) sp dp nn = vp_cell (x.2.2 1) (n1, .inr (.inl (va_cpy f g sp.toNatClampNeg dp.toNatClampNeg nn.toNatClampNeg))) := va_copied (fun z => .long z) (x.2.2 1) (x.2.2 1) f g h4
  rw [e1] at X' step
  have hl9 : a < H.size := (Array.getElem?_eq_some_iff.mp hc1).1
  have hheap : ((T.setVm vm').setCell a (vp_cell (x.2.2 1) (n1, .inr (.inl (va_cpy f g sp.toNatClampNeg dp.toNatClampNeg nn.toNatClampNeg))))).heap = H.setIfInBounds a (vp_cell (x.2.2 1) (n1, .inr (.inl (va_cpy f g sp.toNatClampNeg dp.toNatClampNeg nn.toNatClampNeg)))) := by rw [← hT]; rfl
  have oq : ∀ q : Nat, q ≠ a → (H.setIfInBounds a (vp_cell (x.2.2 1) (n1, .inr (.inl (va_cpy f g sp.toNatClampNeg dp.toNatClampNeg nn.toNatClampNeg)))))[q]? = H[q]? := fun q hq => by simp [Array.getElem?_setIfInBounds, Ne.symm hq]
  obtain ⟨t, a1, b1⟩ := h _ r hr p e s m args below meth c hE _ _ ls (jw_upd hw hA (by simp) oq (show (H.setIfInBounds a _)[a]? = some _ by simp [Array.getElem?_setIfInBounds, hl9])) ⟨by simp; exact hS.1, fun q g1 g2 => by
      rw [oq q (fun e => g2 (by rw [e]; exact hA))]
      exact hS.2.1 q g1 g2, fun q hq => by
      rcases List.mem_append.mp hq with h | h
      · exact hS.2.2 q h
      · obtain ⟨z, -, hz⟩ := List.mem_map.mp h
        rw [← hz]
        exact hA⟩ hl _ hheap X'
  exact ⟨t, step t a1, b1⟩
end JC1
/-- the fixed part of an ordinary method -/
def jZ (G : JG) (ret : Option FieldType) (nm : String) (R : Room) (mc ms : Nat) : JZ := (ret, nm, R, fun below args s r => MQ below (jQ G r) args s mc ms (jA G), fun _ _ => True)
/-- a room by depth -/
def jR (d mc ms : Nat) : Room := { frames := d, cells := mc, slots := ms, locals := 64 * d }
def jPc (G : JG) (av : List Value) (x : Hs) : Array Value → State → Prop := va_Pc av (fun U => jw G x U.heap ∧ va_K G.2.1 vwCl (jty G.2.2.1) U ∧ jN G U)
/-- the contract: from the heap x with these arguments the method answers r.1 and leaves the heap r.2 -/
def JC (G : JG) (y : MethodName) (cc : ByteArray) (nL : Nat) (ret : Option FieldType) (R : Room) (mc ms : Nat) (av : List Value) (x : Hs) (r : JR) : Prop := Met G.1 y (.code y cc nL ret :: jt) R (jPc G av x) (jQ G r) mc ms (jA G)
theorem jc_of {G : JG} {y : MethodName} {own : String} {cc : ByteArray} {nL : Nat} {ret : Option FieldType} {nm : String} {R : Room} {mc ms : Nat} {ρ : Type} {E : ρ → JR} {av : List Value} {lv : List (Nat × Value)} {x : Hs} {t : Option ρ} (hy : plainName y.cls = true) (hown : y.cls = own) (hnm : y.name = nm) (hlen : (lg_sl av).length ≤ nL) (hlv : lv_args 0 av = lv) (h : JM G own cc nL (jZ G ret nm R mc ms) E 0 lv [] x 0 0 t) : ∀ r, t = some r → JC G y cc nL ret R mc ms av x (E r) := by
  intro r hr
  subst hown
  subst hnm
  subst hlv
  refine Met.ofW (cc := cc) (maxL := nL) (ret := ret) hy rfl ?_
  intro p e s m args below meth c s₁ B hml hv
  obtain ⟨rfl, hw, hK, hN⟩ := hv
  have hts := atoms_spec (ws := .code y cc nL ret :: jt) B.pre
  have hz : G.2.2.2.size ≤ s.heap.size := by rw [hw.1]; exact hw.2.1
  have hl := lv_entry av (n := nL) hlen
  rw [lg_entry_eq]
  exact h r hr p e s m _ below meth c ⟨B.exec, B.bytes, hml, B.returns, findClass_of_methodNamed B.named, fun w hw => hts w (List.mem_cons_of_mem _ hw), B.notSynchronized, hK, hN, hz, (name_of_methodNamed B.named B.method).1, trivial⟩ s.heap [] _ hw va_S.rf hl
section JC2
variable {G : JG} {own : String} {cc : ByteArray} {nL : Nat} {ret : Option FieldType} {nm : String} {R : Room} {mc ms : Nat} {ρ : Type} {E : ρ → JR} {pc pc' : Nat} {lv : List (Nat × Value)} {st : List Value} {x : Hs} {k n : Nat} {t : Option ρ}
theorem j_iret {v : Int32} {q : ρ} (d : decode cc pc = .ok (.ireturn, 1)) (he : E q = (some (.int v), x)) : JM G own cc nL (jZ G (some .int) nm R mc ms) E pc lv [.int v] x mc ms (some q) := by
  intro r hr p e s m args below meth c hE H locs ls hw hS hl
  obtain ⟨hx, hb, hml, hrt, ho, hts, hlk, hK, hN, hz, hnm, hX⟩ := id hE
  cases hr
  exact W.iret hx hb hrt (fun t ht hW => ⟨by rw [he], by rw [he, ht]; exact hw, hS.F ht⟩) hS.2.2 d (hlocks := hlk)
theorem j_lret {v : Int64} {q : ρ} (d : decode cc pc = .ok (.lreturn, 1)) (he : E q = (some (.long v), x)) : JM G own cc nL (jZ G (some .long) nm R mc ms) E pc lv [.long v] x mc ms (some q) := by
  intro r hr p e s m args below meth c hE H locs ls hw hS hl
  obtain ⟨hx, hb, hml, hrt, ho, hts, hlk, hK, hN, hz, hnm, hX⟩ := id hE
  cases hr
  exact W.lret hx hb hrt (fun t ht hW => ⟨by rw [he], by rw [he, ht]; exact hw, hS.F ht⟩) hS.2.2 d (hlocks := hlk)
theorem j_vret {q : ρ} (d : decode cc pc = .ok (.return_, 1)) (he : E q = (none, x)) : JM G own cc nL (jZ G (none) nm R mc ms) E pc lv [] x mc ms (some q) := by
  intro r hr p e s m args below meth c hE H locs ls hw hS hl
  obtain ⟨hx, hb, hml, hrt, ho, hts, hlk, hK, hN, hz, hnm, hX⟩ := id hE
  cases hr
  exact W.vret hx hb hrt (fun t ht hW => ⟨by rw [he], by rw [he, ht]; exact hw, hS.F ht⟩) hS.2.2 d (hlocks := hlk)
theorem j_zret {v : Int32} {q : Int32 → ρ} (d : decode cc pc = .ok (.ireturn, 1)) (he : ∀ v, E (q v) = (some (.int v), x)) : JM G own cc nL (jZ G (some .boolean) nm R mc ms) E pc lv [.int v] x mc ms ((zb v).bind fun v => some (q v)) := by
  intro r hr p e s m args below meth c hE H locs ls hw hS hl
  obtain ⟨hx, hb, hml, hrt, ho, hts, hlk, hK, hN, hz, hnm, hX⟩ := id hE
  unfold zb at hr
  by_cases hv : v = 0 ∨ v = 1
  · rw [if_pos hv] at hr
    cases hr
    refine W.zret hx hb hrt ?_ (fun t ht hW => ⟨by rw [he], by rw [he, ht]; exact hw, hS.F ht⟩) hS.2.2 d (hlocks := hlk)
    rcases hv with rfl | rfl <;> rfl
  · rw [if_neg hv] at hr
    cases hr
end JC2
/-- what a callee has -/
def jsC (y : MethodName) (cc : ByteArray) (nL : Nat) (ret : Option FieldType) (n : Nat) : Prop := Cond.code y cc nL ret ∈ jt ∧ Cond.initialized y.cls ∈ jt ∧ (y.cls ≠ "java/lang/invoke/MethodHandle" ∧ y.cls ≠ "java/lang/invoke/VarHandle" ∧ (parseMethodDescriptor y.desc).map (fun d => d.parameters.length) = some n)
theorem jt_good {y : MethodName} {cc : ByteArray} {nL : Nat} {ret : Option FieldType} (h : Cond.code y cc nL ret ∈ jt) : GoodIn jt (.code y cc nL ret :: jt) := by
  intro w hw
  have hm : w ∈ jt := by
    rcases List.mem_cons.mp hw with rfl | hw
    · exact h
    · exact hw
  exact ⟨hm, good_of_word (List.mem_filter.mp hm).2⟩
/-- behind a call -/
theorem jcall {p : Program} {l : Launch} {e : Env} {R : Room} {s : State} {m : MethodId} {args : Array Value} {below : List Frame} {meth : Method} {c : Code} {H : Heap} {locs : List Loc} {cells slots mc ms : Nat} {Q : State → Prop} {G : JG} {r : JR} {a : Array Value} {pc : Nat} {ls : Array Slot} {st0 rest : List Value} (hr : va_Run p l e R s m args below meth c H locs cells slots mc ms (F0 m pc ls st0) rest (jQ G r a) (jA G)) (hS : va_S (jA G) s.heap H locs)
    (kk : ∀ (H1 : Heap) (locs1 : List Loc), jw G r.2 H1 → va_S (jA G) s.heap H1 locs1 → W p l e R s m args below meth c H1 locs1 (cells + mc) (slots + ms) Q (F0 m (pc + 3) ls (r.1.toList ++ rest))) : W p l e R s m args below meth c H locs cells slots Q (F0 m pc ls st0) := by
  intro T hT X
  obtain ⟨v, st₀, t, T', L, h0, X', hL, e1, e2, ⟨hv, hw, hz, hk⟩, st⟩ := hr T hT X
  cases hv
  rw [h0] at hz hk
  rw [← e1] at hw
  obtain ⟨t2, a1, b1⟩ := kk T'.heap (locs ++ L) hw ⟨Nat.le_trans hS.1 (by rw [e1]; exact hz), fun q h1 h2 => by rw [e1, hk q (Nat.lt_of_lt_of_le h1 hS.1) h2]; exact hS.2.1 q h1 h2, fun q hq => by
      rcases List.mem_append.mp hq with h | h
      · exact hS.2.2 q h
      · exact hL q h⟩ T' rfl X'
  exact ⟨t2, st t2 a1, b1⟩
theorem jPc_blind {G : JG} {av : List Value} {x : Hs} : FrameBlind (jPc G av x) := by
  intro a U g mk h
  obtain ⟨h1, h2, h3, h4⟩ := h
  exact ⟨h1, h2, va_K.moved (u := U) (U := U.calling g mk a) (Vm.Alike.refl U.vm) h3, jN_calling h4⟩
theorem jPc_at {G : JG} {s : State} {H : Heap} {x : Hs} {av : List Value} (hw : jw G x H) (hK : va_K G.2.1 vwCl (jty G.2.2.1) s) (hN : jN G s) : ∀ U : State, U.heap = H → s.WarmedH U.vm → jPc G av x av.toArray U := fun U hU hW => ⟨rfl, by rw [hU]; exact hw, va_K.moved hW.alike hK, jN_warm hW hN⟩
section JC3
variable {G : JG} {own : String} {cc : ByteArray} {nL : Nat} {Z : JZ} {ρ : Type} {E : ρ → JR} {pc pc' : Nat} {lv : List (Nat × Value)} {st : List Value} {x : Hs} {k n : Nat} {t : Option ρ}
theorem j_callS (pc' : Nat) {ρ' : Type} {E' : ρ' → JR} {mir : Option ρ'} {kk : ρ' → Option ρ} {y : MethodName} {cc' : ByteArray} {nL' i n' mc' ms' : Nat} {ret' : Option FieldType} {R' : Room} {As : List Value}  (hc : ∀ q, mir = some q → JC G y cc' nL' ret' R' mc' ms' (As) x (E' q)) (w0 : jsC y cc' nL' ret' n') (w1 : Cond.methodLink own i y ∈ jt) (w2 : Cond.static y ∈ jt) (hR : R'.cells = mc' ∧ R'.slots = ms' ∧ R'.frames + 1 ≤ Z.2.2.1.frames ∧ 8 + (nL' + 11) + R'.locals ≤ Z.2.2.1.locals) (hst : (st.map fun v => v.category).sum ≤ 8) (hcs : k + mc' ≤ Z.2.2.1.cells ∧ n + ms' ≤ Z.2.2.1.slots) (hn : As.length = n') (d : decode cc pc = .ok (.invokestatic i, 3)) (hp : pc + 3 = pc') {st0 : List Value} (hs0 : As.reverse ++ st = st0) (h : ∀ q, JM G own cc nL Z E pc' lv ((E' q).1.toList ++ st) (E' q).2 (k + mc') (n + ms') (kk q)) : JM G own cc nL Z E pc lv st0 x k n (mir.bind kk) := by
  subst hp
  subst hs0
  intro r hr p e s m args below meth c hE H locs ls hw hS hl
  obtain ⟨hx, hb, hml, hrt, ho, hts, hlk, hK, hN, hz, hnm, hX⟩ := id hE
  obtain ⟨q, hq, hr⟩ := Option.bind_eq_some_iff.mp hr
  exact jcall (va_runS (As := As) (rest := st) ⟨hx, hb, hml, ho, hts⟩ (hc q hq) ⟨callB_of n' hts (jt_good w0.1) rfl hR.1 hR.2.1 (hts _ w0.2.1) (hts _ w1) w0.2.2 hR.2.2, hts _ w2⟩ ⟨jPc_blind, jPc_at hw hK hN⟩ rfl hn hl.1 rfl (lv_room hst) d hcs) hS (fun H1 locs1 hw1 hS1 => h q r hr p e s m args below meth c hE H1 locs1 ls hw1 hS1 hl)
theorem j_callSN (pc' : Nat) {ρ' : Type} {E' : ρ' → JR} {mir : Option ρ'} {kk : ρ' → Option ρ} {y : MethodName} {cc' : ByteArray} {nL' i n' mc' ms' : Nat} {ret' : Option FieldType} {R' : Room} {As : List Value}  (hc : ∀ q, mir = some q → JC G y cc' nL' ret' R' mc' ms' (As) x (E' q)) {host : String} (w0 : jsC y cc' nL' ret' n') (w1 : (own, i, y, host) ∈ jnl) (w2 : Cond.static y ∈ jt) (hR : R'.cells = mc' ∧ R'.slots = ms' ∧ R'.frames + 1 ≤ Z.2.2.1.frames ∧ 8 + (nL' + 11) + R'.locals ≤ Z.2.2.1.locals) (hst : (st.map fun v => v.category).sum ≤ 8) (hcs : k + mc' ≤ Z.2.2.1.cells ∧ n + ms' ≤ Z.2.2.1.slots) (hn : As.length = n') (d : decode cc pc = .ok (.invokestatic i, 3)) (hp : pc + 3 = pc') {st0 : List Value} (hs0 : As.reverse ++ st = st0) (h : ∀ q, JM G own cc nL Z E pc' lv ((E' q).1.toList ++ st) (E' q).2 (k + mc') (n + ms') (kk q)) : JM G own cc nL Z E pc lv st0 x k n (mir.bind kk) := by
  subst hp
  subst hs0
  intro r hr p e s m args below meth c hE H locs ls hw hS hl
  obtain ⟨hx, hb, hml, hrt, ho, hts, hlk, hK, hN, hz, hnm, hX⟩ := id hE
  obtain ⟨q, hq, hr⟩ := Option.bind_eq_some_iff.mp hr
  exact jcall (va_runSN (As := As) (rest := st) ⟨hx, hb, hml, ho, hts⟩ (hc q hq) ⟨va_cnB n' hts (jt_good w0.1) rfl hR.1 hR.2.1 (hN.1 _ w1) (hts _ w0.2.1) w0.2.2 hR.2.2, hts _ w2, trivial⟩ ⟨jPc_blind, jPc_at hw hK hN⟩ rfl hn hl.1 rfl (lv_room hst) d hcs) hS (fun H1 locs1 hw1 hS1 => h q r hr p e s m args below meth c hE H1 locs1 ls hw1 hS1 hl)
theorem j_callV (pc' : Nat) {ρ' : Type} {E' : ρ' → JR} {mir : Option ρ'} {kk : ρ' → Option ρ} {y : MethodName} {cc' : ByteArray} {nL' i n' mc' ms' : Nat} {ret' : Option FieldType} {R' : Room} {As : List Value} {a ci : Nat} (hc : ∀ q, mir = some q → JC G y cc' nL' ret' R' mc' ms' (.ref a :: As) x (E' q)) (w0 : jsC y cc' nL' ret' n') (w1 : Cond.methodLink own i y ∈ jt) (w2 : Cond.instanceMethod y ∈ jt) (w3 : Cond.selects y.cls y y ∈ jt) (hci : ∃ T N, vwCl[ci]? = some (y.cls, T, N)) (h9 : ci ≠ 999) (ha : ∀ q, mir = some q → ∃ fs, x.1 a = .inr (ci, fs)) (hR : R'.cells = mc' ∧ R'.slots = ms' ∧ R'.frames + 1 ≤ Z.2.2.1.frames ∧ 8 + (nL' + 11) + R'.locals ≤ Z.2.2.1.locals) (hst : (st.map fun v => v.category).sum ≤ 8) (hcs : k + mc' ≤ Z.2.2.1.cells ∧ n + ms' ≤ Z.2.2.1.slots) (hn : As.length = n') (d : decode cc pc = .ok (.invokevirtual i, 3)) (hp : pc + 3 = pc') {st0 : List Value} (hs0 : As.reverse ++ .ref a :: st = st0) (h : ∀ q, JM G own cc nL Z E pc' lv ((E' q).1.toList ++ st) (E' q).2 (k + mc') (n + ms') (kk q)) : JM G own cc nL Z E pc lv st0 x k n (mir.bind kk) := by
  subst hp
  subst hs0
  intro r hr p e s m args below meth c hE H locs ls hw hS hl
  obtain ⟨hx, hb, hml, hrt, ho, hts, hlk, hK, hN, hz, hnm, hX⟩ := id hE
  obtain ⟨q, hq, hr⟩ := Option.bind_eq_some_iff.mp hr
  obtain ⟨T9, N9, hcl⟩ := hci
  obtain ⟨fs, hfs⟩ := ha q hq
  have hrec := va_recv hK (va_P1 (jw_at hw hfs (dum_r h9)).2) hcl (q0 := 0) rfl
  exact jcall (va_runV (As := As) (rest := st) ⟨hx, hb, hml, ho, hts⟩ (hc q hq) ⟨callB_of n' hts (jt_good w0.1) rfl hR.1 hR.2.1 (hts _ w0.2.1) (hts _ w1) w0.2.2 hR.2.2, hts _ w2, hts _ w3⟩ ⟨jPc_blind, hrec, jPc_at hw hK hN⟩ rfl hn hl.1 rfl (lv_room hst) d hcs) hS (fun H1 locs1 hw1 hS1 => h q r hr p e s m args below meth c hE H1 locs1 ls hw1 hS1 hl)
theorem j_callI (pc' : Nat) {ρ' : Type} {E' : ρ' → JR} {mir : Option ρ'} {kk : ρ' → Option ρ} {y : MethodName} {cc' : ByteArray} {nL' i n' mc' ms' : Nat} {ret' : Option FieldType} {R' : Room} {As : List Value} {a : Nat} (hc : ∀ q, mir = some q → JC G y cc' nL' ret' R' mc' ms' (.ref a :: As) x (E' q)) (hi : y.name = "<init>") (w0 : jsC y cc' nL' none n') (w1 : Cond.methodLink own i y ∈ jt) (w2 : Cond.instanceMethod y ∈ jt) (hret : ret' = none) (hR : R'.cells = mc' ∧ R'.slots = ms' ∧ R'.frames + 1 ≤ Z.2.2.1.frames ∧ 8 + (nL' + 11) + R'.locals ≤ Z.2.2.1.locals) (hst : (st.map fun v => v.category).sum ≤ 8) (hcs : k + mc' ≤ Z.2.2.1.cells ∧ n + ms' ≤ Z.2.2.1.slots) (hn : As.length = n') (d : decode cc pc = .ok (.invokespecial i, 3)) (hp : pc + 3 = pc') {st0 : List Value} (hs0 : As.reverse ++ .ref a :: st = st0) (h : ∀ q, JM G own cc nL Z E pc' lv ((E' q).1.toList ++ st) (E' q).2 (k + mc') (n + ms') (kk q)) : JM G own cc nL Z E pc lv st0 x k n (mir.bind kk) := by
  subst hp
  subst hs0
  intro r hr p e s m args below meth c hE H locs ls hw hS hl
  obtain ⟨hx, hb, hml, hrt, ho, hts, hlk, hK, hN, hz, hnm, hX⟩ := id hE
  obtain ⟨q, hq, hr⟩ := Option.bind_eq_some_iff.mp hr
  subst hret
  exact jcall (va_runI (As := As) (rest := st) ⟨hx, hb, hml, ho, hts⟩ (hc q hq) ⟨callB_of n' hts (jt_good w0.1) rfl hR.1 hR.2.1 (hts _ w0.2.1) (hts _ w1) w0.2.2 hR.2.2, hi, hts _ w2⟩ ⟨jPc_blind, jPc_at hw hK hN⟩ rfl hn hl.1 rfl (lv_room hst) d hcs) hS (fun H1 locs1 hw1 hS1 => h q r hr p e s m args below meth c hE H1 locs1 ls hw1 hS1 hl)
theorem j_callIN (pc' : Nat) {ρ' : Type} {E' : ρ' → JR} {mir : Option ρ'} {kk : ρ' → Option ρ} {y : MethodName} {cc' : ByteArray} {nL' i n' mc' ms' : Nat} {ret' : Option FieldType} {R' : Room} {As : List Value} {a : Nat} (hc : ∀ q, mir = some q → JC G y cc' nL' ret' R' mc' ms' (.ref a :: As) x (E' q)) {host : String} (hi : y.name = "<init>") (w0 : jsC y cc' nL' none n') (w1 : (own, i, y, host) ∈ jnl) (w2 : Cond.instanceMethod y ∈ jt) (hret : ret' = none) (hR : R'.cells = mc' ∧ R'.slots = ms' ∧ R'.frames + 1 ≤ Z.2.2.1.frames ∧ 8 + (nL' + 11) + R'.locals ≤ Z.2.2.1.locals) (hst : (st.map fun v => v.category).sum ≤ 8) (hcs : k + mc' ≤ Z.2.2.1.cells ∧ n + ms' ≤ Z.2.2.1.slots) (hn : As.length = n') (d : decode cc pc = .ok (.invokespecial i, 3)) (hp : pc + 3 = pc') {st0 : List Value} (hs0 : As.reverse ++ .ref a :: st = st0) (h : ∀ q, JM G own cc nL Z E pc' lv ((E' q).1.toList ++ st) (E' q).2 (k + mc') (n + ms') (kk q)) : JM G own cc nL Z E pc lv st0 x k n (mir.bind kk) := by
  subst hp
  subst hs0
  intro r hr p e s m args below meth c hE H locs ls hw hS hl
  obtain ⟨hx, hb, hml, hrt, ho, hts, hlk, hK, hN, hz, hnm, hX⟩ := id hE
  obtain ⟨q, hq, hr⟩ := Option.bind_eq_some_iff.mp hr
  subst hret
  exact jcall (va_runIN (As := As) (rest := st) ⟨hx, hb, hml, ho, hts⟩ (hc q hq) ⟨va_cnB n' hts (jt_good w0.1) rfl hR.1 hR.2.1 (hN.1 _ w1) (hts _ w0.2.1) w0.2.2 hR.2.2, hi, hts _ w2⟩ ⟨jPc_blind, jPc_at hw hK hN⟩ rfl hn hl.1 rfl (lv_room hst) d hcs) hS (fun H1 locs1 hw1 hS1 => h q r hr p e s m args below meth c hE H1 locs1 ls hw1 hS1 hl)
theorem j_objInit (pc' : Nat) {i a : Nat} (w1 : Cond.methodLink own i Lib.objectInit ∈ jt) (w2 : Cond.instanceMethod Lib.objectInit ∈ jt) (w3 : Cond.code Lib.objectInit ⟨#[0xb1]⟩ 1 none ∈ jt) (hfr : 1 ≤ Z.2.2.1.frames) (hlo : (st.map fun v => v.category).sum + 12 ≤ Z.2.2.1.locals) (d : decode cc pc = .ok (.invokespecial i, 3)) (hp : pc + 3 = pc') (h : JM G own cc nL Z E pc' lv st x k n t) : JM G own cc nL Z E pc lv (.ref a :: st) x k n t := by
  subst hp
  intro r hr p e s m args below meth c hE H locs ls hw hS hl
  obtain ⟨hx, hb, hml, hrt, ho, hts, hlk, hK, hN, hz, hnm, hX⟩ := id hE
  refine W.objInit hx hb ho (hts _ w1) (hts _ w2) (hts _ w3) rfl (by rw [hml]; exact hl.1) rfl d hfr (by show 2 * 0 + _ + _ ≤ _; omega) ?_
  exact h r hr p e s m args below meth c hE H locs ls hw hS hl
end JC3
