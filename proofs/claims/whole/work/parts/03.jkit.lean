/-! A method's code over a heap that is a function of addresses: JM .. t: the machine, at pc with these locals, stack and heap, comes to the method's end as the pure term t says, if t says anything at all. -/
abbrev Hs : Type := (Nat → va_E) × Nat × (Nat → ClassId)
abbrev JG : Type := Launch × va_G × (Nat → ClassId) × Heap
abbrev JR : Type := Option Value × Hs
abbrev JZ : Type := Option FieldType × String × Room × (List Frame → Array Value → State → JR → State → Prop) × (Array Value → State → Prop)
def dum : va_E := .inr (999, [])
def jt : List Cond := lw_tbl.filter goodWord
def jty (ct : Nat → ClassId) : List (ClassId × FieldType) := [(ct 0, .int), (ct 1, .long), (ct 2, .char), (ct 3, .array .int)]
def jnl : List (String × Nat × MethodName × String) := [(RX6, 11, yX0_init, RX6), (RX0, 56, yX2_init, RX6), (RX6, 26, yX4_init, RX6), (RX6, 33, yX3_init, RX6), (RX6, 40, yX5_init, RX6), (RX0, 152, yX6_commonDivisor, RX6), (RX0, 131, yX6_quotient, RX6), (RX0, 98, yX6_firstGreatest, RX6), (RX0, 159, yX6_total, RX6)]
/-- the array class over int[] is there -/
def jO (U : State) : Prop := (Cond.arrayOver (.array .int)).before #[] U = true
theorem jO_use {A : Array Value} {U : State} (h : jO U) : (Cond.arrayOver (.array .int)).before A U = true := h
theorem jO_moved {u U : State} (hvm : u.vm.Alike U.vm) (h : jO u) : jO U := by
  obtain ⟨comp, c, k, h1, h2, h3, h4, h5⟩ := arrayOverA_spec h
  obtain ⟨k', hk', he⟩ := hvm.2.2 _ _ h3
  have hi : (U.vm.classes.findIdx? fun (x : Class) => match x.kind with | .array component _ => component == comp | _ => false) = some c := by
    have e1 := va_idx_bare u.vm comp
    have e2 := va_idx_bare U.vm comp
    first | rw [hvm.bare_eq] at e2 | rw [← hvm.bare_eq] at e2
    exact e2.symm.trans (e1.trans h2)
  have hkind : k'.kind = .array comp (.array .int) := by rw [he]; exact h4
  have f1 : U.vm.findClass (FieldType.array .int).toString = some comp := by rw [hvm.findClass]; exact h1
  have f2 : U.vm.findClass ("[" ++ (FieldType.array .int).toString) = some c := by rw [hvm.findClass]; exact h5
  unfold jO Cond.before Cond.holds
  simp only [Cond.value]
  rw [f1, Option.bind_some]
  refine (congrArg (fun o : Option Nat => (o.bind (fun c => (U.vm.classes[c]?).map fun (k : Class) => match k.kind with | .array _ ty => decide (ty = FieldType.array .int) && decide (U.vm.findClass ("[" ++ (FieldType.array .int).toString) = some c) | _ => false) == some true)) hi).trans ?_
  simp [hk', hkind, f2]
def jA (G : JG) : Nat → Prop := fun q => G.2.2.2.size ≤ q
/-- the String constants of the tape, by their places: entry, text, size, bytes -/
def sIx (k : Nat) : Nat := 28 + 2 * k
def sTx (k : Nat) : String := ["cell", "heat", "source", "left", "right", "fine", "pulse", "drop"].getD k ""
def sLn : List Nat := [4, 4, 6, 4, 5, 4, 5, 4]
def sBy : List (List Int32) := [[99, 101, 108, 108], [104, 101, 97, 116], [115, 111, 117, 114, 99, 101], [108, 101, 102, 116], [114, 105, 103, 104, 116], [102, 105, 110, 101], [112, 117, 108, 115, 101], [100, 114, 111, 112]]
/-- what is carried beside the words: links among nest mates, int[][], String constants (their addresses stand in the numbering of array classes from 100 on, those of their bytes from 200 on), two statics -/
def jN (G : JG) (U : State) : Prop := (∀ q ∈ jnl, va_Nw (.methodLinkNest q.1 q.2.1 q.2.2.1 q.2.2.2) U) ∧ jO U ∧ (∀ k, k < 8 → vk_R RX5 (sIx k) (sTx k) (G.2.2.1 (100 + k)) U) ∧ vk_S 8 sLn sBy (fun k => G.2.2.1 (100 + k)) (fun k => G.2.2.1 (200 + k)) (jA G) U G.2.2.2 ∧ va_Z "java/lang/String" "COMPACT_STRINGS" "Z" (.int 1) (jA G) U G.2.2.2 ∧ va_Zq "jdk/internal/util/Preconditions" "SIOOBE_FORMATTER" "Ljava/util/function/BiFunction;" (jA G) U G.2.2.2
def jw (G : JG) (x : Hs) (H : Heap) : Prop := H.size = x.2.1 ∧ G.2.2.2.size ≤ x.2.1 ∧ x.2.2 = G.2.2.1 ∧ (∀ a, x.1 a = dum ∨ (G.2.2.2.size ≤ a ∧ va_at G.2.1 vwCl (a, x.1 a) H)) ∧ ∀ q : Nat, q < G.2.2.2.size → H[q]? = G.2.2.2[q]?
def jQ (G : JG) (r : JR) : Array Value → State → Outcome → State → Prop := fun _ st o t => o = .returned r.1 ∧ jw G r.2 t.heap ∧ va_F (jA G) st t
def jE (G : JG) (own : String) (cc : ByteArray) (nL : Nat) (Z : JZ) (p : Program) (s : State) (m : MethodId) (args : Array Value) (meth : Method) (c : Code) : Prop :=
  p.tables.exec = Jvm.exec ∧ c.code = cc ∧ c.maxLocals = nL ∧ meth.sig.returnType = Z.1 ∧ s.vm.findClass own = some m.cls ∧ (∀ w ∈ jt, w.before args s = true) ∧ meth.locks = false ∧ va_K G.2.1 vwCl (jty G.2.2.1) s ∧ jN G s ∧ G.2.2.2.size ≤ s.heap.size ∧ meth.name = Z.2.1 ∧ Z.2.2.2.2 args s
def JM (G : JG) (own : String) (cc : ByteArray) (nL : Nat) (Z : JZ) {ρ : Type} (E : ρ → JR) (pc : Nat) (lv : List (Nat × Value)) (st : List Value) (x : Hs) (k n : Nat) (t : Option ρ) : Prop :=
  ∀ r, t = some r → ∀ (p : Program) (e : Env) (s : State) (m : MethodId) (args : Array Value) (below : List Frame) (meth : Method) (c : Code), jE G own cc nL Z p s m args meth c →
    ∀ (H : Heap) (locs : List Loc) (ls : Array Slot), jw G x H → va_S (jA G) s.heap H locs → lv_has ls nL lv → W p G.1 e Z.2.2.1 s m args below meth c H locs k n (Z.2.2.2.1 below args s (E r)) (F0 m pc ls st)
theorem jN_warm {G : JG} {s U : State} (hW : s.WarmedH U.vm) (h : jN G s) : jN G U := ⟨fun q hq => va_Nw.warmM hW (h.1 q hq), jO_moved hW.alike h.2.1, fun k hk => vk_R.warm hW (h.2.2.1 k hk), vk_S.moved hW.alike h.2.2.2.1, va_Z.moved hW.alike h.2.2.2.2.1, va_Zq.moved hW.alike h.2.2.2.2.2⟩
theorem jN_calling {G : JG} {U : State} {g : JFrame} {mk : MethodId} {a : Array Value} (h : jN G U) : jN G (U.calling g mk a) := ⟨fun q hq => va_Nw.same rfl (u := U) rfl (h.1 q hq), jO_moved (u := U) (Vm.Alike.refl U.vm) h.2.1, fun k hk => vk_R.same (u := U) rfl (h.2.2.1 k hk), vk_S.moved (u := U) (Vm.Alike.refl U.vm) h.2.2.2.1, va_Z.moved (u := U) (Vm.Alike.refl U.vm) h.2.2.2.2.1, va_Zq.moved (u := U) (Vm.Alike.refl U.vm) h.2.2.2.2.2⟩
section JK
variable {G : JG} {own : String} {cc : ByteArray} {nL : Nat} {Z : JZ} {ρ : Type} {E : ρ → JR} {pc pc' : Nat} {lv : List (Nat × Value)} {st : List Value} {x : Hs} {k n : Nat} {t : Option ρ}
theorem j_none : JM G own cc nL Z E pc lv st x k n none := fun _ h => by cases h
theorem j_cast {t' : Option ρ} (e : t = t') (h : JM G own cc nL Z E pc lv st x k n t') : JM G own cc nL Z E pc lv st x k n t := by rw [e]; exact h
theorem jm1 {lv2 : List (Nat × Value)} {st2 : List Value} (row : ∀ (p : Program) (e : Env) (s : State) (m : MethodId) (args : Array Value) (below : List Frame) (meth : Method) (c : Code) (H : Heap) (locs : List Loc) (Q : State → Prop) (ls : Array Slot), p.tables.exec = Jvm.exec → c.code = cc → s.vm.findClass own = some m.cls → (∀ w ∈ jt, w.before args s = true) → lv_has ls nL lv →
      (∀ ls2, lv_has ls2 nL lv2 → W p G.1 e Z.2.2.1 s m args below meth c H locs k n Q (F0 m pc' ls2 st2)) → W p G.1 e Z.2.2.1 s m args below meth c H locs k n Q (F0 m pc ls st))
    (h : JM G own cc nL Z E pc' lv2 st2 x k n t) : JM G own cc nL Z E pc lv st x k n t := by
  intro r hr p e s m args below meth c hE H locs ls hw hS hl
  exact row p e s m args below meth c H locs _ ls hE.1 hE.2.1 hE.2.2.2.2.1 hE.2.2.2.2.2.1 hl (fun ls2 hl2 => h r hr p e s m args below meth c hE H locs ls2 hw hS hl2)
/-- fewer locals, by their places -/
theorem j_sub {lv' : List (Nat × Value)} (ks : List Nat) (hk : lv_pick lv ks = lv') (h : JM G own cc nL Z E pc lv' st x k n t) : JM G own cc nL Z E pc lv st x k n t := by
  intro r hr p e s m args below meth c hE H locs ls hw hS hl
  exact h r hr p e s m args below meth c hE H locs ls hw hS (lv_sub hl ks hk)
theorem j_ite {c : Prop} [Decidable c] {t1 t2 : Option ρ} (h1 : c → JM G own cc nL Z E pc lv st x k n t1) (h2 : ¬ c → JM G own cc nL Z E pc lv st x k n t2) : JM G own cc nL Z E pc lv st x k n (if c then t1 else t2) := by
  by_cases h : c
  · rw [if_pos h]; exact h1 h
  · rw [if_neg h]; exact h2 h
theorem j_iconst (pc' : Nat) {i : Int} {v : Int32} (d : decode cc pc = .ok (.iconst i, 1)) (hp : pc + 1 = pc') (hv : Int32.ofInt i = v) (h : JM G own cc nL Z E pc' lv (.int v :: st) x k n t) : JM G own cc nL Z E pc lv st x k n t := by
  subst hp
  exact jm1 (fun p e s m args below meth c H locs Q ls hx hb _ _ hl kk => lv_iconst hx hb d hv (kk ls hl)) h
theorem j_bipush (pc' : Nat) {i : Int} {v : Int32} (d : decode cc pc = .ok (.bipush i, 2)) (hp : pc + 2 = pc') (hv : (Int8.ofInt i).toInt32 = v) (h : JM G own cc nL Z E pc' lv (.int v :: st) x k n t) : JM G own cc nL Z E pc lv st x k n t := by
  subst hp
  exact jm1 (fun p e s m args below meth c H locs Q ls hx hb _ _ hl kk => lv_bipush hx hb d hv (kk ls hl)) h
theorem j_sipush (pc' : Nat) {i : Int} {v : Int32} (d : decode cc pc = .ok (.sipush i, 3)) (hp : pc + 3 = pc') (hv : (Int16.ofInt i).toInt32 = v) (h : JM G own cc nL Z E pc' lv (.int v :: st) x k n t) : JM G own cc nL Z E pc lv st x k n t := by
  subst hp
  exact jm1 (fun p e s m args below meth c H locs Q ls hx hb _ _ hl kk => lv_sipush hx hb d hv (kk ls hl)) h
theorem j_iload_n (pc' q : Nat) {i : Fin 4} {j : Nat} {v : Int32} (d : decode cc pc = .ok (.iload_n i, 1)) (hp : pc + 1 = pc') (hi : (i : Nat) = j) (hl : lv[q]? = some (j, .int v)) (h : JM G own cc nL Z E pc' lv (.int v :: st) x k n t) : JM G own cc nL Z E pc lv st x k n t := by
  subst hp
  exact jm1 (fun p e s m args below meth c H locs Q ls hx hb _ _ hl' kk => lv_iload_n hx hb d hi (lv_at hl' q hl) (kk ls hl')) h
theorem j_iload (pc' q : Nat) {j : Nat} {v : Int32} (d : decode cc pc = .ok (.iload j, 2)) (hp : pc + 2 = pc') (hl : lv[q]? = some (j, .int v)) (h : JM G own cc nL Z E pc' lv (.int v :: st) x k n t) : JM G own cc nL Z E pc lv st x k n t := by
  subst hp
  exact jm1 (fun p e s m args below meth c H locs Q ls hx hb _ _ hl' kk => lv_iload hx hb d (lv_at hl' q hl) (kk ls hl')) h
theorem j_lload_n (pc' q : Nat) {i : Fin 4} {j : Nat} {v : Int64} (d : decode cc pc = .ok (.lload_n i, 1)) (hp : pc + 1 = pc') (hi : (i : Nat) = j) (hl : lv[q]? = some (j, .long v)) (h : JM G own cc nL Z E pc' lv (.long v :: st) x k n t) : JM G own cc nL Z E pc lv st x k n t := by
  subst hp
  exact jm1 (fun p e s m args below meth c H locs Q ls hx hb _ _ hl' kk => lv_lload_n hx hb d hi (lv_at hl' q hl) (kk ls hl')) h
theorem j_lload (pc' q : Nat) {j : Nat} {v : Int64} (d : decode cc pc = .ok (.lload j, 2)) (hp : pc + 2 = pc') (hl : lv[q]? = some (j, .long v)) (h : JM G own cc nL Z E pc' lv (.long v :: st) x k n t) : JM G own cc nL Z E pc lv st x k n t := by
  subst hp
  exact jm1 (fun p e s m args below meth c H locs Q ls hx hb _ _ hl' kk => lv_lload hx hb d (lv_at hl' q hl) (kk ls hl')) h
theorem j_aload_n (pc' q : Nat) {i : Fin 4} {j : Nat} {v : Nat} (d : decode cc pc = .ok (.aload_n i, 1)) (hp : pc + 1 = pc') (hi : (i : Nat) = j) (hl : lv[q]? = some (j, .ref v)) (h : JM G own cc nL Z E pc' lv (.ref v :: st) x k n t) : JM G own cc nL Z E pc lv st x k n t := by
  subst hp
  exact jm1 (fun p e s m args below meth c H locs Q ls hx hb _ _ hl' kk => lv_aload_n hx hb d hi (lv_at hl' q hl) (kk ls hl')) h
theorem j_aload (pc' q : Nat) {j : Nat} {v : Nat} (d : decode cc pc = .ok (.aload j, 2)) (hp : pc + 2 = pc') (hl : lv[q]? = some (j, .ref v)) (h : JM G own cc nL Z E pc' lv (.ref v :: st) x k n t) : JM G own cc nL Z E pc lv st x k n t := by
  subst hp
  exact jm1 (fun p e s m args below meth c H locs Q ls hx hb _ _ hl' kk => lv_aload hx hb d (lv_at hl' q hl) (kk ls hl')) h
theorem j_istore_n (pc' : Nat) (lv' : List (Nat × Value)) {i : Fin 4} {j : Nat} {v : Int32} (d : decode cc pc = .ok (.istore_n i, 1)) (hp : pc + 1 = pc') (hi : (i : Nat) = j) (hn : j < nL) (hl : (j, Value.int v) :: lv.filter (fun q => !(q.1 == j) && !(q.1 + 1 == j && q.2.category == 2)) = lv') (h : JM G own cc nL Z E pc' lv' st x k n t) : JM G own cc nL Z E pc lv (.int v :: st) x k n t := by
  subst hp
  exact jm1 (fun p e s m args below meth c H locs Q ls hx hb _ _ hl' kk => lv_istore_n hx hb d hi hl' hn hl kk) h
theorem j_istore (pc' : Nat) (lv' : List (Nat × Value)) {j : Nat} {v : Int32} (d : decode cc pc = .ok (.istore j, 2)) (hp : pc + 2 = pc') (hn : j < nL) (hl : (j, Value.int v) :: lv.filter (fun q => !(q.1 == j) && !(q.1 + 1 == j && q.2.category == 2)) = lv') (h : JM G own cc nL Z E pc' lv' st x k n t) : JM G own cc nL Z E pc lv (.int v :: st) x k n t := by
  subst hp
  exact jm1 (fun p e s m args below meth c H locs Q ls hx hb _ _ hl' kk => lv_istore hx hb d hl' hn hl kk) h
theorem j_astore_n (pc' : Nat) (lv' : List (Nat × Value)) {i : Fin 4} {j : Nat} {v : Nat} (d : decode cc pc = .ok (.astore_n i, 1)) (hp : pc + 1 = pc') (hi : (i : Nat) = j) (hn : j < nL) (hl : (j, Value.ref v) :: lv.filter (fun q => !(q.1 == j) && !(q.1 + 1 == j && q.2.category == 2)) = lv') (h : JM G own cc nL Z E pc' lv' st x k n t) : JM G own cc nL Z E pc lv (.ref v :: st) x k n t := by
  subst hp
  exact jm1 (fun p e s m args below meth c H locs Q ls hx hb _ _ hl' kk => lv_astore_n hx hb d hi hl' hn hl kk) h
theorem j_astore (pc' : Nat) (lv' : List (Nat × Value)) {j : Nat} {v : Nat} (d : decode cc pc = .ok (.astore j, 2)) (hp : pc + 2 = pc') (hn : j < nL) (hl : (j, Value.ref v) :: lv.filter (fun q => !(q.1 == j) && !(q.1 + 1 == j && q.2.category == 2)) = lv') (h : JM G own cc nL Z E pc' lv' st x k n t) : JM G own cc nL Z E pc lv (.ref v :: st) x k n t := by
  subst hp
  exact jm1 (fun p e s m args below meth c H locs Q ls hx hb _ _ hl' kk => lv_astore hx hb d hl' hn hl kk) h
theorem j_lstore_n (pc' : Nat) (lv' : List (Nat × Value)) {i : Fin 4} {j : Nat} {v : Int64} (d : decode cc pc = .ok (.lstore_n i, 1)) (hp : pc + 1 = pc') (hi : (i : Nat) = j) (hn : j + 1 < nL) (hl : (j, Value.long v) :: lv.filter (fun q => !(q.1 == j) && (!(q.1 == j + 1) && !(q.1 + 1 == j && q.2.category == 2))) = lv') (h : JM G own cc nL Z E pc' lv' st x k n t) : JM G own cc nL Z E pc lv (.long v :: st) x k n t := by
  subst hp
  exact jm1 (fun p e s m args below meth c H locs Q ls hx hb _ _ hl' kk => lv_lstore_n hx hb d hi hl' hn hl kk) h
theorem j_lstore (pc' : Nat) (lv' : List (Nat × Value)) {j : Nat} {v : Int64} (d : decode cc pc = .ok (.lstore j, 2)) (hp : pc + 2 = pc') (hn : j + 1 < nL) (hl : (j, Value.long v) :: lv.filter (fun q => !(q.1 == j) && (!(q.1 == j + 1) && !(q.1 + 1 == j && q.2.category == 2))) = lv') (h : JM G own cc nL Z E pc' lv' st x k n t) : JM G own cc nL Z E pc lv (.long v :: st) x k n t := by
  subst hp
  exact jm1 (fun p e s m args below meth c H locs Q ls hx hb _ _ hl' kk => lv_lstore hx hb d hl' hn hl kk) h
theorem j_iinc (pc' q : Nat) (lv' : List (Nat × Value)) {j : Nat} {i : Int} {u v : Int32} (d : decode cc pc = .ok (.iinc j i, 3)) (hp : pc + 3 = pc') (hq : lv[q]? = some (j, .int u)) (hv : u + Int32.ofInt i = v) (hn : j < nL) (hl : (j, Value.int v) :: lv.filter (fun q => !(q.1 == j) && !(q.1 + 1 == j && q.2.category == 2)) = lv') (h : JM G own cc nL Z E pc' lv' st x k n t) : JM G own cc nL Z E pc lv st x k n t := by
  subst hp
  exact jm1 (fun p e s m args below meth c H locs Q ls hx hb _ _ hl' kk => lv_iinc hx hb d hl' hq hv hn hl kk) h
theorem j_lconst (pc' : Nat) {i : Fin 2} {v : Int64} (d : decode cc pc = .ok (.lconst i, 1)) (hp : pc + 1 = pc') (hv : Int64.ofNat (i : Nat) = v) (h : JM G own cc nL Z E pc' lv (.long v :: st) x k n t) : JM G own cc nL Z E pc lv (st) x k n t := by
  subst hp
  exact jm1 (fun p e s m args below meth c H locs Q ls hx hb _ _ hl kk => lv_lconst hx hb d hv (kk ls hl)) h
theorem j_iadd (pc' : Nat) {u v : Int32} (d : decode cc pc = .ok (.iadd, 1)) (hp : pc + 1 = pc')  (h : JM G own cc nL Z E pc' lv (.int (u + v) :: st) x k n t) : JM G own cc nL Z E pc lv (.int v :: .int u :: st) x k n t := by
  subst hp
  exact jm1 (fun p e s m args below meth c H locs Q ls hx hb _ _ hl kk => lv_iadd hx hb d  (kk ls hl)) h
theorem j_isub (pc' : Nat) {u v : Int32} (d : decode cc pc = .ok (.isub, 1)) (hp : pc + 1 = pc')  (h : JM G own cc nL Z E pc' lv (.int (u - v) :: st) x k n t) : JM G own cc nL Z E pc lv (.int v :: .int u :: st) x k n t := by
  subst hp
  exact jm1 (fun p e s m args below meth c H locs Q ls hx hb _ _ hl kk => lv_isub hx hb d  (kk ls hl)) h
theorem j_imul (pc' : Nat) {u v : Int32} (d : decode cc pc = .ok (.imul, 1)) (hp : pc + 1 = pc')  (h : JM G own cc nL Z E pc' lv (.int (u * v) :: st) x k n t) : JM G own cc nL Z E pc lv (.int v :: .int u :: st) x k n t := by
  subst hp
  exact jm1 (fun p e s m args below meth c H locs Q ls hx hb _ _ hl kk => lv_imul hx hb d  (kk ls hl)) h
theorem j_iand (pc' : Nat) {u v : Int32} (d : decode cc pc = .ok (.iand, 1)) (hp : pc + 1 = pc')  (h : JM G own cc nL Z E pc' lv (.int (u &&& v) :: st) x k n t) : JM G own cc nL Z E pc lv (.int v :: .int u :: st) x k n t := by
  subst hp
  exact jm1 (fun p e s m args below meth c H locs Q ls hx hb _ _ hl kk => lv_iand hx hb d  (kk ls hl)) h
theorem j_ior (pc' : Nat) {u v : Int32} (d : decode cc pc = .ok (.ior, 1)) (hp : pc + 1 = pc')  (h : JM G own cc nL Z E pc' lv (.int (u ||| v) :: st) x k n t) : JM G own cc nL Z E pc lv (.int v :: .int u :: st) x k n t := by
  subst hp
  exact jm1 (fun p e s m args below meth c H locs Q ls hx hb _ _ hl kk => lv_ior hx hb d  (kk ls hl)) h
theorem j_ixor (pc' : Nat) {u v : Int32} (d : decode cc pc = .ok (.ixor, 1)) (hp : pc + 1 = pc')  (h : JM G own cc nL Z E pc' lv (.int (u ^^^ v) :: st) x k n t) : JM G own cc nL Z E pc lv (.int v :: .int u :: st) x k n t := by
  subst hp
  exact jm1 (fun p e s m args below meth c H locs Q ls hx hb _ _ hl kk => lv_ixor hx hb d  (kk ls hl)) h
theorem j_ladd (pc' : Nat) {u v : Int64} (d : decode cc pc = .ok (.ladd, 1)) (hp : pc + 1 = pc')  (h : JM G own cc nL Z E pc' lv (.long (u + v) :: st) x k n t) : JM G own cc nL Z E pc lv (.long v :: .long u :: st) x k n t := by
  subst hp
  exact jm1 (fun p e s m args below meth c H locs Q ls hx hb _ _ hl kk => lv_ladd hx hb d  (kk ls hl)) h
theorem j_lsub (pc' : Nat) {u v : Int64} (d : decode cc pc = .ok (.lsub, 1)) (hp : pc + 1 = pc')  (h : JM G own cc nL Z E pc' lv (.long (u - v) :: st) x k n t) : JM G own cc nL Z E pc lv (.long v :: .long u :: st) x k n t := by
  subst hp
  exact jm1 (fun p e s m args below meth c H locs Q ls hx hb _ _ hl kk => lv_lsub hx hb d  (kk ls hl)) h
theorem j_lmul (pc' : Nat) {u v : Int64} (d : decode cc pc = .ok (.lmul, 1)) (hp : pc + 1 = pc')  (h : JM G own cc nL Z E pc' lv (.long (u * v) :: st) x k n t) : JM G own cc nL Z E pc lv (.long v :: .long u :: st) x k n t := by
  subst hp
  exact jm1 (fun p e s m args below meth c H locs Q ls hx hb _ _ hl kk => lv_lmul hx hb d  (kk ls hl)) h
theorem j_ineg (pc' : Nat) {u : Int32} (d : decode cc pc = .ok (.ineg, 1)) (hp : pc + 1 = pc')  (h : JM G own cc nL Z E pc' lv (.int (-u) :: st) x k n t) : JM G own cc nL Z E pc lv (.int u :: st) x k n t := by
  subst hp
  exact jm1 (fun p e s m args below meth c H locs Q ls hx hb _ _ hl kk => lv_ineg hx hb d  (kk ls hl)) h
theorem j_ishl (pc' : Nat) {u v : Int32} (d : decode cc pc = .ok (.ishl, 1)) (hp : pc + 1 = pc')  (h : JM G own cc nL Z E pc' lv (.int (u <<< (v &&& 31)) :: st) x k n t) : JM G own cc nL Z E pc lv (.int v :: .int u :: st) x k n t := by
  subst hp
  exact jm1 (fun p e s m args below meth c H locs Q ls hx hb _ _ hl kk => lv_ishl hx hb d  (kk ls hl)) h
theorem j_ishr (pc' : Nat) {u v : Int32} (d : decode cc pc = .ok (.ishr, 1)) (hp : pc + 1 = pc')  (h : JM G own cc nL Z E pc' lv (.int (u >>> (v &&& 31)) :: st) x k n t) : JM G own cc nL Z E pc lv (.int v :: .int u :: st) x k n t := by
  subst hp
  exact jm1 (fun p e s m args below meth c H locs Q ls hx hb _ _ hl kk => lv_ishr hx hb d  (kk ls hl)) h
theorem j_iushr (pc' : Nat) {u v : Int32} (d : decode cc pc = .ok (.iushr, 1)) (hp : pc + 1 = pc')  (h : JM G own cc nL Z E pc' lv (.int ((u.toUInt32 >>> (v.toUInt32 &&& Int32.toUInt32 31)).toInt32) :: st) x k n t) : JM G own cc nL Z E pc lv (.int v :: .int u :: st) x k n t := by
  subst hp
  exact jm1 (fun p e s m args below meth c H locs Q ls hx hb _ _ hl kk => lv_iushr hx hb d rfl (kk ls hl)) h
theorem j_i2l (pc' : Nat) {u : Int32} (d : decode cc pc = .ok (.i2l, 1)) (hp : pc + 1 = pc')  (h : JM G own cc nL Z E pc' lv (.long u.toInt64 :: st) x k n t) : JM G own cc nL Z E pc lv (.int u :: st) x k n t := by
  subst hp
  exact jm1 (fun p e s m args below meth c H locs Q ls hx hb _ _ hl kk => lv_i2l hx hb d rfl (kk ls hl)) h
theorem j_l2i (pc' : Nat) {u : Int64} (d : decode cc pc = .ok (.l2i, 1)) (hp : pc + 1 = pc')  (h : JM G own cc nL Z E pc' lv (.int u.toInt32 :: st) x k n t) : JM G own cc nL Z E pc lv (.long u :: st) x k n t := by
  subst hp
  exact jm1 (fun p e s m args below meth c H locs Q ls hx hb _ _ hl kk => lv_l2i hx hb d rfl (kk ls hl)) h
theorem j_i2s (pc' : Nat) {u : Int32} (d : decode cc pc = .ok (.i2s, 1)) (hp : pc + 1 = pc')  (h : JM G own cc nL Z E pc' lv (.int u.toInt16.toInt32 :: st) x k n t) : JM G own cc nL Z E pc lv (.int u :: st) x k n t := by
  subst hp
  exact jm1 (fun p e s m args below meth c H locs Q ls hx hb _ _ hl kk => lv_i2s hx hb d rfl (kk ls hl)) h
theorem j_dup (pc' : Nat) {a : Value} (d : decode cc pc = .ok (.dup, 1)) (hp : pc + 1 = pc') (hc : a.category = 1) (h : JM G own cc nL Z E pc' lv (a :: a :: st) x k n t) : JM G own cc nL Z E pc lv (a :: st) x k n t := by
  subst hp
  exact jm1 (fun p e s m args below meth c H locs Q ls hx hb _ _ hl kk => lv_dup hx hb d hc (kk ls hl)) h
theorem j_pop (pc' : Nat) {a : Value} (d : decode cc pc = .ok (.pop, 1)) (hp : pc + 1 = pc') (hc : a.category = 1) (h : JM G own cc nL Z E pc' lv (st) x k n t) : JM G own cc nL Z E pc lv (a :: st) x k n t := by
  subst hp
  exact jm1 (fun p e s m args below meth c H locs Q ls hx hb _ _ hl kk => lv_pop hx hb d hc (kk ls hl)) h
theorem j_dup2_2 (pc' : Nat) {a : Value} (d : decode cc pc = .ok (.dup2, 1)) (hp : pc + 1 = pc') (hc : a.category = 2) (h : JM G own cc nL Z E pc' lv (a :: a :: st) x k n t) : JM G own cc nL Z E pc lv (a :: st) x k n t := by
  subst hp
  exact jm1 (fun p e s m args below meth c H locs Q ls hx hb _ _ hl kk => lv_dup2_2 hx hb d hc (kk ls hl)) h
theorem j_dup2_11 (pc' : Nat) {a b : Value} (d : decode cc pc = .ok (.dup2, 1)) (hp : pc + 1 = pc') (ha : a.category = 1) (hb9 : b.category = 1) (h : JM G own cc nL Z E pc' lv (a :: b :: a :: b :: st) x k n t) : JM G own cc nL Z E pc lv (a :: b :: st) x k n t := by
  subst hp
  exact jm1 (fun p e s m args below meth c H locs Q ls hx hb _ _ hl kk => lv_dup2_11 hx hb d ha hb9 (kk ls hl)) h
/-- idiv, if it may be -/
def o_idiv (u v : Int32) : Option Int32 := if v = 0 then none else some (u / v)
theorem j_idiv (pc' : Nat) {u v : Int32} {kk : Int32 → Option ρ} (d : decode cc pc = .ok (.idiv, 1)) (hp : pc + 1 = pc') (h : ∀ z, JM G own cc nL Z E pc' lv (.int z :: st) x k n (kk z)) : JM G own cc nL Z E pc lv (.int v :: .int u :: st) x k n ((o_idiv u v).bind kk) := by
  subst hp
  unfold o_idiv
  by_cases hv : v = 0
  · rw [if_pos hv]; exact j_none
  · rw [if_neg hv]
    exact jm1 (fun p e s m args below meth c H locs Q ls hx hb _ _ hl kk => lv_idiv hx hb d hv (kk ls hl)) (h _)
/-- irem, if it may be -/
def o_irem (u v : Int32) : Option Int32 := if v = 0 then none else some (u - u / v * v)
theorem j_irem (pc' : Nat) {u v : Int32} {kk : Int32 → Option ρ} (d : decode cc pc = .ok (.irem, 1)) (hp : pc + 1 = pc') (h : ∀ z, JM G own cc nL Z E pc' lv (.int z :: st) x k n (kk z)) : JM G own cc nL Z E pc lv (.int v :: .int u :: st) x k n ((o_irem u v).bind kk) := by
  subst hp
  unfold o_irem
  by_cases hv : v = 0
  · rw [if_pos hv]; exact j_none
  · rw [if_neg hv]
    exact jm1 (fun p e s m args below meth c H locs Q ls hx hb _ _ hl kk => lv_irem hx hb d hv (kk ls hl)) (h _)
/-- ldiv, if it may be -/
def o_ldiv (u v : Int64) : Option Int64 := if v = 0 then none else some (u / v)
theorem j_ldiv (pc' : Nat) {u v : Int64} {kk : Int64 → Option ρ} (d : decode cc pc = .ok (.ldiv, 1)) (hp : pc + 1 = pc') (h : ∀ z, JM G own cc nL Z E pc' lv (.long z :: st) x k n (kk z)) : JM G own cc nL Z E pc lv (.long v :: .long u :: st) x k n ((o_ldiv u v).bind kk) := by
  subst hp
  unfold o_ldiv
  by_cases hv : v = 0
  · rw [if_pos hv]; exact j_none
  · rw [if_neg hv]
    exact jm1 (fun p e s m args below meth c H locs Q ls hx hb _ _ hl kk => lv_ldiv hx hb d hv (kk ls hl)) (h _)
/-- lrem, if it may be -/
def o_lrem (u v : Int64) : Option Int64 := if v = 0 then none else some (u - u / v * v)
theorem j_lrem (pc' : Nat) {u v : Int64} {kk : Int64 → Option ρ} (d : decode cc pc = .ok (.lrem, 1)) (hp : pc + 1 = pc') (h : ∀ z, JM G own cc nL Z E pc' lv (.long z :: st) x k n (kk z)) : JM G own cc nL Z E pc lv (.long v :: .long u :: st) x k n ((o_lrem u v).bind kk) := by
  subst hp
  unfold o_lrem
  by_cases hv : v = 0
  · rw [if_pos hv]; exact j_none
  · rw [if_neg hv]
    exact jm1 (fun p e s m args below meth c H locs Q ls hx hb _ _ hl kk => lv_lrem hx hb d hv (kk ls hl)) (h _)
theorem j_icmp_eq (tgt pc' : Nat) {u v : Int32} {off : Int} {t1 t2 : Option ρ} (d : decode cc pc = .ok (.if_icmp .eq off, 3)) (ht : (pc : Int) + off = (tgt : Int)) (hp : pc + 3 = pc') (h1 : JM G own cc nL Z E tgt lv st x k n t1) (h2 : JM G own cc nL Z E pc' lv st x k n t2) : JM G own cc nL Z E pc lv (.int v :: .int u :: st) x k n (if u = v then t1 else t2) := by
  subst hp
  intro r hr p e s m args below meth c hE H locs ls hw hS hl
  refine lv_icmp_eq hE.1 hE.2.1 d ht (fun h0 => h1 r ?_ p e s m args below meth c hE H locs ls hw hS hl) (fun h0 => h2 r ?_ p e s m args below meth c hE H locs ls hw hS hl)
  · rwa [if_pos h0] at hr
  · rwa [if_neg h0] at hr
theorem j_if_eq (tgt pc' : Nat) {u : Int32} {off : Int} {t1 t2 : Option ρ} (d : decode cc pc = .ok (.ifCond .eq off, 3)) (ht : (pc : Int) + off = (tgt : Int)) (hp : pc + 3 = pc') (h1 : JM G own cc nL Z E tgt lv st x k n t1) (h2 : JM G own cc nL Z E pc' lv st x k n t2) : JM G own cc nL Z E pc lv (.int u :: st) x k n (if u = 0 then t1 else t2) := by
  subst hp
  intro r hr p e s m args below meth c hE H locs ls hw hS hl
  refine lv_if_eq hE.1 hE.2.1 d ht (fun h0 => h1 r ?_ p e s m args below meth c hE H locs ls hw hS hl) (fun h0 => h2 r ?_ p e s m args below meth c hE H locs ls hw hS hl)
  · rwa [if_pos h0] at hr
  · rwa [if_neg h0] at hr
theorem j_icmp_ne (tgt pc' : Nat) {u v : Int32} {off : Int} {t1 t2 : Option ρ} (d : decode cc pc = .ok (.if_icmp .ne off, 3)) (ht : (pc : Int) + off = (tgt : Int)) (hp : pc + 3 = pc') (h1 : JM G own cc nL Z E tgt lv st x k n t1) (h2 : JM G own cc nL Z E pc' lv st x k n t2) : JM G own cc nL Z E pc lv (.int v :: .int u :: st) x k n (if u = v then t2 else t1) := by
  subst hp
  intro r hr p e s m args below meth c hE H locs ls hw hS hl
  refine lv_icmp_ne hE.1 hE.2.1 d ht (fun h0 => h1 r ?_ p e s m args below meth c hE H locs ls hw hS hl) (fun h0 => h2 r ?_ p e s m args below meth c hE H locs ls hw hS hl)
  · rwa [if_neg h0] at hr
  · rwa [if_pos h0] at hr
theorem j_if_ne (tgt pc' : Nat) {u : Int32} {off : Int} {t1 t2 : Option ρ} (d : decode cc pc = .ok (.ifCond .ne off, 3)) (ht : (pc : Int) + off = (tgt : Int)) (hp : pc + 3 = pc') (h1 : JM G own cc nL Z E tgt lv st x k n t1) (h2 : JM G own cc nL Z E pc' lv st x k n t2) : JM G own cc nL Z E pc lv (.int u :: st) x k n (if u = 0 then t2 else t1) := by
  subst hp
  intro r hr p e s m args below meth c hE H locs ls hw hS hl
  refine lv_if_ne hE.1 hE.2.1 d ht (fun h0 => h1 r ?_ p e s m args below meth c hE H locs ls hw hS hl) (fun h0 => h2 r ?_ p e s m args below meth c hE H locs ls hw hS hl)
  · rwa [if_neg h0] at hr
  · rwa [if_pos h0] at hr
theorem j_icmp_lt (tgt pc' : Nat) {u v : Int32} {off : Int} {t1 t2 : Option ρ} (d : decode cc pc = .ok (.if_icmp .lt off, 3)) (ht : (pc : Int) + off = (tgt : Int)) (hp : pc + 3 = pc') (h1 : JM G own cc nL Z E tgt lv st x k n t1) (h2 : JM G own cc nL Z E pc' lv st x k n t2) : JM G own cc nL Z E pc lv (.int v :: .int u :: st) x k n (if u < v then t1 else t2) := by
  subst hp
  intro r hr p e s m args below meth c hE H locs ls hw hS hl
  refine lv_icmp_lt hE.1 hE.2.1 d ht (fun h0 => h1 r ?_ p e s m args below meth c hE H locs ls hw hS hl) (fun h0 => h2 r ?_ p e s m args below meth c hE H locs ls hw hS hl)
  · rwa [if_pos h0] at hr
  · rwa [if_neg h0] at hr
theorem j_if_lt (tgt pc' : Nat) {u : Int32} {off : Int} {t1 t2 : Option ρ} (d : decode cc pc = .ok (.ifCond .lt off, 3)) (ht : (pc : Int) + off = (tgt : Int)) (hp : pc + 3 = pc') (h1 : JM G own cc nL Z E tgt lv st x k n t1) (h2 : JM G own cc nL Z E pc' lv st x k n t2) : JM G own cc nL Z E pc lv (.int u :: st) x k n (if u < 0 then t1 else t2) := by
  subst hp
  intro r hr p e s m args below meth c hE H locs ls hw hS hl
  refine lv_if_lt hE.1 hE.2.1 d ht (fun h0 => h1 r ?_ p e s m args below meth c hE H locs ls hw hS hl) (fun h0 => h2 r ?_ p e s m args below meth c hE H locs ls hw hS hl)
  · rwa [if_pos h0] at hr
  · rwa [if_neg h0] at hr
theorem j_icmp_ge (tgt pc' : Nat) {u v : Int32} {off : Int} {t1 t2 : Option ρ} (d : decode cc pc = .ok (.if_icmp .ge off, 3)) (ht : (pc : Int) + off = (tgt : Int)) (hp : pc + 3 = pc') (h1 : JM G own cc nL Z E tgt lv st x k n t1) (h2 : JM G own cc nL Z E pc' lv st x k n t2) : JM G own cc nL Z E pc lv (.int v :: .int u :: st) x k n (if v ≤ u then t1 else t2) := by
  subst hp
  intro r hr p e s m args below meth c hE H locs ls hw hS hl
  refine lv_icmp_ge hE.1 hE.2.1 d ht (fun h0 => h1 r ?_ p e s m args below meth c hE H locs ls hw hS hl) (fun h0 => h2 r ?_ p e s m args below meth c hE H locs ls hw hS hl)
  · rwa [if_pos h0] at hr
  · rwa [if_neg h0] at hr
theorem j_if_ge (tgt pc' : Nat) {u : Int32} {off : Int} {t1 t2 : Option ρ} (d : decode cc pc = .ok (.ifCond .ge off, 3)) (ht : (pc : Int) + off = (tgt : Int)) (hp : pc + 3 = pc') (h1 : JM G own cc nL Z E tgt lv st x k n t1) (h2 : JM G own cc nL Z E pc' lv st x k n t2) : JM G own cc nL Z E pc lv (.int u :: st) x k n (if 0 ≤ u then t1 else t2) := by
  subst hp
  intro r hr p e s m args below meth c hE H locs ls hw hS hl
  refine lv_if_ge hE.1 hE.2.1 d ht (fun h0 => h1 r ?_ p e s m args below meth c hE H locs ls hw hS hl) (fun h0 => h2 r ?_ p e s m args below meth c hE H locs ls hw hS hl)
  · rwa [if_pos h0] at hr
  · rwa [if_neg h0] at hr
theorem j_icmp_gt (tgt pc' : Nat) {u v : Int32} {off : Int} {t1 t2 : Option ρ} (d : decode cc pc = .ok (.if_icmp .gt off, 3)) (ht : (pc : Int) + off = (tgt : Int)) (hp : pc + 3 = pc') (h1 : JM G own cc nL Z E tgt lv st x k n t1) (h2 : JM G own cc nL Z E pc' lv st x k n t2) : JM G own cc nL Z E pc lv (.int v :: .int u :: st) x k n (if v < u then t1 else t2) := by
  subst hp
  intro r hr p e s m args below meth c hE H locs ls hw hS hl
  refine lv_icmp_gt hE.1 hE.2.1 d ht (fun h0 => h1 r ?_ p e s m args below meth c hE H locs ls hw hS hl) (fun h0 => h2 r ?_ p e s m args below meth c hE H locs ls hw hS hl)
  · rwa [if_pos h0] at hr
  · rwa [if_neg h0] at hr
theorem j_if_gt (tgt pc' : Nat) {u : Int32} {off : Int} {t1 t2 : Option ρ} (d : decode cc pc = .ok (.ifCond .gt off, 3)) (ht : (pc : Int) + off = (tgt : Int)) (hp : pc + 3 = pc') (h1 : JM G own cc nL Z E tgt lv st x k n t1) (h2 : JM G own cc nL Z E pc' lv st x k n t2) : JM G own cc nL Z E pc lv (.int u :: st) x k n (if 0 < u then t1 else t2) := by
  subst hp
  intro r hr p e s m args below meth c hE H locs ls hw hS hl
  refine lv_if_gt hE.1 hE.2.1 d ht (fun h0 => h1 r ?_ p e s m args below meth c hE H locs ls hw hS hl) (fun h0 => h2 r ?_ p e s m args below meth c hE H locs ls hw hS hl)
  · rwa [if_pos h0] at hr
  · rwa [if_neg h0] at hr
theorem j_icmp_le (tgt pc' : Nat) {u v : Int32} {off : Int} {t1 t2 : Option ρ} (d : decode cc pc = .ok (.if_icmp .le off, 3)) (ht : (pc : Int) + off = (tgt : Int)) (hp : pc + 3 = pc') (h1 : JM G own cc nL Z E tgt lv st x k n t1) (h2 : JM G own cc nL Z E pc' lv st x k n t2) : JM G own cc nL Z E pc lv (.int v :: .int u :: st) x k n (if u ≤ v then t1 else t2) := by
  subst hp
  intro r hr p e s m args below meth c hE H locs ls hw hS hl
  refine lv_icmp_le hE.1 hE.2.1 d ht (fun h0 => h1 r ?_ p e s m args below meth c hE H locs ls hw hS hl) (fun h0 => h2 r ?_ p e s m args below meth c hE H locs ls hw hS hl)
  · rwa [if_pos h0] at hr
  · rwa [if_neg h0] at hr
theorem j_if_le (tgt pc' : Nat) {u : Int32} {off : Int} {t1 t2 : Option ρ} (d : decode cc pc = .ok (.ifCond .le off, 3)) (ht : (pc : Int) + off = (tgt : Int)) (hp : pc + 3 = pc') (h1 : JM G own cc nL Z E tgt lv st x k n t1) (h2 : JM G own cc nL Z E pc' lv st x k n t2) : JM G own cc nL Z E pc lv (.int u :: st) x k n (if u ≤ 0 then t1 else t2) := by
  subst hp
  intro r hr p e s m args below meth c hE H locs ls hw hS hl
  refine lv_if_le hE.1 hE.2.1 d ht (fun h0 => h1 r ?_ p e s m args below meth c hE H locs ls hw hS hl) (fun h0 => h2 r ?_ p e s m args below meth c hE H locs ls hw hS hl)
  · rwa [if_pos h0] at hr
  · rwa [if_neg h0] at hr
theorem j_lcmp_eq (pc1 tgt pc' : Nat) {u v : Int64} {off : Int} {t1 t2 : Option ρ} (d0 : decode cc pc = .ok (.lcmp, 1)) (hp0 : pc + 1 = pc1) (d : decode cc pc1 = .ok (.ifCond .eq off, 3)) (ht : (pc1 : Int) + off = (tgt : Int)) (hp : pc1 + 3 = pc') (h1 : JM G own cc nL Z E tgt lv st x k n t1) (h2 : JM G own cc nL Z E pc' lv st x k n t2) : JM G own cc nL Z E pc lv (.long v :: .long u :: st) x k n (if u = v then t1 else t2) := by
  subst hp0
  subst hp
  intro r hr p e s m args below meth c hE H locs ls hw hS hl
  refine W.lcmp hE.1 hE.2.1 d0 (lv_if_eq hE.1 hE.2.1 d ht (fun h0 => h1 r ?_ p e s m args below meth c hE H locs ls hw hS hl) (fun h0 => h2 r ?_ p e s m args below meth c hE H locs ls hw hS hl))
  · rw [lg_cmp_eq u v] at h0
    rwa [if_pos h0] at hr
  · rw [lg_cmp_eq u v] at h0
    rwa [if_neg h0] at hr
theorem j_lcmp_ne (pc1 tgt pc' : Nat) {u v : Int64} {off : Int} {t1 t2 : Option ρ} (d0 : decode cc pc = .ok (.lcmp, 1)) (hp0 : pc + 1 = pc1) (d : decode cc pc1 = .ok (.ifCond .ne off, 3)) (ht : (pc1 : Int) + off = (tgt : Int)) (hp : pc1 + 3 = pc') (h1 : JM G own cc nL Z E tgt lv st x k n t1) (h2 : JM G own cc nL Z E pc' lv st x k n t2) : JM G own cc nL Z E pc lv (.long v :: .long u :: st) x k n (if u = v then t2 else t1) := by
  subst hp0
  subst hp
  intro r hr p e s m args below meth c hE H locs ls hw hS hl
  refine W.lcmp hE.1 hE.2.1 d0 (lv_if_ne hE.1 hE.2.1 d ht (fun h0 => h1 r ?_ p e s m args below meth c hE H locs ls hw hS hl) (fun h0 => h2 r ?_ p e s m args below meth c hE H locs ls hw hS hl))
  · rw [lg_cmp_eq u v] at h0
    rwa [if_neg h0] at hr
  · rw [lg_cmp_eq u v] at h0
    rwa [if_pos h0] at hr
theorem j_lcmp_lt (pc1 tgt pc' : Nat) {u v : Int64} {off : Int} {t1 t2 : Option ρ} (d0 : decode cc pc = .ok (.lcmp, 1)) (hp0 : pc + 1 = pc1) (d : decode cc pc1 = .ok (.ifCond .lt off, 3)) (ht : (pc1 : Int) + off = (tgt : Int)) (hp : pc1 + 3 = pc') (h1 : JM G own cc nL Z E tgt lv st x k n t1) (h2 : JM G own cc nL Z E pc' lv st x k n t2) : JM G own cc nL Z E pc lv (.long v :: .long u :: st) x k n (if u < v then t1 else t2) := by
  subst hp0
  subst hp
  intro r hr p e s m args below meth c hE H locs ls hw hS hl
  refine W.lcmp hE.1 hE.2.1 d0 (lv_if_lt hE.1 hE.2.1 d ht (fun h0 => h1 r ?_ p e s m args below meth c hE H locs ls hw hS hl) (fun h0 => h2 r ?_ p e s m args below meth c hE H locs ls hw hS hl))
  · rw [lg_cmp_lt u v] at h0
    rwa [if_pos h0] at hr
  · rw [lg_cmp_lt u v] at h0
    rwa [if_neg h0] at hr
theorem j_lcmp_ge (pc1 tgt pc' : Nat) {u v : Int64} {off : Int} {t1 t2 : Option ρ} (d0 : decode cc pc = .ok (.lcmp, 1)) (hp0 : pc + 1 = pc1) (d : decode cc pc1 = .ok (.ifCond .ge off, 3)) (ht : (pc1 : Int) + off = (tgt : Int)) (hp : pc1 + 3 = pc') (h1 : JM G own cc nL Z E tgt lv st x k n t1) (h2 : JM G own cc nL Z E pc' lv st x k n t2) : JM G own cc nL Z E pc lv (.long v :: .long u :: st) x k n (if v ≤ u then t1 else t2) := by
  subst hp0
  subst hp
  intro r hr p e s m args below meth c hE H locs ls hw hS hl
  refine W.lcmp hE.1 hE.2.1 d0 (lv_if_ge hE.1 hE.2.1 d ht (fun h0 => h1 r ?_ p e s m args below meth c hE H locs ls hw hS hl) (fun h0 => h2 r ?_ p e s m args below meth c hE H locs ls hw hS hl))
  · rw [lg_cmp_ge u v] at h0
    rwa [if_pos h0] at hr
  · rw [lg_cmp_ge u v] at h0
    rwa [if_neg h0] at hr
theorem j_lcmp_gt (pc1 tgt pc' : Nat) {u v : Int64} {off : Int} {t1 t2 : Option ρ} (d0 : decode cc pc = .ok (.lcmp, 1)) (hp0 : pc + 1 = pc1) (d : decode cc pc1 = .ok (.ifCond .gt off, 3)) (ht : (pc1 : Int) + off = (tgt : Int)) (hp : pc1 + 3 = pc') (h1 : JM G own cc nL Z E tgt lv st x k n t1) (h2 : JM G own cc nL Z E pc' lv st x k n t2) : JM G own cc nL Z E pc lv (.long v :: .long u :: st) x k n (if v < u then t1 else t2) := by
  subst hp0
  subst hp
  intro r hr p e s m args below meth c hE H locs ls hw hS hl
  refine W.lcmp hE.1 hE.2.1 d0 (lv_if_gt hE.1 hE.2.1 d ht (fun h0 => h1 r ?_ p e s m args below meth c hE H locs ls hw hS hl) (fun h0 => h2 r ?_ p e s m args below meth c hE H locs ls hw hS hl))
  · rw [lg_cmp_gt u v] at h0
    rwa [if_pos h0] at hr
  · rw [lg_cmp_gt u v] at h0
    rwa [if_neg h0] at hr
theorem j_lcmp_le (pc1 tgt pc' : Nat) {u v : Int64} {off : Int} {t1 t2 : Option ρ} (d0 : decode cc pc = .ok (.lcmp, 1)) (hp0 : pc + 1 = pc1) (d : decode cc pc1 = .ok (.ifCond .le off, 3)) (ht : (pc1 : Int) + off = (tgt : Int)) (hp : pc1 + 3 = pc') (h1 : JM G own cc nL Z E tgt lv st x k n t1) (h2 : JM G own cc nL Z E pc' lv st x k n t2) : JM G own cc nL Z E pc lv (.long v :: .long u :: st) x k n (if u ≤ v then t1 else t2) := by
  subst hp0
  subst hp
  intro r hr p e s m args below meth c hE H locs ls hw hS hl
  refine W.lcmp hE.1 hE.2.1 d0 (lv_if_le hE.1 hE.2.1 d ht (fun h0 => h1 r ?_ p e s m args below meth c hE H locs ls hw hS hl) (fun h0 => h2 r ?_ p e s m args below meth c hE H locs ls hw hS hl))
  · rw [lg_cmp_le u v] at h0
    rwa [if_pos h0] at hr
  · rw [lg_cmp_le u v] at h0
    rwa [if_neg h0] at hr
theorem j_goto (tgt : Nat) {off : Int} (d : decode cc pc = .ok (.goto off, 3)) (ht : (pc : Int) + off = (tgt : Int)) (h : JM G own cc nL Z E tgt lv st x k n t) : JM G own cc nL Z E pc lv st x k n t := by
  exact jm1 (fun p e s m args below meth c H locs Q ls hx hb _ _ hl kk => lv_goto hx hb d ht (kk ls hl)) h
theorem j_tin (tgt : Nat) {dflt lo hi : Int} {offs : Array Int} {len : Nat} {v : Int32} {off : Int} (d : decode cc pc = .ok (.tableswitch dflt lo hi offs, len)) (h1 : ¬ v.toInt < lo) (h2 : ¬ hi < v.toInt) (ho : offs[(v.toInt - lo).toNat]? = some off) (ht : (pc : Int) + off = (tgt : Int)) (h : JM G own cc nL Z E tgt lv st x k n t) : JM G own cc nL Z E pc lv (.int v :: st) x k n t := by
  exact jm1 (fun p e s m args below meth c H locs Q ls hx hb _ _ hl kk => lv_tableIn hx hb d h1 h2 ho ht (kk ls hl)) h
theorem j_tout (tgt : Nat) {dflt lo hi : Int} {offs : Array Int} {len : Nat} {v : Int32} (d : decode cc pc = .ok (.tableswitch dflt lo hi offs, len)) (h1 : v.toInt < lo ∨ hi < v.toInt) (ht : (pc : Int) + dflt = (tgt : Int)) (h : JM G own cc nL Z E tgt lv st x k n t) : JM G own cc nL Z E pc lv (.int v :: st) x k n t := by
  exact jm1 (fun p e s m args below meth c H locs Q ls hx hb _ _ hl kk => lv_tableOut hx hb d h1 ht (kk ls hl)) h
theorem j_ldc (pc' : Nat) {i : Nat} {v : Int32} (w : Cond.constant own i v ∈ jt) (d : decode cc pc = .ok (.ldc i, 2)) (hp : pc + 2 = pc') (h : JM G own cc nL Z E pc' lv (.int v :: st) x k n t) : JM G own cc nL Z E pc lv st x k n t := by
  subst hp
  exact jm1 (fun p e s m args below meth c H locs Q ls hx hb ho hts hl kk => lv_ldc hx hb ho (hts _ w) d (kk ls hl)) h
theorem j_ldcw (pc' : Nat) {i : Nat} {v : Int32} (w : Cond.constant own i v ∈ jt) (d : decode cc pc = .ok (.ldc_w i, 3)) (hp : pc + 3 = pc') (h : JM G own cc nL Z E pc' lv (.int v :: st) x k n t) : JM G own cc nL Z E pc lv st x k n t := by
  subst hp
  exact jm1 (fun p e s m args below meth c H locs Q ls hx hb ho hts hl kk => lv_ldcw hx hb ho (hts _ w) d (kk ls hl)) h
theorem j_ldc2 (pc' : Nat) {i : Nat} {v : Int64} (w : Cond.constantLong own i v ∈ jt) (d : decode cc pc = .ok (.ldc2_w i, 3)) (hp : pc + 3 = pc') (h : JM G own cc nL Z E pc' lv (.long v :: st) x k n t) : JM G own cc nL Z E pc lv st x k n t := by
  subst hp
  exact jm1 (fun p e s m args below meth c H locs Q ls hx hb ho hts hl kk => lv_ldc2 hx hb ho (hts _ w) d (kk ls hl)) h
end JK
