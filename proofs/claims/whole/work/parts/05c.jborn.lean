/-! Births: new cells stand at the top. -/
theorem vr_outer (c : ClassId) (N h0 : Nat) : ∀ i : Nat, Jvm.Free.Multi.outerC c N h0 i = arrV c N (fun j => va_rf (if j < i then some (h0 + 1 + j) else none))
  | 0 => by
    show ({ cls := c, slots := Array.replicate N .null, vm := .none } : Cell) = _
    rw [arrV_new]
    refine congrArg (arrV c N) (funext fun j => ?_)
    simp [va_rf]
  | i + 1 => by
    show (Jvm.Free.Multi.outerC c N h0 i).setSlot i (.ref (h0 + 1 + i)) = _
    rw [vr_outer c N h0 i, arrV_store]
    refine congrArg (arrV c N) (funext fun j => ?_)
    by_cases e : j = i
    · subst e
      simp [updV, va_rf]
    · by_cases h : j < i
      · simp [updV, e, h, Nat.lt_succ_of_lt h]
      · simp [updV, e, h, show ¬ j < i + 1 by omega]
def nC (x : Hs) (e : va_E) : Option (Nat × Hs) := some (x.2.1, (va_up x.1 x.2.1 e, x.2.1 + 1, x.2.2))
/-- an array of N rows of K ints: the outer one at the top, the rows behind it -/
def nM (x : Hs) (N K : Nat) : Option (Nat × Hs) := some (x.2.1, (fun b => if b = x.2.1 then .inl (x.2.2 3, N, .inr (.inr (.inr (.inr (fun i => if i < N then some (x.2.1 + 1 + i) else none))))) else if x.2.1 < b ∧ b < x.2.1 + 1 + N then .inl (x.2.2 0, K, .inl (fun _ => 0)) else x.1 b), x.2.1 + 1 + N, x.2.2)
section JB
variable {G : JG} {own : String} {cc : ByteArray} {nL : Nat} {Z : JZ} {ρ : Type} {E : ρ → JR} {pc pc' : Nat} {lv : List (Nat × Value)} {st : List Value} {x : Hs} {k n : Nat} {t : Option ρ}
theorem j_new (pc' : Nat) {i ci N : Nat} {Cn : String} {T : u_T} {ty : Nat → FieldType} {fs : List Value} {kk : Nat × Hs → Option ρ} (kc : jcl ci Cn T N ty) (w1 : Cond.classLink own i Cn ∈ jt) (w2 : Cond.instantiable Cn N ∈ jt) (w3 : Cond.initialized Cn ∈ jt) (hfs : ∀ j, j < N → defaultValue (ty j) = vp_V fs j) (hk : k + 1 ≤ Z.2.2.1.cells) (hn9 : n + N ≤ Z.2.2.1.slots) (d : decode cc pc = .ok (.new i, 3)) (hp : pc + 3 = pc') (h : ∀ q, JM G own cc nL Z E pc' lv (.ref q.1 :: st) q.2 (k + 1) (n + N) (kk q)) : JM G own cc nL Z E pc lv st x k n ((nC x (.inr (ci, fs))).bind kk) := by
  subst hp
  intro r hr p e s m args below meth c hE H locs ls hw hS hl
  obtain ⟨hx, hb, hml, hrt, ho, hts, hlk, hK, hN, hz, hnm, hX⟩ := id hE
  have hr : kk (x.2.1, (va_up x.1 x.2.1 (.inr (ci, fs)), x.2.1 + 1, x.2.2)) = some r := hr
  obtain ⟨hc, h9, hin, hty, hnd⟩ := kc
  have hKn := hK.1 ci _ hc
  refine W.newcK hx hb ho (hts _ w1) (hts _ w2) (hts _ w3) rfl d hk hn9 hKn.2.1 hw.1 fun H1 kC hkC e1 z1 o1 => ?_
  exact h _ r hr p e s m args below meth c hE H1 locs ls (jw_new hw z1 o1 ⟨_, hc, (u_born ty hts hin hKn hkC e1 hty).to hfs⟩) ⟨Nat.le_trans hS.1 (by rw [z1, hw.1]; omega), fun q h1 h2 => (o1 q (by have := hS.1; rw [hw.1] at this; omega)).trans (hS.2.1 q h1 h2), hS.2.2⟩ hl
theorem j_newI (pc' : Nat) {v : Int32} {N : Nat} {kk : Nat × Hs → Option ρ} (w : Cond.arrayClass .int ∈ jt) (hn : ¬ v < 0) (hN9 : v.toNatClampNeg = N) (hby : N * componentBytes .int ≤ 536870912) (hk : k + 1 ≤ Z.2.2.1.cells) (hn9 : n + N ≤ Z.2.2.1.slots) (d : decode cc pc = .ok (.newarray .int, 2)) (hp : pc + 2 = pc') (h : ∀ q, JM G own cc nL Z E pc' lv (.ref q.1 :: st) q.2 (k + 1) (n + N) (kk q)) : JM G own cc nL Z E pc lv (.int v :: st) x k n ((nC x (.inl (x.2.2 0, N, .inl (fun _ => 0)))).bind kk) := by
  subst hp
  intro r hr p e s m args below meth c hE H locs ls hw hS hl
  obtain ⟨hx, hb, hml, hrt, ho, hts, hlk, hK, hN, hz, hnm, hX⟩ := id hE
  have hr : kk (x.2.1, (va_up x.1 x.2.1 (.inl (x.2.2 0, N, .inl (fun _ => 0))), x.2.1 + 1, x.2.2)) = some r := hr
  refine va_newaK (atype := .int) hx hb (hts _ w) rfl d rfl hn hN9 hby hk hn9 hw.1 fun H1 cA e1 z1 o1 hAr hNm => ?_
  have hty : (jty G.2.2.1)[0]? = some (x.2.2 0, .int) := by rw [hw.2.2.1]; rfl
  have hcA : x.2.2 0 = cA := Option.some.inj ((show s.vm.findClass ("[" ++ FieldType.toString .int) = some (x.2.2 0) from (hK.2 0 _ hty).2).symm.trans hNm)
  refine h _ r hr p e s m args below meth c hE H1 locs ls (jw_new hw z1 o1 ?_) ⟨Nat.le_trans hS.1 (by rw [z1, hw.1]; omega), fun q h1 h2 => (o1 q (by have := hS.1; rw [hw.1] at this; omega)).trans (hS.2.1 q h1 h2), hS.2.2⟩ hl
  show H1[x.2.1]? = some (vp_cell _ _)
  rw [vp_cell_i, hcA]
  exact e1
theorem j_newL (pc' : Nat) {v : Int32} {N : Nat} {kk : Nat × Hs → Option ρ} (w : Cond.arrayClass .long ∈ jt) (hn : ¬ v < 0) (hN9 : v.toNatClampNeg = N) (hby : N * componentBytes .long ≤ 536870912) (hk : k + 1 ≤ Z.2.2.1.cells) (hn9 : n + N ≤ Z.2.2.1.slots) (d : decode cc pc = .ok (.newarray .long, 2)) (hp : pc + 2 = pc') (h : ∀ q, JM G own cc nL Z E pc' lv (.ref q.1 :: st) q.2 (k + 1) (n + N) (kk q)) : JM G own cc nL Z E pc lv (.int v :: st) x k n ((nC x (.inl (x.2.2 1, N, .inr (.inl (fun _ => 0))))).bind kk) := by
  subst hp
  intro r hr p e s m args below meth c hE H locs ls hw hS hl
  obtain ⟨hx, hb, hml, hrt, ho, hts, hlk, hK, hN, hz, hnm, hX⟩ := id hE
  have hr : kk (x.2.1, (va_up x.1 x.2.1 (.inl (x.2.2 1, N, .inr (.inl (fun _ => 0)))), x.2.1 + 1, x.2.2)) = some r := hr
  refine va_newaK (atype := .long) hx hb (hts _ w) rfl d rfl hn hN9 hby hk hn9 hw.1 fun H1 cA e1 z1 o1 hAr hNm => ?_
  have hty : (jty G.2.2.1)[1]? = some (x.2.2 1, .long) := by rw [hw.2.2.1]; rfl
  have hcA : x.2.2 1 = cA := Option.some.inj ((show s.vm.findClass ("[" ++ FieldType.toString .long) = some (x.2.2 1) from (hK.2 1 _ hty).2).symm.trans hNm)
  refine h _ r hr p e s m args below meth c hE H1 locs ls (jw_new hw z1 o1 ?_) ⟨Nat.le_trans hS.1 (by rw [z1, hw.1]; omega), fun q h1 h2 => (o1 q (by have := hS.1; rw [hw.1] at this; omega)).trans (hS.2.1 q h1 h2), hS.2.2⟩ hl
  show H1[x.2.1]? = some (vp_cell _ _)
  rw [vp_cell_l, hcA]
  exact e1
theorem j_newC (pc' : Nat) {v : Int32} {N : Nat} {kk : Nat × Hs → Option ρ} (w : Cond.arrayClass .char ∈ jt) (hn : ¬ v < 0) (hN9 : v.toNatClampNeg = N) (hby : N * componentBytes .char ≤ 536870912) (hk : k + 1 ≤ Z.2.2.1.cells) (hn9 : n + N ≤ Z.2.2.1.slots) (d : decode cc pc = .ok (.newarray .char, 2)) (hp : pc + 2 = pc') (h : ∀ q, JM G own cc nL Z E pc' lv (.ref q.1 :: st) q.2 (k + 1) (n + N) (kk q)) : JM G own cc nL Z E pc lv (.int v :: st) x k n ((nC x (.inl (x.2.2 2, N, .inl (fun _ => 0)))).bind kk) := by
  subst hp
  intro r hr p e s m args below meth c hE H locs ls hw hS hl
  obtain ⟨hx, hb, hml, hrt, ho, hts, hlk, hK, hN, hz, hnm, hX⟩ := id hE
  have hr : kk (x.2.1, (va_up x.1 x.2.1 (.inl (x.2.2 2, N, .inl (fun _ => 0))), x.2.1 + 1, x.2.2)) = some r := hr
  refine va_newaK (atype := .char) hx hb (hts _ w) rfl d rfl hn hN9 hby hk hn9 hw.1 fun H1 cA e1 z1 o1 hAr hNm => ?_
  have hty : (jty G.2.2.1)[2]? = some (x.2.2 2, .char) := by rw [hw.2.2.1]; rfl
  have hcA : x.2.2 2 = cA := Option.some.inj ((show s.vm.findClass ("[" ++ FieldType.toString .char) = some (x.2.2 2) from (hK.2 2 _ hty).2).symm.trans hNm)
  refine h _ r hr p e s m args below meth c hE H1 locs ls (jw_new hw z1 o1 ?_) ⟨Nat.le_trans hS.1 (by rw [z1, hw.1]; omega), fun q h1 h2 => (o1 q (by have := hS.1; rw [hw.1] at this; omega)).trans (hS.2.1 q h1 h2), hS.2.2⟩ hl
  show H1[x.2.1]? = some (vp_cell _ _)
  rw [vp_cell_i, hcA]
  exact e1
theorem j_mna (pc' : Nat) {i : Nat} {v u : Int32} {N K : Nat} {kk : Nat × Hs → Option ρ} (w1 : Cond.classLink own i "[[I" ∈ jt) (w3 : Cond.arrayClass .int ∈ jt) (hv : ¬ v < 0) (hu : ¬ u < 0) (hN9 : v.toNatClampNeg = N) (hK9 : u.toNatClampNeg = K) (hb1 : N * 4 ≤ 536870912) (hb2 : K * componentBytes .int ≤ 536870912) (hb3 : K ≤ 536870912) (hk : k + (1 + N) ≤ Z.2.2.1.cells) (hn9 : n + (N + N * K) ≤ Z.2.2.1.slots) (d : decode cc pc = .ok (.multianewarray i 2, 4)) (hp : pc + 4 = pc') (h : ∀ q, JM G own cc nL Z E pc' lv (.ref q.1 :: st) q.2 (k + 1 + N) (n + N + N * K) (kk q)) : JM G own cc nL Z E pc lv (.int u :: .int v :: st) x k n ((nM x N K).bind kk) := by
  subst hp
  subst hN9
  subst hK9
  intro r hr p e s m args below meth c hE H locs ls hw hS hl
  obtain ⟨hx, hb, hml, hrt, ho, hts, hlk, hK, hN, hz, hnm, hX⟩ := id hE
  have hty3 : (jty G.2.2.1)[3]? = some (x.2.2 3, .array .int) := by rw [hw.2.2.1]; rfl
  have hty0 : (jty G.2.2.1)[0]? = some (x.2.2 0, .int) := by rw [hw.2.2.1]; rfl
  intro T hT Xs
  obtain ⟨vm₁, cA, cy, -, fA, fC, hO, -, X', step⟩ := Xs.multianewarray2F (ty := .int) hx ho (hts _ w1) (jO_use hN.2.1) (hts _ w3) (g := F0 m pc ls (.int u :: .int v :: st)) rfl (by rw [hb]; exact d) rfl hv hu hb1 hb2 hb3 rfl rfl hk hn9
  have ecA : x.2.2 3 = cA := Option.some.inj ((show s.vm.findClass ("[" ++ FieldType.toString (.array .int)) = some (x.2.2 3) from (hK.2 3 _ hty3).2).symm.trans fA)
  have ecy : x.2.2 0 = cy := Option.some.inj ((show s.vm.findClass ("[" ++ FieldType.toString .int) = some (x.2.2 0) from (hK.2 0 _ hty0).2).symm.trans fC)
  subst ecA
  subst ecy
  generalize hF : Jvm.Free.Multi.fill (T.setVm vm₁) (x.2.2 3) (x.2.2 0) v.toNatClampNeg u.toNatClampNeg (defaultValue .int) v.toNatClampNeg = F at X' step
  have hTh : (T.setVm vm₁).heap = H := hT
  obtain ⟨f1, f2, -, -⟩ := Jvm.Free.Multi.fill_facts (T.setVm vm₁) (x.2.2 3) (x.2.2 0) v.toNatClampNeg u.toNatClampNeg (defaultValue .int) v.toNatClampNeg
  rw [hF, hTh] at f1 f2
  have hold : ∀ b : Nat, b < H.size → F.heap[b]? = H[b]? := fun b hb9 => by
    have := Jvm.Free.Multi.fill_old (T.setVm vm₁) (x.2.2 3) (x.2.2 0) v.toNatClampNeg u.toNatClampNeg (defaultValue .int) (a := b) (by rw [hTh]; exact hb9) v.toNatClampNeg
    rw [hF, hTh] at this
    exact this
  have hrow : ∀ j : Nat, j < v.toNatClampNeg → F.heap[H.size + 1 + j]? = some (vp_cell (x.2.2 0) (u.toNatClampNeg, .inl (fun _ => 0))) := fun j hj => by
    have := Jvm.Free.Multi.fill_inner (T.setVm vm₁) (x.2.2 3) (x.2.2 0) v.toNatClampNeg u.toNatClampNeg (defaultValue .int) v.toNatClampNeg j hj
    rw [hF, hTh] at this
    rw [this, vp_cell_i, ← arrV_new]
    rfl
  have hout : Jvm.Free.Multi.outerC (x.2.2 3) v.toNatClampNeg H.size v.toNatClampNeg = vp_cell (x.2.2 3) (v.toNatClampNeg, .inr (.inr (.inr (.inr (fun i => if i < v.toNatClampNeg then some (H.size + 1 + i) else none))))) := by
    rw [vp_cell_q]
    exact vr_outer (x.2.2 3) v.toNatClampNeg H.size v.toNatClampNeg
  rw [hout] at f2
  have hsz := hw.1
  have hle := hw.2.1
  have hr : kk (x.2.1, (fun b => if b = x.2.1 then .inl (x.2.2 3, v.toNatClampNeg, .inr (.inr (.inr (.inr (fun i => if i < v.toNatClampNeg then some (x.2.1 + 1 + i) else none))))) else if x.2.1 < b ∧ b < x.2.1 + 1 + v.toNatClampNeg then .inl (x.2.2 0, u.toNatClampNeg, .inl (fun _ => 0)) else x.1 b), x.2.1 + 1 + v.toNatClampNeg, x.2.2) = some r := hr
  rw [hsz] at f1 f2 hold hrow
  obtain ⟨t, a1, b1⟩ := h _ r hr p e s m args below meth c hE F.heap locs ls (by
    refine ⟨by rw [f1], Nat.le_trans hle (by show x.2.1 ≤ x.2.1 + 1 + _; omega), hw.2.2.1, fun b => ?_, fun q hq => ?_⟩
    · by_cases h1 : b = x.2.1
      · subst h1
        right
        show _ ∧ va_at G.2.1 vwCl (x.2.1, if x.2.1 = x.2.1 then _ else _) F.heap
        rw [if_pos rfl]
        exact ⟨hle, f2⟩
      · by_cases h2 : x.2.1 < b ∧ b < x.2.1 + 1 + v.toNatClampNeg
        · right
          show _ ∧ va_at G.2.1 vwCl (b, if b = x.2.1 then _ else if _ then _ else _) F.heap
          rw [if_neg h1, if_pos h2]
          refine ⟨by omega, ?_⟩
          have h3 := hrow (b - (x.2.1 + 1)) (by omega)
          rw [show x.2.1 + 1 + (b - (x.2.1 + 1)) = b by omega] at h3
          exact h3
        · show (if b = x.2.1 then _ else if _ then _ else x.1 b) = dum ∨ _ ∧ va_at G.2.1 vwCl (b, if b = x.2.1 then _ else if _ then _ else x.1 b) F.heap
          rw [if_neg h1, if_neg h2]
          rcases hw.2.2.2.1 b with z | z
          · exact Or.inl z
          · have hlt := z.2.lt
            exact Or.inr ⟨z.1, z.2.kept (hold b (by rw [← hsz]; exact hlt))⟩
    · rw [hold q (by omega)]
      exact hw.2.2.2.2 q hq) ⟨by have := hS.1; rw [hsz] at this; rw [f1]; omega, fun q h1 h2 => (hold q (by have := hS.1; rw [hsz] at this; omega)).trans (hS.2.1 q h1 h2), hS.2.2⟩ hl F rfl X'
  refine ⟨t, step t ?_, b1⟩
  have e9 : T.heap.size = x.2.1 := by rw [hT, hsz]
  rw [e9]
  exact a1
theorem j_callI_v (pc' : Nat) {mir : Option Hs} {kk : Hs → Option ρ} {y : MethodName} {cc' : ByteArray} {nL' i n' mc' ms' : Nat} {R' : Room} {As : List Value} {a : Nat} (hc : ∀ q, mir = some q → JC G y cc' nL' none R' mc' ms' (.ref a :: As) x (none, q)) (hi : y.name = "<init>") (w0 : jsC y cc' nL' none n') (w1 : Cond.methodLink own i y ∈ jt) (w2 : Cond.instanceMethod y ∈ jt) (hR : R'.cells = mc' ∧ R'.slots = ms' ∧ R'.frames + 1 ≤ Z.2.2.1.frames ∧ 8 + (nL' + 11) + R'.locals ≤ Z.2.2.1.locals) (hst : (st.map fun v => v.category).sum ≤ 8) (hcs : k + mc' ≤ Z.2.2.1.cells ∧ n + ms' ≤ Z.2.2.1.slots) (hn : As.length = n') (d : decode cc pc = .ok (.invokespecial i, 3)) (hp : pc + 3 = pc') {st0 : List Value} (hs0 : As.reverse ++ .ref a :: st = st0) (h : ∀ q, JM G own cc nL Z E pc' lv st q (k + mc') (n + ms') (kk q)) : JM G own cc nL Z E pc lv st0 x k n (mir.bind kk) :=
  j_callI (E' := fun q : Hs => ((none, q) : JR)) pc' hc hi w0 w1 w2 rfl hR hst hcs hn d hp hs0 h
theorem j_callIN_v (pc' : Nat) {mir : Option Hs} {kk : Hs → Option ρ} {y : MethodName} {cc' : ByteArray} {nL' i n' mc' ms' : Nat} {R' : Room} {As : List Value} {a : Nat} (hc : ∀ q, mir = some q → JC G y cc' nL' none R' mc' ms' (.ref a :: As) x (none, q)) {host : String} (hi : y.name = "<init>") (w0 : jsC y cc' nL' none n') (w1 : (own, i, y, host) ∈ jnl) (w2 : Cond.instanceMethod y ∈ jt) (hR : R'.cells = mc' ∧ R'.slots = ms' ∧ R'.frames + 1 ≤ Z.2.2.1.frames ∧ 8 + (nL' + 11) + R'.locals ≤ Z.2.2.1.locals) (hst : (st.map fun v => v.category).sum ≤ 8) (hcs : k + mc' ≤ Z.2.2.1.cells ∧ n + ms' ≤ Z.2.2.1.slots) (hn : As.length = n') (d : decode cc pc = .ok (.invokespecial i, 3)) (hp : pc + 3 = pc') {st0 : List Value} (hs0 : As.reverse ++ .ref a :: st = st0) (h : ∀ q, JM G own cc nL Z E pc' lv st q (k + mc') (n + ms') (kk q)) : JM G own cc nL Z E pc lv st0 x k n (mir.bind kk) :=
  j_callIN (E' := fun q : Hs => ((none, q) : JR)) pc' hc hi w0 w1 w2 rfl hR hst hcs hn d hp hs0 h
end JB
