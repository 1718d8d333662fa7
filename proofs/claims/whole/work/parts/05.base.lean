/-! Base of this claim: the pure state of an object (Ob: field, place ↦ int), the pure words that the printed functions F_ are made of, how a hypothesis 'F .. = some u' is walked along the bytecode, and contracts/calls in one form. -/
abbrev Ob : Type := Nat → Nat → Int32
def sO (o : Ob) (i : Nat) (f : Nat → Int32) : Ob := fun k => cond (Nat.beq k i) f (o k)
def cst (x : Int32) : Nat → Int32 := fun _ => x
def dd {α β : Type} (e : α) (k : α → β) : β := k e
def jn {γ β : Type} (K : γ) (B : γ → β) : β := B K
def ck {α : Type} (i : Int32) (n : Nat) (k : Option α) : Option α := if i < 0 ∨ n ≤ i.toNatClampNeg then none else k
def dz {α : Type} (y : Int32) (k : Option α) : Option α := if y = 0 then none else k
def dzL {α : Type} (y : Int64) (k : Option α) : Option α := if y = 0 then none else k
def gz {α : Type} (v : Int32) (k : Option α) : Option α := if v = 0 ∨ v = 1 then k else none
theorem of_dd {α β : Type} {e : α} {k : α → β} {u : β} (h : dd e k = u) : ∀ y, y = e → k y = u := by
  intro y hy
  subst hy
  exact h
theorem of_jn {γ β : Type} {K : γ} {B : γ → β} {u : β} (h : jn K B = u) : ∃ K' : γ, K' = K ∧ B K' = u := ⟨K, rfl, h⟩
theorem of_t {c : Prop} {ic : Decidable c} {β : Type} {a b u : β} (h : c) (e : (@ite β c ic a b) = u) : a = u := by rwa [if_pos h] at e
theorem of_f {c : Prop} {ic : Decidable c} {β : Type} {a b u : β} (h : ¬ c) (e : (@ite β c ic a b) = u) : b = u := by rwa [if_neg h] at e
theorem of_ck {α : Type} {i : Int32} {n : Nat} {k : Option α} {u : α} (h : ck i n k = some u) : vp_in i n ∧ k = some u := by
  unfold ck at h
  by_cases c : i < 0 ∨ n ≤ i.toNatClampNeg
  · rw [if_pos c] at h; cases h
  · rw [if_neg c] at h; exact ⟨c, h⟩
theorem of_dz {α : Type} {y : Int32} {k : Option α} {u : α} (h : dz y k = some u) : (¬ y = 0) ∧ k = some u := by
  unfold dz at h
  by_cases c : y = 0
  · rw [if_pos c] at h; cases h
  · rw [if_neg c] at h; exact ⟨c, h⟩
theorem of_dzL {α : Type} {y : Int64} {k : Option α} {u : α} (h : dzL y k = some u) : (¬ y = 0) ∧ k = some u := by
  unfold dzL at h
  by_cases c : y = 0
  · rw [if_pos c] at h; cases h
  · rw [if_neg c] at h; exact ⟨c, h⟩
theorem of_gz {α : Type} {v : Int32} {k : Option α} {u : α} (h : gz v k = some u) : (narrow .boolean (.int v) = .int v ∧ fits .boolean (.int v) = true) ∧ k = some u := by
  unfold gz at h
  by_cases c : v = 0 ∨ v = 1
  · rw [if_pos c] at h
    refine ⟨?_, h⟩
    rcases c with rfl | rfl <;> exact ⟨rfl, rfl⟩
  · rw [if_neg c] at h; cases h
theorem of_bind {α β : Type} {x : Option α} {k : α → Option β} {u : β} (h : x.bind k = some u) : ∃ r, x = some r ∧ k r = some u := by
  cases x with
  | none => cases h
  | some r => exact ⟨r, rfl, h⟩
theorem inj_fst {α β : Type} {a : α} {b : β} {q : α × β} (h : some (a, b) = some q) : a = q.1 := congrArg Prod.fst (Option.some.inj h)
theorem inj_snd {α β : Type} {a : α} {b : β} {q : α × β} (h : some (a, b) = some q) : b = q.2 := congrArg Prod.snd (Option.some.inj h)
theorem of_none {β : Type} {u : β} {P : Prop} (h : (none : Option β) = some u) : P := by cases h
theorem nm_o {α β : Type} {e : α} {k : α → β} {u : β} {P B : α → Prop} (h : dd e k = u) (hP : P e) (hB : B e) : ∃ y, k y = u ∧ P y ∧ B y := ⟨e, h, hP, hB⟩
theorem nm_l {α β : Type} {x : α} {k : α → β} {u : β} {P : α → Prop} (h : dd x k = u) (hl : P x) : ∃ y, k y = u ∧ P y := ⟨x, h, hl⟩
theorem tab_out {x : Int32} {lo hi : Int} (h : ∀ k : Int, lo ≤ k → k ≤ hi → ¬ x = Int32.ofInt k) : x.toInt < lo ∨ hi < x.toInt := by
  by_cases a : x.toInt < lo
  · exact Or.inl a
  · by_cases b : hi < x.toInt
    · exact Or.inr b
    · exact absurd (Int32.ofInt_toInt x).symm (h x.toInt (by omega) (by omega))
def imgF (y z : Nat) : Nat → Option Nat := va_up (va_up (fun _ => none) 0 (some y)) 1 (some z)
theorem img2 {y z : Nat} {i : Int32} (h : vp_in i 2) : (i = 0 ∧ va_rf (imgF y z i.toNatClampNeg) = .ref y) ∨ (¬ i = 0 ∧ va_rf (imgF y z i.toNatClampNeg) = .ref z) := by
  obtain ⟨j, hj, rfl⟩ := vp_in_of h (by decide)
  rcases (show j = 0 ∨ j = 1 by omega) with rfl | rfl
  · exact Or.inl ⟨rfl, rfl⟩
  · exact Or.inr ⟨by decide, rfl⟩
abbrev tyL (cI cZ cO : ClassId) : List (ClassId × FieldType) := [(cI, .int), (cZ, .boolean), (cO, .object "ThreeLegs$Crowd")]
/-- a list of cells by the places in another -/
theorem at_places {ws w : va_W} {is : List Nat} (hs : is.map (fun i => ws[i]?) = w.map some) : ∀ (k : Nat) (q : Nat × va_E), w[k]? = some q → ∃ i, is[k]? = some i ∧ ws[i]? = some q := by
  intro k q hq
  have h1 : (is.map (fun i => ws[i]?))[k]? = some (some q) := by rw [hs, List.getElem?_map, hq]; rfl
  rw [List.getElem?_map] at h1
  cases hi : is[k]? with
  | none => rw [hi] at h1; cases h1
  | some i =>
    rw [hi] at h1
    exact ⟨i, rfl, Option.some.inj h1⟩
theorem pick_P {D : va_G} {cl : List vw_C} {ws w : va_W} {H : Heap} (h : va_P D cl ws H) (is : List Nat) (hs : is.map (fun i => ws[i]?) = w.map some) : va_P D cl w H := by
  intro k q hq
  obtain ⟨i, -, hi⟩ := at_places hs k q hq
  exact h i q hi
theorem at_lt {D : va_G} {cl : List vw_C} {q : Nat × va_E} {H : Heap} (h : va_at D cl q H) : q.1 < H.size := by
  obtain ⟨a, b⟩ := q
  cases b with
  | inl x => exact (Array.getElem?_eq_some_iff.mp h).1
  | inr x =>
    obtain ⟨r, -, cell, g, -⟩ := h
    exact (Array.getElem?_eq_some_iff.mp g).1
section Mk
variable {l : Launch} {y : MethodName} {ws ws' : List Cond} {rm : Room} {cc : ByteArray} {maxL : Nat} {D : va_G} {cl : List vw_C} {tys : List (ClassId × FieldType)} {av : List Value} {WS : va_W} {sz mc ms : Nat} {S : Type} {WF : S → va_W}
/-- a method's entry, as the walks below take it -/
def Ent (l : Launch) (y : MethodName) (ws' : List Cond) (rm : Room) (cc : ByteArray) (maxL : Nat) (D : va_G) (cl : List vw_C) (tys : List (ClassId × FieldType)) (av : List Value) (WS : va_W) (mc ms : Nat) (Ret : Program → Env → State → MethodId → Array Value → List Frame → Method → Code → (Nat → Prop) → (State → Prop) → Prop) : Prop :=
  ∀ (p : Program) (e : Env) (s : State) (m : MethodId) (args : Array Value) (below : List Frame) (meth : Method) (c : Code) (A : Nat → Prop) (ls : Array Slot) (Q : State → Prop),
     p.tables.exec = Jvm.exec → c.code = cc → c.maxLocals = maxL → s.vm.findClass y.cls = some m.cls → (∀ w ∈ ws', w.before args s = true) → meth.name = y.name → va_K D cl tys s → va_P D cl WS s.heap → va_D A WS → va_S A s.heap s.heap [] → (∀ q, s.heap.size ≤ q → A q) → lv_has ls maxL (lv_args 0 av) →
     Ret p e s m args below meth c A Q →
     W p l e rm s m args below meth c s.heap [] 0 0 Q (F0 m 0 ls [])
def RetI (l : Launch) (rm : Room) (cc : ByteArray) (D : va_G) (cl : List vw_C) (mc ms : Nat) {S : Type} (post : Int32 → S → Prop) (WF : S → va_W) : Program → Env → State → MethodId → Array Value → List Frame → Method → Code → (Nat → Prop) → (State → Prop) → Prop := fun p e s m args below meth c A Q =>
  ∀ (H : Heap) (locs : List Loc) (ls : Array Slot) (pc : Nat) (v : Int32) (st : S), post v st → va_P D cl (WF st) H → va_D A (WF st) → va_S A s.heap H locs → decode cc pc = .ok (.ireturn, 1) → W p l e rm s m args below meth c H locs mc ms Q (F0 m pc ls [.int v])
def RetZ (l : Launch) (rm : Room) (cc : ByteArray) (D : va_G) (cl : List vw_C) (mc ms : Nat) {S : Type} (post : Int32 → S → Prop) (WF : S → va_W) : Program → Env → State → MethodId → Array Value → List Frame → Method → Code → (Nat → Prop) → (State → Prop) → Prop := fun p e s m args below meth c A Q =>
  ∀ (H : Heap) (locs : List Loc) (ls : Array Slot) (pc : Nat) (v : Int32) (st : S), narrow .boolean (.int v) = .int v → post v st → va_P D cl (WF st) H → va_D A (WF st) → va_S A s.heap H locs → decode cc pc = .ok (.ireturn, 1) → W p l e rm s m args below meth c H locs mc ms Q (F0 m pc ls [.int v])
def RetV (l : Launch) (rm : Room) (cc : ByteArray) (D : va_G) (cl : List vw_C) (mc ms : Nat) {S : Type} (post : S → Prop) (WF : S → va_W) : Program → Env → State → MethodId → Array Value → List Frame → Method → Code → (Nat → Prop) → (State → Prop) → Prop := fun p e s m args below meth c A Q =>
  ∀ (H : Heap) (locs : List Loc) (ls : Array Slot) (pc : Nat) (st : S), post st → va_P D cl (WF st) H → va_D A (WF st) → va_S A s.heap H locs → decode cc pc = .ok (.return_, 1) → W p l e rm s m args below meth c H locs mc ms Q (F0 m pc ls [])
/-- the contracts' one form -/
def CtI (l : Launch) (y : MethodName) (ws : List Cond) (rm : Room) (D : va_G) (cl : List vw_C) (tys : List (ClassId × FieldType)) (av : List Value) (WS : va_W) (sz mc ms : Nat) {S : Type} (post : Int32 → S → Prop) (WF : S → va_W) : Prop :=
  Met l y ws rm (va_Pc av (fun U => U.heap.size = sz ∧ va_P D cl WS U.heap ∧ va_K D cl tys U ∧ va_D (fun _ => True) WS)) (va_Qi post (fun u t => va_P D cl (WF u) t.heap ∧ va_K D cl tys t ∧ va_D (va_A WS sz) (WF u)) (va_A WS sz)) mc ms (va_A WS sz)
def CtV (l : Launch) (y : MethodName) (ws : List Cond) (rm : Room) (D : va_G) (cl : List vw_C) (tys : List (ClassId × FieldType)) (av : List Value) (WS : va_W) (sz mc ms : Nat) {S : Type} (post : S → Prop) (WF : S → va_W) : Prop :=
  Met l y ws rm (va_Pc av (fun U => U.heap.size = sz ∧ va_P D cl WS U.heap ∧ va_K D cl tys U ∧ va_D (fun _ => True) WS)) (va_Qv post (fun u t => va_P D cl (WF u) t.heap ∧ va_K D cl tys t ∧ va_D (va_A WS sz) (WF u)) (va_A WS sz)) mc ms (va_A WS sz)
theorem mk_i {post : Int32 → S → Prop} (hy : plainName y.cls = true) (hw : ws = Cond.code y cc maxL (some .int) :: ws') (hn : (lg_sl av).length ≤ maxL)
    (k : Ent l y ws' rm cc maxL D cl tys av WS mc ms (RetI l rm cc D cl mc ms post WF)) : CtI l y ws rm D cl tys av WS sz mc ms post WF := by
  refine Met.ofW (cc := cc) (maxL := maxL) (ret := some .int) hy hw ?_
  intro p e s m args below meth c s₁ B hml hv
  obtain ⟨rfl, hsz, hP, hK, hD0⟩ := hv
  have hlocks := B.notSynchronized
  subst hsz
  have hD := hD0.self (sz := s.heap.size)
  rw [lg_entry_eq]
  refine k p e s m _ below meth c _ _ _ B.exec B.bytes hml (findClass_of_methodNamed B.named) (fun w h => atoms_spec (ws := ws) B.pre w (by rw [hw]; exact List.mem_cons_of_mem _ h)) (name_of_methodNamed B.named B.method).1 hK hP hD va_S.rf (fun q h => Or.inr h) (lv_entry av hn) ?_
  intro H locs ls pc v st hpost hP9 hD9 hS hdg
  exact W.iret B.exec B.bytes B.returns (fun t ht hW => ⟨⟨v, st, rfl, hpost, by rw [ht]; exact hP9, va_K.moved hW.alike hK, hD9⟩, hS.F ht⟩) hS.2.2 hdg
theorem mk_z {post : Int32 → S → Prop} (hy : plainName y.cls = true) (hw : ws = Cond.code y cc maxL (some .boolean) :: ws') (hn : (lg_sl av).length ≤ maxL)
    (k : Ent l y ws' rm cc maxL D cl tys av WS mc ms (RetZ l rm cc D cl mc ms post WF)) : CtI l y ws rm D cl tys av WS sz mc ms post WF := by
  refine Met.ofW (cc := cc) (maxL := maxL) (ret := some .boolean) hy hw ?_
  intro p e s m args below meth c s₁ B hml hv
  obtain ⟨rfl, hsz, hP, hK, hD0⟩ := hv
  have hlocks := B.notSynchronized
  subst hsz
  have hD := hD0.self (sz := s.heap.size)
  rw [lg_entry_eq]
  refine k p e s m _ below meth c _ _ _ B.exec B.bytes hml (findClass_of_methodNamed B.named) (fun w h => atoms_spec (ws := ws) B.pre w (by rw [hw]; exact List.mem_cons_of_mem _ h)) (name_of_methodNamed B.named B.method).1 hK hP hD va_S.rf (fun q h => Or.inr h) (lv_entry av hn) ?_
  intro H locs ls pc v st hnar hpost hP9 hD9 hS hdg
  exact W.zret B.exec B.bytes B.returns hnar (fun t ht hW => ⟨⟨v, st, rfl, hpost, by rw [ht]; exact hP9, va_K.moved hW.alike hK, hD9⟩, hS.F ht⟩) hS.2.2 hdg
theorem mk_v {post : S → Prop} (hy : plainName y.cls = true) (hw : ws = Cond.code y cc maxL none :: ws') (hn : (lg_sl av).length ≤ maxL)
    (k : Ent l y ws' rm cc maxL D cl tys av WS mc ms (RetV l rm cc D cl mc ms post WF)) : CtV l y ws rm D cl tys av WS sz mc ms post WF := by
  refine Met.ofW (cc := cc) (maxL := maxL) (ret := none) hy hw ?_
  intro p e s m args below meth c s₁ B hml hv
  obtain ⟨rfl, hsz, hP, hK, hD0⟩ := hv
  have hlocks := B.notSynchronized
  subst hsz
  have hD := hD0.self (sz := s.heap.size)
  rw [lg_entry_eq]
  refine k p e s m _ below meth c _ _ _ B.exec B.bytes hml (findClass_of_methodNamed B.named) (fun w h => atoms_spec (ws := ws) B.pre w (by rw [hw]; exact List.mem_cons_of_mem _ h)) (name_of_methodNamed B.named B.method).1 hK hP hD va_S.rf (fun q h => Or.inr h) (lv_entry av hn) ?_
  intro H locs ls pc st hpost hP9 hD9 hS hdg
  exact W.vret B.exec B.bytes B.returns (fun t ht hW => ⟨⟨st, rfl, hpost, by rw [ht]; exact hP9, va_K.moved hW.alike hK, hD9⟩, hS.F ht⟩) hS.2.2 hdg
end Mk
section Calls
variable {p : Program} {l : Launch} {e : Env} {R : Room} {s : State} {m : MethodId} {args : Array Value} {below : List Frame} {meth : Method} {c : Code} {H0 H : Heap} {locs : List Loc} {cells slots : Nat} {Q : State → Prop} {cc : ByteArray} {pc nL : Nat} {ls : Array Slot} {st0 rest : List Value}
variable {D : va_G} {cl : List vw_C} {tys : List (ClassId × FieldType)} {A : Nat → Prop} {ws wc wr : va_W} {Ts : List Cond} {own C : String} {y : MethodName} {wsy : List Cond} {rm : Room} {bytes : ByteArray} {maxL index n mc ms : Nat} {ret : Option FieldType} {b : Nat} {As : List Value} {S : Type} {WF : S → va_W} {WN : va_W}
/-- a virtual call of the one form, int or boolean answer -/
theorem callVi {r0 : Int32} {u0 : S} (FX : CallFix p m c cc nL s args Ts own) (hK : va_K D cl tys s) (hP : va_P D cl ws H) (hD : va_D A ws) (hS : va_S A H0 H locs) (hA : ∀ q, H0.size ≤ q → A q)
    (isC isR isB : List Nat) (hM : CtI l y wsy rm D cl tys (.ref b :: As) wc H.size mc ms (fun r u => r = r0 ∧ u = u0) WF) (cw : CallW R s args own C index y bytes maxL ret wsy rm mc ms n)
    (q0 ci : Nat) {q : vw_C} {fs : List Value} (he : wc[q0]? = some (b, .inr (ci, fs))) (hc : cl[ci]? = some q) (hqC : q.1 = C)
    (hC : isC.map (fun i => ws[i]?) = wc.map some) (hR : isR.map (fun i => ws[i]?) = wr.map some) (hnC : va_nd isC = true) (hnR : va_nd isR = true) (hdis : ∀ i ∈ isR, i ∉ isC)
    (hB : isB.map (fun i => (wr ++ WF u0)[i]?) = WN.map some) (hnB : va_nd isB = true)
    (hlen : As.length = n) (hsize : ls.size = nL) (hstack : st0 = As.reverse ++ .ref b :: rest) (hW : (rest.map fun v => v.category).sum ≤ 8) (hdg : decode cc pc = .ok (.invokevirtual index, 3)) (hf : cells + mc ≤ R.cells ∧ slots + ms ≤ R.slots)
    (kk : ∀ (H1 : Heap) (locs1 : List Loc), va_P D cl WN H1 → va_D A WN → va_S A H0 H1 locs1 → W p l e R s m args below meth c H1 locs1 (cells + mc) (slots + ms) Q (F0 m (pc + 3) ls (.int r0 :: rest))) : W p l e R s m args below meth c H locs cells slots Q (F0 m pc ls st0) := by
  have hPc : va_P D cl wc H := pick_P hP isC hC
  have hDc : va_D A wc := hD.sub isC hnC hC
  have hFc := va_free (wc := wc) hD hS hA isC hC
  obtain ⟨cell, g1, g2, g3⟩ := va_recv hK hPc hc he
  refine va_calli (va_runV (As := As) (rest := rest) FX hM cw ⟨fun a U g mk q => ?_, ⟨cell, g1, g2, by rw [← hqC]; exact g3⟩, fun U hU hW => ⟨rfl, by rw [hU], by rw [hU]; exact hPc, va_K.moved hW.alike hK, hDc.weaken (fun _ _ _ _ => trivial)⟩⟩ rfl hlen hsize hstack (lv_room hW) hdg hf) hS (fun q _ h => hFc q h) hFc (fun r u t H1 locs1 ht hvm hw hB1 hz1 hk1 hS1 => ?_)
  · obtain ⟨q0, q1, qP, qK, qD⟩ := q
    exact ⟨q0, q1, qP, va_K.moved (u := U) (U := U.calling g mk a) (Vm.Alike.refl U.vm) qK, qD⟩
  · obtain ⟨hP1, hK1, hD1⟩ := hB1
    rw [ht] at hP1
    obtain ⟨hP2, hD2⟩ := va_join (wr := wr) (w1 := WF u) hP hD isC isR hC hR hnR hdis hk1 hFc hP1 hD1
    obtain ⟨rfl, rfl⟩ := hw
    exact kk H1 locs1 (pick_P hP2 isB hB) (hD2.sub isB hnB hB) hS1
theorem callVv {u0 : S} (FX : CallFix p m c cc nL s args Ts own) (hK : va_K D cl tys s) (hP : va_P D cl ws H) (hD : va_D A ws) (hS : va_S A H0 H locs) (hA : ∀ q, H0.size ≤ q → A q)
    (isC isR isB : List Nat) (hM : CtV l y wsy rm D cl tys (.ref b :: As) wc H.size mc ms (fun u => u = u0) WF) (cw : CallW R s args own C index y bytes maxL ret wsy rm mc ms n)
    (q0 ci : Nat) {q : vw_C} {fs : List Value} (he : wc[q0]? = some (b, .inr (ci, fs))) (hc : cl[ci]? = some q) (hqC : q.1 = C)
    (hC : isC.map (fun i => ws[i]?) = wc.map some) (hR : isR.map (fun i => ws[i]?) = wr.map some) (hnC : va_nd isC = true) (hnR : va_nd isR = true) (hdis : ∀ i ∈ isR, i ∉ isC)
    (hB : isB.map (fun i => (wr ++ WF u0)[i]?) = WN.map some) (hnB : va_nd isB = true)
    (hlen : As.length = n) (hsize : ls.size = nL) (hstack : st0 = As.reverse ++ .ref b :: rest) (hW : (rest.map fun v => v.category).sum ≤ 8) (hdg : decode cc pc = .ok (.invokevirtual index, 3)) (hf : cells + mc ≤ R.cells ∧ slots + ms ≤ R.slots)
    (kk : ∀ (H1 : Heap) (locs1 : List Loc), va_P D cl WN H1 → va_D A WN → va_S A H0 H1 locs1 → W p l e R s m args below meth c H1 locs1 (cells + mc) (slots + ms) Q (F0 m (pc + 3) ls rest)) : W p l e R s m args below meth c H locs cells slots Q (F0 m pc ls st0) := by
  have hPc : va_P D cl wc H := pick_P hP isC hC
  have hDc : va_D A wc := hD.sub isC hnC hC
  have hFc := va_free (wc := wc) hD hS hA isC hC
  obtain ⟨cell, g1, g2, g3⟩ := va_recv hK hPc hc he
  refine va_callv (va_runV (As := As) (rest := rest) FX hM cw ⟨fun a U g mk q => ?_, ⟨cell, g1, g2, by rw [← hqC]; exact g3⟩, fun U hU hW => ⟨rfl, by rw [hU], by rw [hU]; exact hPc, va_K.moved hW.alike hK, hDc.weaken (fun _ _ _ _ => trivial)⟩⟩ rfl hlen hsize hstack (lv_room hW) hdg hf) hS (fun q _ h => hFc q h) hFc (fun u t H1 locs1 ht hvm hw hB1 hz1 hk1 hS1 => ?_)
  · obtain ⟨q0, q1, qP, qK, qD⟩ := q
    exact ⟨q0, q1, qP, va_K.moved (u := U) (U := U.calling g mk a) (Vm.Alike.refl U.vm) qK, qD⟩
  · obtain ⟨hP1, hK1, hD1⟩ := hB1
    rw [ht] at hP1
    obtain ⟨hP2, hD2⟩ := va_join (wr := wr) (w1 := WF u) hP hD isC isR hC hR hnR hdis hk1 hFc hP1 hD1
    obtain rfl := hw
    exact kk H1 locs1 (pick_P hP2 isB hB) (hD2.sub isB hnB hB) hS1
/-- a static call of the one form, over no cells -/
theorem callSi {r0 : Int32} {u0 : S} (FX : CallFix p m c cc nL s args Ts own) (hK : va_K D cl tys s) (hP : va_P D cl ws H) (hD : va_D A ws) (hS : va_S A H0 H locs) (hA : ∀ q, H0.size ≤ q → A q)
    (hM : CtI l y wsy rm D cl tys As [] H.size 0 0 (fun r u => r = r0 ∧ u = u0) WF) (cw : CallB R s args own index y bytes maxL ret wsy rm 0 0 n ∧ (Cond.static y).before args s = true)
    (hlen : As.length = n) (hsize : ls.size = nL) (hstack : st0 = As.reverse ++ rest) (hW : (rest.map fun v => v.category).sum ≤ 8) (hdg : decode cc pc = .ok (.invokestatic index, 3)) (hf : cells ≤ R.cells ∧ slots ≤ R.slots)
    (kk : ∀ (H1 : Heap) (locs1 : List Loc), va_P D cl ws H1 → va_S A H0 H1 locs1 → W p l e R s m args below meth c H1 locs1 cells slots Q (F0 m (pc + 3) ls (.int r0 :: rest))) : W p l e R s m args below meth c H locs cells slots Q (F0 m pc ls st0) := by
  have hFc := va_free (wc := []) hD hS hA [] rfl
  refine va_calli (va_runS (As := As) (rest := rest) FX hM cw ⟨fun a U g mk q => ?_, fun U hU hW => ⟨rfl, by rw [hU], fun k q h => by simp at h, va_K.moved hW.alike hK, ⟨fun i j p q h => by simp at h, fun k q h => by simp at h⟩⟩⟩ rfl hlen hsize hstack (lv_room hW) hdg hf) hS (fun q _ h => hFc q h) hFc (fun r u t H1 locs1 ht hvm hw hB1 hz1 hk1 hS1 => ?_)
  · obtain ⟨q0, q1, qP, qK, qD⟩ := q
    exact ⟨q0, q1, qP, va_K.moved (u := U) (U := U.calling g mk a) (Vm.Alike.refl U.vm) qK, qD⟩
  · obtain ⟨hP1, hK1, hD1⟩ := hB1
    have hP2 : va_P D cl ws H1 := hP.kept (fun k q hk => hk1 q.1 (at_lt (hP k q hk)) (fun h => by
      rcases h with ⟨k, e, h⟩ | h
      · simp at h
      · exact absurd (at_lt (hP _ q hk)) (Nat.not_lt.mpr h)))
    rw [hw.1]
    exact kk H1 locs1 hP2 hS1
end Calls
