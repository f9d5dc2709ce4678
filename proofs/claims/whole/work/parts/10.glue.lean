/-! The glue: worlds of the shelf, contracts over a world, calls, ends. -/
abbrev vwTy (ks : Nat → ClassId) : List (ClassId × FieldType) := [(ks 0, .long), (ks 1, .int), (ks 2, .boolean), (ks 3, .object "WordShelf$Image")]
/-- a contract's start: the world w0 -/
def Pcw (d : va_G) (ks : Nat → ClassId) (av : List Value) (sz : Nat) (w0 : va_W) : Array Value → State → Prop := va_Pc av (fun U => U.heap.size = sz ∧ va_P d vwCl w0 U.heap ∧ va_K d vwCl (vwTy ks) U ∧ va_D (fun _ => True) w0 ∧ NW U)
/-- .. and its end: the world ws -/
def Bw (d : va_G) (ks : Nat → ClassId) (A : Nat → Prop) (ws : va_W) (t : State) : Prop := va_P d vwCl ws t.heap ∧ va_K d vwCl (vwTy ks) t ∧ va_D A ws
theorem Pcw.blind {d : va_G} {ks : Nat → ClassId} {av : List Value} {sz : Nat} {w0 : va_W} : FrameBlind (Pcw d ks av sz w0) := fun a U g mk q => by
  obtain ⟨q0, q1, qP, qK, qD, qN⟩ := q
  exact ⟨q0, q1, qP, va_K.moved (u := U) (U := U.calling g mk a) (Vm.Alike.refl U.vm) qK, qD, NW.same (s := U) (U := U.calling g mk a) rfl qN⟩
/-- what a body knows of its frame -/
def Fx (p : Program) (own : String) (cc : ByteArray) (nL : Nat) (s : State) (m : MethodId) (args : Array Value) (c : Code) : Prop := CallFix p m c cc nL s args TB own
theorem fm_of {ws w : va_W} : ∀ {is : List Nat}, is.map (fun i => ws[i]?) = w.map some → is.filterMap (fun i => ws[i]?) = w := by
  induction w with
  | nil => intro is h; cases is with
    | nil => rfl
    | cons i is => cases h
  | cons q w ih => intro is h; cases is with
    | nil => cases h
    | cons i is =>
      rw [List.map_cons, List.map_cons, List.cons.injEq] at h
      rw [List.filterMap_cons, h.1, ih h.2]
section GLUE
variable {p : Program} {l : Launch} {e : Env} {R : Room} {s : State} {m : MethodId} {args : Array Value} {below : List Frame} {meth : Method} {c : Code} {H : Heap} {locs : List Loc} {cells slots : Nat} {Q : State → Prop}
variable {d : va_G} {ks : Nat → ClassId} {av : List Value} {sz mc ms : Nat} {w0 : va_W} {S : Type} {wN : S → va_W} {y : MethodName} {cc : ByteArray} {nL : Nat} {rm : Room}
/-- a body that returns nothing -/
theorem bodyV {post : S → Prop} (hy : plainName y.cls = true) (hlen : (lg_sl av).length ≤ nL)
    (body : ∀ (p : Program) (e : Env) (s : State) (m : MethodId) (below : List Frame) (meth : Method) (c : Code) (A : Nat → Prop) (ls : Array Slot), CallFix p m c cc nL s av.toArray TB y.cls → meth.sig.returnType = none → meth.locks = false → va_K d vwCl (vwTy ks) s → NW s → (∀ q : Nat, s.heap.size ≤ q → A q) → s.heap.size = sz →
      va_P d vwCl w0 s.heap → va_D A w0 → va_S A s.heap s.heap [] → lv_has ls nL (lv_args 0 av) → W p l e rm s m av.toArray below meth c s.heap [] 0 0 (MQ below (va_Qv post (fun u t => Bw d ks A (wN u) t) A) av.toArray s mc ms A) (F0 m 0 ls [])) :
    Met l y (.code y cc nL none :: TB) rm (Pcw d ks av sz w0) (va_Qv post (fun u t => Bw d ks (va_A w0 sz) (wN u) t) (va_A w0 sz)) mc ms (va_A w0 sz) := by
  refine Met.ofW (cc := cc) (maxL := nL) (ret := none) hy rfl ?_
  intro p e s m args below meth c s₁ B hml hv
  obtain ⟨rfl, hsz, hP, hK, hD0, hN⟩ := hv
  subst hsz
  have hts := atoms_spec (ws := .code y cc nL none :: TB) B.pre
  have hD := hD0.self (sz := s.heap.size)
  generalize hAe : va_A w0 s.heap.size = A at hD ⊢
  have hA : ∀ q : Nat, s.heap.size ≤ q → A q := fun q h => by rw [← hAe]; exact Or.inr h
  have hl := lv_entry av (n := nL) hlen
  rw [lg_entry_eq]
  exact body p e s m below meth c A _ ⟨B.exec, B.bytes, hml, findClass_of_methodNamed B.named, fun w h => hts w (List.mem_cons_of_mem _ h)⟩ B.returns B.notSynchronized hK hN hA rfl hP hD va_S.rf hl
theorem bodyI {post : Int32 → S → Prop} {ty : FieldType} (hy : plainName y.cls = true) (hlen : (lg_sl av).length ≤ nL)
    (body : ∀ (p : Program) (e : Env) (s : State) (m : MethodId) (below : List Frame) (meth : Method) (c : Code) (A : Nat → Prop) (ls : Array Slot), CallFix p m c cc nL s av.toArray TB y.cls → meth.sig.returnType = some ty → meth.locks = false → va_K d vwCl (vwTy ks) s → NW s → (∀ q : Nat, s.heap.size ≤ q → A q) → s.heap.size = sz →
      va_P d vwCl w0 s.heap → va_D A w0 → va_S A s.heap s.heap [] → lv_has ls nL (lv_args 0 av) → W p l e rm s m av.toArray below meth c s.heap [] 0 0 (MQ below (va_Qi post (fun u t => Bw d ks A (wN u) t) A) av.toArray s mc ms A) (F0 m 0 ls [])) :
    Met l y (.code y cc nL (some ty) :: TB) rm (Pcw d ks av sz w0) (va_Qi post (fun u t => Bw d ks (va_A w0 sz) (wN u) t) (va_A w0 sz)) mc ms (va_A w0 sz) := by
  refine Met.ofW (cc := cc) (maxL := nL) (ret := some ty) hy rfl ?_
  intro p e s m args below meth c s₁ B hml hv
  obtain ⟨rfl, hsz, hP, hK, hD0, hN⟩ := hv
  subst hsz
  have hts := atoms_spec (ws := .code y cc nL (some ty) :: TB) B.pre
  have hD := hD0.self (sz := s.heap.size)
  generalize hAe : va_A w0 s.heap.size = A at hD ⊢
  have hA : ∀ q : Nat, s.heap.size ≤ q → A q := fun q h => by rw [← hAe]; exact Or.inr h
  have hl := lv_entry av (n := nL) hlen
  rw [lg_entry_eq]
  exact body p e s m below meth c A _ ⟨B.exec, B.bytes, hml, findClass_of_methodNamed B.named, fun w h => hts w (List.mem_cons_of_mem _ h)⟩ B.returns B.notSynchronized hK hN hA rfl hP hD va_S.rf hl
theorem bodyL {post : Int64 → S → Prop} (hy : plainName y.cls = true) (hlen : (lg_sl av).length ≤ nL)
    (body : ∀ (p : Program) (e : Env) (s : State) (m : MethodId) (below : List Frame) (meth : Method) (c : Code) (A : Nat → Prop) (ls : Array Slot), CallFix p m c cc nL s av.toArray TB y.cls → meth.sig.returnType = some .long → meth.locks = false → va_K d vwCl (vwTy ks) s → NW s → (∀ q : Nat, s.heap.size ≤ q → A q) → s.heap.size = sz →
      va_P d vwCl w0 s.heap → va_D A w0 → va_S A s.heap s.heap [] → lv_has ls nL (lv_args 0 av) → W p l e rm s m av.toArray below meth c s.heap [] 0 0 (MQ below (va_Ql post (fun u t => Bw d ks A (wN u) t) A) av.toArray s mc ms A) (F0 m 0 ls [])) :
    Met l y (.code y cc nL (some .long) :: TB) rm (Pcw d ks av sz w0) (va_Ql post (fun u t => Bw d ks (va_A w0 sz) (wN u) t) (va_A w0 sz)) mc ms (va_A w0 sz) := by
  refine Met.ofW (cc := cc) (maxL := nL) (ret := some .long) hy rfl ?_
  intro p e s m args below meth c s₁ B hml hv
  obtain ⟨rfl, hsz, hP, hK, hD0, hN⟩ := hv
  subst hsz
  have hts := atoms_spec (ws := .code y cc nL (some .long) :: TB) B.pre
  have hD := hD0.self (sz := s.heap.size)
  generalize hAe : va_A w0 s.heap.size = A at hD ⊢
  have hA : ∀ q : Nat, s.heap.size ≤ q → A q := fun q h => by rw [← hAe]; exact Or.inr h
  have hl := lv_entry av (n := nL) hlen
  rw [lg_entry_eq]
  exact body p e s m below meth c A _ ⟨B.exec, B.bytes, hml, findClass_of_methodNamed B.named, fun w h => hts w (List.mem_cons_of_mem _ h)⟩ B.returns B.notSynchronized hK hN hA rfl hP hD va_S.rf hl
/-- the ends -/
theorem endV {A : Nat → Prop} {post : S → Prop} {pc : Nat} {ls : Array Slot} (hx : p.tables.exec = Jvm.exec) (hb : c.code = cc) (hr : meth.sig.returnType = none) (hlk : meth.locks = false) (hK : va_K d vwCl (vwTy ks) s) (u : S) (hu : post u) (hP : va_P d vwCl (wN u) H) (hD : va_D A (wN u)) (hS : va_S A s.heap H locs) (hdg : decode cc pc = .ok (.return_, 1)) :
    W p l e R s m args below meth c H locs cells slots (MQ below (va_Qv post (fun u t => Bw d ks A (wN u) t) A) args s cells slots A) (F0 m pc ls []) :=
  W.vret hx hb hr (fun t ht hW => ⟨⟨u, rfl, hu, by rw [ht]; exact hP, va_K.moved hW.alike hK, hD⟩, hS.F ht⟩) hS.2.2 hdg hlk
theorem endI {A : Nat → Prop} {post : Int32 → S → Prop} {pc : Nat} {ls : Array Slot} {v : Int32} (hx : p.tables.exec = Jvm.exec) (hb : c.code = cc) (hr : meth.sig.returnType = some .int) (hlk : meth.locks = false) (hK : va_K d vwCl (vwTy ks) s) (u : S) (hu : post v u) (hP : va_P d vwCl (wN u) H) (hD : va_D A (wN u)) (hS : va_S A s.heap H locs) (hdg : decode cc pc = .ok (.ireturn, 1)) :
    W p l e R s m args below meth c H locs cells slots (MQ below (va_Qi post (fun u t => Bw d ks A (wN u) t) A) args s cells slots A) (F0 m pc ls [.int v]) :=
  W.iret hx hb hr (fun t ht hW => ⟨⟨v, u, rfl, hu, by rw [ht]; exact hP, va_K.moved hW.alike hK, hD⟩, hS.F ht⟩) hS.2.2 hdg hlk
theorem endL {A : Nat → Prop} {post : Int64 → S → Prop} {pc : Nat} {ls : Array Slot} {v : Int64} (hx : p.tables.exec = Jvm.exec) (hb : c.code = cc) (hr : meth.sig.returnType = some .long) (hlk : meth.locks = false) (hK : va_K d vwCl (vwTy ks) s) (u : S) (hu : post v u) (hP : va_P d vwCl (wN u) H) (hD : va_D A (wN u)) (hS : va_S A s.heap H locs) (hdg : decode cc pc = .ok (.lreturn, 1)) :
    W p l e R s m args below meth c H locs cells slots (MQ below (va_Ql post (fun u t => Bw d ks A (wN u) t) A) args s cells slots A) (F0 m pc ls [.long v]) :=
  W.lret hx hb hr (fun t ht hW => ⟨⟨v, u, rfl, hu, by rw [ht]; exact hP, va_K.moved hW.alike hK, hD⟩, hS.F ht⟩) hS.2.2 hdg hlk
theorem endZ {A : Nat → Prop} {post : Int32 → S → Prop} {pc : Nat} {ls : Array Slot} {v : Int32} (hx : p.tables.exec = Jvm.exec) (hb : c.code = cc) (hr : meth.sig.returnType = some .boolean) (hlk : meth.locks = false) (hK : va_K d vwCl (vwTy ks) s) (hn : narrow .boolean (.int v) = .int v) (u : S) (hu : post v u) (hP : va_P d vwCl (wN u) H) (hD : va_D A (wN u)) (hS : va_S A s.heap H locs) (hdg : decode cc pc = .ok (.ireturn, 1)) :
    W p l e R s m args below meth c H locs cells slots (MQ below (va_Qi post (fun u t => Bw d ks A (wN u) t) A) args s cells slots A) (F0 m pc ls [.int v]) :=
  W.zret hx hb hr hn (fun t ht hW => ⟨⟨v, u, rfl, hu, by rw [ht]; exact hP, va_K.moved hW.alike hK, hD⟩, hS.F ht⟩) hS.2.2 hdg hlk
/-- before a call: the callee's cells cut out -/
theorem preS {A : Nat → Prop} {ws wc : va_W} {As : List Value} (hK : va_K d vwCl (vwTy ks) s) (hN : NW s) (hP : va_P d vwCl ws H) (hD : va_D A ws) (isC : List Nat) (hnd : va_nd isC = true) (hC : isC.map (fun i => ws[i]?) = wc.map some) : PreS s H (Pcw d ks As H.size wc) As :=
  ⟨Pcw.blind, fun U hU hW => ⟨rfl, by rw [hU], by rw [hU]; exact hP.sub isC (fm_of hC), va_K.moved hW.alike hK, (hD.sub isC hnd hC).weaken (fun _ _ _ _ => trivial), NW.warm hW hN⟩⟩
theorem preV {A : Nat → Prop} {ws wc : va_W} {As : List Value} {b : Nat} {fs : List Value} {q : vw_C} {C : String} (q0 ci : Nat) (hc : vwCl[ci]? = some q) (he : ws[q0]? = some (b, .inr (ci, fs))) (hq : q.1 = C) (hK : va_K d vwCl (vwTy ks) s) (hN : NW s) (hP : va_P d vwCl ws H) (hD : va_D A ws) (isC : List Nat) (hnd : va_nd isC = true) (hC : isC.map (fun i => ws[i]?) = wc.map some) : PreV s H C b (Pcw d ks (.ref b :: As) H.size wc) As :=
  ⟨Pcw.blind, hq ▸ va_recv hK hP hc he, fun U hU hW => ⟨rfl, by rw [hU], by rw [hU]; exact hP.sub isC (fm_of hC), va_K.moved hW.alike hK, (hD.sub isC hnd hC).weaken (fun _ _ _ _ => trivial), NW.warm hW hN⟩⟩
variable {pc : Nat} {ls : Array Slot} {st0 rest : List Value} {a : Array Value} {A : Nat → Prop} {ws wc wr : va_W}
/-- behind a call: the rest beside what came back -/
theorem gcv {post : S → Prop} (isC isR : List Nat) (hC : isC.map (fun i => ws[i]?) = wc.map some) (hR : isR.map (fun i => ws[i]?) = wr.map some) (hn : va_nd isR = true) (hdis : ∀ i ∈ isR, i ∉ isC)
    (hr : va_Run p l e R s m args below meth c H locs cells slots mc ms (F0 m pc ls st0) rest (va_Qv post (fun u t => Bw d ks (va_A wc H.size) (wN u) t) (va_A wc H.size) a) (va_A wc H.size)) (hP : va_P d vwCl ws H) (hD : va_D A ws) (hS : va_S A s.heap H locs) (hA : ∀ q : Nat, s.heap.size ≤ q → A q)
    (kk : ∀ (u : S) (H1 : Heap) (locs1 : List Loc), post u → va_P d vwCl (wr ++ wN u) H1 → va_D A (wr ++ wN u) → va_S A s.heap H1 locs1 → W p l e R s m args below meth c H1 locs1 (cells + mc) (slots + ms) Q (F0 m (pc + 3) ls rest)) : W p l e R s m args below meth c H locs cells slots Q (F0 m pc ls st0) := by
  have hFc := va_free (wc := wc) hD hS hA isC hC
  refine va_callv hr hS (fun q _ h => hFc q h) hFc (fun u t H1 locs1 ht hvm hp hB hz hk hS1 => ?_)
  obtain ⟨hP1, hK1, hD1⟩ := hB
  rw [ht] at hP1
  obtain ⟨hP2, hD2⟩ := va_join hP hD isC isR hC hR hn hdis hk hFc hP1 hD1
  exact kk u H1 locs1 hp hP2 hD2 hS1
theorem gci {post : Int32 → S → Prop} (isC isR : List Nat) (hC : isC.map (fun i => ws[i]?) = wc.map some) (hR : isR.map (fun i => ws[i]?) = wr.map some) (hn : va_nd isR = true) (hdis : ∀ i ∈ isR, i ∉ isC)
    (hr : va_Run p l e R s m args below meth c H locs cells slots mc ms (F0 m pc ls st0) rest (va_Qi post (fun u t => Bw d ks (va_A wc H.size) (wN u) t) (va_A wc H.size) a) (va_A wc H.size)) (hP : va_P d vwCl ws H) (hD : va_D A ws) (hS : va_S A s.heap H locs) (hA : ∀ q : Nat, s.heap.size ≤ q → A q)
    (kk : ∀ (r : Int32) (u : S) (H1 : Heap) (locs1 : List Loc), post r u → va_P d vwCl (wr ++ wN u) H1 → va_D A (wr ++ wN u) → va_S A s.heap H1 locs1 → W p l e R s m args below meth c H1 locs1 (cells + mc) (slots + ms) Q (F0 m (pc + 3) ls (.int r :: rest))) : W p l e R s m args below meth c H locs cells slots Q (F0 m pc ls st0) := by
  have hFc := va_free (wc := wc) hD hS hA isC hC
  refine va_calli hr hS (fun q _ h => hFc q h) hFc (fun r u t H1 locs1 ht hvm hp hB hz hk hS1 => ?_)
  obtain ⟨hP1, hK1, hD1⟩ := hB
  rw [ht] at hP1
  obtain ⟨hP2, hD2⟩ := va_join hP hD isC isR hC hR hn hdis hk hFc hP1 hD1
  exact kk r u H1 locs1 hp hP2 hD2 hS1
theorem gcl {post : Int64 → S → Prop} (isC isR : List Nat) (hC : isC.map (fun i => ws[i]?) = wc.map some) (hR : isR.map (fun i => ws[i]?) = wr.map some) (hn : va_nd isR = true) (hdis : ∀ i ∈ isR, i ∉ isC)
    (hr : va_Run p l e R s m args below meth c H locs cells slots mc ms (F0 m pc ls st0) rest (va_Ql post (fun u t => Bw d ks (va_A wc H.size) (wN u) t) (va_A wc H.size) a) (va_A wc H.size)) (hP : va_P d vwCl ws H) (hD : va_D A ws) (hS : va_S A s.heap H locs) (hA : ∀ q : Nat, s.heap.size ≤ q → A q)
    (kk : ∀ (r : Int64) (u : S) (H1 : Heap) (locs1 : List Loc), post r u → va_P d vwCl (wr ++ wN u) H1 → va_D A (wr ++ wN u) → va_S A s.heap H1 locs1 → W p l e R s m args below meth c H1 locs1 (cells + mc) (slots + ms) Q (F0 m (pc + 3) ls (.long r :: rest))) : W p l e R s m args below meth c H locs cells slots Q (F0 m pc ls st0) := by
  have hFc := va_free (wc := wc) hD hS hA isC hC
  refine va_calll hr hS (fun q _ h => hFc q h) hFc (fun r u t H1 locs1 ht hvm hp hB hz hk hS1 => ?_)
  obtain ⟨hP1, hK1, hD1⟩ := hB
  rw [ht] at hP1
  obtain ⟨hP2, hD2⟩ := va_join hP hD isC isR hC hR hn hdis hk hFc hP1 hD1
  exact kk r u H1 locs1 hp hP2 hD2 hS1
/-- a call that touches no cell of the world -/
theorem gpi {post : Int32 → Unit → Prop} (hr : va_Run p l e R s m args below meth c H locs cells slots mc ms (F0 m pc ls st0) rest (va_Qi post (fun u t => Bw d ks (va_A [] H.size) [] t) (va_A [] H.size) a) (va_A [] H.size)) (hP : va_P d vwCl ws H) (hD : va_D A ws) (hS : va_S A s.heap H locs) (hA : ∀ q : Nat, s.heap.size ≤ q → A q)
    (kk : ∀ (r : Int32) (H1 : Heap) (locs1 : List Loc), post r () → va_P d vwCl ws H1 → va_S A s.heap H1 locs1 → W p l e R s m args below meth c H1 locs1 (cells + mc) (slots + ms) Q (F0 m (pc + 3) ls (.int r :: rest))) : W p l e R s m args below meth c H locs cells slots Q (F0 m pc ls st0) := by
  have hFc := va_free (wc := []) hD hS hA [] rfl
  refine va_calli hr hS (fun q _ h => hFc q h) hFc (fun r u t H1 locs1 ht hvm hp hB hz hk hS1 => ?_)
  refine kk r H1 locs1 hp (fun k q hq => (hP k q hq).kept (hk q.1 (hP k q hq).lt (fun z => ?_))) hS1
  rcases z with ⟨k2, e2, h2⟩ | z
  · cases h2
  · exact absurd (hP k q hq).lt (Nat.not_lt.mpr z)
end GLUE
theorem tb_v {own C : String} {index : Nat} {y : MethodName} {b : ByteArray} {n : Nat} {r : Option FieldType} (h1 : Cond.methodLink own index y ∈ TB) (h2 : Cond.instanceMethod y ∈ TB) (h3 : Cond.selects C y y ∈ TB) (h4 : Cond.initialized C ∈ TB) (h5 : Cond.code y b n r ∈ TB) : GoodIn TB (wsV own index C y (Cond.code y b n r :: TB)) :=
  tb_in (fun w hw => by
    rcases List.mem_cons.mp hw with e | hw
    · rw [e]; exact h1
    rcases List.mem_cons.mp hw with e | hw
    · rw [e]; exact h2
    rcases List.mem_cons.mp hw with e | hw
    · rw [e]; exact h3
    rcases List.mem_cons.mp hw with e | hw
    · rw [e]; exact h4
    exact absurd hw List.not_mem_nil) (tb_code h5)
theorem tb_st {own : String} {index : Nat} {y : MethodName} {b : ByteArray} {n : Nat} {r : Option FieldType} (h1 : Cond.methodLink own index y ∈ TB) (h2 : Cond.static y ∈ TB) (h3 : Cond.initialized y.cls ∈ TB) (h5 : Cond.code y b n r ∈ TB) : GoodIn TB (va_wsS own index y (Cond.code y b n r :: TB)) :=
  tb_in (fun w hw => by
    rcases List.mem_cons.mp hw with e | hw
    · rw [e]; exact h1
    rcases List.mem_cons.mp hw with e | hw
    · rw [e]; exact h2
    rcases List.mem_cons.mp hw with e | hw
    · rw [e]; exact h3
    exact absurd hw List.not_mem_nil) (tb_code h5)
section ROWS
variable {p : Program} {l : Launch} {e : Env} {R : Room} {s : State} {m : MethodId} {args : Array Value} {below : List Frame} {meth : Method} {c : Code} {H H0 : Heap} {locs : List Loc} {cells slots : Nat} {Q : State → Prop}
variable {D : va_G} {ks : Nat → ClassId} {ws : va_W} {cc : ByteArray} {pc : Nat} {ls : Array Slot} {rest : List Value} {a : Nat} {A : Nat → Prop}
theorem tp_i {x : Int32} (y : Int32) (h : x = y) (k : W p l e R s m args below meth c H locs cells slots Q (F0 m pc ls (.int y :: rest))) : W p l e R s m args below meth c H locs cells slots Q (F0 m pc ls (.int x :: rest)) := h ▸ k
theorem tp_l {x : Int64} (y : Int64) (h : x = y) (k : W p l e R s m args below meth c H locs cells slots Q (F0 m pc ls (.long y :: rest))) : W p l e R s m args below meth c H locs cells slots Q (F0 m pc ls (.long x :: rest)) := h ▸ k
/-- arrays, by the number of the place -/
theorem ra_l (hx : p.tables.exec = Jvm.exec) (hb : c.code = cc) (hK : va_K D vwCl (vwTy ks) s) (hP : va_P D vwCl ws H) (q0 : Nat) {n : Nat} {f : Nat → Int64} (ha : ws[q0]? = some (a, .inl (ks 0, n, .inr (.inl f)))) {i : Int32} (j : Nat) (hj : j < n) (hn : n < 2 ^ 31) (hi : i = nI j) (hdg : decode cc pc = .ok (.laload, 1))
    (kk : W p l e R s m args below meth c H locs cells slots Q (F0 m (pc + 1) ls (.long (f j) :: rest))) : W p l e R s m args below meth c H locs cells slots Q (F0 m pc ls (.int i :: .ref a :: rest)) := by
  subst hi
  refine va_lald hx hb hK hP q0 0 ha rfl (vp_in_nI hj hn) hdg ?_
  rw [nI_clamp (by omega)]; exact kk
theorem ra_i (hx : p.tables.exec = Jvm.exec) (hb : c.code = cc) (hK : va_K D vwCl (vwTy ks) s) (hP : va_P D vwCl ws H) (q0 : Nat) {n : Nat} {f : Nat → Int32} (ha : ws[q0]? = some (a, .inl (ks 1, n, .inl f))) {i : Int32} (j : Nat) (hj : j < n) (hn : n < 2 ^ 31) (hi : i = nI j) (hdg : decode cc pc = .ok (.iaload, 1))
    (kk : W p l e R s m args below meth c H locs cells slots Q (F0 m (pc + 1) ls (.int (f j) :: rest))) : W p l e R s m args below meth c H locs cells slots Q (F0 m pc ls (.int i :: .ref a :: rest)) := by
  subst hi
  refine va_iald hx hb hK hP q0 1 ha rfl (vp_in_nI hj hn) hdg ?_
  rw [nI_clamp (by omega)]; exact kk
theorem ra_z (hx : p.tables.exec = Jvm.exec) (hb : c.code = cc) (hK : va_K D vwCl (vwTy ks) s) (hP : va_P D vwCl ws H) (q0 : Nat) {n : Nat} {f : Nat → Int32} (ha : ws[q0]? = some (a, .inl (ks 2, n, .inl f))) {i : Int32} (j : Nat) (hj : j < n) (hn : n < 2 ^ 31) (hi : i = nI j) (hdg : decode cc pc = .ok (.baload, 1))
    (kk : W p l e R s m args below meth c H locs cells slots Q (F0 m (pc + 1) ls (.int (f j) :: rest))) : W p l e R s m args below meth c H locs cells slots Q (F0 m pc ls (.int i :: .ref a :: rest)) := by
  subst hi
  refine va_zald hx hb hK hP q0 2 ha rfl (vp_in_nI hj hn) hdg ?_
  rw [nI_clamp (by omega)]; exact kk
theorem wa_l (hx : p.tables.exec = Jvm.exec) (hb : c.code = cc) (hK : va_K D vwCl (vwTy ks) s) (hP : va_P D vwCl ws H) (hD : va_D A ws) (hS : va_S A H0 H locs) (q0 : Nat) {n : Nat} {f : Nat → Int64} (ha : ws[q0]? = some (a, .inl (ks 0, n, .inr (.inl f)))) {i : Int32} {x : Int64} (j : Nat) (hj : j < n) (hn : n < 2 ^ 31) (hi : i = nI j) (hdg : decode cc pc = .ok (.lastore, 1))
    (kk : ∀ (H1 : Heap) (locs1 : List Loc), va_P D vwCl (ws.set q0 (a, .inl (ks 0, n, .inr (.inl (vp_updL f j x))))) H1 → va_D A (ws.set q0 (a, .inl (ks 0, n, .inr (.inl (vp_updL f j x))))) → va_S A H0 H1 locs1 → W p l e R s m args below meth c H1 locs1 cells slots Q (F0 m (pc + 1) ls rest)) : W p l e R s m args below meth c H locs cells slots Q (F0 m pc ls (.long x :: .int i :: .ref a :: rest)) := by
  subst hi
  refine va_last hx hb hK hP hD hS q0 0 ha rfl (vp_in_nI hj hn) hdg ?_
  rw [nI_clamp (by omega)]; exact kk
theorem wa_i (hx : p.tables.exec = Jvm.exec) (hb : c.code = cc) (hK : va_K D vwCl (vwTy ks) s) (hP : va_P D vwCl ws H) (hD : va_D A ws) (hS : va_S A H0 H locs) (q0 : Nat) {n : Nat} {f : Nat → Int32} (ha : ws[q0]? = some (a, .inl (ks 1, n, .inl f))) {i : Int32} {x : Int32} (j : Nat) (hj : j < n) (hn : n < 2 ^ 31) (hi : i = nI j) (hdg : decode cc pc = .ok (.iastore, 1))
    (kk : ∀ (H1 : Heap) (locs1 : List Loc), va_P D vwCl (ws.set q0 (a, .inl (ks 1, n, .inl (upd f j x)))) H1 → va_D A (ws.set q0 (a, .inl (ks 1, n, .inl (upd f j x)))) → va_S A H0 H1 locs1 → W p l e R s m args below meth c H1 locs1 cells slots Q (F0 m (pc + 1) ls rest)) : W p l e R s m args below meth c H locs cells slots Q (F0 m pc ls (.int x :: .int i :: .ref a :: rest)) := by
  subst hi
  refine va_iast hx hb hK hP hD hS q0 1 ha rfl (vp_in_nI hj hn) hdg ?_
  rw [nI_clamp (by omega)]; exact kk
theorem wa_z (hx : p.tables.exec = Jvm.exec) (hb : c.code = cc) (hK : va_K D vwCl (vwTy ks) s) (hP : va_P D vwCl ws H) (hD : va_D A ws) (hS : va_S A H0 H locs) (q0 : Nat) {n : Nat} {f : Nat → Int32} (ha : ws[q0]? = some (a, .inl (ks 2, n, .inl f))) {i : Int32} {x : Int32} (j : Nat) (hj : j < n) (hn : n < 2 ^ 31) (hi : i = nI j) (y : Int32) (hv : vp_nar .boolean x = y) (hdg : decode cc pc = .ok (.bastore, 1))
    (kk : ∀ (H1 : Heap) (locs1 : List Loc), va_P D vwCl (ws.set q0 (a, .inl (ks 2, n, .inl (upd f j y)))) H1 → va_D A (ws.set q0 (a, .inl (ks 2, n, .inl (upd f j y)))) → va_S A H0 H1 locs1 → W p l e R s m args below meth c H1 locs1 cells slots Q (F0 m (pc + 1) ls rest)) : W p l e R s m args below meth c H locs cells slots Q (F0 m pc ls (.int x :: .int i :: .ref a :: rest)) := by
  subst hi; subst hv
  refine va_zast hx hb hK hP hD hS q0 2 ha rfl (vp_in_nI hj hn) hdg ?_
  rw [nI_clamp (by omega)]; exact kk
end ROWS
