/-! The glue for methods that may throw. -/
def xb_is : Cond → Bool
  | .declares .. => true
  | .castable .. => true
  | _ => false
def XB : List Cond := tables_1.filter xb_is
def XS : List (Nat × String) := [(195, "the shelf is down"), (48, "there is a transaction"), (197, "there is no transaction"), (238, "stopped"), (199, "no such counter"), (84, "the queue is full"), (90, "the queue is empty"), (105, "the map is full"), (120, "no such key"), (129, "no such value"), (135, "no such snapshot"), (151, "the shelf is up"), (166, "no such word")]
/-- what a throw needs of the start -/
def XW (A : Nat → Prop) (U : State) : Prop := vx_Zq Bundle.tN "UNASSIGNED_STACK" Bundle.steD A U U.heap ∧ vx_Zq Bundle.tN "SUPPRESSED_SENTINEL" Bundle.listD A U U.heap ∧ (∀ w ∈ XB, va_Nw w U) ∧ ∀ q ∈ XS, ∃ a : Nat, vk_R RS q.1 q.2 a U
theorem XW.blind {A : Nat → Prop} {U : State} {g : JFrame} {mk : MethodId} {a : Array Value} (h : XW A U) : XW A (U.calling g mk a) := by
  refine ⟨vx_Zq.moved (u := U) (U := U.calling g mk a) (Vm.Alike.refl U.vm) h.1, vx_Zq.moved (u := U) (U := U.calling g mk a) (Vm.Alike.refl U.vm) h.2.1, fun w hw => ?_, fun q hq => ?_⟩
  · have g9 := (List.mem_filter.mp hw).2
    have z := h.2.2.1 w hw
    cases w <;> first | exact va_Nw.same (u := U) (U := U.calling g mk a) rfl rfl z | cases g9
  · obtain ⟨b, hb⟩ := h.2.2.2 q hq
    exact ⟨b, vk_R.same (u := U) (U := U.calling g mk a) rfl hb⟩
theorem XW.at {A B : Nat → Prop} {s U : State} {H : Heap} {locs : List Loc} (h : XW A s) (hS : va_S A s.heap H locs) (hU : U.heap = H) (hW : s.WarmedH U.vm) (hB : ∀ q, B q → A q) : XW B U := by
  refine ⟨by rw [hU]; exact vx_Zq.moved hW.alike ((h.1.kept hS.2.1).narrow hB), by rw [hU]; exact vx_Zq.moved hW.alike ((h.2.1.kept hS.2.1).narrow hB), fun w hw => ?_, fun q hq => ?_⟩
  · have g9 := (List.mem_filter.mp hw).2
    have z := h.2.2.1 w hw
    cases w <;> first | exact va_Nw.warmD hW z | exact va_Nw.warmC hW z | cases g9
  · obtain ⟨b, hb⟩ := h.2.2.2 q hq
    exact ⟨b, vk_R.warm hW hb⟩
def Pcx (d : va_G) (ks : Nat → ClassId) (av : List Value) (sz : Nat) (w0 : va_W) : Array Value → State → Prop := va_Pc av (fun U => U.heap.size = sz ∧ va_P d vwCl w0 U.heap ∧ va_K d vwCl (vwTy ks) U ∧ va_D (fun _ => True) w0 ∧ NW U ∧ XW (va_A w0 sz) U)
theorem Pcx.blind {d : va_G} {ks : Nat → ClassId} {av : List Value} {sz : Nat} {w0 : va_W} : FrameBlind (Pcx d ks av sz w0) := fun a U g mk q => by
  obtain ⟨q0, q1, qP, qK, qD, qN, qX⟩ := q
  exact ⟨q0, q1, qP, va_K.moved (u := U) (U := U.calling g mk a) (Vm.Alike.refl U.vm) qK, qD, NW.same (s := U) (U := U.calling g mk a) rfl qN, qX.blind⟩
/-- an end by a throw: the class, the world -/
def XQ {SX : Type} (d : va_G) (ks : Nat → ClassId) (A : Nat → Prop) (wX : SX → va_W) (xp : String → SX → Prop) : String → State → State → Prop := vx_X (fun q : String × SX => xp q.1 q.2) (fun E q t => E = q.1 ∧ Bw d ks A (wX q.2) t) A
section XGLUE
variable {p : Program} {l : Launch} {e : Env} {R : Room} {s : State} {m : MethodId} {args : Array Value} {below : List Frame} {meth : Method} {c : Code} {H : Heap} {locs : List Loc} {cells slots : Nat} {Q : State → Prop}
variable {d : va_G} {ks : Nat → ClassId} {av : List Value} {sz mc ms mx xs : Nat} {w0 : va_W} {S SX : Type} {wN : S → va_W} {wX : SX → va_W} {xp : String → SX → Prop} {y : MethodName} {cc : ByteArray} {nL : Nat} {rm : Room}
theorem bodyXV {post : S → Prop} (hy : plainName y.cls = true) (hlen : (lg_sl av).length ≤ nL)
    (body : ∀ (p : Program) (e : Env) (s : State) (m : MethodId) (below : List Frame) (meth : Method) (c : Code) (A : Nat → Prop) (ls : Array Slot), CallFix p m c cc nL s av.toArray TB y.cls → meth.sig.returnType = none → meth.locks = false → (∀ x ∈ c.exceptionTable.toList, False) → va_K d vwCl (vwTy ks) s → NW s → XW A s → (∀ q : Nat, s.heap.size ≤ q → A q) → s.heap.size = sz →
      va_P d vwCl w0 s.heap → va_D A w0 → va_S A s.heap s.heap [] → lv_has ls nL (lv_args 0 av) → W p l e rm s m av.toArray below meth c s.heap [] 0 0 (vy_MQ below (va_Qv post (fun u t => Bw d ks A (wN u) t) A) (XQ d ks A wX xp) av.toArray s mc ms mx xs A) (F0 m 0 ls [])) :
    vy_Met l y (.code y cc nL none :: TB) rm (Pcx d ks av sz w0) (va_Qv post (fun u t => Bw d ks (va_A w0 sz) (wN u) t) (va_A w0 sz)) (XQ d ks (va_A w0 sz) wX xp) mc ms mx xs (va_A w0 sz) := by
  refine vy_ofW (cc := cc) (maxL := nL) (ret := none) hy rfl ?_
  intro p e s m args below meth c s₁ B hml hno hv
  obtain ⟨rfl, hsz, hP, hK, hD0, hN, hX⟩ := hv
  subst hsz
  have hts := atoms_spec (ws := .code y cc nL none :: TB) B.pre
  have hD := hD0.self (sz := s.heap.size)
  generalize hAe : va_A w0 s.heap.size = A at hD hX ⊢
  have hA : ∀ q : Nat, s.heap.size ≤ q → A q := fun q h => by rw [← hAe]; exact Or.inr h
  have hl := lv_entry av (n := nL) hlen
  rw [lg_entry_eq]
  exact body p e s m below meth c A _ ⟨B.exec, B.bytes, hml, findClass_of_methodNamed B.named, fun w h => hts w (List.mem_cons_of_mem _ h)⟩ B.returns B.notSynchronized hno hK hN hX hA rfl hP hD va_S.rf hl
theorem bodyXI {post : Int32 → S → Prop} {ty : FieldType} (hy : plainName y.cls = true) (hlen : (lg_sl av).length ≤ nL)
    (body : ∀ (p : Program) (e : Env) (s : State) (m : MethodId) (below : List Frame) (meth : Method) (c : Code) (A : Nat → Prop) (ls : Array Slot), CallFix p m c cc nL s av.toArray TB y.cls → meth.sig.returnType = some ty → meth.locks = false → (∀ x ∈ c.exceptionTable.toList, False) → va_K d vwCl (vwTy ks) s → NW s → XW A s → (∀ q : Nat, s.heap.size ≤ q → A q) → s.heap.size = sz →
      va_P d vwCl w0 s.heap → va_D A w0 → va_S A s.heap s.heap [] → lv_has ls nL (lv_args 0 av) → W p l e rm s m av.toArray below meth c s.heap [] 0 0 (vy_MQ below (va_Qi post (fun u t => Bw d ks A (wN u) t) A) (XQ d ks A wX xp) av.toArray s mc ms mx xs A) (F0 m 0 ls [])) :
    vy_Met l y (.code y cc nL (some ty) :: TB) rm (Pcx d ks av sz w0) (va_Qi post (fun u t => Bw d ks (va_A w0 sz) (wN u) t) (va_A w0 sz)) (XQ d ks (va_A w0 sz) wX xp) mc ms mx xs (va_A w0 sz) := by
  refine vy_ofW (cc := cc) (maxL := nL) (ret := some ty) hy rfl ?_
  intro p e s m args below meth c s₁ B hml hno hv
  obtain ⟨rfl, hsz, hP, hK, hD0, hN, hX⟩ := hv
  subst hsz
  have hts := atoms_spec (ws := .code y cc nL (some ty) :: TB) B.pre
  have hD := hD0.self (sz := s.heap.size)
  generalize hAe : va_A w0 s.heap.size = A at hD hX ⊢
  have hA : ∀ q : Nat, s.heap.size ≤ q → A q := fun q h => by rw [← hAe]; exact Or.inr h
  have hl := lv_entry av (n := nL) hlen
  rw [lg_entry_eq]
  exact body p e s m below meth c A _ ⟨B.exec, B.bytes, hml, findClass_of_methodNamed B.named, fun w h => hts w (List.mem_cons_of_mem _ h)⟩ B.returns B.notSynchronized hno hK hN hX hA rfl hP hD va_S.rf hl
theorem bodyXL {post : Int64 → S → Prop} (hy : plainName y.cls = true) (hlen : (lg_sl av).length ≤ nL)
    (body : ∀ (p : Program) (e : Env) (s : State) (m : MethodId) (below : List Frame) (meth : Method) (c : Code) (A : Nat → Prop) (ls : Array Slot), CallFix p m c cc nL s av.toArray TB y.cls → meth.sig.returnType = some .long → meth.locks = false → (∀ x ∈ c.exceptionTable.toList, False) → va_K d vwCl (vwTy ks) s → NW s → XW A s → (∀ q : Nat, s.heap.size ≤ q → A q) → s.heap.size = sz →
      va_P d vwCl w0 s.heap → va_D A w0 → va_S A s.heap s.heap [] → lv_has ls nL (lv_args 0 av) → W p l e rm s m av.toArray below meth c s.heap [] 0 0 (vy_MQ below (va_Ql post (fun u t => Bw d ks A (wN u) t) A) (XQ d ks A wX xp) av.toArray s mc ms mx xs A) (F0 m 0 ls [])) :
    vy_Met l y (.code y cc nL (some .long) :: TB) rm (Pcx d ks av sz w0) (va_Ql post (fun u t => Bw d ks (va_A w0 sz) (wN u) t) (va_A w0 sz)) (XQ d ks (va_A w0 sz) wX xp) mc ms mx xs (va_A w0 sz) := by
  refine vy_ofW (cc := cc) (maxL := nL) (ret := some .long) hy rfl ?_
  intro p e s m args below meth c s₁ B hml hno hv
  obtain ⟨rfl, hsz, hP, hK, hD0, hN, hX⟩ := hv
  subst hsz
  have hts := atoms_spec (ws := .code y cc nL (some .long) :: TB) B.pre
  have hD := hD0.self (sz := s.heap.size)
  generalize hAe : va_A w0 s.heap.size = A at hD hX ⊢
  have hA : ∀ q : Nat, s.heap.size ≤ q → A q := fun q h => by rw [← hAe]; exact Or.inr h
  have hl := lv_entry av (n := nL) hlen
  rw [lg_entry_eq]
  exact body p e s m below meth c A _ ⟨B.exec, B.bytes, hml, findClass_of_methodNamed B.named, fun w h => hts w (List.mem_cons_of_mem _ h)⟩ B.returns B.notSynchronized hno hK hN hX hA rfl hP hD va_S.rf hl
/-- before a call of a method that may throw -/
theorem preXV {A : Nat → Prop} {ws wc : va_W} {As : List Value} {b : Nat} {fs : List Value} {q : vw_C} {C : String} (q0 ci : Nat) (hc : vwCl[ci]? = some q) (he : ws[q0]? = some (b, .inr (ci, fs))) (hq : q.1 = C) (hK : va_K d vwCl (vwTy ks) s) (hN : NW s) (hX : XW A s) (hA : ∀ q : Nat, s.heap.size ≤ q → A q) (hP : va_P d vwCl ws H) (hD : va_D A ws) (hS : va_S A s.heap H locs) (isC : List Nat) (hnd : va_nd isC = true) (hC : isC.map (fun i => ws[i]?) = wc.map some) : PreV s H C b (Pcx d ks (.ref b :: As) H.size wc) As :=
  ⟨Pcx.blind, hq ▸ va_recv hK hP hc he, fun U hU hW => ⟨rfl, by rw [hU], by rw [hU]; exact hP.sub isC (fm_of hC), va_K.moved hW.alike hK, (hD.sub isC hnd hC).weaken (fun _ _ _ _ => trivial), NW.warm hW hN, hX.at hS hU hW (va_free (wc := wc) hD hS hA isC hC)⟩⟩
theorem preXS {A : Nat → Prop} {ws wc : va_W} {As : List Value} (hK : va_K d vwCl (vwTy ks) s) (hN : NW s) (hX : XW A s) (hA : ∀ q : Nat, s.heap.size ≤ q → A q) (hP : va_P d vwCl ws H) (hD : va_D A ws) (hS : va_S A s.heap H locs) (isC : List Nat) (hnd : va_nd isC = true) (hC : isC.map (fun i => ws[i]?) = wc.map some) : PreS s H (Pcx d ks As H.size wc) As :=
  ⟨Pcx.blind, fun U hU hW => ⟨rfl, by rw [hU], by rw [hU]; exact hP.sub isC (fm_of hC), va_K.moved hW.alike hK, (hD.sub isC hnd hC).weaken (fun _ _ _ _ => trivial), NW.warm hW hN, hX.at hS hU hW (va_free (wc := wc) hD hS hA isC hC)⟩⟩
variable {pc : Nat} {ls : Array Slot} {st0 rest : List Value} {a : Array Value} {A : Nat → Prop} {ws wc wr : va_W}
theorem gxv {post : S → Prop} (isC isR : List Nat) (hC : isC.map (fun i => ws[i]?) = wc.map some) (hR : isR.map (fun i => ws[i]?) = wr.map some) (hn : va_nd isR = true) (hdis : ∀ i ∈ isR, i ∉ isC)
    (hr : vy_Run p l e R s m args below meth c H locs cells slots mc ms mx xs (F0 m pc ls st0) rest (va_Qv post (fun u t => Bw d ks (va_A wc H.size) (wN u) t) (va_A wc H.size) a) (XQ d ks (va_A wc H.size) wX xp) (va_A wc H.size)) (hP : va_P d vwCl ws H) (hD : va_D A ws) (hS : va_S A s.heap H locs) (hA : ∀ q : Nat, s.heap.size ≤ q → A q)
    (kx : ∀ (E : String) (ce : Cell) (q9 : Addr) (u : SX) (H1 : Heap) (locs1 : List Loc), xp E u → va_P d vwCl (wr ++ wX u) H1 → va_D A (wr ++ wX u) → va_S A s.heap H1 locs1 → H1[q9]? = some ce → ce.vm = .none → s.vm.findClass E = some ce.cls → vx_W p l e R s m args below meth c H1 locs1 (cells + mx) (slots + xs) Q (F0 m pc ls rest) q9)
    (kk : ∀ (u : S) (H1 : Heap) (locs1 : List Loc), post u → va_P d vwCl (wr ++ wN u) H1 → va_D A (wr ++ wN u) → va_S A s.heap H1 locs1 → W p l e R s m args below meth c H1 locs1 (cells + mc) (slots + ms) Q (F0 m (pc + 3) ls rest)) : W p l e R s m args below meth c H locs cells slots Q (F0 m pc ls st0) := by
  have hFc := va_free (wc := wc) hD hS hA isC hC
  refine vy_callv hr hS (fun q _ h => hFc q h) hFc (fun q _ h => hFc q h) (fun E ce q9 u t H1 locs1 ht hvm hp hB hz hk hS1 h7 h8 h9 => ?_) (fun u t H1 locs1 ht hvm hp hB hz hk hS1 => ?_)
  · obtain ⟨rfl, hP1, hK1, hD1⟩ := hB
    rw [ht] at hP1
    obtain ⟨hP2, hD2⟩ := va_join hP hD isC isR hC hR hn hdis hk hFc hP1 hD1
    exact kx u.1 ce q9 u.2 H1 locs1 hp hP2 hD2 hS1 h7 h8 h9
  · obtain ⟨hP1, hK1, hD1⟩ := hB
    rw [ht] at hP1
    obtain ⟨hP2, hD2⟩ := va_join hP hD isC isR hC hR hn hdis hk hFc hP1 hD1
    exact kk u H1 locs1 hp hP2 hD2 hS1
theorem gxi {post : Int32 → S → Prop} (isC isR : List Nat) (hC : isC.map (fun i => ws[i]?) = wc.map some) (hR : isR.map (fun i => ws[i]?) = wr.map some) (hn : va_nd isR = true) (hdis : ∀ i ∈ isR, i ∉ isC)
    (hr : vy_Run p l e R s m args below meth c H locs cells slots mc ms mx xs (F0 m pc ls st0) rest (va_Qi post (fun u t => Bw d ks (va_A wc H.size) (wN u) t) (va_A wc H.size) a) (XQ d ks (va_A wc H.size) wX xp) (va_A wc H.size)) (hP : va_P d vwCl ws H) (hD : va_D A ws) (hS : va_S A s.heap H locs) (hA : ∀ q : Nat, s.heap.size ≤ q → A q)
    (kx : ∀ (E : String) (ce : Cell) (q9 : Addr) (u : SX) (H1 : Heap) (locs1 : List Loc), xp E u → va_P d vwCl (wr ++ wX u) H1 → va_D A (wr ++ wX u) → va_S A s.heap H1 locs1 → H1[q9]? = some ce → ce.vm = .none → s.vm.findClass E = some ce.cls → vx_W p l e R s m args below meth c H1 locs1 (cells + mx) (slots + xs) Q (F0 m pc ls rest) q9)
    (kk : ∀ (r : Int32) (u : S) (H1 : Heap) (locs1 : List Loc), post r u → va_P d vwCl (wr ++ wN u) H1 → va_D A (wr ++ wN u) → va_S A s.heap H1 locs1 → W p l e R s m args below meth c H1 locs1 (cells + mc) (slots + ms) Q (F0 m (pc + 3) ls (.int r :: rest))) : W p l e R s m args below meth c H locs cells slots Q (F0 m pc ls st0) := by
  have hFc := va_free (wc := wc) hD hS hA isC hC
  refine vy_calli hr hS (fun q _ h => hFc q h) hFc (fun q _ h => hFc q h) (fun E ce q9 u t H1 locs1 ht hvm hp hB hz hk hS1 h7 h8 h9 => ?_) (fun r u t H1 locs1 ht hvm hp hB hz hk hS1 => ?_)
  · obtain ⟨rfl, hP1, hK1, hD1⟩ := hB
    rw [ht] at hP1
    obtain ⟨hP2, hD2⟩ := va_join hP hD isC isR hC hR hn hdis hk hFc hP1 hD1
    exact kx u.1 ce q9 u.2 H1 locs1 hp hP2 hD2 hS1 h7 h8 h9
  · obtain ⟨hP1, hK1, hD1⟩ := hB
    rw [ht] at hP1
    obtain ⟨hP2, hD2⟩ := va_join hP hD isC isR hC hR hn hdis hk hFc hP1 hD1
    exact kk r u H1 locs1 hp hP2 hD2 hS1
theorem gxl {post : Int64 → S → Prop} (isC isR : List Nat) (hC : isC.map (fun i => ws[i]?) = wc.map some) (hR : isR.map (fun i => ws[i]?) = wr.map some) (hn : va_nd isR = true) (hdis : ∀ i ∈ isR, i ∉ isC)
    (hr : vy_Run p l e R s m args below meth c H locs cells slots mc ms mx xs (F0 m pc ls st0) rest (va_Ql post (fun u t => Bw d ks (va_A wc H.size) (wN u) t) (va_A wc H.size) a) (XQ d ks (va_A wc H.size) wX xp) (va_A wc H.size)) (hP : va_P d vwCl ws H) (hD : va_D A ws) (hS : va_S A s.heap H locs) (hA : ∀ q : Nat, s.heap.size ≤ q → A q)
    (kx : ∀ (E : String) (ce : Cell) (q9 : Addr) (u : SX) (H1 : Heap) (locs1 : List Loc), xp E u → va_P d vwCl (wr ++ wX u) H1 → va_D A (wr ++ wX u) → va_S A s.heap H1 locs1 → H1[q9]? = some ce → ce.vm = .none → s.vm.findClass E = some ce.cls → vx_W p l e R s m args below meth c H1 locs1 (cells + mx) (slots + xs) Q (F0 m pc ls rest) q9)
    (kk : ∀ (r : Int64) (u : S) (H1 : Heap) (locs1 : List Loc), post r u → va_P d vwCl (wr ++ wN u) H1 → va_D A (wr ++ wN u) → va_S A s.heap H1 locs1 → W p l e R s m args below meth c H1 locs1 (cells + mc) (slots + ms) Q (F0 m (pc + 3) ls (.long r :: rest))) : W p l e R s m args below meth c H locs cells slots Q (F0 m pc ls st0) := by
  have hFc := va_free (wc := wc) hD hS hA isC hC
  refine vy_calll hr hS (fun q _ h => hFc q h) hFc (fun q _ h => hFc q h) (fun E ce q9 u t H1 locs1 ht hvm hp hB hz hk hS1 h7 h8 h9 => ?_) (fun r u t H1 locs1 ht hvm hp hB hz hk hS1 => ?_)
  · obtain ⟨rfl, hP1, hK1, hD1⟩ := hB
    rw [ht] at hP1
    obtain ⟨hP2, hD2⟩ := va_join hP hD isC isR hC hR hn hdis hk hFc hP1 hD1
    exact kx u.1 ce q9 u.2 H1 locs1 hp hP2 hD2 hS1 h7 h8 h9
  · obtain ⟨hP1, hK1, hD1⟩ := hB
    rw [ht] at hP1
    obtain ⟨hP2, hD2⟩ := va_join hP hD isC isR hC hR hn hdis hk hFc hP1 hD1
    exact kk r u H1 locs1 hp hP2 hD2 hS1
variable {Qc : Array Value → State → Outcome → State → Prop}
/-- what a callee has thrown goes on to the caller -/
theorem outX {E : String} {ce : Cell} {q : Addr} (hno : ∀ x ∈ c.exceptionTable.toList, False) (hlk : meth.locks = false) (hK : va_K d vwCl (vwTy ks) s) (u : SX) (hu : xp E u) (hP : va_P d vwCl (wX u) H) (hD : va_D A (wX u)) (hS : va_S A s.heap H locs) (hcell : H[q]? = some ce) (hv : ce.vm = .none) (hcl : s.vm.findClass E = some ce.cls) (hc : cells ≤ mx) (hs : slots ≤ xs) :
    vx_W p l e R s m args below meth c H locs cells slots (vy_MQ below Qc (XQ d ks A wX xp) args s mc ms mx xs A) (F0 m pc ls rest) q :=
  vy_thr' (vx_out (fun x hx => (hno x hx).elim) hlk hcell hv hcl (fun t ht hal => ⟨(E, u), hu, ⟨rfl, by rw [ht]; exact hP, va_K.moved hal hK, hD⟩, hS.F ht⟩) hS.2.2 hc hs)
/-- 'throw new E("text")' of the shelf -/
theorem thrX {cls text : String} {ik is ic : Nat} (hlt : l.stackTraces = false) (hx : p.tables.exec = Jvm.exec) (hb : c.code = cc) (hml : c.maxLocals = nL) (hown : s.vm.findClass RS = some m.cls) (ht : ∀ w ∈ TB, w.before args s = true) (hno : ∀ x ∈ c.exceptionTable.toList, False) (hlk : meth.locks = false) (hX : XW A s) (hK : va_K d vwCl (vwTy ks) s) (hsz : ls.size = nL)
    (u : SX) (hu : xp cls u) (hP : va_P d vwCl (wX u) H) (hD : va_D A (wX u)) (hS : va_S A s.heap H locs)
    (hcls : Bundle.fit cls = true) (hk : Cond.classLink RS ik cls ∈ TB) (hini : Cond.initialized cls ∈ TB) (hstr : (is, text) ∈ XS)
    (hg : ∀ w ∈ (vx_atS RS ic cls ["java/lang/RuntimeException", "java/lang/Exception"]).filter goodWord, w ∈ TB) (hn : ∀ w ∈ (vx_atS RS ic cls ["java/lang/RuntimeException", "java/lang/Exception"]).filter (fun w => !goodWord w), w ∈ XB)
    (hgood : ∀ w ∈ Cond.classLink RS ik cls :: Cond.initialized cls :: vx_atS RS ic cls ["java/lang/RuntimeException", "java/lang/Exception"], vx_ot w = true)
    (d0 : decode cc pc = .ok (.new ik, 3)) (d3 : decode cc (pc + 3) = .ok (.dup, 1)) (d4 : decode cc (pc + 4) = .ok (.ldc is, 2)) (d6 : decode cc (pc + 6) = .ok (.invokespecial ic, 3)) (d9 : decode cc (pc + 9) = .ok (.athrow, 1))
    (hRf : 5 < R.frames) (hRl : (rest.map fun v => v.category).sum + 82 ≤ R.locals) (hRc : cells + 1 ≤ R.cells) (hRs : slots + 6 ≤ R.slots) (hc : cells + 1 ≤ mx) (hs : slots + 6 ≤ xs) :
    W p l e R s m args below meth c H locs cells slots (vy_MQ below Qc (XQ d ks A wX xp) args s mc ms mx xs A) (F0 m pc ls rest) := by
  obtain ⟨sa, hsa⟩ := hX.2.2.2 (is, text) hstr
  refine vy_thr (vx_throwS (own := RS) (cls := cls) (text := text) (names := ["java/lang/RuntimeException", "java/lang/Exception"]) (ik := ik) (is := is) (ic := ic) (sa := sa) (A := A) hx hb hlt hown hcls (fun n h => ?_) (ht _ hk) (ht _ hini) hsa ?_ hgood hX.1 hX.2.1 hS (hsz.trans hml.symm) d0 d3 d4 d6 d9 (fun x hx => (hno x hx).elim) hRf hRl hRc hRs hlk (fun t hal hz hq => ?_) hS.2.2 hc hs)
  · rcases List.mem_cons.mp h with e | h
    · rw [e]; decide
    · rw [List.mem_singleton.mp h]; decide
  · exact vx_hat (fun w hw => ht w (hg w hw)) hn (fun w hw => by
      have g9 := (List.mem_filter.mp hw).2
      have z := hX.2.2.1 w hw
      cases w <;> first | exact va_Nw.use rfl z | cases g9)
  · exact ⟨(cls, u), hu, ⟨rfl, fun k q hk => (hP k q hk).kept (hq q.1 (hP k q hk).lt), va_K.moved hal hK, hD⟩, Nat.le_trans hS.1 hz, fun q h1 h2 => by rw [hq q (Nat.lt_of_lt_of_le h1 hS.1)]; exact hS.2.1 q h1 h2⟩
end XGLUE
theorem xg_ise : ∀ w ∈ (vx_atS RS 50 "java/lang/IllegalStateException" ["java/lang/RuntimeException", "java/lang/Exception"]).filter goodWord, w ∈ TB := fun w hw => List.mem_filter.mpr ⟨(by decide +kernel : ∀ w ∈ (vx_atS RS 50 "java/lang/IllegalStateException" ["java/lang/RuntimeException", "java/lang/Exception"]).filter goodWord, w ∈ lw_tbl) w hw, (List.mem_filter.mp hw).2⟩
theorem xn_ise : ∀ w ∈ (vx_atS RS 50 "java/lang/IllegalStateException" ["java/lang/RuntimeException", "java/lang/Exception"]).filter (fun w => !goodWord w), w ∈ XB := by decide +kernel
theorem xo_ise : ∀ w ∈ Cond.classLink RS 46 "java/lang/IllegalStateException" :: Cond.initialized "java/lang/IllegalStateException" :: vx_atS RS 50 "java/lang/IllegalStateException" ["java/lang/RuntimeException", "java/lang/Exception"], vx_ot w = true := by decide +kernel
