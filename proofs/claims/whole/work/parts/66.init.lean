theorem tb_oi : Cond.code objectInit ⟨#[0xb1]⟩ 1 none ∈ TB := tb_of 20 (by decide +kernel) (by decide +kernel)
section NA
variable {p : Program} {l : Launch} {e : Env} {R : Room} {s : State} {m : MethodId} {args : Array Value} {below : List Frame} {meth : Method} {c : Code} {H H0 : Heap} {locs : List Loc} {cells slots : Nat} {Q : State → Prop}
variable {D : va_G} {ks : Nat → ClassId} {ws : va_W} {cc : ByteArray} {pc : Nat} {ls : Array Slot} {rest : List Value} {A : Nat → Prop}
theorem na_l (hx : p.tables.exec = Jvm.exec) (hb : c.code = cc) (harr : (Cond.arrayClass .long).before args s = true) (hK : va_K D vwCl (vwTy ks) s) (hP : va_P D vwCl ws H) (hD : va_D A ws) (hS : va_S A H0 H locs) (hA : ∀ q, H0.size ≤ q → A q) {n : Int32} {N : Nat} (hn : n = nI N) (hN : N < 2 ^ 31) (hbytes : N * componentBytes .long ≤ 536870912) (hcells : cells + 1 ≤ R.cells) (hslots : slots + N ≤ R.slots) (hdg : decode cc pc = .ok (.newarray .long, 2))
    (kk : ∀ (q : Nat) (H1 : Heap), va_P D vwCl (ws ++ [(q, .inl (ks 0, N, .inr (.inl (fun _ => 0))))]) H1 → va_D A (ws ++ [(q, .inl (ks 0, N, .inr (.inl (fun _ => 0))))]) → va_S A H0 H1 locs → W p l e R s m args below meth c H1 locs (cells + 1) (slots + N) Q (F0 m (pc + 2) ls (.ref q :: rest))) : W p l e R s m args below meth c H locs cells slots Q (F0 m pc ls (.int n :: rest)) := by
  subst hn
  refine va_newa (a0 := (N, .inr (.inl (fun _ => 0)))) (ty := .long) hx hb (atype := .long) harr rfl hK hP hD hS hA (fun _ => rfl) (nI_pos hN) (nI_clamp hN) hbytes hcells hslots hdg (fun q cA H1 hK1 hP1 hD1 hS1 => ?_)
  have e1 := (hK1.2 4 _ rfl).2
  have e2 := (hK.2 0 _ rfl).2
  cases Option.some.inj (e1.symm.trans e2)
  exact kk q H1 hP1 hD1 hS1
theorem na_i (hx : p.tables.exec = Jvm.exec) (hb : c.code = cc) (harr : (Cond.arrayClass .int).before args s = true) (hK : va_K D vwCl (vwTy ks) s) (hP : va_P D vwCl ws H) (hD : va_D A ws) (hS : va_S A H0 H locs) (hA : ∀ q, H0.size ≤ q → A q) {n : Int32} {N : Nat} (hn : n = nI N) (hN : N < 2 ^ 31) (hbytes : N * componentBytes .int ≤ 536870912) (hcells : cells + 1 ≤ R.cells) (hslots : slots + N ≤ R.slots) (hdg : decode cc pc = .ok (.newarray .int, 2))
    (kk : ∀ (q : Nat) (H1 : Heap), va_P D vwCl (ws ++ [(q, .inl (ks 1, N, .inl (fun _ => 0)))]) H1 → va_D A (ws ++ [(q, .inl (ks 1, N, .inl (fun _ => 0)))]) → va_S A H0 H1 locs → W p l e R s m args below meth c H1 locs (cells + 1) (slots + N) Q (F0 m (pc + 2) ls (.ref q :: rest))) : W p l e R s m args below meth c H locs cells slots Q (F0 m pc ls (.int n :: rest)) := by
  subst hn
  refine va_newa (a0 := (N, .inl (fun _ => 0))) (ty := .int) hx hb (atype := .int) harr rfl hK hP hD hS hA (fun _ => rfl) (nI_pos hN) (nI_clamp hN) hbytes hcells hslots hdg (fun q cA H1 hK1 hP1 hD1 hS1 => ?_)
  have e1 := (hK1.2 4 _ rfl).2
  have e2 := (hK.2 1 _ rfl).2
  cases Option.some.inj (e1.symm.trans e2)
  exact kk q H1 hP1 hD1 hS1
theorem na_z (hx : p.tables.exec = Jvm.exec) (hb : c.code = cc) (harr : (Cond.arrayClass .boolean).before args s = true) (hK : va_K D vwCl (vwTy ks) s) (hP : va_P D vwCl ws H) (hD : va_D A ws) (hS : va_S A H0 H locs) (hA : ∀ q, H0.size ≤ q → A q) {n : Int32} {N : Nat} (hn : n = nI N) (hN : N < 2 ^ 31) (hbytes : N * componentBytes .boolean ≤ 536870912) (hcells : cells + 1 ≤ R.cells) (hslots : slots + N ≤ R.slots) (hdg : decode cc pc = .ok (.newarray .boolean, 2))
    (kk : ∀ (q : Nat) (H1 : Heap), va_P D vwCl (ws ++ [(q, .inl (ks 2, N, .inl (fun _ => 0)))]) H1 → va_D A (ws ++ [(q, .inl (ks 2, N, .inl (fun _ => 0)))]) → va_S A H0 H1 locs → W p l e R s m args below meth c H1 locs (cells + 1) (slots + N) Q (F0 m (pc + 2) ls (.ref q :: rest))) : W p l e R s m args below meth c H locs cells slots Q (F0 m pc ls (.int n :: rest)) := by
  subst hn
  refine va_newa (a0 := (N, .inl (fun _ => 0))) (ty := .boolean) hx hb (atype := .boolean) harr rfl hK hP hD hS hA (fun _ => rfl) (nI_pos hN) (nI_clamp hN) hbytes hcells hslots hdg (fun q cA H1 hK1 hP1 hD1 hS1 => ?_)
  have e1 := (hK1.2 4 _ rfl).2
  have e2 := (hK.2 2 _ rfl).2
  cases Option.some.inj (e1.symm.trans e2)
  exact kk q H1 hP1 hD1 hS1
end NA
section BVI
variable {l : Launch} {d : va_G} {ks : Nat → ClassId} {av : List Value} {sz mc ms : Nat} {w0 : va_W} {S : Type} {wN : S → va_W} {y : MethodName} {cc : ByteArray} {nL : Nat} {rm : Room}
theorem bodyVi {post : S → Prop} (hy : plainName y.cls = true) (hnm : y.name = "<init>") (hlen : (lg_sl av).length ≤ nL)
    (body : ∀ (p : Program) (e : Env) (s : State) (m : MethodId) (below : List Frame) (meth : Method) (c : Code) (A : Nat → Prop) (ls : Array Slot), CallFix p m c cc nL s av.toArray TB y.cls → meth.sig.returnType = none → meth.locks = false → va_K d vwCl (vwTy ks) s → NW s → (∀ q : Nat, s.heap.size ≤ q → A q) → s.heap.size = sz →
      va_P d vwCl w0 s.heap → va_D A w0 → va_S A s.heap s.heap [] → lv_has ls nL (lv_args 0 av) → meth.name = "<init>" → W p l e rm s m av.toArray below meth c s.heap [] 0 0 (MQ below (va_Qv post (fun u t => Bw d ks A (wN u) t) A) av.toArray s mc ms A) (F0 m 0 ls [])) :
    Met l y (.code y cc nL none :: TB) rm (Pcw d ks av sz w0) (va_Qv post (fun u t => Bw d ks (va_A w0 sz) (wN u) t) (va_A w0 sz)) mc ms (va_A w0 sz) := by
  refine Met.ofW (cc := cc) (maxL := nL) (ret := none) hy rfl ?_
  intro p e s m args below meth c s₁ B hml hv
  obtain ⟨rfl, hsz, hP, hK, hD0, hN⟩ := hv
  subst hsz
  have hts := atoms_spec (ws := .code y cc nL none :: TB) B.pre
  have hD := hD0.self (sz := s.heap.size)
  generalize hAe : va_A w0 s.heap.size = A at hD ⊢
  have hA : ∀ q : Nat, s.heap.size ≤ q → A q := fun q h => by rw [← hAe]; exact Or.inr h
  have hl := lv_entry av (n := nL) hlen
  rw [lg_entry_eq]
  exact body p e s m below meth c A _ ⟨B.exec, B.bytes, hml, findClass_of_methodNamed B.named, fun w h => hts w (List.mem_cons_of_mem _ h)⟩ B.returns B.notSynchronized hK hN hA rfl hP hD va_S.rf hl ((name_of_methodNamed B.named B.method).1.trans hnm)
end BVI
abbrev im0 : Nat → Int64 := fun _ => 0
abbrev am0 : AM := (fun _ => 0, fun _ => 0, fun _ => 0, fun _ => 0, fun _ => 0, fun _ => 0, 0, 0, 0, 0)
set_option maxHeartbeats 4000000 in
set_option maxRecDepth 100000 in
theorem kI_init (l : Launch) (D : va_G) (ks : Nat → ClassId) (h0 : Nat) (sz : Nat)  : Met l yI_init (.code yI_init cI_init 1 none :: TB) ({ frames := 1, cells := 1, slots := 31, locals := 12 } : Room) (Pcw D ks [.ref h0] sz [(h0, .inr (0, [.null]))]) (va_Qv (S := Nat) (fun _ => True) (fun u t => Bw D ks (va_A [(h0, .inr (0, [.null]))] sz) ((fun u => wI ks h0 u im0) u) t) (va_A [(h0, .inr (0, [.null]))] sz)) 1 31 (va_A [(h0, .inr (0, [.null]))] sz) := by
  refine bodyVi (S := Nat) (wN := (fun u => wI ks h0 u im0)) (post := (fun _ => True)) (by decide) rfl (Nat.le_of_ble_eq_true rfl) (fun p e s m below meth c A ls F hr hlk hK hN hA hsz hP hD hS hl hin => ?_)
  obtain ⟨hx, hb, hml, hown, ht⟩ := F
  have hown : s.vm.findClass RI = some m.cls := hown
  have F : CallFix p m c cI_init 1 s ([.ref h0] : List Value).toArray TB RI := ⟨hx, hb, hml, hown, ht⟩
  have hl : lv_has ls 1 [(0, .ref h0)] := hl
  refine lv_aload_n hx hb dI_init_0 rfl (lv_at hl 0 rfl) ?_
  refine W.objInit hx hb hown (ht _ tb_71) (ht _ tb_19) (ht _ tb_oi) rfl (by rw [hml]; exact hl.1) rfl dI_init_1 (Nat.le_of_ble_eq_true rfl) (Nat.le_of_ble_eq_true rfl) ?_
  refine W.eq (g2 := F0 m 4 ls []) rfl ?_
  refine lv_aload_n hx hb dI_init_4 rfl (lv_at hl 0 rfl) ?_
  refine lv_bipush (v := nI 31) hx hb dI_init_5 (by decide) ?_
  refine na_l (N := 31) hx hb (ht _ tb_63) hK hP hD hS hA rfl (by decide) (by decide) (by decide) (by decide) dI_init_7 (fun n7 H hP hD hS => ?_)
  have hP : va_P D vwCl [(h0, .inr (0, [.null])), (n7, .inl (ks 0, 31, .inr (.inl (fun _ => 0))))] H := hP
  have hD : va_D A [(h0, .inr (0, [.null])), (n7, .inl (ks 0, 31, .inr (.inl (fun _ => 0))))] := hD
  refine va_putF (D := D) (ci := 0) (v := .ref n7) (ty := .array .long) (C := RI) (T := TI) (N := 1) hx hb ht uw_I ty_I ty_I_ok nm_I hown hK hP hD hS 0 rfl rfl 0 (by decide) (ht _ tb_72) (fun _ h => h) rfl hin rfl (by decide +kernel) rfl rfl (Nat.le_of_ble_eq_true rfl) dI_init_9 (fun H locs hP hD hS => ?_)
  have hP : va_P D vwCl [(h0, .inr (0, [.ref n7])), (n7, .inl (ks 0, 31, .inr (.inl (fun _ => 0))))] H := hP
  have hD : va_D A [(h0, .inr (0, [.ref n7])), (n7, .inl (ks 0, 31, .inr (.inl (fun _ => 0))))] := hD
  exact endV hx hb hr hlk hK n7 trivial hP hD hS dI_init_12

set_option maxHeartbeats 4000000 in
set_option maxRecDepth 100000 in
theorem kM_init (l : Launch) (D : va_G) (ks : Nat → ClassId) (h0 : Nat) (sz : Nat)  : Met l yM_init (.code yM_init cM_init 1 none :: TB) ({ frames := 1, cells := 6, slots := 476, locals := 12 } : Room) (Pcw D ks [.ref h0] sz [(h0, .inr (1, [.null, .null, .null, .null, .null, .null, .int 0, .int 0, .int 0, .int 0]))]) (va_Qv (S := (Nat → Nat)) (fun u => u 1 = h0) (fun u t => Bw D ks (va_A [(h0, .inr (1, [.null, .null, .null, .null, .null, .null, .int 0, .int 0, .int 0, .int 0]))] sz) ((fun u => wM ks u am0) u) t) (va_A [(h0, .inr (1, [.null, .null, .null, .null, .null, .null, .int 0, .int 0, .int 0, .int 0]))] sz)) 6 476 (va_A [(h0, .inr (1, [.null, .null, .null, .null, .null, .null, .int 0, .int 0, .int 0, .int 0]))] sz) := by
  refine bodyVi (S := (Nat → Nat)) (wN := (fun u => wM ks u am0)) (post := (fun u => u 1 = h0)) (by decide) rfl (Nat.le_of_ble_eq_true rfl) (fun p e s m below meth c A ls F hr hlk hK hN hA hsz hP hD hS hl hin => ?_)
  obtain ⟨hx, hb, hml, hown, ht⟩ := F
  have hown : s.vm.findClass RM = some m.cls := hown
  have F : CallFix p m c cM_init 1 s ([.ref h0] : List Value).toArray TB RM := ⟨hx, hb, hml, hown, ht⟩
  have hl : lv_has ls 1 [(0, .ref h0)] := hl
  refine lv_aload_n hx hb dM_init_0 rfl (lv_at hl 0 rfl) ?_
  refine W.objInit hx hb hown (ht _ tb_26) (ht _ tb_19) (ht _ tb_oi) rfl (by rw [hml]; exact hl.1) rfl dM_init_1 (Nat.le_of_ble_eq_true rfl) (Nat.le_of_ble_eq_true rfl) ?_
  refine W.eq (g2 := F0 m 4 ls []) rfl ?_
  refine lv_aload_n hx hb dM_init_4 rfl (lv_at hl 0 rfl) ?_
  refine lv_bipush (v := nI 112) hx hb dM_init_5 (by decide) ?_
  refine na_l (N := 112) hx hb (ht _ tb_63) hK hP hD hS hA rfl (by decide) (by decide) (by decide) (by decide) dM_init_7 (fun n7 H hP hD hS => ?_)
  have hP : va_P D vwCl [(h0, .inr (1, [.null, .null, .null, .null, .null, .null, .int 0, .int 0, .int 0, .int 0])), (n7, .inl (ks 0, 112, .inr (.inl (fun _ => 0))))] H := hP
  have hD : va_D A [(h0, .inr (1, [.null, .null, .null, .null, .null, .null, .int 0, .int 0, .int 0, .int 0])), (n7, .inl (ks 0, 112, .inr (.inl (fun _ => 0))))] := hD
  refine va_putF (D := D) (ci := 1) (v := .ref n7) (ty := .array .long) (C := RM) (T := TM) (N := 10) hx hb ht uw_M ty_M ty_M_ok nm_M hown hK hP hD hS 0 rfl rfl 0 (by decide) (ht _ tb_27) (fun _ h => h) rfl hin rfl (by decide +kernel) rfl rfl (Nat.le_of_ble_eq_true rfl) dM_init_9 (fun H locs hP hD hS => ?_)
  have hP : va_P D vwCl [(h0, .inr (1, [.ref n7, .null, .null, .null, .null, .null, .int 0, .int 0, .int 0, .int 0])), (n7, .inl (ks 0, 112, .inr (.inl (fun _ => 0))))] H := hP
  have hD : va_D A [(h0, .inr (1, [.ref n7, .null, .null, .null, .null, .null, .int 0, .int 0, .int 0, .int 0])), (n7, .inl (ks 0, 112, .inr (.inl (fun _ => 0))))] := hD
  refine lv_aload_n hx hb dM_init_12 rfl (lv_at hl 0 rfl) ?_
  refine lv_bipush (v := nI 112) hx hb dM_init_13 (by decide) ?_
  refine na_l (N := 112) hx hb (ht _ tb_63) hK hP hD hS hA rfl (by decide) (by decide) (by decide) (by decide) dM_init_15 (fun n15 H hP hD hS => ?_)
  have hP : va_P D vwCl [(h0, .inr (1, [.ref n7, .null, .null, .null, .null, .null, .int 0, .int 0, .int 0, .int 0])), (n7, .inl (ks 0, 112, .inr (.inl (fun _ => 0)))), (n15, .inl (ks 0, 112, .inr (.inl (fun _ => 0))))] H := hP
  have hD : va_D A [(h0, .inr (1, [.ref n7, .null, .null, .null, .null, .null, .int 0, .int 0, .int 0, .int 0])), (n7, .inl (ks 0, 112, .inr (.inl (fun _ => 0)))), (n15, .inl (ks 0, 112, .inr (.inl (fun _ => 0))))] := hD
  refine va_putF (D := D) (ci := 1) (v := .ref n15) (ty := .array .long) (C := RM) (T := TM) (N := 10) hx hb ht uw_M ty_M ty_M_ok nm_M hown hK hP hD hS 0 rfl rfl 1 (by decide) (ht _ tb_29) (fun _ h => h) rfl hin rfl (by decide +kernel) rfl rfl (Nat.le_of_ble_eq_true rfl) dM_init_17 (fun H locs hP hD hS => ?_)
  have hP : va_P D vwCl [(h0, .inr (1, [.ref n7, .ref n15, .null, .null, .null, .null, .int 0, .int 0, .int 0, .int 0])), (n7, .inl (ks 0, 112, .inr (.inl (fun _ => 0)))), (n15, .inl (ks 0, 112, .inr (.inl (fun _ => 0))))] H := hP
  have hD : va_D A [(h0, .inr (1, [.ref n7, .ref n15, .null, .null, .null, .null, .int 0, .int 0, .int 0, .int 0])), (n7, .inl (ks 0, 112, .inr (.inl (fun _ => 0)))), (n15, .inl (ks 0, 112, .inr (.inl (fun _ => 0))))] := hD
  refine lv_aload_n hx hb dM_init_20 rfl (lv_at hl 0 rfl) ?_
  refine lv_bipush (v := nI 112) hx hb dM_init_21 (by decide) ?_
  refine na_l (N := 112) hx hb (ht _ tb_63) hK hP hD hS hA rfl (by decide) (by decide) (by decide) (by decide) dM_init_23 (fun n23 H hP hD hS => ?_)
  have hP : va_P D vwCl [(h0, .inr (1, [.ref n7, .ref n15, .null, .null, .null, .null, .int 0, .int 0, .int 0, .int 0])), (n7, .inl (ks 0, 112, .inr (.inl (fun _ => 0)))), (n15, .inl (ks 0, 112, .inr (.inl (fun _ => 0)))), (n23, .inl (ks 0, 112, .inr (.inl (fun _ => 0))))] H := hP
  have hD : va_D A [(h0, .inr (1, [.ref n7, .ref n15, .null, .null, .null, .null, .int 0, .int 0, .int 0, .int 0])), (n7, .inl (ks 0, 112, .inr (.inl (fun _ => 0)))), (n15, .inl (ks 0, 112, .inr (.inl (fun _ => 0)))), (n23, .inl (ks 0, 112, .inr (.inl (fun _ => 0))))] := hD
  refine va_putF (D := D) (ci := 1) (v := .ref n23) (ty := .array .long) (C := RM) (T := TM) (N := 10) hx hb ht uw_M ty_M ty_M_ok nm_M hown hK hP hD hS 0 rfl rfl 2 (by decide) (ht _ tb_30) (fun _ h => h) rfl hin rfl (by decide +kernel) rfl rfl (Nat.le_of_ble_eq_true rfl) dM_init_25 (fun H locs hP hD hS => ?_)
  have hP : va_P D vwCl [(h0, .inr (1, [.ref n7, .ref n15, .ref n23, .null, .null, .null, .int 0, .int 0, .int 0, .int 0])), (n7, .inl (ks 0, 112, .inr (.inl (fun _ => 0)))), (n15, .inl (ks 0, 112, .inr (.inl (fun _ => 0)))), (n23, .inl (ks 0, 112, .inr (.inl (fun _ => 0))))] H := hP
  have hD : va_D A [(h0, .inr (1, [.ref n7, .ref n15, .ref n23, .null, .null, .null, .int 0, .int 0, .int 0, .int 0])), (n7, .inl (ks 0, 112, .inr (.inl (fun _ => 0)))), (n15, .inl (ks 0, 112, .inr (.inl (fun _ => 0)))), (n23, .inl (ks 0, 112, .inr (.inl (fun _ => 0))))] := hD
  refine lv_aload_n hx hb dM_init_28 rfl (lv_at hl 0 rfl) ?_
  refine lv_bipush (v := nI 112) hx hb dM_init_29 (by decide) ?_
  refine na_i (N := 112) hx hb (ht _ tb_64) hK hP hD hS hA rfl (by decide) (by decide) (by decide) (by decide) dM_init_31 (fun n31 H hP hD hS => ?_)
  have hP : va_P D vwCl [(h0, .inr (1, [.ref n7, .ref n15, .ref n23, .null, .null, .null, .int 0, .int 0, .int 0, .int 0])), (n7, .inl (ks 0, 112, .inr (.inl (fun _ => 0)))), (n15, .inl (ks 0, 112, .inr (.inl (fun _ => 0)))), (n23, .inl (ks 0, 112, .inr (.inl (fun _ => 0)))), (n31, .inl (ks 1, 112, .inl (fun _ => 0)))] H := hP
  have hD : va_D A [(h0, .inr (1, [.ref n7, .ref n15, .ref n23, .null, .null, .null, .int 0, .int 0, .int 0, .int 0])), (n7, .inl (ks 0, 112, .inr (.inl (fun _ => 0)))), (n15, .inl (ks 0, 112, .inr (.inl (fun _ => 0)))), (n23, .inl (ks 0, 112, .inr (.inl (fun _ => 0)))), (n31, .inl (ks 1, 112, .inl (fun _ => 0)))] := hD
  refine va_putF (D := D) (ci := 1) (v := .ref n31) (ty := .array .int) (C := RM) (T := TM) (N := 10) hx hb ht uw_M ty_M ty_M_ok nm_M hown hK hP hD hS 0 rfl rfl 3 (by decide) (ht _ tb_31) (fun _ h => h) rfl hin rfl (by decide +kernel) rfl rfl (Nat.le_of_ble_eq_true rfl) dM_init_33 (fun H locs hP hD hS => ?_)
  have hP : va_P D vwCl [(h0, .inr (1, [.ref n7, .ref n15, .ref n23, .ref n31, .null, .null, .int 0, .int 0, .int 0, .int 0])), (n7, .inl (ks 0, 112, .inr (.inl (fun _ => 0)))), (n15, .inl (ks 0, 112, .inr (.inl (fun _ => 0)))), (n23, .inl (ks 0, 112, .inr (.inl (fun _ => 0)))), (n31, .inl (ks 1, 112, .inl (fun _ => 0)))] H := hP
  have hD : va_D A [(h0, .inr (1, [.ref n7, .ref n15, .ref n23, .ref n31, .null, .null, .int 0, .int 0, .int 0, .int 0])), (n7, .inl (ks 0, 112, .inr (.inl (fun _ => 0)))), (n15, .inl (ks 0, 112, .inr (.inl (fun _ => 0)))), (n23, .inl (ks 0, 112, .inr (.inl (fun _ => 0)))), (n31, .inl (ks 1, 112, .inl (fun _ => 0)))] := hD
  refine lv_aload_n hx hb dM_init_36 rfl (lv_at hl 0 rfl) ?_
  refine lv_bipush (v := nI 14) hx hb dM_init_37 (by decide) ?_
  refine na_z (N := 14) hx hb (ht _ tb_65) hK hP hD hS hA rfl (by decide) (by decide) (by decide) (by decide) dM_init_39 (fun n39 H hP hD hS => ?_)
  have hP : va_P D vwCl [(h0, .inr (1, [.ref n7, .ref n15, .ref n23, .ref n31, .null, .null, .int 0, .int 0, .int 0, .int 0])), (n7, .inl (ks 0, 112, .inr (.inl (fun _ => 0)))), (n15, .inl (ks 0, 112, .inr (.inl (fun _ => 0)))), (n23, .inl (ks 0, 112, .inr (.inl (fun _ => 0)))), (n31, .inl (ks 1, 112, .inl (fun _ => 0))), (n39, .inl (ks 2, 14, .inl (fun _ => 0)))] H := hP
  have hD : va_D A [(h0, .inr (1, [.ref n7, .ref n15, .ref n23, .ref n31, .null, .null, .int 0, .int 0, .int 0, .int 0])), (n7, .inl (ks 0, 112, .inr (.inl (fun _ => 0)))), (n15, .inl (ks 0, 112, .inr (.inl (fun _ => 0)))), (n23, .inl (ks 0, 112, .inr (.inl (fun _ => 0)))), (n31, .inl (ks 1, 112, .inl (fun _ => 0))), (n39, .inl (ks 2, 14, .inl (fun _ => 0)))] := hD
  refine va_putF (D := D) (ci := 1) (v := .ref n39) (ty := .array .boolean) (C := RM) (T := TM) (N := 10) hx hb ht uw_M ty_M ty_M_ok nm_M hown hK hP hD hS 0 rfl rfl 4 (by decide) (ht _ tb_32) (fun _ h => h) rfl hin rfl (by decide +kernel) rfl rfl (Nat.le_of_ble_eq_true rfl) dM_init_41 (fun H locs hP hD hS => ?_)
  have hP : va_P D vwCl [(h0, .inr (1, [.ref n7, .ref n15, .ref n23, .ref n31, .ref n39, .null, .int 0, .int 0, .int 0, .int 0])), (n7, .inl (ks 0, 112, .inr (.inl (fun _ => 0)))), (n15, .inl (ks 0, 112, .inr (.inl (fun _ => 0)))), (n23, .inl (ks 0, 112, .inr (.inl (fun _ => 0)))), (n31, .inl (ks 1, 112, .inl (fun _ => 0))), (n39, .inl (ks 2, 14, .inl (fun _ => 0)))] H := hP
  have hD : va_D A [(h0, .inr (1, [.ref n7, .ref n15, .ref n23, .ref n31, .ref n39, .null, .int 0, .int 0, .int 0, .int 0])), (n7, .inl (ks 0, 112, .inr (.inl (fun _ => 0)))), (n15, .inl (ks 0, 112, .inr (.inl (fun _ => 0)))), (n23, .inl (ks 0, 112, .inr (.inl (fun _ => 0)))), (n31, .inl (ks 1, 112, .inl (fun _ => 0))), (n39, .inl (ks 2, 14, .inl (fun _ => 0)))] := hD
  refine lv_aload_n hx hb dM_init_44 rfl (lv_at hl 0 rfl) ?_
  refine lv_bipush (v := nI 14) hx hb dM_init_45 (by decide) ?_
  refine na_z (N := 14) hx hb (ht _ tb_65) hK hP hD hS hA rfl (by decide) (by decide) (by decide) (by decide) dM_init_47 (fun n47 H hP hD hS => ?_)
  have hP : va_P D vwCl [(h0, .inr (1, [.ref n7, .ref n15, .ref n23, .ref n31, .ref n39, .null, .int 0, .int 0, .int 0, .int 0])), (n7, .inl (ks 0, 112, .inr (.inl (fun _ => 0)))), (n15, .inl (ks 0, 112, .inr (.inl (fun _ => 0)))), (n23, .inl (ks 0, 112, .inr (.inl (fun _ => 0)))), (n31, .inl (ks 1, 112, .inl (fun _ => 0))), (n39, .inl (ks 2, 14, .inl (fun _ => 0))), (n47, .inl (ks 2, 14, .inl (fun _ => 0)))] H := hP
  have hD : va_D A [(h0, .inr (1, [.ref n7, .ref n15, .ref n23, .ref n31, .ref n39, .null, .int 0, .int 0, .int 0, .int 0])), (n7, .inl (ks 0, 112, .inr (.inl (fun _ => 0)))), (n15, .inl (ks 0, 112, .inr (.inl (fun _ => 0)))), (n23, .inl (ks 0, 112, .inr (.inl (fun _ => 0)))), (n31, .inl (ks 1, 112, .inl (fun _ => 0))), (n39, .inl (ks 2, 14, .inl (fun _ => 0))), (n47, .inl (ks 2, 14, .inl (fun _ => 0)))] := hD
  refine va_putF (D := D) (ci := 1) (v := .ref n47) (ty := .array .boolean) (C := RM) (T := TM) (N := 10) hx hb ht uw_M ty_M ty_M_ok nm_M hown hK hP hD hS 0 rfl rfl 5 (by decide) (ht _ tb_33) (fun _ h => h) rfl hin rfl (by decide +kernel) rfl rfl (Nat.le_of_ble_eq_true rfl) dM_init_49 (fun H locs hP hD hS => ?_)
  have hP : va_P D vwCl [(h0, .inr (1, [.ref n7, .ref n15, .ref n23, .ref n31, .ref n39, .ref n47, .int 0, .int 0, .int 0, .int 0])), (n7, .inl (ks 0, 112, .inr (.inl (fun _ => 0)))), (n15, .inl (ks 0, 112, .inr (.inl (fun _ => 0)))), (n23, .inl (ks 0, 112, .inr (.inl (fun _ => 0)))), (n31, .inl (ks 1, 112, .inl (fun _ => 0))), (n39, .inl (ks 2, 14, .inl (fun _ => 0))), (n47, .inl (ks 2, 14, .inl (fun _ => 0)))] H := hP
  have hD : va_D A [(h0, .inr (1, [.ref n7, .ref n15, .ref n23, .ref n31, .ref n39, .ref n47, .int 0, .int 0, .int 0, .int 0])), (n7, .inl (ks 0, 112, .inr (.inl (fun _ => 0)))), (n15, .inl (ks 0, 112, .inr (.inl (fun _ => 0)))), (n23, .inl (ks 0, 112, .inr (.inl (fun _ => 0)))), (n31, .inl (ks 1, 112, .inl (fun _ => 0))), (n39, .inl (ks 2, 14, .inl (fun _ => 0))), (n47, .inl (ks 2, 14, .inl (fun _ => 0)))] := hD
  exact endV hx hb hr hlk hK (fun k => if k = 1 then h0 else if k = 2 then n7 else if k = 3 then n15 else if k = 4 then n23 else if k = 5 then n31 else if k = 6 then n39 else n47) rfl hP hD hS dM_init_52

