def RJ : String := "java/lang/Math"
abbrev cJ_floorMod : ByteArray := prog_9_method_52_code
def yJ_floorMod : MethodName := ⟨RJ, "floorMod", "(JJ)J"⟩
theorem dJ_floorMod_0 : decode cJ_floorMod 0 = .ok (.lload_n 0, 1) := by decide +kernel
theorem dJ_floorMod_1 : decode cJ_floorMod 1 = .ok (.lload_n 2, 1) := by decide +kernel
theorem dJ_floorMod_2 : decode cJ_floorMod 2 = .ok (.lrem, 1) := by decide +kernel
theorem dJ_floorMod_3 : decode cJ_floorMod 3 = .ok (.lstore 4, 2) := by decide +kernel
theorem dJ_floorMod_5 : decode cJ_floorMod 5 = .ok (.lload_n 0, 1) := by decide +kernel
theorem dJ_floorMod_6 : decode cJ_floorMod 6 = .ok (.lload_n 2, 1) := by decide +kernel
theorem dJ_floorMod_7 : decode cJ_floorMod 7 = .ok (.lxor, 1) := by decide +kernel
theorem dJ_floorMod_8 : decode cJ_floorMod 8 = .ok (.lconst 0, 1) := by decide +kernel
theorem dJ_floorMod_9 : decode cJ_floorMod 9 = .ok (.lcmp, 1) := by decide +kernel
theorem dJ_floorMod_10 : decode cJ_floorMod 10 = .ok (.ifCond .ge 15, 3) := by decide +kernel
theorem dJ_floorMod_13 : decode cJ_floorMod 13 = .ok (.lload 4, 2) := by decide +kernel
theorem dJ_floorMod_15 : decode cJ_floorMod 15 = .ok (.lconst 0, 1) := by decide +kernel
theorem dJ_floorMod_16 : decode cJ_floorMod 16 = .ok (.lcmp, 1) := by decide +kernel
theorem dJ_floorMod_17 : decode cJ_floorMod 17 = .ok (.ifCond .eq 8, 3) := by decide +kernel
theorem dJ_floorMod_20 : decode cJ_floorMod 20 = .ok (.lload 4, 2) := by decide +kernel
theorem dJ_floorMod_22 : decode cJ_floorMod 22 = .ok (.lload_n 2, 1) := by decide +kernel
theorem dJ_floorMod_23 : decode cJ_floorMod 23 = .ok (.ladd, 1) := by decide +kernel
theorem dJ_floorMod_24 : decode cJ_floorMod 24 = .ok (.lreturn, 1) := by decide +kernel
theorem dJ_floorMod_25 : decode cJ_floorMod 25 = .ok (.lload 4, 2) := by decide +kernel
theorem dJ_floorMod_27 : decode cJ_floorMod 27 = .ok (.lreturn, 1) := by decide +kernel
section GPL
variable {p : Program} {l : Launch} {e : Env} {R : Room} {s : State} {m : MethodId} {args : Array Value} {below : List Frame} {meth : Method} {c : Code} {H H0 : Heap} {locs : List Loc} {cells slots : Nat} {Q : State → Prop}
variable {d : va_G} {ks : Nat → ClassId} {mc ms pc : Nat} {ls : Array Slot} {st0 rest : List Value} {a : Array Value} {A : Nat → Prop} {ws : va_W} {cc : ByteArray}
theorem gpl {post : Int64 → Unit → Prop} (hr : va_Run p l e R s m args below meth c H locs cells slots mc ms (F0 m pc ls st0) rest (va_Ql post (fun u t => Bw d ks (va_A [] H.size) [] t) (va_A [] H.size) a) (va_A [] H.size)) (hP : va_P d vwCl ws H) (hD : va_D A ws) (hS : va_S A s.heap H locs) (hA : ∀ q : Nat, s.heap.size ≤ q → A q)
    (kk : ∀ (r : Int64) (H1 : Heap) (locs1 : List Loc), post r () → va_P d vwCl ws H1 → va_S A s.heap H1 locs1 → W p l e R s m args below meth c H1 locs1 (cells + mc) (slots + ms) Q (F0 m (pc + 3) ls (.long r :: rest))) : W p l e R s m args below meth c H locs cells slots Q (F0 m pc ls st0) := by
  have hFc := va_free (wc := []) hD hS hA [] rfl
  refine va_calll hr hS (fun q _ h => hFc q h) hFc (fun r u t H1 locs1 ht hvm hp hB hz hk hS1 => ?_)
  refine kk r H1 locs1 hp (fun k q hq => (hP k q hq).kept (hk q.1 (hP k q hq).lt (fun z => ?_))) hS1
  rcases z with ⟨k2, e2, h2⟩ | z
  · cases h2
  · exact absurd (hP k q hq).lt (Nat.not_lt.mpr z)
/-- arraycopy of longs, by numbers -/
theorem cp_l (hx : p.tables.exec = Jvm.exec) (hb : c.code = cc) (hml : c.maxLocals = ls.size) {own : String} {index : Nat} (hown : s.vm.findClass own = some m.cls) (hlink : (Cond.methodLink own index arraycopyName).before args s = true) (hnat : (Cond.native arraycopyName).before args s = true) (hstat : (Cond.static arraycopyName).before args s = true) (hini : (Cond.initialized "java/lang/System").before args s = true)
    (hK : va_K d vwCl (vwTy ks) s) (hP : va_P d vwCl ws H) (hD : va_D A ws) (hS : va_S A H0 H locs) (q0 q1 : Nat) {a0 a1 n0 n1 : Nat} {f g : Nat → Int64} (ha0 : ws[q0]? = some (a0, .inl (ks 0, n0, .inr (.inl f)))) (ha1 : ws[q1]? = some (a1, .inl (ks 0, n1, .inr (.inl g))))
    {x1 x2 x3 : Int32} (sp dp n : Nat) (e1 : x1 = nI sp) (e2 : x2 = nI dp) (e3 : x3 = nI n) (h4 : sp + n ≤ n0) (h5 : dp + n ≤ n1) (h6 : n0 < 2 ^ 31) (h7 : n1 < 2 ^ 31)
    (hframes : 1 ≤ R.frames) (hlocals : (rest.map fun v => v.category).sum + (nativeFrameWords "java/lang/System" "arraycopy" 5 + 11) ≤ R.locals) (hdg : decode cc pc = .ok (.invokestatic index, 3))
    (kk : ∀ (H1 : Heap) (locs1 : List Loc), va_P d vwCl (ws.set q1 (a1, .inl (ks 0, n1, .inr (.inl (va_cpy f g sp dp n))))) H1 → va_D A (ws.set q1 (a1, .inl (ks 0, n1, .inr (.inl (va_cpy f g sp dp n))))) → va_S A H0 H1 locs1 → W p l e R s m args below meth c H1 locs1 cells slots Q (F0 m (pc + 3) ls rest)) : W p l e R s m args below meth c H locs cells slots Q (F0 m pc ls (.int x3 :: .int x2 :: .ref a1 :: .int x1 :: .ref a0 :: rest)) := by
  subst e1; subst e2; subst e3
  have c1 : (nI sp).toNatClampNeg = sp := nI_clamp (by omega)
  have c2 : (nI dp).toNatClampNeg = dp := nI_clamp (by omega)
  have c3 : (nI n).toNatClampNeg = n := nI_clamp (by omega)
  refine va_copyl (ty := .long) hx hb hml hown hlink hnat hstat hini hK hP hD hS q0 q1 0 0 ha0 ha1 rfl rfl rfl (nI_pos (by omega)) (nI_pos (by omega)) (nI_pos (by omega)) (by rw [c1, c3]; exact h4) (by rw [c2, c3]; exact h5) (fun _ _ => rfl) hframes hlocals hdg ?_
  rw [c1, c2, c3]; exact kk
end GPL
theorem fm_x : ∀ k, k < 16 → 0 ≤ lg_cmp (lN k ^^^ 8) 0 := by decide
theorem fm_r : ∀ k, k < 16 → lN k - lN k / 8 * 8 = lN (k % 8) := by decide
section BLF
variable {l : Launch} {d : va_G} {ks : Nat → ClassId} {av : List Value} {sz mc ms : Nat} {w0 : va_W} {S : Type} {wN : S → va_W} {y : MethodName} {cc : ByteArray} {nL : Nat} {rm : Room}
theorem bodyLF {post : Int64 → S → Prop} (hy : plainFor y = true) (hlen : (lg_sl av).length ≤ nL)
    (body : ∀ (p : Program) (e : Env) (s : State) (m : MethodId) (below : List Frame) (meth : Method) (c : Code) (A : Nat → Prop) (ls : Array Slot), CallFix p m c cc nL s av.toArray TB y.cls → meth.sig.returnType = some .long → meth.locks = false → va_K d vwCl (vwTy ks) s → NW s → (∀ q : Nat, s.heap.size ≤ q → A q) → s.heap.size = sz →
      va_P d vwCl w0 s.heap → va_D A w0 → va_S A s.heap s.heap [] → lv_has ls nL (lv_args 0 av) → W p l e rm s m av.toArray below meth c s.heap [] 0 0 (MQ below (va_Ql post (fun u t => Bw d ks A (wN u) t) A) av.toArray s mc ms A) (F0 m 0 ls [])) :
    Met l y (.code y cc nL (some .long) :: TB) rm (Pcw d ks av sz w0) (va_Ql post (fun u t => Bw d ks (va_A w0 sz) (wN u) t) (va_A w0 sz)) mc ms (va_A w0 sz) := by
  refine va_MetF (cc := cc) (maxL := nL) (ret := some .long) hy rfl ?_
  intro p e s m args below meth c s₁ B hml hv
  obtain ⟨rfl, hsz, hP, hK, hD0, hN⟩ := hv
  subst hsz
  have hts := atoms_spec (ws := .code y cc nL (some .long) :: TB) B.pre
  have hD := hD0.self (sz := s.heap.size)
  generalize hAe : va_A w0 s.heap.size = A at hD ⊢
  have hA : ∀ q : Nat, s.heap.size ≤ q → A q := fun q h => by rw [← hAe]; exact Or.inr h
  have hl := lv_entry av (n := nL) hlen
  rw [lg_entry_eq]
  exact body p e s m below meth c A _ ⟨B.exec, B.bytes, hml, findClass_of_methodNamed B.named, fun w h => hts w (List.mem_cons_of_mem _ h)⟩ B.returns B.notSynchronized hK hN hA rfl hP hD va_S.rf hl
end BLF
set_option maxHeartbeats 4000000 in
set_option maxRecDepth 100000 in
theorem kJ_floorMod (l : Launch) (D : va_G) (ks : Nat → ClassId) (k9 : Nat) (sz : Nat) (hk : k9 < 16) : Met l yJ_floorMod (.code yJ_floorMod cJ_floorMod 6 (some .long) :: TB) ({ frames := 0, cells := 0, slots := 0, locals := 0 } : Room) (Pcw D ks [.long (lN k9), .long (8 : Int64)] sz []) (va_Ql (S := Unit) (fun r _ => r = lN (k9 % 8)) (fun u t => Bw D ks (va_A [] sz) ((fun _ => ([] : va_W)) u) t) (va_A [] sz)) 0 0 (va_A [] sz) := by
  refine bodyLF (S := Unit) (wN := (fun _ => ([] : va_W))) (post := (fun r _ => r = lN (k9 % 8))) (by decide +kernel) (Nat.le_of_ble_eq_true rfl) (fun p e s m below meth c A ls F hr hlk hK hN hA hsz hP hD hS hl => ?_)
  obtain ⟨hx, hb, hml, hown, ht⟩ := F
  have hown : s.vm.findClass RJ = some m.cls := hown
  have F : CallFix p m c cJ_floorMod 6 s ([.long (lN k9), .long (8 : Int64)] : List Value).toArray TB RJ := ⟨hx, hb, hml, hown, ht⟩
  have hl : lv_has ls 6 [(0, .long (lN k9)), (2, .long (8 : Int64))] := hl
  refine lv_lload_n hx hb dJ_floorMod_0 rfl (lv_at hl 0 rfl) ?_
  refine lv_lload_n hx hb dJ_floorMod_1 rfl (lv_at hl 1 rfl) ?_
  refine lv_lrem hx hb dJ_floorMod_2 (by decide) ?_
  refine tp_l (lN (k9 % 8)) (fm_r k9 hk) ?_
  refine lv_lstore (lv' := [(4, .long (lN (k9 % 8))), (0, .long (lN k9)), (2, .long (8 : Int64))]) hx hb dJ_floorMod_3 hl (by decide) rfl (fun ls hl => ?_)
  refine lv_lload_n hx hb dJ_floorMod_5 rfl (lv_at hl 1 rfl) ?_
  refine lv_lload_n hx hb dJ_floorMod_6 rfl (lv_at hl 2 rfl) ?_
  refine lv_lxor hx hb dJ_floorMod_7 ?_
  refine lv_lconst (v := 0) hx hb dJ_floorMod_8 (by decide) ?_
  refine W.lcmp hx hb dJ_floorMod_9 ?_
  refine lv_if_ge (tgt := 25) hx hb dJ_floorMod_10 rfl (fun _ => ?_) (fun h => absurd (fm_x k9 hk) h)
  refine lv_lload hx hb dJ_floorMod_25 (lv_at hl 0 rfl) ?_
  exact endL hx hb hr hlk hK () rfl hP hD hS dJ_floorMod_27

set_option maxHeartbeats 4000000 in
set_option maxRecDepth 100000 in
theorem kI_ringWord (l : Launch) (D : va_G) (ks : Nat → ClassId) (qi qw : Nat) (wd : Nat → Int64) (f9 k9 : Nat) (sz : Nat) (hf : f9 < 8) (h4 : wd 4 = lN f9) (hk : k9 ≤ 8) : Met l yI_ringWord (.code yI_ringWord cI_ringWord 2 (some .int) :: TB) ({ frames := 1, cells := 0, slots := 0, locals := 25 } : Room) (Pcw D ks [.ref qi, .int (nI k9)] sz [(qi, .inr (0, [.ref qw])), (qw, .inl (ks 0, 31, .inr (.inl wd)))]) (va_Qi (S := Unit) (fun r _ => r = nI (6 + (f9 + k9) % 8)) (fun u t => Bw D ks (va_A [(qi, .inr (0, [.ref qw])), (qw, .inl (ks 0, 31, .inr (.inl wd)))] sz) ((fun _ => wI ks qi qw wd) u) t) (va_A [(qi, .inr (0, [.ref qw])), (qw, .inl (ks 0, 31, .inr (.inl wd)))] sz)) 0 0 (va_A [(qi, .inr (0, [.ref qw])), (qw, .inl (ks 0, 31, .inr (.inl wd)))] sz) := by
  refine bodyI (S := Unit) (wN := (fun _ => wI ks qi qw wd)) (post := (fun r _ => r = nI (6 + (f9 + k9) % 8))) (by decide) (Nat.le_of_ble_eq_true rfl) (fun p e s m below meth c A ls F hr hlk hK hN hA hsz hP hD hS hl => ?_)
  obtain ⟨hx, hb, hml, hown, ht⟩ := F
  have hown : s.vm.findClass RI = some m.cls := hown
  have F : CallFix p m c cI_ringWord 2 s ([.ref qi, .int (nI k9)] : List Value).toArray TB RI := ⟨hx, hb, hml, hown, ht⟩
  have hl : lv_has ls 2 [(0, .ref qi), (1, .int (nI k9))] := hl
  refine lv_bipush (v := nI 6) hx hb dI_ringWord_0 (by decide) ?_
  refine lv_aload_n hx hb dI_ringWord_2 rfl (lv_at hl 0 rfl) ?_
  refine va_get (D := D) (ci := 0) (v := .ref qw) (C := RI) (T := TI) (N := 1) hx hb ht uw_I hown hK hP 0 rfl rfl 0 (by decide) (ht _ tb_72) (fun _ h => h) rfl dI_ringWord_3 ?_
  refine lv_iconst (v := nI 4) hx hb dI_ringWord_6 (by decide) ?_
  refine ra_l hx hb hK hP 1 rfl 4 (by decide) (by decide) rfl dI_ringWord_7 ?_
  refine tp_l (lN f9) h4 ?_
  refine lv_iload_n hx hb dI_ringWord_8 rfl (lv_at hl 1 rfl) ?_
  refine lv_i2l (v := (lN k9)) hx hb dI_ringWord_9 (nI_l (by omega)) ?_
  refine lv_ladd hx hb dI_ringWord_10 ?_
  refine tp_l (lN (f9 + k9)) (lN_add _ _) ?_
  refine lv_ldc2 (v := 8) hx hb hown (ht _ tb_390) dI_ringWord_11 ?_
  refine gpl (va_runS (As := [.long (lN (f9 + k9)), .long (8 : Int64)]) (rest := [.int (nI 6)]) F (kJ_floorMod l D ks (f9 + k9) s.heap.size (by omega)) (va_cwS 2 ht (tb_st tb_391 tb_392 tb_11 tb_393) rfl rfl rfl ⟨by decide, by decide, by decide +kernel⟩ ⟨by decide, by decide⟩) (preS hK hN hP hD [] rfl rfl) rfl rfl hl.1 rfl (lv_room (Nat.le_of_ble_eq_true rfl)) dI_ringWord_14 (by decide)) hP hD hS hA (fun r1 H locs q1 hP hS => ?_)
  rw [q1]
  refine lv_l2i (v := (nI ((f9 + k9) % 8))) hx hb dI_ringWord_17 (lN_i _) ?_
  refine lv_iadd hx hb dI_ringWord_18 ?_
  exact endI hx hb hr hlk hK () (nI_add _ _) hP hD hS dI_ringWord_19

set_option maxHeartbeats 4000000 in
set_option maxRecDepth 100000 in
theorem kI_queuedAt (l : Launch) (D : va_G) (ks : Nat → ClassId) (qi qw : Nat) (wd : Nat → Int64) (f9 k9 : Nat) (sz : Nat) (hf : f9 < 8) (h4 : wd 4 = lN f9) (hk : k9 ≤ 8) : Met l yI_queuedAt (.code yI_queuedAt cI_queuedAt 2 (some .long) :: TB) ({ frames := 2, cells := 0, slots := 0, locals := 46 } : Room) (Pcw D ks [.ref qi, .int (nI k9)] sz [(qi, .inr (0, [.ref qw])), (qw, .inl (ks 0, 31, .inr (.inl wd)))]) (va_Ql (S := Unit) (fun r _ => r = wd (6 + (f9 + k9) % 8)) (fun u t => Bw D ks (va_A [(qi, .inr (0, [.ref qw])), (qw, .inl (ks 0, 31, .inr (.inl wd)))] sz) ((fun _ => wI ks qi qw wd) u) t) (va_A [(qi, .inr (0, [.ref qw])), (qw, .inl (ks 0, 31, .inr (.inl wd)))] sz)) 0 0 (va_A [(qi, .inr (0, [.ref qw])), (qw, .inl (ks 0, 31, .inr (.inl wd)))] sz) := by
  refine bodyL (S := Unit) (wN := (fun _ => wI ks qi qw wd)) (post := (fun r _ => r = wd (6 + (f9 + k9) % 8))) (by decide) (Nat.le_of_ble_eq_true rfl) (fun p e s m below meth c A ls F hr hlk hK hN hA hsz hP hD hS hl => ?_)
  obtain ⟨hx, hb, hml, hown, ht⟩ := F
  have hown : s.vm.findClass RI = some m.cls := hown
  have F : CallFix p m c cI_queuedAt 2 s ([.ref qi, .int (nI k9)] : List Value).toArray TB RI := ⟨hx, hb, hml, hown, ht⟩
  have hl : lv_has ls 2 [(0, .ref qi), (1, .int (nI k9))] := hl
  refine lv_aload_n hx hb dI_queuedAt_0 rfl (lv_at hl 0 rfl) ?_
  refine va_get (D := D) (ci := 0) (v := .ref qw) (C := RI) (T := TI) (N := 1) hx hb ht uw_I hown hK hP 0 rfl rfl 0 (by decide) (ht _ tb_72) (fun _ h => h) rfl dI_queuedAt_1 ?_
  refine lv_aload_n hx hb dI_queuedAt_4 rfl (lv_at hl 0 rfl) ?_
  refine lv_iload_n hx hb dI_queuedAt_5 rfl (lv_at hl 1 rfl) ?_
  refine gci (wr := []) [0, 1] [] rfl rfl rfl (by decide) (va_runV (As := [.int (nI k9)]) (rest := [.ref qw]) F (kI_ringWord l D ks qi qw wd f9 k9 s.heap.size hf h4 hk) (cwV (C := RI) 1 ht (tb_v tb_386 tb_388 tb_sI_ringWord tb_3 tb_389) rfl rfl rfl ⟨rfl, by decide, by decide, by decide +kernel⟩ ⟨by decide, by decide⟩) (preV 0 0 rfl rfl rfl hK hN hP hD [0, 1] rfl rfl) rfl rfl hl.1 rfl (lv_room (Nat.le_of_ble_eq_true rfl)) dI_queuedAt_6 (by decide)) hP hD hS hA (fun r1 u1 H locs q1 hP hD hS => ?_)
  have hP : va_P D vwCl [(qi, .inr (0, [.ref qw])), (qw, .inl (ks 0, 31, .inr (.inl wd)))] H := hP
  have hD : va_D A [(qi, .inr (0, [.ref qw])), (qw, .inl (ks 0, 31, .inr (.inl wd)))] := hD
  rw [q1]
  refine ra_l hx hb hK hP 1 rfl (6 + (f9 + k9) % 8) (by omega) (by decide) rfl dI_queuedAt_9 ?_
  exact endL hx hb hr hlk hK () rfl hP hD hS dI_queuedAt_10

set_option maxHeartbeats 4000000 in
set_option maxRecDepth 100000 in
theorem kI_append (l : Launch) (D : va_G) (ks : Nat → ClassId) (qi qw : Nat) (wd : Nat → Int64) (f9 n9 : Nat) (x9 : Int64) (sz : Nat) (hf : f9 < 8) (h4 : wd 4 = lN f9) (hn : n9 ≤ 8) (h5 : wd 5 = lN n9) : Met l yI_append (.code yI_append cI_append 4 none :: TB) ({ frames := 3, cells := 0, slots := 0, locals := 62 } : Room) (Pcw D ks [.ref qi, .long x9] sz [(qi, .inr (0, [.ref qw])), (qw, .inl (ks 0, 31, .inr (.inl wd)))]) (va_Qv (S := (Nat → Int64)) (fun u => u = vp_updL (vp_updL wd (6 + (f9 + n9) % 8) x9) 5 (lN (n9 + 1))) (fun u t => Bw D ks (va_A [(qi, .inr (0, [.ref qw])), (qw, .inl (ks 0, 31, .inr (.inl wd)))] sz) ((fun u => wI ks qi qw u) u) t) (va_A [(qi, .inr (0, [.ref qw])), (qw, .inl (ks 0, 31, .inr (.inl wd)))] sz)) 0 0 (va_A [(qi, .inr (0, [.ref qw])), (qw, .inl (ks 0, 31, .inr (.inl wd)))] sz) := by
  refine bodyV (S := (Nat → Int64)) (wN := (fun u => wI ks qi qw u)) (post := (fun u => u = vp_updL (vp_updL wd (6 + (f9 + n9) % 8) x9) 5 (lN (n9 + 1)))) (by decide) (Nat.le_of_ble_eq_true rfl) (fun p e s m below meth c A ls F hr hlk hK hN hA hsz hP hD hS hl => ?_)
  obtain ⟨hx, hb, hml, hown, ht⟩ := F
  have hown : s.vm.findClass RI = some m.cls := hown
  have F : CallFix p m c cI_append 4 s ([.ref qi, .long x9] : List Value).toArray TB RI := ⟨hx, hb, hml, hown, ht⟩
  have hl : lv_has ls 4 [(0, .ref qi), (1, .long x9)] := hl
  refine lv_aload_n hx hb dI_append_0 rfl (lv_at hl 0 rfl) ?_
  refine gci (wr := []) [0, 1] [] rfl rfl rfl (by decide) (va_runV (As := []) (rest := []) F (kI_queueSize l D ks qi qw wd n9 s.heap.size hn h5) (cwV (C := RI) 0 ht (tb_v tb_385 tb_131 tb_sI_queueSize tb_3 tb_132) rfl rfl rfl ⟨rfl, by decide, by decide, by decide +kernel⟩ ⟨by decide, by decide⟩) (preV 0 0 rfl rfl rfl hK hN hP hD [0, 1] rfl rfl) rfl rfl hl.1 rfl (lv_room (Nat.le_of_ble_eq_true rfl)) dI_append_1 (by decide)) hP hD hS hA (fun r1 u1 H locs q1 hP hD hS => ?_)
  have hP : va_P D vwCl [(qi, .inr (0, [.ref qw])), (qw, .inl (ks 0, 31, .inr (.inl wd)))] H := hP
  have hD : va_D A [(qi, .inr (0, [.ref qw])), (qw, .inl (ks 0, 31, .inr (.inl wd)))] := hD
  rw [q1]
  refine lv_istore_n (lv' := [(3, .int (nI n9)), (0, .ref qi), (1, .long x9)]) hx hb dI_append_4 rfl hl (by decide) rfl (fun ls hl => ?_)
  refine lv_aload_n hx hb dI_append_5 rfl (lv_at hl 1 rfl) ?_
  refine va_get (D := D) (ci := 0) (v := .ref qw) (C := RI) (T := TI) (N := 1) hx hb ht uw_I hown hK hP 0 rfl rfl 0 (by decide) (ht _ tb_72) (fun _ h => h) rfl dI_append_6 ?_
  refine lv_aload_n hx hb dI_append_9 rfl (lv_at hl 1 rfl) ?_
  refine lv_iload_n hx hb dI_append_10 rfl (lv_at hl 0 rfl) ?_
  refine gci (wr := []) [0, 1] [] rfl rfl rfl (by decide) (va_runV (As := [.int (nI n9)]) (rest := [.ref qw]) F (kI_ringWord l D ks qi qw wd f9 n9 H.size hf h4 hn) (cwV (C := RI) 1 ht (tb_v tb_386 tb_388 tb_sI_ringWord tb_3 tb_389) rfl rfl rfl ⟨rfl, by decide, by decide, by decide +kernel⟩ ⟨by decide, by decide⟩) (preV 0 0 rfl rfl rfl hK hN hP hD [0, 1] rfl rfl) rfl rfl hl.1 rfl (lv_room (Nat.le_of_ble_eq_true rfl)) dI_append_11 (by decide)) hP hD hS hA (fun r2 u2 H locs q2 hP hD hS => ?_)
  have hP : va_P D vwCl [(qi, .inr (0, [.ref qw])), (qw, .inl (ks 0, 31, .inr (.inl wd)))] H := hP
  have hD : va_D A [(qi, .inr (0, [.ref qw])), (qw, .inl (ks 0, 31, .inr (.inl wd)))] := hD
  rw [q2]
  refine lv_lload_n hx hb dI_append_14 rfl (lv_at hl 2 rfl) ?_
  refine wa_l hx hb hK hP hD hS 1 rfl (6 + (f9 + n9) % 8) (by omega) (by decide) rfl dI_append_15 (fun H locs hP hD hS => ?_)
  have hP : va_P D vwCl [(qi, .inr (0, [.ref qw])), (qw, .inl (ks 0, 31, .inr (.inl (vp_updL wd (6 + (f9 + n9) % 8) x9))))] H := hP
  have hD : va_D A [(qi, .inr (0, [.ref qw])), (qw, .inl (ks 0, 31, .inr (.inl (vp_updL wd (6 + (f9 + n9) % 8) x9))))] := hD
  refine lv_aload_n hx hb dI_append_16 rfl (lv_at hl 1 rfl) ?_
  refine va_get (D := D) (ci := 0) (v := .ref qw) (C := RI) (T := TI) (N := 1) hx hb ht uw_I hown hK hP 0 rfl rfl 0 (by decide) (ht _ tb_72) (fun _ h => h) rfl dI_append_17 ?_
  refine lv_iconst (v := nI 5) hx hb dI_append_20 (by decide) ?_
  refine lv_iload_n hx hb dI_append_21 rfl (lv_at hl 0 rfl) ?_
  refine lv_iconst (v := nI 1) hx hb dI_append_22 (by decide) ?_
  refine lv_iadd hx hb dI_append_23 ?_
  refine tp_i (nI (n9 + 1)) (nI_add _ _) ?_
  refine lv_i2l (v := (lN (n9 + 1))) hx hb dI_append_24 (nI_l (by omega)) ?_
  refine wa_l hx hb hK hP hD hS 1 rfl 5 (by decide) (by decide) rfl dI_append_25 (fun H locs hP hD hS => ?_)
  have hP : va_P D vwCl [(qi, .inr (0, [.ref qw])), (qw, .inl (ks 0, 31, .inr (.inl (vp_updL (vp_updL wd (6 + (f9 + n9) % 8) x9) 5 (lN (n9 + 1))))))] H := hP
  have hD : va_D A [(qi, .inr (0, [.ref qw])), (qw, .inl (ks 0, 31, .inr (.inl (vp_updL (vp_updL wd (6 + (f9 + n9) % 8) x9) 5 (lN (n9 + 1))))))] := hD
  exact endV hx hb hr hlk hK (vp_updL (vp_updL wd (6 + (f9 + n9) % 8) x9) 5 (lN (n9 + 1))) rfl hP hD hS dI_append_26

set_option maxHeartbeats 4000000 in
set_option maxRecDepth 100000 in
theorem kI_dropFirst (l : Launch) (D : va_G) (ks : Nat → ClassId) (qi qw : Nat) (wd : Nat → Int64) (f9 n9 : Nat) (sz : Nat) (hf : f9 < 8) (h4 : wd 4 = lN f9) (hn : n9 ≤ 8) (h0 : 0 < n9) (h5 : wd 5 = lN n9) : Met l yI_dropFirst (.code yI_dropFirst cI_dropFirst 1 none :: TB) ({ frames := 3, cells := 0, slots := 0, locals := 62 } : Room) (Pcw D ks [.ref qi] sz [(qi, .inr (0, [.ref qw])), (qw, .inl (ks 0, 31, .inr (.inl wd)))]) (va_Qv (S := (Nat → Int64)) (fun u => u = vp_updL (vp_updL wd 4 (lN ((f9 + 1) % 8))) 5 (lN (n9 - 1))) (fun u t => Bw D ks (va_A [(qi, .inr (0, [.ref qw])), (qw, .inl (ks 0, 31, .inr (.inl wd)))] sz) ((fun u => wI ks qi qw u) u) t) (va_A [(qi, .inr (0, [.ref qw])), (qw, .inl (ks 0, 31, .inr (.inl wd)))] sz)) 0 0 (va_A [(qi, .inr (0, [.ref qw])), (qw, .inl (ks 0, 31, .inr (.inl wd)))] sz) := by
  refine bodyV (S := (Nat → Int64)) (wN := (fun u => wI ks qi qw u)) (post := (fun u => u = vp_updL (vp_updL wd 4 (lN ((f9 + 1) % 8))) 5 (lN (n9 - 1)))) (by decide) (Nat.le_of_ble_eq_true rfl) (fun p e s m below meth c A ls F hr hlk hK hN hA hsz hP hD hS hl => ?_)
  obtain ⟨hx, hb, hml, hown, ht⟩ := F
  have hown : s.vm.findClass RI = some m.cls := hown
  have F : CallFix p m c cI_dropFirst 1 s ([.ref qi] : List Value).toArray TB RI := ⟨hx, hb, hml, hown, ht⟩
  have hl : lv_has ls 1 [(0, .ref qi)] := hl
  refine lv_aload_n hx hb dI_dropFirst_0 rfl (lv_at hl 0 rfl) ?_
  refine va_get (D := D) (ci := 0) (v := .ref qw) (C := RI) (T := TI) (N := 1) hx hb ht uw_I hown hK hP 0 rfl rfl 0 (by decide) (ht _ tb_72) (fun _ h => h) rfl dI_dropFirst_1 ?_
  refine lv_iconst (v := nI 4) hx hb dI_dropFirst_4 (by decide) ?_
  refine lv_aload_n hx hb dI_dropFirst_5 rfl (lv_at hl 0 rfl) ?_
  refine lv_iconst (v := nI 1) hx hb dI_dropFirst_6 (by decide) ?_
  refine gci (wr := []) [0, 1] [] rfl rfl rfl (by decide) (va_runV (As := [.int (nI 1)]) (rest := [.int (nI 4), .ref qw]) F (kI_ringWord l D ks qi qw wd f9 1 s.heap.size hf h4 (by decide)) (cwV (C := RI) 1 ht (tb_v tb_386 tb_388 tb_sI_ringWord tb_3 tb_389) rfl rfl rfl ⟨rfl, by decide, by decide, by decide +kernel⟩ ⟨by decide, by decide⟩) (preV 0 0 rfl rfl rfl hK hN hP hD [0, 1] rfl rfl) rfl rfl hl.1 rfl (lv_room (Nat.le_of_ble_eq_true rfl)) dI_dropFirst_7 (by decide)) hP hD hS hA (fun r1 u1 H locs q1 hP hD hS => ?_)
  have hP : va_P D vwCl [(qi, .inr (0, [.ref qw])), (qw, .inl (ks 0, 31, .inr (.inl wd)))] H := hP
  have hD : va_D A [(qi, .inr (0, [.ref qw])), (qw, .inl (ks 0, 31, .inr (.inl wd)))] := hD
  rw [q1]
  refine lv_bipush (v := nI 6) hx hb dI_dropFirst_10 (by decide) ?_
  refine lv_isub hx hb dI_dropFirst_12 ?_
  refine tp_i (nI ((f9 + 1) % 8)) (by rw [pk_sub (by omega)]; congr 1; omega) ?_
  refine lv_i2l (v := (lN ((f9 + 1) % 8))) hx hb dI_dropFirst_13 (nI_l (by omega)) ?_
  refine wa_l hx hb hK hP hD hS 1 rfl 4 (by decide) (by decide) rfl dI_dropFirst_14 (fun H locs hP hD hS => ?_)
  have hP : va_P D vwCl [(qi, .inr (0, [.ref qw])), (qw, .inl (ks 0, 31, .inr (.inl (vp_updL wd 4 (lN ((f9 + 1) % 8))))))] H := hP
  have hD : va_D A [(qi, .inr (0, [.ref qw])), (qw, .inl (ks 0, 31, .inr (.inl (vp_updL wd 4 (lN ((f9 + 1) % 8))))))] := hD
  refine lv_aload_n hx hb dI_dropFirst_15 rfl (lv_at hl 0 rfl) ?_
  refine va_get (D := D) (ci := 0) (v := .ref qw) (C := RI) (T := TI) (N := 1) hx hb ht uw_I hown hK hP 0 rfl rfl 0 (by decide) (ht _ tb_72) (fun _ h => h) rfl dI_dropFirst_16 ?_
  refine lv_iconst (v := nI 5) hx hb dI_dropFirst_19 (by decide) ?_
  refine lv_aload_n hx hb dI_dropFirst_20 rfl (lv_at hl 0 rfl) ?_
  refine gci (wr := []) [0, 1] [] rfl rfl rfl (by decide) (va_runV (As := []) (rest := [.int (nI 5), .ref qw]) F (kI_queueSize l D ks qi qw (vp_updL wd 4 (lN ((f9 + 1) % 8))) n9 H.size hn (by rw [pk_uLn (by decide)]; exact h5)) (cwV (C := RI) 0 ht (tb_v tb_385 tb_131 tb_sI_queueSize tb_3 tb_132) rfl rfl rfl ⟨rfl, by decide, by decide, by decide +kernel⟩ ⟨by decide, by decide⟩) (preV 0 0 rfl rfl rfl hK hN hP hD [0, 1] rfl rfl) rfl rfl hl.1 rfl (lv_room (Nat.le_of_ble_eq_true rfl)) dI_dropFirst_21 (by decide)) hP hD hS hA (fun r2 u2 H locs q2 hP hD hS => ?_)
  have hP : va_P D vwCl [(qi, .inr (0, [.ref qw])), (qw, .inl (ks 0, 31, .inr (.inl (vp_updL wd 4 (lN ((f9 + 1) % 8))))))] H := hP
  have hD : va_D A [(qi, .inr (0, [.ref qw])), (qw, .inl (ks 0, 31, .inr (.inl (vp_updL wd 4 (lN ((f9 + 1) % 8))))))] := hD
  rw [q2]
  refine lv_iconst (v := nI 1) hx hb dI_dropFirst_24 (by decide) ?_
  refine lv_isub hx hb dI_dropFirst_25 ?_
  refine tp_i (nI (n9 - 1)) (pk_sub (by omega)) ?_
  refine lv_i2l (v := (lN (n9 - 1))) hx hb dI_dropFirst_26 (nI_l (by omega)) ?_
  refine wa_l hx hb hK hP hD hS 1 rfl 5 (by decide) (by decide) rfl dI_dropFirst_27 (fun H locs hP hD hS => ?_)
  have hP : va_P D vwCl [(qi, .inr (0, [.ref qw])), (qw, .inl (ks 0, 31, .inr (.inl (vp_updL (vp_updL wd 4 (lN ((f9 + 1) % 8))) 5 (lN (n9 - 1))))))] H := hP
  have hD : va_D A [(qi, .inr (0, [.ref qw])), (qw, .inl (ks 0, 31, .inr (.inl (vp_updL (vp_updL wd 4 (lN ((f9 + 1) % 8))) 5 (lN (n9 - 1))))))] := hD
  exact endV hx hb hr hlk hK (vp_updL (vp_updL wd 4 (lN ((f9 + 1) % 8))) 5 (lN (n9 - 1))) rfl hP hD hS dI_dropFirst_28

