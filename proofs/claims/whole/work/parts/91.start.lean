/-! THE CLAIM OUT OF ONE WALK OF THE LAW'S BODY. Your part is whole_start (and what it stands on); all else here is the same for every law, but numbers. -/
def R_law : String := "WordShelfLaw"
def lw_P (b : Addr) (xs : List Int32) (args : Array Value) (s : State) : Prop := args = #[.ref b] ∧ s.IntsAt b xs ∧ xs.length ≤ 2560 ∧ (Jvm.Cond.and given_1 narrow_1).before args s = true
def lw_Q (_ : Array Value) (s : State) (o : Outcome) (t : State) : Prop := o = .returned (some (.int 1)) ∧ Framed s o t [] 1069 9803
def lw_Z (below : List Frame) (a : Array Value) (s : State) : State → Prop := fun t => ∃ o, t.status = .running ∧ Ended t below o ∧ lw_Q a s o t
/-- the law's own end, with 1 on the stack, nothing written that was there before, its room as the claim has it -/
theorem lw_ret {p : Program} {l : Launch} {e : Env} {s : State} {m : MethodId} {below : List Frame} {meth : Method} {c : Code} {b : Nat} (hx : p.tables.exec = Jvm.exec) (hb : c.code = code) (hr : meth.sig.returnType = ret) (hlocks : meth.locks = false) {pc : Nat} {H : Heap} {ls : Array Slot} (hdg : decode code pc = .ok (.ireturn, 1)) : W p l e room_1 s m #[Value.ref b] below meth c H [] 1069 9803 (lw_Z below #[Value.ref b] s) (F0 m pc ls [.int 1]) := by
  intro T hT X
  obtain ⟨fs, hret, hrun, hended, hW, hframe⟩ := X.leave (v := some (.int 1)) (hlocks := hlocks) (fun h => by rw [hr] at h; cases h)
  have hmeth' : T.vm.method? m = some meth := X.method'
  refine ⟨T.setFrames fs, ?_, .returned (some (.int 1)), hrun, hended, rfl, ⟨_, rfl⟩, hW, hframe⟩
  jvm_step X.here [X.here.top, hx, hb, hdg, hmeth', hr, ret, narrow_b1]
  (try refine ⟨rfl, ?_⟩); (try refine ⟨rfl, ?_⟩)
  first | (intro acts; rw [hret _ acts rfl rfl rfl]) | rw [hret _ _ rfl rfl rfl]
  exact Steps.refl _
/-- what holds at the law's entry: the machine, the code, the tables' words (any of lw_tbl by 'hts w (by decide +kernel)'), the script of L ints xs at the cell b, what the Statement gives of the start (any of its parts by flat_of_before) -/
def lw_At (p : Program) (s : State) (m : MethodId) (meth : Method) (c : Code) (b L : Nat) (xs : Nat → Int32) : Prop :=
  p.tables.exec = Jvm.exec ∧ c.code = code ∧ meth.sig.returnType = ret ∧ c.maxLocals = 8 ∧ s.vm.findClass R_law = some m.cls ∧ (∀ w ∈ lw_tbl, w.before #[Value.ref b] s = true) ∧ va_X b L xs s s.heap ∧ b < s.heap.size ∧ meth.locks = false ∧ (Jvm.Cond.and given_1 narrow_1).before #[Value.ref b] s = true

theorem lt_of {w : Cond} (i : Nat) (h : tables_1[i]? = some w) : w ∈ lw_tbl := List.mem_append_right _ (List.mem_of_getElem? h)
theorem tb_lw {args : Array Value} {s : State} (hts : ∀ w ∈ lw_tbl, w.before args s = true) : ∀ w ∈ TB, w.before args s = true := fun w h => hts w (List.mem_filter.mp h).1
/-- the classes and the arrays' classes of the start -/
theorem start_K {args : Array Value} {s : State} (hts : ∀ w ∈ lw_tbl, w.before args s = true) : ∃ (D : va_G) (ks : Nat → ClassId), va_K D vwCl (vwTy ks) s := by
  have ht := tb_lw hts
  obtain ⟨d0, i0, k0⟩ := u_known (n := 1) ht uw_I (ht _ tb_67)
  obtain ⟨d1, i1, k1⟩ := u_known (n := 10) ht uw_M (ht _ tb_22)
  obtain ⟨d2, i2, k2⟩ := u_known (n := 9) ht uw_S (ht _ tb_14)
  obtain ⟨d3, i3, k3⟩ := u_known (n := 21) ht uw_R (ht _ tb_534)
  obtain ⟨c0, q0, p0, a1, a2, a3⟩ := Cond.arrayClass_spec (hts (.arrayClass .long) (lt_of 63 (by decide +kernel)))
  obtain ⟨c1, q1, p1, b1, b2, b3⟩ := Cond.arrayClass_spec (hts (.arrayClass .int) (lt_of 64 (by decide +kernel)))
  obtain ⟨c2, q2, p2, e1, e2, e3⟩ := Cond.arrayClass_spec (hts (.arrayClass .boolean) (lt_of 65 (by decide +kernel)))
  obtain ⟨p3, c3, q3, g1, g2, g3, g4, g5⟩ := Cond.arrayOver_spec (hts (.arrayOver (.object "WordShelf$Image")) (lt_of 77 (by decide +kernel)))
  refine ⟨(fun c => if c = 0 then d0 else if c = 1 then d1 else if c = 2 then d2 else d3, fun c => if c = 0 then i0 else if c = 1 then i1 else if c = 2 then i2 else i3), fun k => if k = 0 then c0 else if k = 1 then c1 else if k = 2 then c2 else c3, fun c q hq => ?_, fun k q hq => ?_⟩
  · have hlt : c < 4 := (List.getElem?_eq_some_iff.mp hq).1
    rcases (show c = 0 ∨ c = 1 ∨ c = 2 ∨ c = 3 by omega) with rfl | rfl | rfl | rfl
    · obtain rfl := Option.some.inj (show some (RI, TI, 1) = some q from hq); exact k0
    · obtain rfl := Option.some.inj (show some (RM, TM, 10) = some q from hq); exact k1
    · obtain rfl := Option.some.inj (show some (RS, TS, 9) = some q from hq); exact k2
    · obtain rfl := Option.some.inj (show some (RR, TR, 21) = some q from hq); exact k3
  · have hlt : k < 4 := (List.getElem?_eq_some_iff.mp hq).1
    rcases (show k = 0 ∨ k = 1 ∨ k = 2 ∨ k = 3 by omega) with rfl | rfl | rfl | rfl
    · obtain rfl := Option.some.inj (show some (c0, FieldType.long) = some q from hq); exact ⟨fun n z => ⟨fun k h => (by cases h), q0, a2, p0, a3⟩, a1⟩
    · obtain rfl := Option.some.inj (show some (c1, FieldType.int) = some q from hq); exact ⟨fun n z => ⟨fun k h => (by cases h), q1, b2, p1, b3⟩, b1⟩
    · obtain rfl := Option.some.inj (show some (c2, FieldType.boolean) = some q from hq); exact ⟨fun n z => ⟨fun k h => (by cases h), q2, e2, p2, e3⟩, e1⟩
    · obtain rfl := Option.some.inj (show some (c3, FieldType.object "WordShelf$Image") = some q from hq); exact ⟨fun n z => ⟨fun k h => (by cases h), q3, g3, p3, g4⟩, q3, p3, g3, g4, g1, g5⟩
theorem start_N {args : Array Value} {s : State} (hts : ∀ w ∈ lw_tbl, w.before args s = true) : NW s := fun w hw => by
  have g := (List.mem_filter.mp hw).2
  have z := hts w (List.mem_append_right _ (List.mem_filter.mp hw).1)
  cases w <;> first | exact va_Nw.of rfl z | cases g
theorem start_Nc {args : Array Value} {s : State} (h : (Jvm.Cond.and given_1 narrow_1).before args s = true) : NcW s :=
  ⟨va_Nc.of (flat_of_before _ h _ (by decide +kernel)), va_Nc.of (flat_of_before _ h _ (by decide +kernel))⟩
theorem xs_in : ∀ q ∈ XS, Cond.stringRef RS q.1 q.2 ∈ tables_1 := by decide +kernel
theorem start_X {args : Array Value} {s : State} {A : Nat → Prop} (hts : ∀ w ∈ lw_tbl, w.before args s = true) (h : (Jvm.Cond.and given_1 narrow_1).before args s = true) {D : va_G} {ks : Nat → ClassId} (hK : va_K D vwCl (vwTy ks) s) (hA : ∀ a : Nat, a < s.heap.size → ¬ A a) : XW A s := by
  refine ⟨?_, ?_, fun w hw => ?_, fun q hq => ?_⟩
  · exact vx_Zqof (hts (.laysStatic Bundle.tN "UNASSIGNED_STACK" Bundle.steD) (lt_of 198 (by decide +kernel))) (hts (.initialized Bundle.tN) (lt_of 5 (by decide +kernel))) (flat_of_before _ h _ (by decide +kernel)) hA
  · exact vx_Zqof (hts (.laysStatic Bundle.tN "SUPPRESSED_SENTINEL" Bundle.listD) (lt_of 200 (by decide +kernel))) (hts (.initialized Bundle.tN) (lt_of 5 (by decide +kernel))) (flat_of_before _ h _ (by decide +kernel)) hA
  · have g := (List.mem_filter.mp hw).2
    have z := hts w (List.mem_append_right _ (List.mem_filter.mp hw).1)
    cases w <;> first | exact va_Nw.of rfl z | cases g
  · have z := hts _ (List.mem_append_right _ (xs_in q hq))
    have hcur : s.vm.findClass RS = some (D.1 2) := (hK.1 2 _ rfl).2.1
    obtain ⟨_, _, _, a, _, _, _, _, _, hev⟩ := Cond.stringRef_spec hcur z
    exact ⟨a, vk_R.of z hev⟩
/-- the loop's test -/
theorem lw_go {n L : Nat} (h : 5 * n + 5 ≤ L) (hL : L ≤ 2560) : ¬ (Int32.ofNat L - nI 5 < nI (5 * n)) := by
  have e : Int32.ofNat L - nI 5 = nI (L - 5) := pk_sub (by omega)
  rw [e]
  exact fun z => absurd ((nI_ltI (by omega) (by omega)).mp z) (by omega)
theorem lw_end {n L : Nat} (h : ¬ 5 * n + 5 ≤ L) (hn : n ≤ 513) (hL : L ≤ 2560) : Int32.ofNat L - nI 5 < nI (5 * n) := by
  by_cases h5 : 5 ≤ L
  · have e : Int32.ofNat L - nI 5 = nI (L - 5) := pk_sub h5
    rw [e]
    exact nI_lt (by omega) (by omega)
  · have h0 : (0 : Int32) ≤ nI (5 * n) := nI_pos' (by omega)
    have hneg : Int32.ofNat L - nI 5 < 0 := by
      rcases (show L = 0 ∨ L = 1 ∨ L = 2 ∨ L = 3 ∨ L = 4 by omega) with rfl | rfl | rfl | rfl | rfl <;> decide
    exact Int32.lt_of_lt_of_le hneg h0
set_option maxHeartbeats 4000000 in
set_option maxRecDepth 100000 in
/-- the law from its loop's head -/
theorem law_loop (l : Launch) (htr : l.stackTraces = false) {p : Program} {e : Env} {s : State} {m : MethodId} {below : List Frame} {meth : Method} {c : Code} {b L : Nat} {xs : Nat → Int32} {D : va_G} {ks : Nat → ClassId} {A : Nat → Prop} (F : CallFix p m c cL_law 8 s ([.ref b] : List Value).toArray TB RL) (hr : meth.sig.returnType = ret) (hlk : meth.locks = false) (hK : va_K D vwCl (vwTy ks) s) (hN : NW s) (hX : XW A s) (hNc : NcW s) (hA : ∀ q : Nat, s.heap.size ≤ q → A q) (hAe : ∀ q : Nat, A q → s.heap.size ≤ q) (hSc : va_X b L xs s s.heap) (hbl : b < s.heap.size) (hbA : ¬ A b) (hL : L ≤ 2560) {ad bd : Nat → Nat} {oq : Nat} : ∀ (d n : Nat), n + d = 513 → ∀ (c0 : CS) (r0 : MS) (g9 : Nat → Int64) (H : Heap) (locs : List Loc) (ls : Array Slot), Rel c0 r0 → lv_has ls 8 [(4, .int (nI (5 * n))), (3, .ref oq), (2, .ref (bd 0)), (1, .ref (ad 0)), (0, .ref b)] → va_P D vwCl (wLaw ks ad bd oq c0 r0 g9) H → va_D A (wLaw ks ad bd oq c0 r0 g9) → va_S A s.heap H locs → W p l e room_1 s m ([.ref b] : List Value).toArray below meth c H locs (30 + n) (1521 + 6 * n) (lw_Z below ([.ref b] : List Value).toArray s) (F0 m 23 ls []) := by
  obtain ⟨hx, hb, hml, hown, ht⟩ := F
  have F : CallFix p m c cL_law 8 s ([.ref b] : List Value).toArray TB RL := ⟨hx, hb, hml, hown, ht⟩
  intro d
  induction d with
  | zero =>
    intro n hn c0 r0 g9 H locs ls hR hl hP hD hS
    have hgo : ¬ 5 * n + 5 ≤ L := by omega
    refine lv_iload hx hb dL_law_23 (lv_at hl 0 rfl) ?_
    refine lv_aload_n hx hb dL_law_25 rfl (lv_at hl 4 rfl) ?_
    refine va_slen hx hb hSc hbl hbA hS dL_law_26 ?_
    refine lv_iconst (v := nI 5) hx hb dL_law_27 (by decide) ?_
    refine lv_isub hx hb dL_law_28 ?_
    refine lv_icmp_gt (tgt := 1338) hx hb dL_law_29 rfl (fun _ => ?_) (fun h => absurd (lw_end hgo (by omega) hL) h)
    refine lv_iconst (v := 1) hx hb dL_law_1338 (by decide) ?_
    refine W.forget (locs := []) (L := locs) (fun q hq => hAe _ (hS.2.2 q hq)) ?_
    refine W.widen (k := 1069) (n := 9803) (by omega) (by omega) ?_
    exact lw_ret hx hb hr hlk dL_law_1339
  | succ d ih =>
    intro n hn c0 r0 g9 H locs ls hR hl hP hD hS
    refine lv_iload hx hb dL_law_23 (lv_at hl 0 rfl) ?_
    refine lv_aload_n hx hb dL_law_25 rfl (lv_at hl 4 rfl) ?_
    refine va_slen hx hb hSc hbl hbA hS dL_law_26 ?_
    refine lv_iconst (v := nI 5) hx hb dL_law_27 (by decide) ?_
    refine lv_isub hx hb dL_law_28 ?_
    by_cases hgo : 5 * n + 5 ≤ L
    · skip
      have TAIL : ∀ (c1 : CS) (r1 : MS) (g1 : Nat → Int64) (H : Heap) (locs : List Loc) (ls : Array Slot), Rel c1 r1 → lv_has ls 8 [(4, .int (nI (5 * n))), (3, .ref oq), (2, .ref (bd 0)), (1, .ref (ad 0)), (0, .ref b)] → va_P D vwCl (wLaw ks ad bd oq c1 r1 g1) H → va_D A (wLaw ks ad bd oq c1 r1 g1) → va_S A s.heap H locs → W p l e room_1 s m ([.ref b] : List Value).toArray below meth c H locs (30 + n + 1) (1521 + 6 * n + 6) (lw_Z below ([.ref b] : List Value).toArray s) (F0 m 1332 ls []) := by
        intro c1 r1 g1 H locs ls hR hl hP hD hS
        refine lv_iinc (k := 0) (x := nI (5 * n)) (v := nI (5 * (n + 1))) (lv' := [(4, .int (nI (5 * (n + 1)))), (3, .ref oq), (2, .ref (bd 0)), (1, .ref (ad 0)), (0, .ref b)]) hx hb dL_law_1332 hl rfl (nI_add _ 5) (by decide) rfl (fun ls hl => ?_)
        refine lv_goto (tgt := 23) hx hb dL_law_1335 rfl ?_
        exact ih (n + 1) (by omega) c1 r1 g1 H locs ls hR hl hP hD hS
      refine lv_icmp_gt (tgt := 1338) hx hb dL_law_29 rfl (fun h => absurd h (lw_go hgo hL)) (fun _ => ?_)
      refine lv_aload_n hx hb dL_law_32 rfl (lv_at hl 4 rfl) ?_
      refine lv_iload hx hb dL_law_33 (lv_at hl 0 rfl) ?_
      refine ra_s hx hb hSc hbl hbA hS (5 * n) (by omega) (by omega) rfl dL_law_35 ?_
      refine lv_bipush (v := nI 31) hx hb dL_law_36 (by decide) ?_
      refine lv_iand hx hb dL_law_38 ?_
      obtain ⟨x9, hx9⟩ : ∃ z, z = (xs (5 * n) &&& nI 31) := ⟨_, rfl⟩
      rw [← hx9]
      rcases pk_ix x9 (n := 20) (by decide) with hsw | hsw | ⟨j9, hj9, rfl⟩
      · refine lv_tableOut (tgt := 1332) hx hb dL_law_39 (Or.inl (by have := Int32.lt_iff_toInt_lt.mp hsw; rw [Int32.toInt_zero] at this; exact this)) rfl ?_
        refine W.widen (k := 30 + n + 1) (n := 1521 + 6 * n + 6) (by omega) (by omega) ?_
        exact TAIL c0 r0 g9 H locs ls hR hl hP hD hS
      · refine lv_tableOut (tgt := 1332) hx hb dL_law_39 (Or.inr (by have := Int32.le_iff_toInt_le.mp hsw; rw [nI_toInt (by decide)] at this; omega)) rfl ?_
        refine W.widen (k := 30 + n + 1) (n := 1521 + 6 * n + 6) (by omega) (by omega) ?_
        exact TAIL c0 r0 g9 H locs ls hR hl hP hD hS
      · rcases (show j9 = 0 ∨ j9 = 1 ∨ j9 = 2 ∨ j9 = 3 ∨ j9 = 4 ∨ j9 = 5 ∨ j9 = 6 ∨ j9 = 7 ∨ j9 = 8 ∨ j9 = 9 ∨ j9 = 10 ∨ j9 = 11 ∨ j9 = 12 ∨ j9 = 13 ∨ j9 = 14 ∨ j9 = 15 ∨ j9 = 16 ∨ j9 = 17 ∨ j9 = 18 ∨ j9 = 19 by omega) with rfl | rfl | rfl | rfl | rfl | rfl | rfl | rfl | rfl | rfl | rfl | rfl | rfl | rfl | rfl | rfl | rfl | rfl | rfl | rfl
        · refine lv_tableIn (tgt := 132) (off := 93) hx hb dL_law_39 (by decide) (by decide) (by decide) rfl ?_
          exact law_0 l htr F hK hN hX hNc hA hSc hbl hbA hL hR hgo (by omega) (by omega) hl hP hD hS TAIL
        · refine lv_tableIn (tgt := 156) (off := 117) hx hb dL_law_39 (by decide) (by decide) (by decide) rfl ?_
          exact law_1 l htr F hK hN hX hNc hA hSc hbl hbA hL hR hgo (by omega) (by omega) hl hP hD hS TAIL
        · refine lv_tableIn (tgt := 200) (off := 161) hx hb dL_law_39 (by decide) (by decide) (by decide) rfl ?_
          exact law_2 l htr F hK hN hX hNc hA hSc hbl hbA hL hR hgo (by omega) (by omega) hl hP hD hS TAIL
        · refine lv_tableIn (tgt := 224) (off := 185) hx hb dL_law_39 (by decide) (by decide) (by decide) rfl ?_
          exact law_3 l htr F hK hN hX hNc hA hSc hbl hbA hL hR hgo (by omega) (by omega) hl hP hD hS TAIL
        · refine lv_tableIn (tgt := 323) (off := 284) hx hb dL_law_39 (by decide) (by decide) (by decide) rfl ?_
          exact law_4 l htr F hK hN hX hNc hA hSc hbl hbA hL hR hgo (by omega) (by omega) hl hP hD hS TAIL
        · refine lv_tableIn (tgt := 411) (off := 372) hx hb dL_law_39 (by decide) (by decide) (by decide) rfl ?_
          exact law_5 l htr F hK hN hX hNc hA hSc hbl hbA hL hR hgo (by omega) (by omega) hl hP hD hS TAIL
        · refine lv_tableIn (tgt := 454) (off := 415) hx hb dL_law_39 (by decide) (by decide) (by decide) rfl ?_
          exact law_6 l htr F hK hN hX hNc hA hSc hbl hbA hL hR hgo (by omega) (by omega) hl hP hD hS TAIL
        · refine lv_tableIn (tgt := 586) (off := 547) hx hb dL_law_39 (by decide) (by decide) (by decide) rfl ?_
          exact law_7 l htr F hK hN hX hNc hA hSc hbl hbA hL hR hgo (by omega) (by omega) hl hP hD hS TAIL
        · refine lv_tableIn (tgt := 681) (off := 642) hx hb dL_law_39 (by decide) (by decide) (by decide) rfl ?_
          exact law_8 l htr F hK hN hX hNc hA hSc hbl hbA hL hR hgo (by omega) (by omega) hl hP hD hS TAIL
        · refine lv_tableIn (tgt := 796) (off := 757) hx hb dL_law_39 (by decide) (by decide) (by decide) rfl ?_
          exact law_9 l htr F hK hN hX hNc hA hSc hbl hbA hL hR hgo (by omega) (by omega) hl hP hD hS TAIL
        · refine lv_tableIn (tgt := 851) (off := 812) hx hb dL_law_39 (by decide) (by decide) (by decide) rfl ?_
          exact law_10 l htr F hK hN hX hNc hA hSc hbl hbA hL hR hgo (by omega) (by omega) hl hP hD hS TAIL
        · refine lv_tableIn (tgt := 906) (off := 867) hx hb dL_law_39 (by decide) (by decide) (by decide) rfl ?_
          exact law_11 l htr F hK hN hX hNc hA hSc hbl hbA hL hR hgo (by omega) (by omega) hl hP hD hS TAIL
        · refine lv_tableIn (tgt := 942) (off := 903) hx hb dL_law_39 (by decide) (by decide) (by decide) rfl ?_
          exact law_12 l htr F hK hN hX hNc hA hSc hbl hbA hL hR hgo (by omega) (by omega) hl hP hD hS TAIL
        · refine lv_tableIn (tgt := 1069) (off := 1030) hx hb dL_law_39 (by decide) (by decide) (by decide) rfl ?_
          exact law_13 l htr F hK hN hX hNc hA hSc hbl hbA hL hR hgo (by omega) (by omega) hl hP hD hS TAIL
        · refine lv_tableIn (tgt := 1105) (off := 1066) hx hb dL_law_39 (by decide) (by decide) (by decide) rfl ?_
          exact law_14 l htr F hK hN hX hNc hA hSc hbl hbA hL hR hgo (by omega) (by omega) hl hP hD hS TAIL
        · refine lv_tableIn (tgt := 1142) (off := 1103) hx hb dL_law_39 (by decide) (by decide) (by decide) rfl ?_
          exact law_15 l htr F hK hN hX hNc hA hSc hbl hbA hL hR hgo (by omega) (by omega) hl hP hD hS TAIL
        · refine lv_tableIn (tgt := 1186) (off := 1147) hx hb dL_law_39 (by decide) (by decide) (by decide) rfl ?_
          exact law_16 l htr F hK hN hX hNc hA hSc hbl hbA hL hR hgo (by omega) (by omega) hl hP hD hS TAIL
        · refine lv_tableIn (tgt := 1269) (off := 1230) hx hb dL_law_39 (by decide) (by decide) (by decide) rfl ?_
          exact law_17 l htr F hK hN hX hNc hA hSc hbl hbA hL hR hgo (by omega) (by omega) hl hP hD hS TAIL
        · refine lv_tableIn (tgt := 1294) (off := 1255) hx hb dL_law_39 (by decide) (by decide) (by decide) rfl ?_
          exact law_18 l htr F hK hN hX hNc hA hSc hbl hbA hL hR hgo (by omega) (by omega) hl hP hD hS TAIL
        · refine lv_tableIn (tgt := 1319) (off := 1280) hx hb dL_law_39 (by decide) (by decide) (by decide) rfl ?_
          exact law_19 l htr F hK hN hX hNc hA hSc hbl hbA hL hR hgo (by omega) (by omega) hl hP hD hS TAIL
    · skip
      refine lv_icmp_gt (tgt := 1338) hx hb dL_law_29 rfl (fun _ => ?_) (fun h => absurd (lw_end hgo (by omega) hL) h)
      refine lv_iconst (v := 1) hx hb dL_law_1338 (by decide) ?_
      refine W.forget (locs := []) (L := locs) (fun q hq => hAe _ (hS.2.2 q hq)) ?_
      refine W.widen (k := 1069) (n := 9803) (by omega) (by omega) ?_
      exact lw_ret hx hb hr hlk dL_law_1339
set_option maxHeartbeats 4000000 in
set_option maxRecDepth 100000 in
/-- from the entry, for every script of at most 2560 ints, the law comes to its end with true -/
theorem whole_start {p : Program} {e : Env} {s : State} {m : MethodId} {below : List Frame} {meth : Method} {c : Code} (l : Launch) (htr : l.stackTraces = false) {b L : Nat} {xs : Nat → Int32} (hL : L ≤ 2560) (C0 : lw_At p s m meth c b L xs) : W p l e room_1 s m #[Value.ref b] below meth c s.heap [] 0 0 (lw_Z below #[Value.ref b] s) (entryFrame m ([Value.ref b] : List Value).toArray 8) := by
  obtain ⟨hx, hb, hr, hml, hown, hts, hSc, hbl, hlk, hgv⟩ := C0
  have ht := tb_lw hts
  have F : CallFix p m c cL_law 8 s ([.ref b] : List Value).toArray TB RL := ⟨hx, hb, hml, hown, ht⟩
  have hown : s.vm.findClass RL = some m.cls := hown
  obtain ⟨A, hAd⟩ : ∃ A : Nat → Prop, A = fun q => s.heap.size ≤ q := ⟨_, rfl⟩
  have hA : ∀ q : Nat, s.heap.size ≤ q → A q := fun q h => by rw [hAd]; exact h
  have hAe : ∀ q : Nat, A q → s.heap.size ≤ q := fun q h => by rw [hAd] at h; exact h
  have hbA : ¬ A b := fun h => absurd (hAe b h) (by omega)
  obtain ⟨D, ks, hK⟩ := start_K hts
  have hN := start_N hts
  have hNc := start_Nc hgv
  have hX : XW A s := start_X hts hgv hK (fun a h1 h2 => absurd (hAe a h2) (by omega))
  have hO : va_AO "WordShelf$Image" s := va_AO.of (hts (.arrayOver (.object "WordShelf$Image")) (lt_of 77 (by decide +kernel)))
  have hl := lv_entry ([.ref b] : List Value) (n := 8) (Nat.le_of_ble_eq_true rfl)
  rw [lg_entry_eq]
  generalize (lg_sl ([.ref b] : List Value) ++ List.replicate (8 - (lg_sl ([.ref b] : List Value)).length) Slot.unset).toArray = ls at hl ⊢
  have hl : lv_has ls 8 [(0, .ref b)] := hl
  have hP : va_P D vwCl [] s.heap := fun k q hq => by cases hq
  have hD : va_D A [] := ⟨fun i j p q hp => (by cases hp), fun k q hq => (by cases hq)⟩
  have hS : va_S A s.heap s.heap [] := va_S.rf
  refine va_new (ci := 2) (fs := [.null, .null, .null, .null, .null, .int 0, .int 0, .int 0, .int 0]) (C := RS) (T := TS) (N := 9) hx hb ht uw_S ty_S ty_S_ok hown (ht _ tb_13) (ht _ tb_14) (ht _ tb_1) hK hP hD hS hA rfl (fun j hj => by rcases (show j = 0 ∨ j = 1 ∨ j = 2 ∨ j = 3 ∨ j = 4 ∨ j = 5 ∨ j = 6 ∨ j = 7 ∨ j = 8 by omega) with rfl | rfl | rfl | rfl | rfl | rfl | rfl | rfl | rfl <;> rfl) (by decide) (by decide) dL_law_0 (fun n0 H hP hD hS => ?_)
  have hP : va_P D vwCl [(n0, .inr (2, [.null, .null, .null, .null, .null, .int 0, .int 0, .int 0, .int 0]))] H := hP
  have hD : va_D A [(n0, .inr (2, [.null, .null, .null, .null, .null, .int 0, .int 0, .int 0, .int 0]))] := hD
  refine lv_dup hx hb dL_law_3 rfl ?_
  refine gcv (wr := []) [0] [] rfl rfl rfl (by decide) (va_runI (As := []) (rest := [.ref n0]) F (kS_init l D ks n0 H.size ) (cwI 0 ht (tb_code tb_17) rfl rfl rfl (ht _ tb_1) (ht _ tb_15) (ht _ tb_16) rfl ⟨by decide, by decide, by decide +kernel⟩ ⟨by decide, by decide⟩) (preO (preS hK hN hP hD [0] rfl rfl) hO) rfl rfl hl.1 rfl (lv_room (Nat.le_of_ble_eq_true rfl)) dL_law_4 (by decide)) hP hD hS hA (fun u1 H locs q1 hP hD hS => ?_)
  have hP : va_P D vwCl [(u1 0, .inr (2, [.ref (u1 1), .ref (u1 8), .ref (u1 10), .ref (u1 15), .ref (u1 16), .int (cs_dn cs0), .int (cs_tx cs0), .int (cs_sp cs0), .int (cs_sd cs0)])), (u1 1, .inr (1, [.ref (u1 2), .ref (u1 3), .ref (u1 4), .ref (u1 5), .ref (u1 6), .ref (u1 7), .int (am_st (cs_me cs0)), .int (am_fl (cs_me cs0)), .int (am_fe (cs_me cs0)), .int (am_cr (cs_me cs0))])), (u1 2, .inl (ks 0, 112, .inr (.inl (am_va (cs_me cs0))))), (u1 3, .inl (ks 0, 112, .inr (.inl (am_ke (cs_me cs0))))), (u1 4, .inl (ks 0, 112, .inr (.inl (am_lv (cs_me cs0))))), (u1 5, .inl (ks 1, 112, .inl (am_lc (cs_me cs0)))), (u1 6, .inl (ks 2, 14, .inl (am_uf (cs_me cs0)))), (u1 7, .inl (ks 2, 14, .inl (am_fd (cs_me cs0)))), (u1 8, .inr (0, [.ref (u1 9)])), (u1 9, .inl (ks 0, 31, .inr (.inl (cs_im cs0)))), (u1 10, .inl (ks 3, 2, .inr (.inr (.inr (.inr (snA u1)))))), (u1 11, .inr (0, [.ref (u1 12)])), (u1 12, .inl (ks 0, 31, .inr (.inl (cs_s0 cs0)))), (u1 13, .inr (0, [.ref (u1 14)])), (u1 14, .inl (ks 0, 31, .inr (.inl (cs_s1 cs0)))), (u1 15, .inl (ks 2, 2, .inl (cs_tk cs0))), (u1 16, .inl (ks 1, 31, .inl (cs_ch cs0)))] H := hP
  have hD : va_D A [(u1 0, .inr (2, [.ref (u1 1), .ref (u1 8), .ref (u1 10), .ref (u1 15), .ref (u1 16), .int (cs_dn cs0), .int (cs_tx cs0), .int (cs_sp cs0), .int (cs_sd cs0)])), (u1 1, .inr (1, [.ref (u1 2), .ref (u1 3), .ref (u1 4), .ref (u1 5), .ref (u1 6), .ref (u1 7), .int (am_st (cs_me cs0)), .int (am_fl (cs_me cs0)), .int (am_fe (cs_me cs0)), .int (am_cr (cs_me cs0))])), (u1 2, .inl (ks 0, 112, .inr (.inl (am_va (cs_me cs0))))), (u1 3, .inl (ks 0, 112, .inr (.inl (am_ke (cs_me cs0))))), (u1 4, .inl (ks 0, 112, .inr (.inl (am_lv (cs_me cs0))))), (u1 5, .inl (ks 1, 112, .inl (am_lc (cs_me cs0)))), (u1 6, .inl (ks 2, 14, .inl (am_uf (cs_me cs0)))), (u1 7, .inl (ks 2, 14, .inl (am_fd (cs_me cs0)))), (u1 8, .inr (0, [.ref (u1 9)])), (u1 9, .inl (ks 0, 31, .inr (.inl (cs_im cs0)))), (u1 10, .inl (ks 3, 2, .inr (.inr (.inr (.inr (snA u1)))))), (u1 11, .inr (0, [.ref (u1 12)])), (u1 12, .inl (ks 0, 31, .inr (.inl (cs_s0 cs0)))), (u1 13, .inr (0, [.ref (u1 14)])), (u1 14, .inl (ks 0, 31, .inr (.inl (cs_s1 cs0)))), (u1 15, .inl (ks 2, 2, .inl (cs_tk cs0))), (u1 16, .inl (ks 1, 31, .inl (cs_ch cs0)))] := hD
  rw [← q1]
  refine lv_astore_n (lv' := [(1, .ref (u1 0)), (0, .ref b)]) hx hb dL_law_7 rfl hl (by decide) rfl (fun ls hl => ?_)
  refine va_new (ci := 3) (fs := [.int 0, .null, .null, .null, .null, .null, .int 0, .int 0, .null, .int 0, .int 0, .int 0, .int 0, .int 0, .int 0, .int 0, .null, .null, .null, .null, .null]) (C := RR) (T := TR) (N := 21) hx hb ht uw_R ty_R ty_R_ok hown (ht _ tb_533) (ht _ tb_534) (ht _ tb_4) hK hP hD hS hA rfl (fun j hj => by rcases (show j = 0 ∨ j = 1 ∨ j = 2 ∨ j = 3 ∨ j = 4 ∨ j = 5 ∨ j = 6 ∨ j = 7 ∨ j = 8 ∨ j = 9 ∨ j = 10 ∨ j = 11 ∨ j = 12 ∨ j = 13 ∨ j = 14 ∨ j = 15 ∨ j = 16 ∨ j = 17 ∨ j = 18 ∨ j = 19 ∨ j = 20 by omega) with rfl | rfl | rfl | rfl | rfl | rfl | rfl | rfl | rfl | rfl | rfl | rfl | rfl | rfl | rfl | rfl | rfl | rfl | rfl | rfl | rfl <;> rfl) (by decide) (by decide) dL_law_8 (fun n8 H hP hD hS => ?_)
  have hP : va_P D vwCl [(u1 0, .inr (2, [.ref (u1 1), .ref (u1 8), .ref (u1 10), .ref (u1 15), .ref (u1 16), .int (cs_dn cs0), .int (cs_tx cs0), .int (cs_sp cs0), .int (cs_sd cs0)])), (u1 1, .inr (1, [.ref (u1 2), .ref (u1 3), .ref (u1 4), .ref (u1 5), .ref (u1 6), .ref (u1 7), .int (am_st (cs_me cs0)), .int (am_fl (cs_me cs0)), .int (am_fe (cs_me cs0)), .int (am_cr (cs_me cs0))])), (u1 2, .inl (ks 0, 112, .inr (.inl (am_va (cs_me cs0))))), (u1 3, .inl (ks 0, 112, .inr (.inl (am_ke (cs_me cs0))))), (u1 4, .inl (ks 0, 112, .inr (.inl (am_lv (cs_me cs0))))), (u1 5, .inl (ks 1, 112, .inl (am_lc (cs_me cs0)))), (u1 6, .inl (ks 2, 14, .inl (am_uf (cs_me cs0)))), (u1 7, .inl (ks 2, 14, .inl (am_fd (cs_me cs0)))), (u1 8, .inr (0, [.ref (u1 9)])), (u1 9, .inl (ks 0, 31, .inr (.inl (cs_im cs0)))), (u1 10, .inl (ks 3, 2, .inr (.inr (.inr (.inr (snA u1)))))), (u1 11, .inr (0, [.ref (u1 12)])), (u1 12, .inl (ks 0, 31, .inr (.inl (cs_s0 cs0)))), (u1 13, .inr (0, [.ref (u1 14)])), (u1 14, .inl (ks 0, 31, .inr (.inl (cs_s1 cs0)))), (u1 15, .inl (ks 2, 2, .inl (cs_tk cs0))), (u1 16, .inl (ks 1, 31, .inl (cs_ch cs0))), (n8, .inr (3, [.int 0, .null, .null, .null, .null, .null, .int 0, .int 0, .null, .int 0, .int 0, .int 0, .int 0, .int 0, .int 0, .int 0, .null, .null, .null, .null, .null]))] H := hP
  have hD : va_D A [(u1 0, .inr (2, [.ref (u1 1), .ref (u1 8), .ref (u1 10), .ref (u1 15), .ref (u1 16), .int (cs_dn cs0), .int (cs_tx cs0), .int (cs_sp cs0), .int (cs_sd cs0)])), (u1 1, .inr (1, [.ref (u1 2), .ref (u1 3), .ref (u1 4), .ref (u1 5), .ref (u1 6), .ref (u1 7), .int (am_st (cs_me cs0)), .int (am_fl (cs_me cs0)), .int (am_fe (cs_me cs0)), .int (am_cr (cs_me cs0))])), (u1 2, .inl (ks 0, 112, .inr (.inl (am_va (cs_me cs0))))), (u1 3, .inl (ks 0, 112, .inr (.inl (am_ke (cs_me cs0))))), (u1 4, .inl (ks 0, 112, .inr (.inl (am_lv (cs_me cs0))))), (u1 5, .inl (ks 1, 112, .inl (am_lc (cs_me cs0)))), (u1 6, .inl (ks 2, 14, .inl (am_uf (cs_me cs0)))), (u1 7, .inl (ks 2, 14, .inl (am_fd (cs_me cs0)))), (u1 8, .inr (0, [.ref (u1 9)])), (u1 9, .inl (ks 0, 31, .inr (.inl (cs_im cs0)))), (u1 10, .inl (ks 3, 2, .inr (.inr (.inr (.inr (snA u1)))))), (u1 11, .inr (0, [.ref (u1 12)])), (u1 12, .inl (ks 0, 31, .inr (.inl (cs_s0 cs0)))), (u1 13, .inr (0, [.ref (u1 14)])), (u1 14, .inl (ks 0, 31, .inr (.inl (cs_s1 cs0)))), (u1 15, .inl (ks 2, 2, .inl (cs_tk cs0))), (u1 16, .inl (ks 1, 31, .inl (cs_ch cs0))), (n8, .inr (3, [.int 0, .null, .null, .null, .null, .null, .int 0, .int 0, .null, .int 0, .int 0, .int 0, .int 0, .int 0, .int 0, .int 0, .null, .null, .null, .null, .null]))] := hD
  refine lv_dup hx hb dL_law_11 rfl ?_
  refine gcv (wr := [(u1 0, .inr (2, [.ref (u1 1), .ref (u1 8), .ref (u1 10), .ref (u1 15), .ref (u1 16), .int (cs_dn cs0), .int (cs_tx cs0), .int (cs_sp cs0), .int (cs_sd cs0)])), (u1 1, .inr (1, [.ref (u1 2), .ref (u1 3), .ref (u1 4), .ref (u1 5), .ref (u1 6), .ref (u1 7), .int (am_st (cs_me cs0)), .int (am_fl (cs_me cs0)), .int (am_fe (cs_me cs0)), .int (am_cr (cs_me cs0))])), (u1 2, .inl (ks 0, 112, .inr (.inl (am_va (cs_me cs0))))), (u1 3, .inl (ks 0, 112, .inr (.inl (am_ke (cs_me cs0))))), (u1 4, .inl (ks 0, 112, .inr (.inl (am_lv (cs_me cs0))))), (u1 5, .inl (ks 1, 112, .inl (am_lc (cs_me cs0)))), (u1 6, .inl (ks 2, 14, .inl (am_uf (cs_me cs0)))), (u1 7, .inl (ks 2, 14, .inl (am_fd (cs_me cs0)))), (u1 8, .inr (0, [.ref (u1 9)])), (u1 9, .inl (ks 0, 31, .inr (.inl (cs_im cs0)))), (u1 10, .inl (ks 3, 2, .inr (.inr (.inr (.inr (snA u1)))))), (u1 11, .inr (0, [.ref (u1 12)])), (u1 12, .inl (ks 0, 31, .inr (.inl (cs_s0 cs0)))), (u1 13, .inr (0, [.ref (u1 14)])), (u1 14, .inl (ks 0, 31, .inr (.inl (cs_s1 cs0)))), (u1 15, .inl (ks 2, 2, .inl (cs_tk cs0))), (u1 16, .inl (ks 1, 31, .inl (cs_ch cs0)))]) [17] [0, 1, 2, 3, 4, 5, 6, 7, 8, 9, 10, 11, 12, 13, 14, 15, 16] rfl rfl rfl (by decide) (va_runI (As := []) (rest := [.ref n8]) F (kR_init l D ks n8 H.size ) (cwI 0 ht (tb_code tb_537) rfl rfl rfl (ht _ tb_4) (ht _ tb_535) (ht _ tb_536) rfl ⟨by decide, by decide, by decide +kernel⟩ ⟨by decide, by decide⟩) (preS hK hN hP hD [17] rfl rfl) rfl rfl hl.1 rfl (lv_room (Nat.le_of_ble_eq_true rfl)) dL_law_12 (by decide)) hP hD hS hA (fun u2 H locs q2 hP hD hS => ?_)
  have hP : va_P D vwCl [(u1 0, .inr (2, [.ref (u1 1), .ref (u1 8), .ref (u1 10), .ref (u1 15), .ref (u1 16), .int (cs_dn cs0), .int (cs_tx cs0), .int (cs_sp cs0), .int (cs_sd cs0)])), (u1 1, .inr (1, [.ref (u1 2), .ref (u1 3), .ref (u1 4), .ref (u1 5), .ref (u1 6), .ref (u1 7), .int (am_st (cs_me cs0)), .int (am_fl (cs_me cs0)), .int (am_fe (cs_me cs0)), .int (am_cr (cs_me cs0))])), (u1 2, .inl (ks 0, 112, .inr (.inl (am_va (cs_me cs0))))), (u1 3, .inl (ks 0, 112, .inr (.inl (am_ke (cs_me cs0))))), (u1 4, .inl (ks 0, 112, .inr (.inl (am_lv (cs_me cs0))))), (u1 5, .inl (ks 1, 112, .inl (am_lc (cs_me cs0)))), (u1 6, .inl (ks 2, 14, .inl (am_uf (cs_me cs0)))), (u1 7, .inl (ks 2, 14, .inl (am_fd (cs_me cs0)))), (u1 8, .inr (0, [.ref (u1 9)])), (u1 9, .inl (ks 0, 31, .inr (.inl (cs_im cs0)))), (u1 10, .inl (ks 3, 2, .inr (.inr (.inr (.inr (snA u1)))))), (u1 11, .inr (0, [.ref (u1 12)])), (u1 12, .inl (ks 0, 31, .inr (.inl (cs_s0 cs0)))), (u1 13, .inr (0, [.ref (u1 14)])), (u1 14, .inl (ks 0, 31, .inr (.inl (cs_s1 cs0)))), (u1 15, .inl (ks 2, 2, .inl (cs_tk cs0))), (u1 16, .inl (ks 1, 31, .inl (cs_ch cs0))), (u2 0, .inr (3, [.int (rs_th ms0), .ref (u2 1), .ref (u2 2), .ref (u2 3), .ref (u2 4), .ref (u2 5), .int (rs_dn ms0), .int (rs_wi ms0), .ref (u2 6), .int (rs_st ms0), .int (rs_fl ms0), .int (rs_fe ms0), .int (rs_cr ms0), .int (rs_sp ms0), .int (rs_sd ms0), .int (rs_so ms0), .ref (u2 7), .ref (u2 8), .ref (u2 9), .ref (u2 10), .ref (u2 11)])), (u2 1, .inl (ks 0, 112, .inr (.inl (rs_va ms0)))), (u2 2, .inl (ks 0, 112, .inr (.inl (rs_ke ms0)))), (u2 3, .inl (ks 0, 448, .inr (.inl (rs_lo ms0)))), (u2 4, .inl (ks 1, 112, .inl (rs_ls ms0))), (u2 5, .inl (ks 2, 14, .inl (rs_fd ms0))), (u2 6, .inl (ks 0, 31, .inr (.inl (rs_wk ms0)))), (u2 7, .inl (ks 2, 2, .inl (rs_tk ms0))), (u2 8, .inl (ks 0, 8, .inr (.inl (rs_co ms0)))), (u2 9, .inl (ks 1, 2, .inl (rs_pr ms0))), (u2 10, .inl (ks 0, 16, .inr (.inl (rs_ky ms0)))), (u2 11, .inl (ks 0, 16, .inr (.inl (rs_nu ms0))))] H := hP
  have hD : va_D A [(u1 0, .inr (2, [.ref (u1 1), .ref (u1 8), .ref (u1 10), .ref (u1 15), .ref (u1 16), .int (cs_dn cs0), .int (cs_tx cs0), .int (cs_sp cs0), .int (cs_sd cs0)])), (u1 1, .inr (1, [.ref (u1 2), .ref (u1 3), .ref (u1 4), .ref (u1 5), .ref (u1 6), .ref (u1 7), .int (am_st (cs_me cs0)), .int (am_fl (cs_me cs0)), .int (am_fe (cs_me cs0)), .int (am_cr (cs_me cs0))])), (u1 2, .inl (ks 0, 112, .inr (.inl (am_va (cs_me cs0))))), (u1 3, .inl (ks 0, 112, .inr (.inl (am_ke (cs_me cs0))))), (u1 4, .inl (ks 0, 112, .inr (.inl (am_lv (cs_me cs0))))), (u1 5, .inl (ks 1, 112, .inl (am_lc (cs_me cs0)))), (u1 6, .inl (ks 2, 14, .inl (am_uf (cs_me cs0)))), (u1 7, .inl (ks 2, 14, .inl (am_fd (cs_me cs0)))), (u1 8, .inr (0, [.ref (u1 9)])), (u1 9, .inl (ks 0, 31, .inr (.inl (cs_im cs0)))), (u1 10, .inl (ks 3, 2, .inr (.inr (.inr (.inr (snA u1)))))), (u1 11, .inr (0, [.ref (u1 12)])), (u1 12, .inl (ks 0, 31, .inr (.inl (cs_s0 cs0)))), (u1 13, .inr (0, [.ref (u1 14)])), (u1 14, .inl (ks 0, 31, .inr (.inl (cs_s1 cs0)))), (u1 15, .inl (ks 2, 2, .inl (cs_tk cs0))), (u1 16, .inl (ks 1, 31, .inl (cs_ch cs0))), (u2 0, .inr (3, [.int (rs_th ms0), .ref (u2 1), .ref (u2 2), .ref (u2 3), .ref (u2 4), .ref (u2 5), .int (rs_dn ms0), .int (rs_wi ms0), .ref (u2 6), .int (rs_st ms0), .int (rs_fl ms0), .int (rs_fe ms0), .int (rs_cr ms0), .int (rs_sp ms0), .int (rs_sd ms0), .int (rs_so ms0), .ref (u2 7), .ref (u2 8), .ref (u2 9), .ref (u2 10), .ref (u2 11)])), (u2 1, .inl (ks 0, 112, .inr (.inl (rs_va ms0)))), (u2 2, .inl (ks 0, 112, .inr (.inl (rs_ke ms0)))), (u2 3, .inl (ks 0, 448, .inr (.inl (rs_lo ms0)))), (u2 4, .inl (ks 1, 112, .inl (rs_ls ms0))), (u2 5, .inl (ks 2, 14, .inl (rs_fd ms0))), (u2 6, .inl (ks 0, 31, .inr (.inl (rs_wk ms0)))), (u2 7, .inl (ks 2, 2, .inl (rs_tk ms0))), (u2 8, .inl (ks 0, 8, .inr (.inl (rs_co ms0)))), (u2 9, .inl (ks 1, 2, .inl (rs_pr ms0))), (u2 10, .inl (ks 0, 16, .inr (.inl (rs_ky ms0)))), (u2 11, .inl (ks 0, 16, .inr (.inl (rs_nu ms0))))] := hD
  rw [← q2]
  refine lv_astore_n (lv' := [(2, .ref (u2 0)), (1, .ref (u1 0)), (0, .ref b)]) hx hb dL_law_15 rfl hl (by decide) rfl (fun ls hl => ?_)
  refine lv_iconst (v := nI 1) hx hb dL_law_16 (by decide) ?_
  refine na_l (N := 1) hx hb (ht _ tb_63) hK hP hD hS hA rfl (by decide) (by decide) (by decide) (by decide) dL_law_17 (fun n17 H hP hD hS => ?_)
  have hP : va_P D vwCl [(u1 0, .inr (2, [.ref (u1 1), .ref (u1 8), .ref (u1 10), .ref (u1 15), .ref (u1 16), .int (cs_dn cs0), .int (cs_tx cs0), .int (cs_sp cs0), .int (cs_sd cs0)])), (u1 1, .inr (1, [.ref (u1 2), .ref (u1 3), .ref (u1 4), .ref (u1 5), .ref (u1 6), .ref (u1 7), .int (am_st (cs_me cs0)), .int (am_fl (cs_me cs0)), .int (am_fe (cs_me cs0)), .int (am_cr (cs_me cs0))])), (u1 2, .inl (ks 0, 112, .inr (.inl (am_va (cs_me cs0))))), (u1 3, .inl (ks 0, 112, .inr (.inl (am_ke (cs_me cs0))))), (u1 4, .inl (ks 0, 112, .inr (.inl (am_lv (cs_me cs0))))), (u1 5, .inl (ks 1, 112, .inl (am_lc (cs_me cs0)))), (u1 6, .inl (ks 2, 14, .inl (am_uf (cs_me cs0)))), (u1 7, .inl (ks 2, 14, .inl (am_fd (cs_me cs0)))), (u1 8, .inr (0, [.ref (u1 9)])), (u1 9, .inl (ks 0, 31, .inr (.inl (cs_im cs0)))), (u1 10, .inl (ks 3, 2, .inr (.inr (.inr (.inr (snA u1)))))), (u1 11, .inr (0, [.ref (u1 12)])), (u1 12, .inl (ks 0, 31, .inr (.inl (cs_s0 cs0)))), (u1 13, .inr (0, [.ref (u1 14)])), (u1 14, .inl (ks 0, 31, .inr (.inl (cs_s1 cs0)))), (u1 15, .inl (ks 2, 2, .inl (cs_tk cs0))), (u1 16, .inl (ks 1, 31, .inl (cs_ch cs0))), (u2 0, .inr (3, [.int (rs_th ms0), .ref (u2 1), .ref (u2 2), .ref (u2 3), .ref (u2 4), .ref (u2 5), .int (rs_dn ms0), .int (rs_wi ms0), .ref (u2 6), .int (rs_st ms0), .int (rs_fl ms0), .int (rs_fe ms0), .int (rs_cr ms0), .int (rs_sp ms0), .int (rs_sd ms0), .int (rs_so ms0), .ref (u2 7), .ref (u2 8), .ref (u2 9), .ref (u2 10), .ref (u2 11)])), (u2 1, .inl (ks 0, 112, .inr (.inl (rs_va ms0)))), (u2 2, .inl (ks 0, 112, .inr (.inl (rs_ke ms0)))), (u2 3, .inl (ks 0, 448, .inr (.inl (rs_lo ms0)))), (u2 4, .inl (ks 1, 112, .inl (rs_ls ms0))), (u2 5, .inl (ks 2, 14, .inl (rs_fd ms0))), (u2 6, .inl (ks 0, 31, .inr (.inl (rs_wk ms0)))), (u2 7, .inl (ks 2, 2, .inl (rs_tk ms0))), (u2 8, .inl (ks 0, 8, .inr (.inl (rs_co ms0)))), (u2 9, .inl (ks 1, 2, .inl (rs_pr ms0))), (u2 10, .inl (ks 0, 16, .inr (.inl (rs_ky ms0)))), (u2 11, .inl (ks 0, 16, .inr (.inl (rs_nu ms0)))), (n17, .inl (ks 0, 1, .inr (.inl (fun _ => 0))))] H := hP
  have hD : va_D A [(u1 0, .inr (2, [.ref (u1 1), .ref (u1 8), .ref (u1 10), .ref (u1 15), .ref (u1 16), .int (cs_dn cs0), .int (cs_tx cs0), .int (cs_sp cs0), .int (cs_sd cs0)])), (u1 1, .inr (1, [.ref (u1 2), .ref (u1 3), .ref (u1 4), .ref (u1 5), .ref (u1 6), .ref (u1 7), .int (am_st (cs_me cs0)), .int (am_fl (cs_me cs0)), .int (am_fe (cs_me cs0)), .int (am_cr (cs_me cs0))])), (u1 2, .inl (ks 0, 112, .inr (.inl (am_va (cs_me cs0))))), (u1 3, .inl (ks 0, 112, .inr (.inl (am_ke (cs_me cs0))))), (u1 4, .inl (ks 0, 112, .inr (.inl (am_lv (cs_me cs0))))), (u1 5, .inl (ks 1, 112, .inl (am_lc (cs_me cs0)))), (u1 6, .inl (ks 2, 14, .inl (am_uf (cs_me cs0)))), (u1 7, .inl (ks 2, 14, .inl (am_fd (cs_me cs0)))), (u1 8, .inr (0, [.ref (u1 9)])), (u1 9, .inl (ks 0, 31, .inr (.inl (cs_im cs0)))), (u1 10, .inl (ks 3, 2, .inr (.inr (.inr (.inr (snA u1)))))), (u1 11, .inr (0, [.ref (u1 12)])), (u1 12, .inl (ks 0, 31, .inr (.inl (cs_s0 cs0)))), (u1 13, .inr (0, [.ref (u1 14)])), (u1 14, .inl (ks 0, 31, .inr (.inl (cs_s1 cs0)))), (u1 15, .inl (ks 2, 2, .inl (cs_tk cs0))), (u1 16, .inl (ks 1, 31, .inl (cs_ch cs0))), (u2 0, .inr (3, [.int (rs_th ms0), .ref (u2 1), .ref (u2 2), .ref (u2 3), .ref (u2 4), .ref (u2 5), .int (rs_dn ms0), .int (rs_wi ms0), .ref (u2 6), .int (rs_st ms0), .int (rs_fl ms0), .int (rs_fe ms0), .int (rs_cr ms0), .int (rs_sp ms0), .int (rs_sd ms0), .int (rs_so ms0), .ref (u2 7), .ref (u2 8), .ref (u2 9), .ref (u2 10), .ref (u2 11)])), (u2 1, .inl (ks 0, 112, .inr (.inl (rs_va ms0)))), (u2 2, .inl (ks 0, 112, .inr (.inl (rs_ke ms0)))), (u2 3, .inl (ks 0, 448, .inr (.inl (rs_lo ms0)))), (u2 4, .inl (ks 1, 112, .inl (rs_ls ms0))), (u2 5, .inl (ks 2, 14, .inl (rs_fd ms0))), (u2 6, .inl (ks 0, 31, .inr (.inl (rs_wk ms0)))), (u2 7, .inl (ks 2, 2, .inl (rs_tk ms0))), (u2 8, .inl (ks 0, 8, .inr (.inl (rs_co ms0)))), (u2 9, .inl (ks 1, 2, .inl (rs_pr ms0))), (u2 10, .inl (ks 0, 16, .inr (.inl (rs_ky ms0)))), (u2 11, .inl (ks 0, 16, .inr (.inl (rs_nu ms0)))), (n17, .inl (ks 0, 1, .inr (.inl (fun _ => 0))))] := hD
  refine lv_astore_n (lv' := [(3, .ref n17), (2, .ref (u2 0)), (1, .ref (u1 0)), (0, .ref b)]) hx hb dL_law_19 rfl hl (by decide) rfl (fun ls hl => ?_)
  refine lv_iconst (v := nI 0) hx hb dL_law_20 (by decide) ?_
  refine lv_istore (lv' := [(4, .int (nI 0)), (3, .ref n17), (2, .ref (u2 0)), (1, .ref (u1 0)), (0, .ref b)]) hx hb dL_law_21 hl (by decide) rfl (fun ls hl => ?_)
  have hP : va_P D vwCl (wLaw ks u1 u2 n17 cs0 ms0 (fun _ => 0)) H := hP.sub [0, 1, 2, 3, 4, 5, 6, 7, 8, 9, 10, 11, 12, 13, 14, 15, 16, 29, 17, 18, 19, 20, 21, 22, 23, 24, 25, 26, 27, 28] rfl
  have hD : va_D A (wLaw ks u1 u2 n17 cs0 ms0 (fun _ => 0)) := hD.sub [0, 1, 2, 3, 4, 5, 6, 7, 8, 9, 10, 11, 12, 13, 14, 15, 16, 29, 17, 18, 19, 20, 21, 22, 23, 24, 25, 26, 27, 28] rfl rfl
  exact law_loop l htr F hr hlk hK hN hX hNc hA hAe hSc hbl hbA hL 513 0 rfl cs0 ms0 (fun _ => 0) H _ ls rel_0 (lv_sub hl [0, 1, 2, 3, 4] rfl) hP hD hS
