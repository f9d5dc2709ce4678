def bI (q : Prop) [Decidable q] : Int32 := if q then 1 else 0
set_option maxHeartbeats 4000000 in
set_option maxRecDepth 100000 in
theorem kS_isWithin (l : Launch) (D : va_G) (ks : Nat → ClassId) (n : Int64) (mo : Int32) (sz : Nat)  : Met l yS_isWithin (.code yS_isWithin cS_isWithin 3 (some .boolean) :: TB) ({ frames := 0, cells := 0, slots := 0, locals := 0 } : Room) (Pcw D ks [.long n, .int mo] sz []) (va_Qi (S := Unit) (fun r _ => r = bI (0 ≤ n ∧ n ≤ mo.toInt64)) (fun u t => Bw D ks (va_A [] sz) ((fun _ => ([] : va_W)) u) t) (va_A [] sz)) 0 0 (va_A [] sz) := by
  refine bodyI (S := Unit) (wN := (fun _ => ([] : va_W))) (post := (fun r _ => r = bI (0 ≤ n ∧ n ≤ mo.toInt64))) (by decide) (Nat.le_of_ble_eq_true rfl) (fun p e s m below meth c A ls F hr hlk hK hN hA hsz hP hD hS hl => ?_)
  obtain ⟨hx, hb, hml, hown, ht⟩ := F
  have hown : s.vm.findClass RS = some m.cls := hown
  have F : CallFix p m c cS_isWithin 3 s ([.long n, .int mo] : List Value).toArray TB RS := ⟨hx, hb, hml, hown, ht⟩
  have hl : lv_has ls 3 [(0, .long n), (2, .int mo)] := hl
  refine lv_lload_n hx hb dS_isWithin_0 rfl (lv_at hl 0 rfl) ?_
  refine lv_lconst (v := 0) hx hb dS_isWithin_1 (by decide) ?_
  refine W.lcmp hx hb dS_isWithin_2 ?_
  refine lv_if_lt (tgt := 17) hx hb dS_isWithin_3 rfl (fun h1 => ?_) (fun h2 => ?_)
  · skip
    refine lv_iconst (v := 0) hx hb dS_isWithin_17 (by decide) ?_
    exact endZ hx hb hr hlk hK (by decide) () (by rw [lg_cmp_lt] at h1; unfold bI; rw [if_neg (fun z => absurd z.1 (Int64.not_le.mpr h1))]) hP hD hS dS_isWithin_18
  · skip
    refine lv_lload_n hx hb dS_isWithin_6 rfl (lv_at hl 0 rfl) ?_
    refine lv_iload_n hx hb dS_isWithin_7 rfl (lv_at hl 1 rfl) ?_
    refine lv_i2l (v := mo.toInt64) hx hb dS_isWithin_8 rfl ?_
    refine W.lcmp hx hb dS_isWithin_9 ?_
    refine lv_if_gt (tgt := 17) hx hb dS_isWithin_10 rfl (fun h3 => ?_) (fun h4 => ?_)
    · skip
      refine lv_iconst (v := 0) hx hb dS_isWithin_17 (by decide) ?_
      exact endZ hx hb hr hlk hK (by decide) () (by rw [lg_cmp_gt] at h3; unfold bI; rw [if_neg (fun z => absurd z.2 (Int64.not_le.mpr h3))]) hP hD hS dS_isWithin_18
    · skip
      refine lv_iconst (v := 1) hx hb dS_isWithin_13 (by decide) ?_
      refine lv_goto (tgt := 18) hx hb dS_isWithin_14 rfl ?_
      exact endZ hx hb hr hlk hK (by decide) () (by rw [lg_cmp_lt, Int64.not_lt] at h2; rw [lg_cmp_gt, Int64.not_lt] at h4; unfold bI; rw [if_pos ⟨h2, h4⟩]) hP hD hS dS_isWithin_18

theorem bI_or (q : Prop) [Decidable q] : bI q = 0 ∨ bI q = 1 := by unfold bI; split <;> simp
theorem bI_b (q : Prop) [Decidable q] : narrow .boolean (.int (bI q)) = .int (bI q) := by unfold bI; split <;> decide
theorem bI_t {q : Prop} [Decidable q] (h : q) : bI q = 1 := if_pos h
theorem bI_f {q : Prop} [Decidable q] (h : ¬ q) : bI q = 0 := if_neg h
set_option maxHeartbeats 4000000 in
set_option maxRecDepth 100000 in
theorem kS_isWord (l : Launch) (D : va_G) (ks : Nat → ClassId) (n : Int64) (sz : Nat)  : Met l yS_isWord (.code yS_isWord cS_isWord 2 (some .boolean) :: TB) ({ frames := 1, cells := 0, slots := 0, locals := 22 } : Room) (Pcw D ks [.long n] sz []) (va_Qi (S := Unit) (fun r _ => r = bI (0 ≤ n ∧ n ≤ 111)) (fun u t => Bw D ks (va_A [] sz) ((fun _ => ([] : va_W)) u) t) (va_A [] sz)) 0 0 (va_A [] sz) := by
  refine bodyI (S := Unit) (wN := (fun _ => ([] : va_W))) (post := (fun r _ => r = bI (0 ≤ n ∧ n ≤ 111))) (by decide) (Nat.le_of_ble_eq_true rfl) (fun p e s m below meth c A ls F hr hlk hK hN hA hsz hP hD hS hl => ?_)
  obtain ⟨hx, hb, hml, hown, ht⟩ := F
  have hown : s.vm.findClass RS = some m.cls := hown
  have F : CallFix p m c cS_isWord 2 s ([.long n] : List Value).toArray TB RS := ⟨hx, hb, hml, hown, ht⟩
  have hl : lv_has ls 2 [(0, .long n)] := hl
  refine lv_lload_n hx hb dS_isWord_0 rfl (lv_at hl 0 rfl) ?_
  refine lv_bipush (v := nI 111) hx hb dS_isWord_1 (by decide) ?_
  refine gpi (va_runS (As := [.long n, .int (nI 111)]) (rest := []) F (kS_isWithin l D ks n (nI 111) s.heap.size ) (va_cwS 2 ht (tb_st tb_117 tb_118 tb_1 tb_119) rfl rfl rfl ⟨by decide, by decide, by decide +kernel⟩ ⟨by decide, by decide⟩) (preS hK hN hP hD [] rfl rfl) rfl rfl hl.1 rfl (lv_room (Nat.le_of_ble_eq_true rfl)) dS_isWord_3 (by decide)) hP hD hS hA (fun r1 H locs q1 hP hS => ?_)
  exact endZ hx hb hr hlk hK (by rw [q1]; exact bI_b _) () q1 hP hD hS dS_isWord_6

theorem lN_iff {n : Nat} (h : n < 2 ^ 31) (k : Nat) (hk : k < 2 ^ 31) : (0 ≤ (nI n).toInt64 ∧ (nI n).toInt64 ≤ (nI k).toInt64) ↔ n ≤ k := by
  rw [nI_l h, nI_l hk]
  refine ⟨fun z => (lN_le h hk).mp z.2, fun z => ⟨?_, (lN_le h hk).mpr z⟩⟩
  exact (lN_le (a := 0) (by omega) h).mpr (Nat.zero_le _)
