/-- the memory's cells -/
abbrev wM (ks : Nat → ClassId) (ad : Nat → Nat) (mm : AM) : va_W := [(ad 1, .inr (1, [.ref (ad 2), .ref (ad 3), .ref (ad 4), .ref (ad 5), .ref (ad 6), .ref (ad 7), .int (am_st mm), .int (am_fl mm), .int (am_fe mm), .int (am_cr mm)])), (ad 2, .inl (ks 0, 112, .inr (.inl (am_va mm)))), (ad 3, .inl (ks 0, 112, .inr (.inl (am_ke mm)))), (ad 4, .inl (ks 0, 112, .inr (.inl (am_lv mm)))), (ad 5, .inl (ks 1, 112, .inl (am_lc mm))), (ad 6, .inl (ks 2, 14, .inl (am_uf mm))), (ad 7, .inl (ks 2, 14, .inl (am_fd mm)))]
set_option maxHeartbeats 4000000 in
set_option maxRecDepth 100000 in
theorem kM_valueAt (l : Launch) (D : va_G) (ks : Nat → ClassId) (ad : Nat → Nat) (mm : AM) (w : Nat) (sz : Nat) (hw : w < 112) : Met l yM_valueAt (.code yM_valueAt cM_valueAt 2 (some .long) :: TB) ({ frames := 2, cells := 0, slots := 0, locals := 43 } : Room) (Pcw D ks [.ref (ad 1), .int (nI w)] sz [(ad 1, .inr (1, [.ref (ad 2), .ref (ad 3), .ref (ad 4), .ref (ad 5), .ref (ad 6), .ref (ad 7), .int (am_st mm), .int (am_fl mm), .int (am_fe mm), .int (am_cr mm)])), (ad 2, .inl (ks 0, 112, .inr (.inl (am_va mm)))), (ad 3, .inl (ks 0, 112, .inr (.inl (am_ke mm)))), (ad 4, .inl (ks 0, 112, .inr (.inl (am_lv mm)))), (ad 5, .inl (ks 1, 112, .inl (am_lc mm))), (ad 6, .inl (ks 2, 14, .inl (am_uf mm))), (ad 7, .inl (ks 2, 14, .inl (am_fd mm)))]) (va_Ql (S := Unit) (fun r _ => r = am_va mm w) (fun u t => Bw D ks (va_A [(ad 1, .inr (1, [.ref (ad 2), .ref (ad 3), .ref (ad 4), .ref (ad 5), .ref (ad 6), .ref (ad 7), .int (am_st mm), .int (am_fl mm), .int (am_fe mm), .int (am_cr mm)])), (ad 2, .inl (ks 0, 112, .inr (.inl (am_va mm)))), (ad 3, .inl (ks 0, 112, .inr (.inl (am_ke mm)))), (ad 4, .inl (ks 0, 112, .inr (.inl (am_lv mm)))), (ad 5, .inl (ks 1, 112, .inl (am_lc mm))), (ad 6, .inl (ks 2, 14, .inl (am_uf mm))), (ad 7, .inl (ks 2, 14, .inl (am_fd mm)))] sz) ((fun _ => wM ks ad mm) u) t) (va_A [(ad 1, .inr (1, [.ref (ad 2), .ref (ad 3), .ref (ad 4), .ref (ad 5), .ref (ad 6), .ref (ad 7), .int (am_st mm), .int (am_fl mm), .int (am_fe mm), .int (am_cr mm)])), (ad 2, .inl (ks 0, 112, .inr (.inl (am_va mm)))), (ad 3, .inl (ks 0, 112, .inr (.inl (am_ke mm)))), (ad 4, .inl (ks 0, 112, .inr (.inl (am_lv mm)))), (ad 5, .inl (ks 1, 112, .inl (am_lc mm))), (ad 6, .inl (ks 2, 14, .inl (am_uf mm))), (ad 7, .inl (ks 2, 14, .inl (am_fd mm)))] sz)) 0 0 (va_A [(ad 1, .inr (1, [.ref (ad 2), .ref (ad 3), .ref (ad 4), .ref (ad 5), .ref (ad 6), .ref (ad 7), .int (am_st mm), .int (am_fl mm), .int (am_fe mm), .int (am_cr mm)])), (ad 2, .inl (ks 0, 112, .inr (.inl (am_va mm)))), (ad 3, .inl (ks 0, 112, .inr (.inl (am_ke mm)))), (ad 4, .inl (ks 0, 112, .inr (.inl (am_lv mm)))), (ad 5, .inl (ks 1, 112, .inl (am_lc mm))), (ad 6, .inl (ks 2, 14, .inl (am_uf mm))), (ad 7, .inl (ks 2, 14, .inl (am_fd mm)))] sz) := by
  refine bodyL (S := Unit) (wN := (fun _ => wM ks ad mm)) (post := (fun r _ => r = am_va mm w)) (by decide) (Nat.le_of_ble_eq_true rfl) (fun p e s m below meth c A ls F hr hlk hK hN hA hsz hP hD hS hl => ?_)
  obtain ⟨hx, hb, hml, hown, ht⟩ := F
  have hown : s.vm.findClass RM = some m.cls := hown
  have F : CallFix p m c cM_valueAt 2 s ([.ref (ad 1), .int (nI w)] : List Value).toArray TB RM := ⟨hx, hb, hml, hown, ht⟩
  have hl : lv_has ls 2 [(0, .ref (ad 1)), (1, .int (nI w))] := hl
  refine lv_iload_n hx hb dM_valueAt_0 rfl (lv_at hl 1 rfl) ?_
  refine lv_i2l (v := (nI w).toInt64) hx hb dM_valueAt_1 rfl ?_
  refine gpi (va_runSN (As := [.long (nI w).toInt64]) (rest := []) F (kS_isWord l D ks ((nI w).toInt64) s.heap.size ) ⟨va_cnB (host := RS) 1 ht (tb_code tb_116) rfl rfl rfl (hN _ nb_124) (ht _ tb_1) ⟨by decide, by decide, by decide +kernel⟩ ⟨by decide, by decide⟩, ht _ tb_115, trivial⟩ (preS hK hN hP hD [] rfl rfl) rfl rfl hl.1 rfl (lv_room (Nat.le_of_ble_eq_true rfl)) dM_valueAt_2 (by decide)) hP hD hS hA (fun r1 H locs q1 hP hS => ?_)
  have q1 : r1 = 1 := by rw [q1]; exact bI_t ((lN_iff (n := w) (by omega) 111 (by omega)).mpr (by omega))
  refine lv_if_eq (tgt := 17) hx hb dM_valueAt_5 rfl (fun h => absurd h (by rw [q1]; decide)) (fun _ => ?_)
  refine lv_aload_n hx hb dM_valueAt_8 rfl (lv_at hl 0 rfl) ?_
  refine va_get (D := D) (ci := 1) (v := .ref (ad 2)) (C := RM) (T := TM) (N := 10) hx hb ht uw_M hown hK hP 0 rfl rfl 0 (by decide) (ht _ tb_27) (fun _ h => h) rfl dM_valueAt_9 ?_
  refine lv_iload_n hx hb dM_valueAt_12 rfl (lv_at hl 1 rfl) ?_
  refine ra_l hx hb hK hP 1 rfl w hw (by decide) rfl dM_valueAt_13 ?_
  refine lv_goto (tgt := 18) hx hb dM_valueAt_14 rfl ?_
  exact endL hx hb hr hlk hK () rfl hP hD hS dM_valueAt_18

set_option maxHeartbeats 4000000 in
set_option maxRecDepth 100000 in
theorem kM_keptAt (l : Launch) (D : va_G) (ks : Nat → ClassId) (ad : Nat → Nat) (mm : AM) (w : Nat) (sz : Nat) (hw : w < 112) : Met l yM_keptAt (.code yM_keptAt cM_keptAt 2 (some .long) :: TB) ({ frames := 2, cells := 0, slots := 0, locals := 43 } : Room) (Pcw D ks [.ref (ad 1), .int (nI w)] sz [(ad 1, .inr (1, [.ref (ad 2), .ref (ad 3), .ref (ad 4), .ref (ad 5), .ref (ad 6), .ref (ad 7), .int (am_st mm), .int (am_fl mm), .int (am_fe mm), .int (am_cr mm)])), (ad 2, .inl (ks 0, 112, .inr (.inl (am_va mm)))), (ad 3, .inl (ks 0, 112, .inr (.inl (am_ke mm)))), (ad 4, .inl (ks 0, 112, .inr (.inl (am_lv mm)))), (ad 5, .inl (ks 1, 112, .inl (am_lc mm))), (ad 6, .inl (ks 2, 14, .inl (am_uf mm))), (ad 7, .inl (ks 2, 14, .inl (am_fd mm)))]) (va_Ql (S := Unit) (fun r _ => r = am_ke mm w) (fun u t => Bw D ks (va_A [(ad 1, .inr (1, [.ref (ad 2), .ref (ad 3), .ref (ad 4), .ref (ad 5), .ref (ad 6), .ref (ad 7), .int (am_st mm), .int (am_fl mm), .int (am_fe mm), .int (am_cr mm)])), (ad 2, .inl (ks 0, 112, .inr (.inl (am_va mm)))), (ad 3, .inl (ks 0, 112, .inr (.inl (am_ke mm)))), (ad 4, .inl (ks 0, 112, .inr (.inl (am_lv mm)))), (ad 5, .inl (ks 1, 112, .inl (am_lc mm))), (ad 6, .inl (ks 2, 14, .inl (am_uf mm))), (ad 7, .inl (ks 2, 14, .inl (am_fd mm)))] sz) ((fun _ => wM ks ad mm) u) t) (va_A [(ad 1, .inr (1, [.ref (ad 2), .ref (ad 3), .ref (ad 4), .ref (ad 5), .ref (ad 6), .ref (ad 7), .int (am_st mm), .int (am_fl mm), .int (am_fe mm), .int (am_cr mm)])), (ad 2, .inl (ks 0, 112, .inr (.inl (am_va mm)))), (ad 3, .inl (ks 0, 112, .inr (.inl (am_ke mm)))), (ad 4, .inl (ks 0, 112, .inr (.inl (am_lv mm)))), (ad 5, .inl (ks 1, 112, .inl (am_lc mm))), (ad 6, .inl (ks 2, 14, .inl (am_uf mm))), (ad 7, .inl (ks 2, 14, .inl (am_fd mm)))] sz)) 0 0 (va_A [(ad 1, .inr (1, [.ref (ad 2), .ref (ad 3), .ref (ad 4), .ref (ad 5), .ref (ad 6), .ref (ad 7), .int (am_st mm), .int (am_fl mm), .int (am_fe mm), .int (am_cr mm)])), (ad 2, .inl (ks 0, 112, .inr (.inl (am_va mm)))), (ad 3, .inl (ks 0, 112, .inr (.inl (am_ke mm)))), (ad 4, .inl (ks 0, 112, .inr (.inl (am_lv mm)))), (ad 5, .inl (ks 1, 112, .inl (am_lc mm))), (ad 6, .inl (ks 2, 14, .inl (am_uf mm))), (ad 7, .inl (ks 2, 14, .inl (am_fd mm)))] sz) := by
  refine bodyL (S := Unit) (wN := (fun _ => wM ks ad mm)) (post := (fun r _ => r = am_ke mm w)) (by decide) (Nat.le_of_ble_eq_true rfl) (fun p e s m below meth c A ls F hr hlk hK hN hA hsz hP hD hS hl => ?_)
  obtain ⟨hx, hb, hml, hown, ht⟩ := F
  have hown : s.vm.findClass RM = some m.cls := hown
  have F : CallFix p m c cM_keptAt 2 s ([.ref (ad 1), .int (nI w)] : List Value).toArray TB RM := ⟨hx, hb, hml, hown, ht⟩
  have hl : lv_has ls 2 [(0, .ref (ad 1)), (1, .int (nI w))] := hl
  refine lv_iload_n hx hb dM_keptAt_0 rfl (lv_at hl 1 rfl) ?_
  refine lv_i2l (v := (nI w).toInt64) hx hb dM_keptAt_1 rfl ?_
  refine gpi (va_runSN (As := [.long (nI w).toInt64]) (rest := []) F (kS_isWord l D ks ((nI w).toInt64) s.heap.size ) ⟨va_cnB (host := RS) 1 ht (tb_code tb_116) rfl rfl rfl (hN _ nb_124) (ht _ tb_1) ⟨by decide, by decide, by decide +kernel⟩ ⟨by decide, by decide⟩, ht _ tb_115, trivial⟩ (preS hK hN hP hD [] rfl rfl) rfl rfl hl.1 rfl (lv_room (Nat.le_of_ble_eq_true rfl)) dM_keptAt_2 (by decide)) hP hD hS hA (fun r1 H locs q1 hP hS => ?_)
  have q1 : r1 = 1 := by rw [q1]; exact bI_t ((lN_iff (n := w) (by omega) 111 (by omega)).mpr (by omega))
  refine lv_if_eq (tgt := 17) hx hb dM_keptAt_5 rfl (fun h => absurd h (by rw [q1]; decide)) (fun _ => ?_)
  refine lv_aload_n hx hb dM_keptAt_8 rfl (lv_at hl 0 rfl) ?_
  refine va_get (D := D) (ci := 1) (v := .ref (ad 3)) (C := RM) (T := TM) (N := 10) hx hb ht uw_M hown hK hP 0 rfl rfl 1 (by decide) (ht _ tb_29) (fun _ h => h) rfl dM_keptAt_9 ?_
  refine lv_iload_n hx hb dM_keptAt_12 rfl (lv_at hl 1 rfl) ?_
  refine ra_l hx hb hK hP 2 rfl w hw (by decide) rfl dM_keptAt_13 ?_
  refine lv_goto (tgt := 18) hx hb dM_keptAt_14 rfl ?_
  exact endL hx hb hr hlk hK () rfl hP hD hS dM_keptAt_18

set_option maxHeartbeats 4000000 in
set_option maxRecDepth 100000 in
theorem kM_looseCountAt (l : Launch) (D : va_G) (ks : Nat → ClassId) (ad : Nat → Nat) (mm : AM) (w : Nat) (sz : Nat) (hw : w < 112) : Met l yM_looseCountAt (.code yM_looseCountAt cM_looseCountAt 2 (some .int) :: TB) ({ frames := 2, cells := 0, slots := 0, locals := 43 } : Room) (Pcw D ks [.ref (ad 1), .int (nI w)] sz [(ad 1, .inr (1, [.ref (ad 2), .ref (ad 3), .ref (ad 4), .ref (ad 5), .ref (ad 6), .ref (ad 7), .int (am_st mm), .int (am_fl mm), .int (am_fe mm), .int (am_cr mm)])), (ad 2, .inl (ks 0, 112, .inr (.inl (am_va mm)))), (ad 3, .inl (ks 0, 112, .inr (.inl (am_ke mm)))), (ad 4, .inl (ks 0, 112, .inr (.inl (am_lv mm)))), (ad 5, .inl (ks 1, 112, .inl (am_lc mm))), (ad 6, .inl (ks 2, 14, .inl (am_uf mm))), (ad 7, .inl (ks 2, 14, .inl (am_fd mm)))]) (va_Qi (S := Unit) (fun r _ => r = am_lc mm w) (fun u t => Bw D ks (va_A [(ad 1, .inr (1, [.ref (ad 2), .ref (ad 3), .ref (ad 4), .ref (ad 5), .ref (ad 6), .ref (ad 7), .int (am_st mm), .int (am_fl mm), .int (am_fe mm), .int (am_cr mm)])), (ad 2, .inl (ks 0, 112, .inr (.inl (am_va mm)))), (ad 3, .inl (ks 0, 112, .inr (.inl (am_ke mm)))), (ad 4, .inl (ks 0, 112, .inr (.inl (am_lv mm)))), (ad 5, .inl (ks 1, 112, .inl (am_lc mm))), (ad 6, .inl (ks 2, 14, .inl (am_uf mm))), (ad 7, .inl (ks 2, 14, .inl (am_fd mm)))] sz) ((fun _ => wM ks ad mm) u) t) (va_A [(ad 1, .inr (1, [.ref (ad 2), .ref (ad 3), .ref (ad 4), .ref (ad 5), .ref (ad 6), .ref (ad 7), .int (am_st mm), .int (am_fl mm), .int (am_fe mm), .int (am_cr mm)])), (ad 2, .inl (ks 0, 112, .inr (.inl (am_va mm)))), (ad 3, .inl (ks 0, 112, .inr (.inl (am_ke mm)))), (ad 4, .inl (ks 0, 112, .inr (.inl (am_lv mm)))), (ad 5, .inl (ks 1, 112, .inl (am_lc mm))), (ad 6, .inl (ks 2, 14, .inl (am_uf mm))), (ad 7, .inl (ks 2, 14, .inl (am_fd mm)))] sz)) 0 0 (va_A [(ad 1, .inr (1, [.ref (ad 2), .ref (ad 3), .ref (ad 4), .ref (ad 5), .ref (ad 6), .ref (ad 7), .int (am_st mm), .int (am_fl mm), .int (am_fe mm), .int (am_cr mm)])), (ad 2, .inl (ks 0, 112, .inr (.inl (am_va mm)))), (ad 3, .inl (ks 0, 112, .inr (.inl (am_ke mm)))), (ad 4, .inl (ks 0, 112, .inr (.inl (am_lv mm)))), (ad 5, .inl (ks 1, 112, .inl (am_lc mm))), (ad 6, .inl (ks 2, 14, .inl (am_uf mm))), (ad 7, .inl (ks 2, 14, .inl (am_fd mm)))] sz) := by
  refine bodyI (S := Unit) (wN := (fun _ => wM ks ad mm)) (post := (fun r _ => r = am_lc mm w)) (by decide) (Nat.le_of_ble_eq_true rfl) (fun p e s m below meth c A ls F hr hlk hK hN hA hsz hP hD hS hl => ?_)
  obtain ⟨hx, hb, hml, hown, ht⟩ := F
  have hown : s.vm.findClass RM = some m.cls := hown
  have F : CallFix p m c cM_looseCountAt 2 s ([.ref (ad 1), .int (nI w)] : List Value).toArray TB RM := ⟨hx, hb, hml, hown, ht⟩
  have hl : lv_has ls 2 [(0, .ref (ad 1)), (1, .int (nI w))] := hl
  refine lv_iload_n hx hb dM_looseCountAt_0 rfl (lv_at hl 1 rfl) ?_
  refine lv_i2l (v := (nI w).toInt64) hx hb dM_looseCountAt_1 rfl ?_
  refine gpi (va_runSN (As := [.long (nI w).toInt64]) (rest := []) F (kS_isWord l D ks ((nI w).toInt64) s.heap.size ) ⟨va_cnB (host := RS) 1 ht (tb_code tb_116) rfl rfl rfl (hN _ nb_124) (ht _ tb_1) ⟨by decide, by decide, by decide +kernel⟩ ⟨by decide, by decide⟩, ht _ tb_115, trivial⟩ (preS hK hN hP hD [] rfl rfl) rfl rfl hl.1 rfl (lv_room (Nat.le_of_ble_eq_true rfl)) dM_looseCountAt_2 (by decide)) hP hD hS hA (fun r1 H locs q1 hP hS => ?_)
  have q1 : r1 = 1 := by rw [q1]; exact bI_t ((lN_iff (n := w) (by omega) 111 (by omega)).mpr (by omega))
  refine lv_if_eq (tgt := 17) hx hb dM_looseCountAt_5 rfl (fun h => absurd h (by rw [q1]; decide)) (fun _ => ?_)
  refine lv_aload_n hx hb dM_looseCountAt_8 rfl (lv_at hl 0 rfl) ?_
  refine va_get (D := D) (ci := 1) (v := .ref (ad 5)) (C := RM) (T := TM) (N := 10) hx hb ht uw_M hown hK hP 0 rfl rfl 3 (by decide) (ht _ tb_31) (fun _ h => h) rfl dM_looseCountAt_9 ?_
  refine lv_iload_n hx hb dM_looseCountAt_12 rfl (lv_at hl 1 rfl) ?_
  refine ra_i hx hb hK hP 4 rfl w hw (by decide) rfl dM_looseCountAt_13 ?_
  refine lv_goto (tgt := 18) hx hb dM_looseCountAt_14 rfl ?_
  exact endI hx hb hr hlk hK () rfl hP hD hS dM_looseCountAt_18

set_option maxHeartbeats 4000000 in
set_option maxRecDepth 100000 in
theorem kM_isUnflushed (l : Launch) (D : va_G) (ks : Nat → ClassId) (ad : Nat → Nat) (mm : AM) (k : Nat) (sz : Nat) (hk : k < 14) : Met l yM_isUnflushed (.code yM_isUnflushed cM_isUnflushed 2 (some .boolean) :: TB) ({ frames := 1, cells := 0, slots := 0, locals := 22 } : Room) (Pcw D ks [.ref (ad 1), .int (nI k)] sz [(ad 1, .inr (1, [.ref (ad 2), .ref (ad 3), .ref (ad 4), .ref (ad 5), .ref (ad 6), .ref (ad 7), .int (am_st mm), .int (am_fl mm), .int (am_fe mm), .int (am_cr mm)])), (ad 2, .inl (ks 0, 112, .inr (.inl (am_va mm)))), (ad 3, .inl (ks 0, 112, .inr (.inl (am_ke mm)))), (ad 4, .inl (ks 0, 112, .inr (.inl (am_lv mm)))), (ad 5, .inl (ks 1, 112, .inl (am_lc mm))), (ad 6, .inl (ks 2, 14, .inl (am_uf mm))), (ad 7, .inl (ks 2, 14, .inl (am_fd mm)))]) (va_Qi (S := Unit) (fun r _ => r = bI (¬ am_uf mm k = 0)) (fun u t => Bw D ks (va_A [(ad 1, .inr (1, [.ref (ad 2), .ref (ad 3), .ref (ad 4), .ref (ad 5), .ref (ad 6), .ref (ad 7), .int (am_st mm), .int (am_fl mm), .int (am_fe mm), .int (am_cr mm)])), (ad 2, .inl (ks 0, 112, .inr (.inl (am_va mm)))), (ad 3, .inl (ks 0, 112, .inr (.inl (am_ke mm)))), (ad 4, .inl (ks 0, 112, .inr (.inl (am_lv mm)))), (ad 5, .inl (ks 1, 112, .inl (am_lc mm))), (ad 6, .inl (ks 2, 14, .inl (am_uf mm))), (ad 7, .inl (ks 2, 14, .inl (am_fd mm)))] sz) ((fun _ => wM ks ad mm) u) t) (va_A [(ad 1, .inr (1, [.ref (ad 2), .ref (ad 3), .ref (ad 4), .ref (ad 5), .ref (ad 6), .ref (ad 7), .int (am_st mm), .int (am_fl mm), .int (am_fe mm), .int (am_cr mm)])), (ad 2, .inl (ks 0, 112, .inr (.inl (am_va mm)))), (ad 3, .inl (ks 0, 112, .inr (.inl (am_ke mm)))), (ad 4, .inl (ks 0, 112, .inr (.inl (am_lv mm)))), (ad 5, .inl (ks 1, 112, .inl (am_lc mm))), (ad 6, .inl (ks 2, 14, .inl (am_uf mm))), (ad 7, .inl (ks 2, 14, .inl (am_fd mm)))] sz)) 0 0 (va_A [(ad 1, .inr (1, [.ref (ad 2), .ref (ad 3), .ref (ad 4), .ref (ad 5), .ref (ad 6), .ref (ad 7), .int (am_st mm), .int (am_fl mm), .int (am_fe mm), .int (am_cr mm)])), (ad 2, .inl (ks 0, 112, .inr (.inl (am_va mm)))), (ad 3, .inl (ks 0, 112, .inr (.inl (am_ke mm)))), (ad 4, .inl (ks 0, 112, .inr (.inl (am_lv mm)))), (ad 5, .inl (ks 1, 112, .inl (am_lc mm))), (ad 6, .inl (ks 2, 14, .inl (am_uf mm))), (ad 7, .inl (ks 2, 14, .inl (am_fd mm)))] sz) := by
  refine bodyI (S := Unit) (wN := (fun _ => wM ks ad mm)) (post := (fun r _ => r = bI (¬ am_uf mm k = 0))) (by decide) (Nat.le_of_ble_eq_true rfl) (fun p e s m below meth c A ls F hr hlk hK hN hA hsz hP hD hS hl => ?_)
  obtain ⟨hx, hb, hml, hown, ht⟩ := F
  have hown : s.vm.findClass RM = some m.cls := hown
  have F : CallFix p m c cM_isUnflushed 2 s ([.ref (ad 1), .int (nI k)] : List Value).toArray TB RM := ⟨hx, hb, hml, hown, ht⟩
  have hl : lv_has ls 2 [(0, .ref (ad 1)), (1, .int (nI k))] := hl
  refine lv_iload_n hx hb dM_isUnflushed_0 rfl (lv_at hl 1 rfl) ?_
  refine lv_i2l (v := (nI k).toInt64) hx hb dM_isUnflushed_1 rfl ?_
  refine lv_bipush (v := nI 13) hx hb dM_isUnflushed_2 (by decide) ?_
  refine gpi (va_runSN (As := [.long (nI k).toInt64, .int (nI 13)]) (rest := []) F (kS_isWithin l D ks ((nI k).toInt64) (nI 13) s.heap.size ) ⟨va_cnB (host := RS) 2 ht (tb_code tb_119) rfl rfl rfl (hN _ nb_290) (ht _ tb_1) ⟨by decide, by decide, by decide +kernel⟩ ⟨by decide, by decide⟩, ht _ tb_118, trivial⟩ (preS hK hN hP hD [] rfl rfl) rfl rfl hl.1 rfl (lv_room (Nat.le_of_ble_eq_true rfl)) dM_isUnflushed_4 (by decide)) hP hD hS hA (fun r1 H locs q1 hP hS => ?_)
  have q1 : r1 = 1 := by rw [q1]; exact bI_t ((lN_iff (n := k) (by omega) 13 (by omega)).mpr (by omega))
  refine lv_if_eq (tgt := 23) hx hb dM_isUnflushed_7 rfl (fun h => absurd h (by rw [q1]; decide)) (fun _ => ?_)
  refine lv_aload_n hx hb dM_isUnflushed_10 rfl (lv_at hl 0 rfl) ?_
  refine va_get (D := D) (ci := 1) (v := .ref (ad 6)) (C := RM) (T := TM) (N := 10) hx hb ht uw_M hown hK hP 0 rfl rfl 4 (by decide) (ht _ tb_32) (fun _ h => h) rfl dM_isUnflushed_11 ?_
  refine lv_iload_n hx hb dM_isUnflushed_14 rfl (lv_at hl 1 rfl) ?_
  refine ra_z hx hb hK hP 5 rfl k hk (by decide) rfl dM_isUnflushed_15 ?_
  refine lv_if_eq (tgt := 23) hx hb dM_isUnflushed_16 rfl (fun h1 => ?_) (fun h2 => ?_)
  · skip
    refine lv_iconst (v := 0) hx hb dM_isUnflushed_23 (by decide) ?_
    exact endZ hx hb hr hlk hK (by decide) () (by rw [bI_f (fun z => z h1)]) hP hD hS dM_isUnflushed_24
  · skip
    refine lv_iconst (v := 1) hx hb dM_isUnflushed_19 (by decide) ?_
    refine lv_goto (tgt := 24) hx hb dM_isUnflushed_20 rfl ?_
    exact endZ hx hb hr hlk hK (by decide) () (by rw [bI_t h2]) hP hD hS dM_isUnflushed_24

set_option maxHeartbeats 4000000 in
set_option maxRecDepth 100000 in
theorem kM_store (l : Launch) (D : va_G) (ks : Nat → ClassId) (ad : Nat → Nat) (mm : AM) (w : Nat) (v : Int64) (sz : Nat) (hw : w < 112) (hc : am_lc mm w = 0 ∨ am_lc mm w = 1) : Met l yM_store (.code yM_store cM_store 4 none :: TB) ({ frames := 2, cells := 0, slots := 0, locals := 43 } : Room) (Pcw D ks [.ref (ad 1), .int (nI w), .long v] sz [(ad 1, .inr (1, [.ref (ad 2), .ref (ad 3), .ref (ad 4), .ref (ad 5), .ref (ad 6), .ref (ad 7), .int (am_st mm), .int (am_fl mm), .int (am_fe mm), .int (am_cr mm)])), (ad 2, .inl (ks 0, 112, .inr (.inl (am_va mm)))), (ad 3, .inl (ks 0, 112, .inr (.inl (am_ke mm)))), (ad 4, .inl (ks 0, 112, .inr (.inl (am_lv mm)))), (ad 5, .inl (ks 1, 112, .inl (am_lc mm))), (ad 6, .inl (ks 2, 14, .inl (am_uf mm))), (ad 7, .inl (ks 2, 14, .inl (am_fd mm)))]) (va_Qv (S := AM) (fun u => u = ms_store mm w v) (fun u t => Bw D ks (va_A [(ad 1, .inr (1, [.ref (ad 2), .ref (ad 3), .ref (ad 4), .ref (ad 5), .ref (ad 6), .ref (ad 7), .int (am_st mm), .int (am_fl mm), .int (am_fe mm), .int (am_cr mm)])), (ad 2, .inl (ks 0, 112, .inr (.inl (am_va mm)))), (ad 3, .inl (ks 0, 112, .inr (.inl (am_ke mm)))), (ad 4, .inl (ks 0, 112, .inr (.inl (am_lv mm)))), (ad 5, .inl (ks 1, 112, .inl (am_lc mm))), (ad 6, .inl (ks 2, 14, .inl (am_uf mm))), (ad 7, .inl (ks 2, 14, .inl (am_fd mm)))] sz) ((fun u => wM ks ad u) u) t) (va_A [(ad 1, .inr (1, [.ref (ad 2), .ref (ad 3), .ref (ad 4), .ref (ad 5), .ref (ad 6), .ref (ad 7), .int (am_st mm), .int (am_fl mm), .int (am_fe mm), .int (am_cr mm)])), (ad 2, .inl (ks 0, 112, .inr (.inl (am_va mm)))), (ad 3, .inl (ks 0, 112, .inr (.inl (am_ke mm)))), (ad 4, .inl (ks 0, 112, .inr (.inl (am_lv mm)))), (ad 5, .inl (ks 1, 112, .inl (am_lc mm))), (ad 6, .inl (ks 2, 14, .inl (am_uf mm))), (ad 7, .inl (ks 2, 14, .inl (am_fd mm)))] sz)) 0 0 (va_A [(ad 1, .inr (1, [.ref (ad 2), .ref (ad 3), .ref (ad 4), .ref (ad 5), .ref (ad 6), .ref (ad 7), .int (am_st mm), .int (am_fl mm), .int (am_fe mm), .int (am_cr mm)])), (ad 2, .inl (ks 0, 112, .inr (.inl (am_va mm)))), (ad 3, .inl (ks 0, 112, .inr (.inl (am_ke mm)))), (ad 4, .inl (ks 0, 112, .inr (.inl (am_lv mm)))), (ad 5, .inl (ks 1, 112, .inl (am_lc mm))), (ad 6, .inl (ks 2, 14, .inl (am_uf mm))), (ad 7, .inl (ks 2, 14, .inl (am_fd mm)))] sz) := by
  refine bodyV (S := AM) (wN := (fun u => wM ks ad u)) (post := (fun u => u = ms_store mm w v)) (by decide) (Nat.le_of_ble_eq_true rfl) (fun p e s m below meth c A ls F hr hlk hK hN hA hsz hP hD hS hl => ?_)
  obtain ⟨hx, hb, hml, hown, ht⟩ := F
  have hown : s.vm.findClass RM = some m.cls := hown
  have F : CallFix p m c cM_store 4 s ([.ref (ad 1), .int (nI w), .long v] : List Value).toArray TB RM := ⟨hx, hb, hml, hown, ht⟩
  have hl : lv_has ls 4 [(0, .ref (ad 1)), (1, .int (nI w)), (2, .long v)] := hl
  refine lv_iload_n hx hb dM_store_0 rfl (lv_at hl 1 rfl) ?_
  refine lv_i2l (v := (nI w).toInt64) hx hb dM_store_1 rfl ?_
  refine gpi (va_runSN (As := [.long (nI w).toInt64]) (rest := []) F (kS_isWord l D ks ((nI w).toInt64) s.heap.size ) ⟨va_cnB (host := RS) 1 ht (tb_code tb_116) rfl rfl rfl (hN _ nb_124) (ht _ tb_1) ⟨by decide, by decide, by decide +kernel⟩ ⟨by decide, by decide⟩, ht _ tb_115, trivial⟩ (preS hK hN hP hD [] rfl rfl) rfl rfl hl.1 rfl (lv_room (Nat.le_of_ble_eq_true rfl)) dM_store_2 (by decide)) hP hD hS hA (fun r1 H locs q1 hP hS => ?_)
  have q1 : r1 = 1 := by rw [q1]; exact bI_t ((lN_iff (n := w) (by omega) 111 (by omega)).mpr (by omega))
  refine lv_if_ne (tgt := 9) hx hb dM_store_5 rfl (fun _ => ?_) (fun h => absurd h (by rw [q1]; decide))
  refine lv_aload_n hx hb dM_store_9 rfl (lv_at hl 0 rfl) ?_
  refine lv_dup hx hb dM_store_10 rfl ?_
  refine va_get (D := D) (ci := 1) (v := .int (am_st mm)) (C := RM) (T := TM) (N := 10) hx hb ht uw_M hown hK hP 0 rfl rfl 6 (by decide) (ht _ tb_34) (fun _ h => h) rfl dM_store_11 ?_
  refine lv_iconst (v := 1) hx hb dM_store_14 (by decide) ?_
  refine lv_iadd hx hb dM_store_15 ?_
  refine va_put (D := D) (ci := 1) (v := .int ((am_st mm) + 1)) (ty := .int) (C := RM) (T := TM) (N := 10) hx hb ht uw_M ty_M ty_M_ok nm_M hown hK hP hD hS 0 rfl rfl 6 (by decide) (ht _ tb_34) (fun _ h => h) rfl (by decide +kernel) rfl rfl (Nat.le_of_ble_eq_true rfl) dM_store_16 (fun H locs hP hD hS => ?_)
  have hP : va_P D vwCl [(ad 1, .inr (1, [.ref (ad 2), .ref (ad 3), .ref (ad 4), .ref (ad 5), .ref (ad 6), .ref (ad 7), .int ((am_st mm) + 1), .int (am_fl mm), .int (am_fe mm), .int (am_cr mm)])), (ad 2, .inl (ks 0, 112, .inr (.inl (am_va mm)))), (ad 3, .inl (ks 0, 112, .inr (.inl (am_ke mm)))), (ad 4, .inl (ks 0, 112, .inr (.inl (am_lv mm)))), (ad 5, .inl (ks 1, 112, .inl (am_lc mm))), (ad 6, .inl (ks 2, 14, .inl (am_uf mm))), (ad 7, .inl (ks 2, 14, .inl (am_fd mm)))] H := hP
  have hD : va_D A [(ad 1, .inr (1, [.ref (ad 2), .ref (ad 3), .ref (ad 4), .ref (ad 5), .ref (ad 6), .ref (ad 7), .int ((am_st mm) + 1), .int (am_fl mm), .int (am_fe mm), .int (am_cr mm)])), (ad 2, .inl (ks 0, 112, .inr (.inl (am_va mm)))), (ad 3, .inl (ks 0, 112, .inr (.inl (am_ke mm)))), (ad 4, .inl (ks 0, 112, .inr (.inl (am_lv mm)))), (ad 5, .inl (ks 1, 112, .inl (am_lc mm))), (ad 6, .inl (ks 2, 14, .inl (am_uf mm))), (ad 7, .inl (ks 2, 14, .inl (am_fd mm)))] := hD
  refine lv_aload_n hx hb dM_store_19 rfl (lv_at hl 0 rfl) ?_
  refine va_get (D := D) (ci := 1) (v := .ref (ad 2)) (C := RM) (T := TM) (N := 10) hx hb ht uw_M hown hK hP 0 rfl rfl 0 (by decide) (ht _ tb_27) (fun _ h => h) rfl dM_store_20 ?_
  refine lv_iload_n hx hb dM_store_23 rfl (lv_at hl 1 rfl) ?_
  refine lv_lload_n hx hb dM_store_24 rfl (lv_at hl 2 rfl) ?_
  refine wa_l hx hb hK hP hD hS 1 rfl w hw (by decide) rfl dM_store_25 (fun H locs hP hD hS => ?_)
  have hP : va_P D vwCl [(ad 1, .inr (1, [.ref (ad 2), .ref (ad 3), .ref (ad 4), .ref (ad 5), .ref (ad 6), .ref (ad 7), .int ((am_st mm) + 1), .int (am_fl mm), .int (am_fe mm), .int (am_cr mm)])), (ad 2, .inl (ks 0, 112, .inr (.inl (vp_updL (am_va mm) w v)))), (ad 3, .inl (ks 0, 112, .inr (.inl (am_ke mm)))), (ad 4, .inl (ks 0, 112, .inr (.inl (am_lv mm)))), (ad 5, .inl (ks 1, 112, .inl (am_lc mm))), (ad 6, .inl (ks 2, 14, .inl (am_uf mm))), (ad 7, .inl (ks 2, 14, .inl (am_fd mm)))] H := hP
  have hD : va_D A [(ad 1, .inr (1, [.ref (ad 2), .ref (ad 3), .ref (ad 4), .ref (ad 5), .ref (ad 6), .ref (ad 7), .int ((am_st mm) + 1), .int (am_fl mm), .int (am_fe mm), .int (am_cr mm)])), (ad 2, .inl (ks 0, 112, .inr (.inl (vp_updL (am_va mm) w v)))), (ad 3, .inl (ks 0, 112, .inr (.inl (am_ke mm)))), (ad 4, .inl (ks 0, 112, .inr (.inl (am_lv mm)))), (ad 5, .inl (ks 1, 112, .inl (am_lc mm))), (ad 6, .inl (ks 2, 14, .inl (am_uf mm))), (ad 7, .inl (ks 2, 14, .inl (am_fd mm)))] := hD
  refine lv_aload_n hx hb dM_store_26 rfl (lv_at hl 0 rfl) ?_
  refine va_get (D := D) (ci := 1) (v := .ref (ad 6)) (C := RM) (T := TM) (N := 10) hx hb ht uw_M hown hK hP 0 rfl rfl 4 (by decide) (ht _ tb_32) (fun _ h => h) rfl dM_store_27 ?_
  refine lv_iload_n hx hb dM_store_30 rfl (lv_at hl 1 rfl) ?_
  refine lv_bipush (v := nI 8) hx hb dM_store_31 (by decide) ?_
  refine lv_idiv hx hb dM_store_33 (by decide) ?_
  refine lv_iconst (v := 1) hx hb dM_store_34 (by decide) ?_
  refine wa_z hx hb hK hP hD hS 5 rfl (w / 8) (by omega) (by decide) (pk_div (by omega) (by decide) (by decide)) 1 (by decide) dM_store_35 (fun H locs hP hD hS => ?_)
  have hP : va_P D vwCl [(ad 1, .inr (1, [.ref (ad 2), .ref (ad 3), .ref (ad 4), .ref (ad 5), .ref (ad 6), .ref (ad 7), .int ((am_st mm) + 1), .int (am_fl mm), .int (am_fe mm), .int (am_cr mm)])), (ad 2, .inl (ks 0, 112, .inr (.inl (vp_updL (am_va mm) w v)))), (ad 3, .inl (ks 0, 112, .inr (.inl (am_ke mm)))), (ad 4, .inl (ks 0, 112, .inr (.inl (am_lv mm)))), (ad 5, .inl (ks 1, 112, .inl (am_lc mm))), (ad 6, .inl (ks 2, 14, .inl (upd (am_uf mm) (w / 8) 1))), (ad 7, .inl (ks 2, 14, .inl (am_fd mm)))] H := hP
  have hD : va_D A [(ad 1, .inr (1, [.ref (ad 2), .ref (ad 3), .ref (ad 4), .ref (ad 5), .ref (ad 6), .ref (ad 7), .int ((am_st mm) + 1), .int (am_fl mm), .int (am_fe mm), .int (am_cr mm)])), (ad 2, .inl (ks 0, 112, .inr (.inl (vp_updL (am_va mm) w v)))), (ad 3, .inl (ks 0, 112, .inr (.inl (am_ke mm)))), (ad 4, .inl (ks 0, 112, .inr (.inl (am_lv mm)))), (ad 5, .inl (ks 1, 112, .inl (am_lc mm))), (ad 6, .inl (ks 2, 14, .inl (upd (am_uf mm) (w / 8) 1))), (ad 7, .inl (ks 2, 14, .inl (am_fd mm)))] := hD
  refine lv_aload_n hx hb dM_store_36 rfl (lv_at hl 0 rfl) ?_
  refine va_get (D := D) (ci := 1) (v := .ref (ad 5)) (C := RM) (T := TM) (N := 10) hx hb ht uw_M hown hK hP 0 rfl rfl 3 (by decide) (ht _ tb_31) (fun _ h => h) rfl dM_store_37 ?_
  refine lv_iload_n hx hb dM_store_40 rfl (lv_at hl 1 rfl) ?_
  refine ra_i hx hb hK hP 4 rfl w hw (by decide) rfl dM_store_41 ?_
  refine lv_iconst (v := 1) hx hb dM_store_42 (by decide) ?_
  refine lv_icmp_ge (tgt := 72) hx hb dM_store_43 rfl (fun h1 => ?_) (fun h2 => ?_)
  · skip
    exact endV hx hb hr hlk hK ((vp_updL (am_va mm) w v), (am_ke mm), (am_lv mm), (am_lc mm), (upd (am_uf mm) (w / 8) 1), (am_fd mm), ((am_st mm) + 1), (am_fl mm), (am_fe mm), (am_cr mm)) (by unfold ms_store; rw [if_neg (fun z => absurd h1 (Int32.not_le.mpr z)), if_neg (fun z => absurd h1 (Int32.not_le.mpr z))]) hP hD hS dM_store_72
  · skip
    have hz : am_lc mm w = 0 := hc.resolve_right (fun z => h2 (by rw [z]; decide))
    refine lv_aload_n hx hb dM_store_46 rfl (lv_at hl 0 rfl) ?_
    refine va_get (D := D) (ci := 1) (v := .ref (ad 4)) (C := RM) (T := TM) (N := 10) hx hb ht uw_M hown hK hP 0 rfl rfl 2 (by decide) (ht _ tb_30) (fun _ h => h) rfl dM_store_47 ?_
    refine lv_iload_n hx hb dM_store_50 rfl (lv_at hl 1 rfl) ?_
    refine lv_iconst (v := nI 1) hx hb dM_store_51 (by decide) ?_
    refine lv_imul hx hb dM_store_52 ?_
    refine lv_aload_n hx hb dM_store_53 rfl (lv_at hl 0 rfl) ?_
    refine va_get (D := D) (ci := 1) (v := .ref (ad 5)) (C := RM) (T := TM) (N := 10) hx hb ht uw_M hown hK hP 0 rfl rfl 3 (by decide) (ht _ tb_31) (fun _ h => h) rfl dM_store_54 ?_
    refine lv_iload_n hx hb dM_store_57 rfl (lv_at hl 1 rfl) ?_
    refine ra_i hx hb hK hP 4 rfl w hw (by decide) rfl dM_store_58 ?_
    refine lv_iadd hx hb dM_store_59 ?_
    refine tp_i (nI w) (by rw [hz, pk_mul, Nat.mul_one]; exact Int32.add_zero _) ?_
    refine lv_lload_n hx hb dM_store_60 rfl (lv_at hl 2 rfl) ?_
    refine wa_l hx hb hK hP hD hS 3 rfl w hw (by decide) rfl dM_store_61 (fun H locs hP hD hS => ?_)
    have hP : va_P D vwCl [(ad 1, .inr (1, [.ref (ad 2), .ref (ad 3), .ref (ad 4), .ref (ad 5), .ref (ad 6), .ref (ad 7), .int ((am_st mm) + 1), .int (am_fl mm), .int (am_fe mm), .int (am_cr mm)])), (ad 2, .inl (ks 0, 112, .inr (.inl (vp_updL (am_va mm) w v)))), (ad 3, .inl (ks 0, 112, .inr (.inl (am_ke mm)))), (ad 4, .inl (ks 0, 112, .inr (.inl (vp_updL (am_lv mm) w v)))), (ad 5, .inl (ks 1, 112, .inl (am_lc mm))), (ad 6, .inl (ks 2, 14, .inl (upd (am_uf mm) (w / 8) 1))), (ad 7, .inl (ks 2, 14, .inl (am_fd mm)))] H := hP
    have hD : va_D A [(ad 1, .inr (1, [.ref (ad 2), .ref (ad 3), .ref (ad 4), .ref (ad 5), .ref (ad 6), .ref (ad 7), .int ((am_st mm) + 1), .int (am_fl mm), .int (am_fe mm), .int (am_cr mm)])), (ad 2, .inl (ks 0, 112, .inr (.inl (vp_updL (am_va mm) w v)))), (ad 3, .inl (ks 0, 112, .inr (.inl (am_ke mm)))), (ad 4, .inl (ks 0, 112, .inr (.inl (vp_updL (am_lv mm) w v)))), (ad 5, .inl (ks 1, 112, .inl (am_lc mm))), (ad 6, .inl (ks 2, 14, .inl (upd (am_uf mm) (w / 8) 1))), (ad 7, .inl (ks 2, 14, .inl (am_fd mm)))] := hD
    refine lv_aload_n hx hb dM_store_62 rfl (lv_at hl 0 rfl) ?_
    refine va_get (D := D) (ci := 1) (v := .ref (ad 5)) (C := RM) (T := TM) (N := 10) hx hb ht uw_M hown hK hP 0 rfl rfl 3 (by decide) (ht _ tb_31) (fun _ h => h) rfl dM_store_63 ?_
    refine lv_iload_n hx hb dM_store_66 rfl (lv_at hl 1 rfl) ?_
    refine lv_dup2_11 hx hb dM_store_67 rfl rfl ?_
    refine ra_i hx hb hK hP 4 rfl w hw (by decide) rfl dM_store_68 ?_
    refine lv_iconst (v := 1) hx hb dM_store_69 (by decide) ?_
    refine lv_iadd hx hb dM_store_70 ?_
    refine wa_i hx hb hK hP hD hS 4 rfl w hw (by decide) rfl dM_store_71 (fun H locs hP hD hS => ?_)
    have hP : va_P D vwCl [(ad 1, .inr (1, [.ref (ad 2), .ref (ad 3), .ref (ad 4), .ref (ad 5), .ref (ad 6), .ref (ad 7), .int ((am_st mm) + 1), .int (am_fl mm), .int (am_fe mm), .int (am_cr mm)])), (ad 2, .inl (ks 0, 112, .inr (.inl (vp_updL (am_va mm) w v)))), (ad 3, .inl (ks 0, 112, .inr (.inl (am_ke mm)))), (ad 4, .inl (ks 0, 112, .inr (.inl (vp_updL (am_lv mm) w v)))), (ad 5, .inl (ks 1, 112, .inl (upd (am_lc mm) w (((am_lc mm) w) + 1)))), (ad 6, .inl (ks 2, 14, .inl (upd (am_uf mm) (w / 8) 1))), (ad 7, .inl (ks 2, 14, .inl (am_fd mm)))] H := hP
    have hD : va_D A [(ad 1, .inr (1, [.ref (ad 2), .ref (ad 3), .ref (ad 4), .ref (ad 5), .ref (ad 6), .ref (ad 7), .int ((am_st mm) + 1), .int (am_fl mm), .int (am_fe mm), .int (am_cr mm)])), (ad 2, .inl (ks 0, 112, .inr (.inl (vp_updL (am_va mm) w v)))), (ad 3, .inl (ks 0, 112, .inr (.inl (am_ke mm)))), (ad 4, .inl (ks 0, 112, .inr (.inl (vp_updL (am_lv mm) w v)))), (ad 5, .inl (ks 1, 112, .inl (upd (am_lc mm) w (((am_lc mm) w) + 1)))), (ad 6, .inl (ks 2, 14, .inl (upd (am_uf mm) (w / 8) 1))), (ad 7, .inl (ks 2, 14, .inl (am_fd mm)))] := hD
    exact endV hx hb hr hlk hK ((vp_updL (am_va mm) w v), (am_ke mm), (vp_updL (am_lv mm) w v), (upd (am_lc mm) w (((am_lc mm) w) + 1)), (upd (am_uf mm) (w / 8) 1), (am_fd mm), ((am_st mm) + 1), (am_fl mm), (am_fe mm), (am_cr mm)) (by unfold ms_store; rw [if_pos (Int32.not_le.mp h2), if_pos (Int32.not_le.mp h2)]) hP hD hS dM_store_72

set_option maxHeartbeats 4000000 in
set_option maxRecDepth 100000 in
theorem kM_flush (l : Launch) (D : va_G) (ks : Nat → ClassId) (ad : Nat → Nat) (mm : AM) (k : Nat) (sz : Nat) (hk : k < 14) : Met l yM_flush (.code yM_flush cM_flush 2 none :: TB) ({ frames := 1, cells := 0, slots := 0, locals := 22 } : Room) (Pcw D ks [.ref (ad 1), .int (nI k)] sz [(ad 1, .inr (1, [.ref (ad 2), .ref (ad 3), .ref (ad 4), .ref (ad 5), .ref (ad 6), .ref (ad 7), .int (am_st mm), .int (am_fl mm), .int (am_fe mm), .int (am_cr mm)])), (ad 2, .inl (ks 0, 112, .inr (.inl (am_va mm)))), (ad 3, .inl (ks 0, 112, .inr (.inl (am_ke mm)))), (ad 4, .inl (ks 0, 112, .inr (.inl (am_lv mm)))), (ad 5, .inl (ks 1, 112, .inl (am_lc mm))), (ad 6, .inl (ks 2, 14, .inl (am_uf mm))), (ad 7, .inl (ks 2, 14, .inl (am_fd mm)))]) (va_Qv (S := AM) (fun u => u = ms_flush mm k) (fun u t => Bw D ks (va_A [(ad 1, .inr (1, [.ref (ad 2), .ref (ad 3), .ref (ad 4), .ref (ad 5), .ref (ad 6), .ref (ad 7), .int (am_st mm), .int (am_fl mm), .int (am_fe mm), .int (am_cr mm)])), (ad 2, .inl (ks 0, 112, .inr (.inl (am_va mm)))), (ad 3, .inl (ks 0, 112, .inr (.inl (am_ke mm)))), (ad 4, .inl (ks 0, 112, .inr (.inl (am_lv mm)))), (ad 5, .inl (ks 1, 112, .inl (am_lc mm))), (ad 6, .inl (ks 2, 14, .inl (am_uf mm))), (ad 7, .inl (ks 2, 14, .inl (am_fd mm)))] sz) ((fun u => wM ks ad u) u) t) (va_A [(ad 1, .inr (1, [.ref (ad 2), .ref (ad 3), .ref (ad 4), .ref (ad 5), .ref (ad 6), .ref (ad 7), .int (am_st mm), .int (am_fl mm), .int (am_fe mm), .int (am_cr mm)])), (ad 2, .inl (ks 0, 112, .inr (.inl (am_va mm)))), (ad 3, .inl (ks 0, 112, .inr (.inl (am_ke mm)))), (ad 4, .inl (ks 0, 112, .inr (.inl (am_lv mm)))), (ad 5, .inl (ks 1, 112, .inl (am_lc mm))), (ad 6, .inl (ks 2, 14, .inl (am_uf mm))), (ad 7, .inl (ks 2, 14, .inl (am_fd mm)))] sz)) 0 0 (va_A [(ad 1, .inr (1, [.ref (ad 2), .ref (ad 3), .ref (ad 4), .ref (ad 5), .ref (ad 6), .ref (ad 7), .int (am_st mm), .int (am_fl mm), .int (am_fe mm), .int (am_cr mm)])), (ad 2, .inl (ks 0, 112, .inr (.inl (am_va mm)))), (ad 3, .inl (ks 0, 112, .inr (.inl (am_ke mm)))), (ad 4, .inl (ks 0, 112, .inr (.inl (am_lv mm)))), (ad 5, .inl (ks 1, 112, .inl (am_lc mm))), (ad 6, .inl (ks 2, 14, .inl (am_uf mm))), (ad 7, .inl (ks 2, 14, .inl (am_fd mm)))] sz) := by
  refine bodyV (S := AM) (wN := (fun u => wM ks ad u)) (post := (fun u => u = ms_flush mm k)) (by decide) (Nat.le_of_ble_eq_true rfl) (fun p e s m below meth c A ls F hr hlk hK hN hA hsz hP hD hS hl => ?_)
  obtain ⟨hx, hb, hml, hown, ht⟩ := F
  have hown : s.vm.findClass RM = some m.cls := hown
  have F : CallFix p m c cM_flush 2 s ([.ref (ad 1), .int (nI k)] : List Value).toArray TB RM := ⟨hx, hb, hml, hown, ht⟩
  have hl : lv_has ls 2 [(0, .ref (ad 1)), (1, .int (nI k))] := hl
  refine lv_iload_n hx hb dM_flush_0 rfl (lv_at hl 1 rfl) ?_
  refine lv_i2l (v := (nI k).toInt64) hx hb dM_flush_1 rfl ?_
  refine lv_bipush (v := nI 13) hx hb dM_flush_2 (by decide) ?_
  refine gpi (va_runSN (As := [.long (nI k).toInt64, .int (nI 13)]) (rest := []) F (kS_isWithin l D ks ((nI k).toInt64) (nI 13) s.heap.size ) ⟨va_cnB (host := RS) 2 ht (tb_code tb_119) rfl rfl rfl (hN _ nb_290) (ht _ tb_1) ⟨by decide, by decide, by decide +kernel⟩ ⟨by decide, by decide⟩, ht _ tb_118, trivial⟩ (preS hK hN hP hD [] rfl rfl) rfl rfl hl.1 rfl (lv_room (Nat.le_of_ble_eq_true rfl)) dM_flush_4 (by decide)) hP hD hS hA (fun r1 H locs q1 hP hS => ?_)
  have q1 : r1 = 1 := by rw [q1]; exact bI_t ((lN_iff (n := k) (by omega) 13 (by omega)).mpr (by omega))
  refine lv_if_ne (tgt := 11) hx hb dM_flush_7 rfl (fun _ => ?_) (fun h => absurd h (by rw [q1]; decide))
  refine lv_aload_n hx hb dM_flush_11 rfl (lv_at hl 0 rfl) ?_
  refine lv_dup hx hb dM_flush_12 rfl ?_
  refine va_get (D := D) (ci := 1) (v := .int (am_fl mm)) (C := RM) (T := TM) (N := 10) hx hb ht uw_M hown hK hP 0 rfl rfl 7 (by decide) (ht _ tb_36) (fun _ h => h) rfl dM_flush_13 ?_
  refine lv_iconst (v := 1) hx hb dM_flush_16 (by decide) ?_
  refine lv_iadd hx hb dM_flush_17 ?_
  refine va_put (D := D) (ci := 1) (v := .int ((am_fl mm) + 1)) (ty := .int) (C := RM) (T := TM) (N := 10) hx hb ht uw_M ty_M ty_M_ok nm_M hown hK hP hD hS 0 rfl rfl 7 (by decide) (ht _ tb_36) (fun _ h => h) rfl (by decide +kernel) rfl rfl (Nat.le_of_ble_eq_true rfl) dM_flush_18 (fun H locs hP hD hS => ?_)
  have hP : va_P D vwCl [(ad 1, .inr (1, [.ref (ad 2), .ref (ad 3), .ref (ad 4), .ref (ad 5), .ref (ad 6), .ref (ad 7), .int (am_st mm), .int ((am_fl mm) + 1), .int (am_fe mm), .int (am_cr mm)])), (ad 2, .inl (ks 0, 112, .inr (.inl (am_va mm)))), (ad 3, .inl (ks 0, 112, .inr (.inl (am_ke mm)))), (ad 4, .inl (ks 0, 112, .inr (.inl (am_lv mm)))), (ad 5, .inl (ks 1, 112, .inl (am_lc mm))), (ad 6, .inl (ks 2, 14, .inl (am_uf mm))), (ad 7, .inl (ks 2, 14, .inl (am_fd mm)))] H := hP
  have hD : va_D A [(ad 1, .inr (1, [.ref (ad 2), .ref (ad 3), .ref (ad 4), .ref (ad 5), .ref (ad 6), .ref (ad 7), .int (am_st mm), .int ((am_fl mm) + 1), .int (am_fe mm), .int (am_cr mm)])), (ad 2, .inl (ks 0, 112, .inr (.inl (am_va mm)))), (ad 3, .inl (ks 0, 112, .inr (.inl (am_ke mm)))), (ad 4, .inl (ks 0, 112, .inr (.inl (am_lv mm)))), (ad 5, .inl (ks 1, 112, .inl (am_lc mm))), (ad 6, .inl (ks 2, 14, .inl (am_uf mm))), (ad 7, .inl (ks 2, 14, .inl (am_fd mm)))] := hD
  refine lv_aload_n hx hb dM_flush_21 rfl (lv_at hl 0 rfl) ?_
  refine va_get (D := D) (ci := 1) (v := .ref (ad 7)) (C := RM) (T := TM) (N := 10) hx hb ht uw_M hown hK hP 0 rfl rfl 5 (by decide) (ht _ tb_33) (fun _ h => h) rfl dM_flush_22 ?_
  refine lv_iload_n hx hb dM_flush_25 rfl (lv_at hl 1 rfl) ?_
  refine lv_iconst (v := nI 1) hx hb dM_flush_26 (by decide) ?_
  refine wa_z hx hb hK hP hD hS 6 rfl k hk (by decide) rfl 1 (by decide) dM_flush_27 (fun H locs hP hD hS => ?_)
  have hP : va_P D vwCl [(ad 1, .inr (1, [.ref (ad 2), .ref (ad 3), .ref (ad 4), .ref (ad 5), .ref (ad 6), .ref (ad 7), .int (am_st mm), .int ((am_fl mm) + 1), .int (am_fe mm), .int (am_cr mm)])), (ad 2, .inl (ks 0, 112, .inr (.inl (am_va mm)))), (ad 3, .inl (ks 0, 112, .inr (.inl (am_ke mm)))), (ad 4, .inl (ks 0, 112, .inr (.inl (am_lv mm)))), (ad 5, .inl (ks 1, 112, .inl (am_lc mm))), (ad 6, .inl (ks 2, 14, .inl (am_uf mm))), (ad 7, .inl (ks 2, 14, .inl (upd (am_fd mm) k 1)))] H := hP
  have hD : va_D A [(ad 1, .inr (1, [.ref (ad 2), .ref (ad 3), .ref (ad 4), .ref (ad 5), .ref (ad 6), .ref (ad 7), .int (am_st mm), .int ((am_fl mm) + 1), .int (am_fe mm), .int (am_cr mm)])), (ad 2, .inl (ks 0, 112, .inr (.inl (am_va mm)))), (ad 3, .inl (ks 0, 112, .inr (.inl (am_ke mm)))), (ad 4, .inl (ks 0, 112, .inr (.inl (am_lv mm)))), (ad 5, .inl (ks 1, 112, .inl (am_lc mm))), (ad 6, .inl (ks 2, 14, .inl (am_uf mm))), (ad 7, .inl (ks 2, 14, .inl (upd (am_fd mm) k 1)))] := hD
  refine lv_aload_n hx hb dM_flush_28 rfl (lv_at hl 0 rfl) ?_
  refine va_get (D := D) (ci := 1) (v := .ref (ad 6)) (C := RM) (T := TM) (N := 10) hx hb ht uw_M hown hK hP 0 rfl rfl 4 (by decide) (ht _ tb_32) (fun _ h => h) rfl dM_flush_29 ?_
  refine lv_iload_n hx hb dM_flush_32 rfl (lv_at hl 1 rfl) ?_
  refine lv_iconst (v := nI 0) hx hb dM_flush_33 (by decide) ?_
  refine wa_z hx hb hK hP hD hS 5 rfl k hk (by decide) rfl 0 (by decide) dM_flush_34 (fun H locs hP hD hS => ?_)
  have hP : va_P D vwCl [(ad 1, .inr (1, [.ref (ad 2), .ref (ad 3), .ref (ad 4), .ref (ad 5), .ref (ad 6), .ref (ad 7), .int (am_st mm), .int ((am_fl mm) + 1), .int (am_fe mm), .int (am_cr mm)])), (ad 2, .inl (ks 0, 112, .inr (.inl (am_va mm)))), (ad 3, .inl (ks 0, 112, .inr (.inl (am_ke mm)))), (ad 4, .inl (ks 0, 112, .inr (.inl (am_lv mm)))), (ad 5, .inl (ks 1, 112, .inl (am_lc mm))), (ad 6, .inl (ks 2, 14, .inl (upd (am_uf mm) k 0))), (ad 7, .inl (ks 2, 14, .inl (upd (am_fd mm) k 1)))] H := hP
  have hD : va_D A [(ad 1, .inr (1, [.ref (ad 2), .ref (ad 3), .ref (ad 4), .ref (ad 5), .ref (ad 6), .ref (ad 7), .int (am_st mm), .int ((am_fl mm) + 1), .int (am_fe mm), .int (am_cr mm)])), (ad 2, .inl (ks 0, 112, .inr (.inl (am_va mm)))), (ad 3, .inl (ks 0, 112, .inr (.inl (am_ke mm)))), (ad 4, .inl (ks 0, 112, .inr (.inl (am_lv mm)))), (ad 5, .inl (ks 1, 112, .inl (am_lc mm))), (ad 6, .inl (ks 2, 14, .inl (upd (am_uf mm) k 0))), (ad 7, .inl (ks 2, 14, .inl (upd (am_fd mm) k 1)))] := hD
  exact endV hx hb hr hlk hK ((am_va mm), (am_ke mm), (am_lv mm), (am_lc mm), (upd (am_uf mm) k 0), (upd (am_fd mm) k 1), (am_st mm), ((am_fl mm) + 1), (am_fe mm), (am_cr mm)) rfl hP hD hS dM_flush_35

def kl_ke (m : AM) (k i : Nat) : Nat → Int64 := fun w => if 8 * k ≤ w ∧ w < 8 * k + i then am_va m w else am_ke m w
def kl_lc (m : AM) (k i : Nat) : Nat → Int32 := fun w => if 8 * k ≤ w ∧ w < 8 * k + i then 0 else am_lc m w
def kl (m : AM) (k : Nat) : AM := (am_va m, kl_ke m k 8, am_lv m, kl_lc m k 8, am_uf m, am_fd m, am_st m, am_fl m, am_fe m, am_cr m)
theorem kl_ke_0 (m : AM) (k : Nat) : kl_ke m k 0 = am_ke m := funext fun w => if_neg (by omega)
theorem kl_lc_0 (m : AM) (k : Nat) : kl_lc m k 0 = am_lc m := funext fun w => if_neg (by omega)
theorem kl_ke_s (m : AM) (k i : Nat) : vp_updL (kl_ke m k i) (8 * k + i) (am_va m (8 * k + i)) = kl_ke m k (i + 1) := funext fun w => by
  unfold vp_updL kl_ke
  by_cases e : w = 8 * k + i
  · rw [if_pos e, if_pos (by omega), e]
  · rw [if_neg e]
    by_cases h : 8 * k ≤ w ∧ w < 8 * k + i
    · rw [if_pos h, if_pos (by omega)]
    · rw [if_neg h, if_neg (by omega)]
theorem kl_lc_s (m : AM) (k i : Nat) : upd (kl_lc m k i) (8 * k + i) 0 = kl_lc m k (i + 1) := funext fun w => by
  by_cases e : w = 8 * k + i
  · rw [e, pk_us]; exact (if_pos (by omega)).symm
  · rw [pk_un e]
    unfold kl_lc
    by_cases h : 8 * k ≤ w ∧ w < 8 * k + i
    · rw [if_pos h, if_pos (by omega)]
    · rw [if_neg h, if_neg (by omega)]
set_option maxHeartbeats 4000000 in
set_option maxRecDepth 100000 in
theorem kM_keepLine (l : Launch) (D : va_G) (ks : Nat → ClassId) (ad : Nat → Nat) (mm : AM) (k : Nat) (sz : Nat) (hk : k < 14) : Met l yM_keepLine (.code yM_keepLine cM_keepLine 4 none :: TB) ({ frames := 0, cells := 0, slots := 0, locals := 0 } : Room) (Pcw D ks [.ref (ad 1), .int (nI k)] sz [(ad 1, .inr (1, [.ref (ad 2), .ref (ad 3), .ref (ad 4), .ref (ad 5), .ref (ad 6), .ref (ad 7), .int (am_st mm), .int (am_fl mm), .int (am_fe mm), .int (am_cr mm)])), (ad 2, .inl (ks 0, 112, .inr (.inl (am_va mm)))), (ad 3, .inl (ks 0, 112, .inr (.inl (am_ke mm)))), (ad 4, .inl (ks 0, 112, .inr (.inl (am_lv mm)))), (ad 5, .inl (ks 1, 112, .inl (am_lc mm))), (ad 6, .inl (ks 2, 14, .inl (am_uf mm))), (ad 7, .inl (ks 2, 14, .inl (am_fd mm)))]) (va_Qv (S := AM) (fun u => u = kl mm k) (fun u t => Bw D ks (va_A [(ad 1, .inr (1, [.ref (ad 2), .ref (ad 3), .ref (ad 4), .ref (ad 5), .ref (ad 6), .ref (ad 7), .int (am_st mm), .int (am_fl mm), .int (am_fe mm), .int (am_cr mm)])), (ad 2, .inl (ks 0, 112, .inr (.inl (am_va mm)))), (ad 3, .inl (ks 0, 112, .inr (.inl (am_ke mm)))), (ad 4, .inl (ks 0, 112, .inr (.inl (am_lv mm)))), (ad 5, .inl (ks 1, 112, .inl (am_lc mm))), (ad 6, .inl (ks 2, 14, .inl (am_uf mm))), (ad 7, .inl (ks 2, 14, .inl (am_fd mm)))] sz) ((fun u => wM ks ad u) u) t) (va_A [(ad 1, .inr (1, [.ref (ad 2), .ref (ad 3), .ref (ad 4), .ref (ad 5), .ref (ad 6), .ref (ad 7), .int (am_st mm), .int (am_fl mm), .int (am_fe mm), .int (am_cr mm)])), (ad 2, .inl (ks 0, 112, .inr (.inl (am_va mm)))), (ad 3, .inl (ks 0, 112, .inr (.inl (am_ke mm)))), (ad 4, .inl (ks 0, 112, .inr (.inl (am_lv mm)))), (ad 5, .inl (ks 1, 112, .inl (am_lc mm))), (ad 6, .inl (ks 2, 14, .inl (am_uf mm))), (ad 7, .inl (ks 2, 14, .inl (am_fd mm)))] sz)) 0 0 (va_A [(ad 1, .inr (1, [.ref (ad 2), .ref (ad 3), .ref (ad 4), .ref (ad 5), .ref (ad 6), .ref (ad 7), .int (am_st mm), .int (am_fl mm), .int (am_fe mm), .int (am_cr mm)])), (ad 2, .inl (ks 0, 112, .inr (.inl (am_va mm)))), (ad 3, .inl (ks 0, 112, .inr (.inl (am_ke mm)))), (ad 4, .inl (ks 0, 112, .inr (.inl (am_lv mm)))), (ad 5, .inl (ks 1, 112, .inl (am_lc mm))), (ad 6, .inl (ks 2, 14, .inl (am_uf mm))), (ad 7, .inl (ks 2, 14, .inl (am_fd mm)))] sz) := by
  refine bodyV (S := AM) (wN := (fun u => wM ks ad u)) (post := (fun u => u = kl mm k)) (by decide) (Nat.le_of_ble_eq_true rfl) (fun p e s m below meth c A ls F hr hlk hK hN hA hsz hP hD hS hl => ?_)
  obtain ⟨hx, hb, hml, hown, ht⟩ := F
  have hown : s.vm.findClass RM = some m.cls := hown
  have F : CallFix p m c cM_keepLine 4 s ([.ref (ad 1), .int (nI k)] : List Value).toArray TB RM := ⟨hx, hb, hml, hown, ht⟩
  have hl : lv_has ls 4 [(0, .ref (ad 1)), (1, .int (nI k))] := hl
  refine lv_iload_n hx hb dM_keepLine_0 rfl (lv_at hl 1 rfl) ?_
  refine lv_bipush (v := nI 8) hx hb dM_keepLine_1 (by decide) ?_
  refine lv_imul hx hb dM_keepLine_3 ?_
  refine tp_i (nI (8 * k)) (by rw [pk_mul, Nat.mul_comm]) ?_
  refine lv_istore_n (lv' := [(2, .int (nI (8 * k))), (0, .ref (ad 1)), (1, .int (nI k))]) hx hb dM_keepLine_4 rfl hl (by decide) rfl (fun ls hl => ?_)
  refine lv_iload_n hx hb dM_keepLine_5 rfl (lv_at hl 0 rfl) ?_
  refine lv_istore_n (lv' := [(3, .int (nI (8 * k))), (2, .int (nI (8 * k))), (0, .ref (ad 1)), (1, .int (nI k))]) hx hb dM_keepLine_6 rfl hl (by decide) rfl (fun ls hl => ?_)
  have hP : va_P D vwCl [(ad 1, .inr (1, [.ref (ad 2), .ref (ad 3), .ref (ad 4), .ref (ad 5), .ref (ad 6), .ref (ad 7), .int (am_st mm), .int (am_fl mm), .int (am_fe mm), .int (am_cr mm)])), (ad 2, .inl (ks 0, 112, .inr (.inl (am_va mm)))), (ad 3, .inl (ks 0, 112, .inr (.inl (kl_ke mm k 0)))), (ad 4, .inl (ks 0, 112, .inr (.inl (am_lv mm)))), (ad 5, .inl (ks 1, 112, .inl (kl_lc mm k 0))), (ad 6, .inl (ks 2, 14, .inl (am_uf mm))), (ad 7, .inl (ks 2, 14, .inl (am_fd mm)))] s.heap := by rw [kl_ke_0, kl_lc_0]; exact hP
  have hD : va_D A [(ad 1, .inr (1, [.ref (ad 2), .ref (ad 3), .ref (ad 4), .ref (ad 5), .ref (ad 6), .ref (ad 7), .int (am_st mm), .int (am_fl mm), .int (am_fe mm), .int (am_cr mm)])), (ad 2, .inl (ks 0, 112, .inr (.inl (am_va mm)))), (ad 3, .inl (ks 0, 112, .inr (.inl (kl_ke mm k 0)))), (ad 4, .inl (ks 0, 112, .inr (.inl (am_lv mm)))), (ad 5, .inl (ks 1, 112, .inl (kl_lc mm k 0))), (ad 6, .inl (ks 2, 14, .inl (am_uf mm))), (ad 7, .inl (ks 2, 14, .inl (am_fd mm)))] := by rw [kl_ke_0, kl_lc_0]; exact hD
  have hl : lv_has ls 4 [(3, .int (nI (8 * k + 0))), (2, .int (nI (8 * k))), (0, .ref (ad 1))] := lv_sub hl [0, 1, 2] rfl
  have LOOP : ∀ (k9 i : Nat), i + k9 = 8 → ∀ (H : Heap) (locs : List Loc) (ls : Array Slot), lv_has ls 4 [(3, .int (nI (8 * k + i))), (2, .int (nI (8 * k))), (0, .ref (ad 1))] → va_P D vwCl [(ad 1, .inr (1, [.ref (ad 2), .ref (ad 3), .ref (ad 4), .ref (ad 5), .ref (ad 6), .ref (ad 7), .int (am_st mm), .int (am_fl mm), .int (am_fe mm), .int (am_cr mm)])), (ad 2, .inl (ks 0, 112, .inr (.inl (am_va mm)))), (ad 3, .inl (ks 0, 112, .inr (.inl (kl_ke mm k i)))), (ad 4, .inl (ks 0, 112, .inr (.inl (am_lv mm)))), (ad 5, .inl (ks 1, 112, .inl (kl_lc mm k i))), (ad 6, .inl (ks 2, 14, .inl (am_uf mm))), (ad 7, .inl (ks 2, 14, .inl (am_fd mm)))] H → va_D A [(ad 1, .inr (1, [.ref (ad 2), .ref (ad 3), .ref (ad 4), .ref (ad 5), .ref (ad 6), .ref (ad 7), .int (am_st mm), .int (am_fl mm), .int (am_fe mm), .int (am_cr mm)])), (ad 2, .inl (ks 0, 112, .inr (.inl (am_va mm)))), (ad 3, .inl (ks 0, 112, .inr (.inl (kl_ke mm k i)))), (ad 4, .inl (ks 0, 112, .inr (.inl (am_lv mm)))), (ad 5, .inl (ks 1, 112, .inl (kl_lc mm k i))), (ad 6, .inl (ks 2, 14, .inl (am_uf mm))), (ad 7, .inl (ks 2, 14, .inl (am_fd mm)))] → va_S A s.heap H locs → W p l e ({ frames := 0, cells := 0, slots := 0, locals := 0 } : Room) s m ([.ref (ad 1), .int (nI k)] : List Value).toArray below meth c H locs 0 0 (MQ below (va_Qv (S := AM) (fun u => u = kl mm k) (fun u t => Bw D ks A ((fun u => wM ks ad u) u) t) A) ([.ref (ad 1), .int (nI k)] : List Value).toArray s 0 0 A) (F0 m 7 ls []) := by
    intro k9
    induction k9 with
    | zero =>
      intro i h9 H locs ls hl hP hD hS
      have h9 : i = 8 := h9
      subst h9
      refine lv_iload_n hx hb dM_keepLine_7 rfl (lv_at hl 0 rfl) ?_
      refine lv_iload_n hx hb dM_keepLine_8 rfl (lv_at hl 1 rfl) ?_
      refine lv_bipush (v := nI 8) hx hb dM_keepLine_9 (by decide) ?_
      refine lv_iadd hx hb dM_keepLine_11 ?_
      refine tp_i (nI (8 * k + 8)) (nI_add _ _) ?_
      refine lv_icmp_ge (tgt := 40) hx hb dM_keepLine_12 rfl (fun _ => ?_) (fun h => absurd (by first | exact Int32.le_refl _ | (rw [h9]; exact Int32.le_refl _)) h)
      exact endV hx hb hr hlk hK (kl mm k) rfl hP hD hS dM_keepLine_40
    | succ k9 ih =>
      intro i h9 H locs ls hl hP hD hS
      have hlt : i < 8 := by omega
      refine lv_iload_n hx hb dM_keepLine_7 rfl (lv_at hl 0 rfl) ?_
      refine lv_iload_n hx hb dM_keepLine_8 rfl (lv_at hl 1 rfl) ?_
      refine lv_bipush (v := nI 8) hx hb dM_keepLine_9 (by decide) ?_
      refine lv_iadd hx hb dM_keepLine_11 ?_
      refine tp_i (nI (8 * k + 8)) (nI_add _ _) ?_
      refine lv_icmp_ge (tgt := 40) hx hb dM_keepLine_12 rfl (fun h => absurd h (nI_ge (by omega) (by omega))) (fun _ => ?_)
      refine lv_aload_n hx hb dM_keepLine_15 rfl (lv_at hl 2 rfl) ?_
      refine va_get (D := D) (ci := 1) (v := .ref (ad 3)) (C := RM) (T := TM) (N := 10) hx hb ht uw_M hown hK hP 0 rfl rfl 1 (by decide) (ht _ tb_29) (fun _ h => h) rfl dM_keepLine_16 ?_
      refine lv_iload_n hx hb dM_keepLine_19 rfl (lv_at hl 0 rfl) ?_
      refine lv_aload_n hx hb dM_keepLine_20 rfl (lv_at hl 2 rfl) ?_
      refine va_get (D := D) (ci := 1) (v := .ref (ad 2)) (C := RM) (T := TM) (N := 10) hx hb ht uw_M hown hK hP 0 rfl rfl 0 (by decide) (ht _ tb_27) (fun _ h => h) rfl dM_keepLine_21 ?_
      refine lv_iload_n hx hb dM_keepLine_24 rfl (lv_at hl 0 rfl) ?_
      refine ra_l hx hb hK hP 1 rfl (8 * k + i) (by omega) (by decide) rfl dM_keepLine_25 ?_
      refine wa_l hx hb hK hP hD hS 2 rfl (8 * k + i) (by omega) (by decide) rfl dM_keepLine_26 (fun H locs hP hD hS => ?_)
      have hP : va_P D vwCl [(ad 1, .inr (1, [.ref (ad 2), .ref (ad 3), .ref (ad 4), .ref (ad 5), .ref (ad 6), .ref (ad 7), .int (am_st mm), .int (am_fl mm), .int (am_fe mm), .int (am_cr mm)])), (ad 2, .inl (ks 0, 112, .inr (.inl (am_va mm)))), (ad 3, .inl (ks 0, 112, .inr (.inl (vp_updL (kl_ke mm k i) (8 * k + i) ((am_va mm) (8 * k + i)))))), (ad 4, .inl (ks 0, 112, .inr (.inl (am_lv mm)))), (ad 5, .inl (ks 1, 112, .inl (kl_lc mm k i))), (ad 6, .inl (ks 2, 14, .inl (am_uf mm))), (ad 7, .inl (ks 2, 14, .inl (am_fd mm)))] H := hP
      have hD : va_D A [(ad 1, .inr (1, [.ref (ad 2), .ref (ad 3), .ref (ad 4), .ref (ad 5), .ref (ad 6), .ref (ad 7), .int (am_st mm), .int (am_fl mm), .int (am_fe mm), .int (am_cr mm)])), (ad 2, .inl (ks 0, 112, .inr (.inl (am_va mm)))), (ad 3, .inl (ks 0, 112, .inr (.inl (vp_updL (kl_ke mm k i) (8 * k + i) ((am_va mm) (8 * k + i)))))), (ad 4, .inl (ks 0, 112, .inr (.inl (am_lv mm)))), (ad 5, .inl (ks 1, 112, .inl (kl_lc mm k i))), (ad 6, .inl (ks 2, 14, .inl (am_uf mm))), (ad 7, .inl (ks 2, 14, .inl (am_fd mm)))] := hD
      refine lv_aload_n hx hb dM_keepLine_27 rfl (lv_at hl 2 rfl) ?_
      refine va_get (D := D) (ci := 1) (v := .ref (ad 5)) (C := RM) (T := TM) (N := 10) hx hb ht uw_M hown hK hP 0 rfl rfl 3 (by decide) (ht _ tb_31) (fun _ h => h) rfl dM_keepLine_28 ?_
      refine lv_iload_n hx hb dM_keepLine_31 rfl (lv_at hl 0 rfl) ?_
      refine lv_iconst (v := 0) hx hb dM_keepLine_32 (by decide) ?_
      refine wa_i hx hb hK hP hD hS 4 rfl (8 * k + i) (by omega) (by decide) rfl dM_keepLine_33 (fun H locs hP hD hS => ?_)
      have hP : va_P D vwCl [(ad 1, .inr (1, [.ref (ad 2), .ref (ad 3), .ref (ad 4), .ref (ad 5), .ref (ad 6), .ref (ad 7), .int (am_st mm), .int (am_fl mm), .int (am_fe mm), .int (am_cr mm)])), (ad 2, .inl (ks 0, 112, .inr (.inl (am_va mm)))), (ad 3, .inl (ks 0, 112, .inr (.inl (vp_updL (kl_ke mm k i) (8 * k + i) ((am_va mm) (8 * k + i)))))), (ad 4, .inl (ks 0, 112, .inr (.inl (am_lv mm)))), (ad 5, .inl (ks 1, 112, .inl (upd (kl_lc mm k i) (8 * k + i) 0))), (ad 6, .inl (ks 2, 14, .inl (am_uf mm))), (ad 7, .inl (ks 2, 14, .inl (am_fd mm)))] H := hP
      have hD : va_D A [(ad 1, .inr (1, [.ref (ad 2), .ref (ad 3), .ref (ad 4), .ref (ad 5), .ref (ad 6), .ref (ad 7), .int (am_st mm), .int (am_fl mm), .int (am_fe mm), .int (am_cr mm)])), (ad 2, .inl (ks 0, 112, .inr (.inl (am_va mm)))), (ad 3, .inl (ks 0, 112, .inr (.inl (vp_updL (kl_ke mm k i) (8 * k + i) ((am_va mm) (8 * k + i)))))), (ad 4, .inl (ks 0, 112, .inr (.inl (am_lv mm)))), (ad 5, .inl (ks 1, 112, .inl (upd (kl_lc mm k i) (8 * k + i) 0))), (ad 6, .inl (ks 2, 14, .inl (am_uf mm))), (ad 7, .inl (ks 2, 14, .inl (am_fd mm)))] := hD
      refine lv_iinc (k := 0) (x := (nI (8 * k + i))) (v := (nI (8 * k + (i + 1)))) (lv' := [(3, .int (nI (8 * k + (i + 1)))), (2, .int (nI (8 * k))), (0, .ref (ad 1))]) hx hb dM_keepLine_34 hl rfl (nI_1 _) (by decide) rfl (fun ls hl => ?_)
      refine lv_goto (tgt := 7) hx hb dM_keepLine_37 rfl ?_
      have hl : lv_has ls 4 [(3, .int (nI (8 * k + (i + 1)))), (2, .int (nI (8 * k))), (0, .ref (ad 1))] := lv_sub hl [0, 1, 2] rfl
      have eW : ([(ad 1, .inr (1, [.ref (ad 2), .ref (ad 3), .ref (ad 4), .ref (ad 5), .ref (ad 6), .ref (ad 7), .int (am_st mm), .int (am_fl mm), .int (am_fe mm), .int (am_cr mm)])), (ad 2, .inl (ks 0, 112, .inr (.inl (am_va mm)))), (ad 3, .inl (ks 0, 112, .inr (.inl (vp_updL (kl_ke mm k i) (8 * k + i) ((am_va mm) (8 * k + i)))))), (ad 4, .inl (ks 0, 112, .inr (.inl (am_lv mm)))), (ad 5, .inl (ks 1, 112, .inl (upd (kl_lc mm k i) (8 * k + i) 0))), (ad 6, .inl (ks 2, 14, .inl (am_uf mm))), (ad 7, .inl (ks 2, 14, .inl (am_fd mm)))] : va_W) = [(ad 1, .inr (1, [.ref (ad 2), .ref (ad 3), .ref (ad 4), .ref (ad 5), .ref (ad 6), .ref (ad 7), .int (am_st mm), .int (am_fl mm), .int (am_fe mm), .int (am_cr mm)])), (ad 2, .inl (ks 0, 112, .inr (.inl (am_va mm)))), (ad 3, .inl (ks 0, 112, .inr (.inl (kl_ke mm k (i + 1))))), (ad 4, .inl (ks 0, 112, .inr (.inl (am_lv mm)))), (ad 5, .inl (ks 1, 112, .inl (kl_lc mm k (i + 1)))), (ad 6, .inl (ks 2, 14, .inl (am_uf mm))), (ad 7, .inl (ks 2, 14, .inl (am_fd mm)))] := by
        rw [kl_ke_s, kl_lc_s]
      rw [eW] at hP hD
      exact ih (i + 1) (by omega) H locs ls hl hP hD hS
  exact LOOP (8 - 0) 0 (by omega) s.heap _ _ hl hP hD hS

def kp_ke (m : AM) (n : Nat) : Nat → Int64 := fun w => if w / 8 < n ∧ am_fd m (w / 8) ≠ 0 then am_va m w else am_ke m w
def kp_lc (m : AM) (n : Nat) : Nat → Int32 := fun w => if w / 8 < n ∧ am_fd m (w / 8) ≠ 0 then 0 else am_lc m w
def kp_fd (m : AM) (n : Nat) : Nat → Int32 := fun k => if k < n then 0 else am_fd m k
theorem kp_ke_0 (m : AM) : kp_ke m 0 = am_ke m := funext fun w => if_neg (by omega)
theorem kp_lc_0 (m : AM) : kp_lc m 0 = am_lc m := funext fun w => if_neg (by omega)
theorem kp_fd_0 (m : AM) : kp_fd m 0 = am_fd m := funext fun w => if_neg (by omega)
theorem kp_fd_n (m : AM) (n : Nat) : kp_fd m n n = am_fd m n := if_neg (by omega)
theorem kp_fd_s (m : AM) (n : Nat) : upd (kp_fd m n) n 0 = kp_fd m (n + 1) := funext fun k => by
  by_cases e : k = n
  · rw [e, pk_us]; exact (if_pos (by omega)).symm
  · rw [pk_un e]; unfold kp_fd
    by_cases h : k < n
    · rw [if_pos h, if_pos (by omega)]
    · rw [if_neg h, if_neg (by omega)]
theorem kp_fd_k (m : AM) (n : Nat) (h : am_fd m n = 0) : kp_fd m n = kp_fd m (n + 1) := funext fun k => by
  unfold kp_fd
  by_cases e : k = n
  · rw [e, if_neg (by omega), if_pos (by omega)]; exact h
  · by_cases h : k < n
    · rw [if_pos h, if_pos (by omega)]
    · rw [if_neg h, if_neg (by omega)]
theorem kp_ke_k (m : AM) (n : Nat) (h : am_fd m n = 0) : kp_ke m n = kp_ke m (n + 1) := funext fun w => by
  unfold kp_ke
  by_cases e : w / 8 = n
  · rw [if_neg (fun z => by omega), if_neg (fun z => z.2 (by rw [e]; exact h))]
  · by_cases q : w / 8 < n ∧ am_fd m (w / 8) ≠ 0
    · rw [if_pos q, if_pos ⟨by omega, q.2⟩]
    · rw [if_neg q, if_neg (fun z => q ⟨by omega, z.2⟩)]
theorem kp_lc_k (m : AM) (n : Nat) (h : am_fd m n = 0) : kp_lc m n = kp_lc m (n + 1) := funext fun w => by
  unfold kp_lc
  by_cases e : w / 8 = n
  · rw [if_neg (fun z => by omega), if_neg (fun z => z.2 (by rw [e]; exact h))]
  · by_cases q : w / 8 < n ∧ am_fd m (w / 8) ≠ 0
    · rw [if_pos q, if_pos ⟨by omega, q.2⟩]
    · rw [if_neg q, if_neg (fun z => q ⟨by omega, z.2⟩)]
theorem kp_ke_l (m m' : AM) (n : Nat) (h : ¬ am_fd m n = 0) (e1 : am_ke m' = kp_ke m n) (e2 : am_va m' = am_va m) : kl_ke m' n 8 = kp_ke m (n + 1) := funext fun w => by
  unfold kl_ke
  rw [e1, e2]
  unfold kp_ke
  by_cases e : 8 * n ≤ w ∧ w < 8 * n + 8
  · have : w / 8 = n := by omega
    rw [if_pos e, if_pos ⟨by omega, by rw [this]; exact h⟩]
  · rw [if_neg e]
    by_cases q : w / 8 < n ∧ am_fd m (w / 8) ≠ 0
    · rw [if_pos q, if_pos ⟨by omega, q.2⟩]
    · rw [if_neg q, if_neg (fun z => q ⟨by omega, z.2⟩)]
theorem kp_lc_l (m m' : AM) (n : Nat) (h : ¬ am_fd m n = 0) (e1 : am_lc m' = kp_lc m n) : kl_lc m' n 8 = kp_lc m (n + 1) := funext fun w => by
  unfold kl_lc
  rw [e1]
  unfold kp_lc
  by_cases e : 8 * n ≤ w ∧ w < 8 * n + 8
  · have : w / 8 = n := by omega
    rw [if_pos e, if_pos ⟨by omega, by rw [this]; exact h⟩]
  · rw [if_neg e]
    by_cases q : w / 8 < n ∧ am_fd m (w / 8) ≠ 0
    · rw [if_pos q, if_pos ⟨by omega, q.2⟩]
    · rw [if_neg q, if_neg (fun z => q ⟨by omega, z.2⟩)]
set_option maxHeartbeats 4000000 in
set_option maxRecDepth 100000 in
theorem kM_fence (l : Launch) (D : va_G) (ks : Nat → ClassId) (ad : Nat → Nat) (mm : AM) (sz : Nat)  : Met l yM_fence (.code yM_fence cM_fence 2 none :: TB) ({ frames := 1, cells := 0, slots := 0, locals := 23 } : Room) (Pcw D ks [.ref (ad 1)] sz [(ad 1, .inr (1, [.ref (ad 2), .ref (ad 3), .ref (ad 4), .ref (ad 5), .ref (ad 6), .ref (ad 7), .int (am_st mm), .int (am_fl mm), .int (am_fe mm), .int (am_cr mm)])), (ad 2, .inl (ks 0, 112, .inr (.inl (am_va mm)))), (ad 3, .inl (ks 0, 112, .inr (.inl (am_ke mm)))), (ad 4, .inl (ks 0, 112, .inr (.inl (am_lv mm)))), (ad 5, .inl (ks 1, 112, .inl (am_lc mm))), (ad 6, .inl (ks 2, 14, .inl (am_uf mm))), (ad 7, .inl (ks 2, 14, .inl (am_fd mm)))]) (va_Qv (S := AM) (fun u => u = ms_fence mm) (fun u t => Bw D ks (va_A [(ad 1, .inr (1, [.ref (ad 2), .ref (ad 3), .ref (ad 4), .ref (ad 5), .ref (ad 6), .ref (ad 7), .int (am_st mm), .int (am_fl mm), .int (am_fe mm), .int (am_cr mm)])), (ad 2, .inl (ks 0, 112, .inr (.inl (am_va mm)))), (ad 3, .inl (ks 0, 112, .inr (.inl (am_ke mm)))), (ad 4, .inl (ks 0, 112, .inr (.inl (am_lv mm)))), (ad 5, .inl (ks 1, 112, .inl (am_lc mm))), (ad 6, .inl (ks 2, 14, .inl (am_uf mm))), (ad 7, .inl (ks 2, 14, .inl (am_fd mm)))] sz) ((fun u => wM ks ad u) u) t) (va_A [(ad 1, .inr (1, [.ref (ad 2), .ref (ad 3), .ref (ad 4), .ref (ad 5), .ref (ad 6), .ref (ad 7), .int (am_st mm), .int (am_fl mm), .int (am_fe mm), .int (am_cr mm)])), (ad 2, .inl (ks 0, 112, .inr (.inl (am_va mm)))), (ad 3, .inl (ks 0, 112, .inr (.inl (am_ke mm)))), (ad 4, .inl (ks 0, 112, .inr (.inl (am_lv mm)))), (ad 5, .inl (ks 1, 112, .inl (am_lc mm))), (ad 6, .inl (ks 2, 14, .inl (am_uf mm))), (ad 7, .inl (ks 2, 14, .inl (am_fd mm)))] sz)) 0 0 (va_A [(ad 1, .inr (1, [.ref (ad 2), .ref (ad 3), .ref (ad 4), .ref (ad 5), .ref (ad 6), .ref (ad 7), .int (am_st mm), .int (am_fl mm), .int (am_fe mm), .int (am_cr mm)])), (ad 2, .inl (ks 0, 112, .inr (.inl (am_va mm)))), (ad 3, .inl (ks 0, 112, .inr (.inl (am_ke mm)))), (ad 4, .inl (ks 0, 112, .inr (.inl (am_lv mm)))), (ad 5, .inl (ks 1, 112, .inl (am_lc mm))), (ad 6, .inl (ks 2, 14, .inl (am_uf mm))), (ad 7, .inl (ks 2, 14, .inl (am_fd mm)))] sz) := by
  refine bodyV (S := AM) (wN := (fun u => wM ks ad u)) (post := (fun u => u = ms_fence mm)) (by decide) (Nat.le_of_ble_eq_true rfl) (fun p e s m below meth c A ls F hr hlk hK hN hA hsz hP hD hS hl => ?_)
  obtain ⟨hx, hb, hml, hown, ht⟩ := F
  have hown : s.vm.findClass RM = some m.cls := hown
  have F : CallFix p m c cM_fence 2 s ([.ref (ad 1)] : List Value).toArray TB RM := ⟨hx, hb, hml, hown, ht⟩
  have hl : lv_has ls 2 [(0, .ref (ad 1))] := hl
  refine lv_aload_n hx hb dM_fence_0 rfl (lv_at hl 0 rfl) ?_
  refine lv_dup hx hb dM_fence_1 rfl ?_
  refine va_get (D := D) (ci := 1) (v := .int (am_fe mm)) (C := RM) (T := TM) (N := 10) hx hb ht uw_M hown hK hP 0 rfl rfl 8 (by decide) (ht _ tb_38) (fun _ h => h) rfl dM_fence_2 ?_
  refine lv_iconst (v := 1) hx hb dM_fence_5 (by decide) ?_
  refine lv_iadd hx hb dM_fence_6 ?_
  refine va_put (D := D) (ci := 1) (v := .int ((am_fe mm) + 1)) (ty := .int) (C := RM) (T := TM) (N := 10) hx hb ht uw_M ty_M ty_M_ok nm_M hown hK hP hD hS 0 rfl rfl 8 (by decide) (ht _ tb_38) (fun _ h => h) rfl (by decide +kernel) rfl rfl (Nat.le_of_ble_eq_true rfl) dM_fence_7 (fun H locs hP hD hS => ?_)
  have hP : va_P D vwCl [(ad 1, .inr (1, [.ref (ad 2), .ref (ad 3), .ref (ad 4), .ref (ad 5), .ref (ad 6), .ref (ad 7), .int (am_st mm), .int (am_fl mm), .int ((am_fe mm) + 1), .int (am_cr mm)])), (ad 2, .inl (ks 0, 112, .inr (.inl (am_va mm)))), (ad 3, .inl (ks 0, 112, .inr (.inl (am_ke mm)))), (ad 4, .inl (ks 0, 112, .inr (.inl (am_lv mm)))), (ad 5, .inl (ks 1, 112, .inl (am_lc mm))), (ad 6, .inl (ks 2, 14, .inl (am_uf mm))), (ad 7, .inl (ks 2, 14, .inl (am_fd mm)))] H := hP
  have hD : va_D A [(ad 1, .inr (1, [.ref (ad 2), .ref (ad 3), .ref (ad 4), .ref (ad 5), .ref (ad 6), .ref (ad 7), .int (am_st mm), .int (am_fl mm), .int ((am_fe mm) + 1), .int (am_cr mm)])), (ad 2, .inl (ks 0, 112, .inr (.inl (am_va mm)))), (ad 3, .inl (ks 0, 112, .inr (.inl (am_ke mm)))), (ad 4, .inl (ks 0, 112, .inr (.inl (am_lv mm)))), (ad 5, .inl (ks 1, 112, .inl (am_lc mm))), (ad 6, .inl (ks 2, 14, .inl (am_uf mm))), (ad 7, .inl (ks 2, 14, .inl (am_fd mm)))] := hD
  refine lv_iconst (v := nI 0) hx hb dM_fence_10 (by decide) ?_
  refine lv_istore_n (lv' := [(1, .int (nI 0)), (0, .ref (ad 1))]) hx hb dM_fence_11 rfl hl (by decide) rfl (fun ls hl => ?_)
  have hP : va_P D vwCl [(ad 1, .inr (1, [.ref (ad 2), .ref (ad 3), .ref (ad 4), .ref (ad 5), .ref (ad 6), .ref (ad 7), .int (am_st mm), .int (am_fl mm), .int (am_fe mm + 1), .int (am_cr mm)])), (ad 2, .inl (ks 0, 112, .inr (.inl (am_va mm)))), (ad 3, .inl (ks 0, 112, .inr (.inl (kp_ke mm 0)))), (ad 4, .inl (ks 0, 112, .inr (.inl (am_lv mm)))), (ad 5, .inl (ks 1, 112, .inl (kp_lc mm 0))), (ad 6, .inl (ks 2, 14, .inl (am_uf mm))), (ad 7, .inl (ks 2, 14, .inl (kp_fd mm 0)))] H := by rw [kp_ke_0, kp_lc_0, kp_fd_0]; exact hP
  have hD : va_D A [(ad 1, .inr (1, [.ref (ad 2), .ref (ad 3), .ref (ad 4), .ref (ad 5), .ref (ad 6), .ref (ad 7), .int (am_st mm), .int (am_fl mm), .int (am_fe mm + 1), .int (am_cr mm)])), (ad 2, .inl (ks 0, 112, .inr (.inl (am_va mm)))), (ad 3, .inl (ks 0, 112, .inr (.inl (kp_ke mm 0)))), (ad 4, .inl (ks 0, 112, .inr (.inl (am_lv mm)))), (ad 5, .inl (ks 1, 112, .inl (kp_lc mm 0))), (ad 6, .inl (ks 2, 14, .inl (am_uf mm))), (ad 7, .inl (ks 2, 14, .inl (kp_fd mm 0)))] := by rw [kp_ke_0, kp_lc_0, kp_fd_0]; exact hD
  have LOOP : ∀ (k9 i : Nat), i + k9 = 14 → ∀ (H : Heap) (locs : List Loc) (ls : Array Slot), lv_has ls 2 [(1, .int (nI i)), (0, .ref (ad 1))] → va_P D vwCl [(ad 1, .inr (1, [.ref (ad 2), .ref (ad 3), .ref (ad 4), .ref (ad 5), .ref (ad 6), .ref (ad 7), .int (am_st mm), .int (am_fl mm), .int (am_fe mm + 1), .int (am_cr mm)])), (ad 2, .inl (ks 0, 112, .inr (.inl (am_va mm)))), (ad 3, .inl (ks 0, 112, .inr (.inl (kp_ke mm i)))), (ad 4, .inl (ks 0, 112, .inr (.inl (am_lv mm)))), (ad 5, .inl (ks 1, 112, .inl (kp_lc mm i))), (ad 6, .inl (ks 2, 14, .inl (am_uf mm))), (ad 7, .inl (ks 2, 14, .inl (kp_fd mm i)))] H → va_D A [(ad 1, .inr (1, [.ref (ad 2), .ref (ad 3), .ref (ad 4), .ref (ad 5), .ref (ad 6), .ref (ad 7), .int (am_st mm), .int (am_fl mm), .int (am_fe mm + 1), .int (am_cr mm)])), (ad 2, .inl (ks 0, 112, .inr (.inl (am_va mm)))), (ad 3, .inl (ks 0, 112, .inr (.inl (kp_ke mm i)))), (ad 4, .inl (ks 0, 112, .inr (.inl (am_lv mm)))), (ad 5, .inl (ks 1, 112, .inl (kp_lc mm i))), (ad 6, .inl (ks 2, 14, .inl (am_uf mm))), (ad 7, .inl (ks 2, 14, .inl (kp_fd mm i)))] → va_S A s.heap H locs → W p l e ({ frames := 1, cells := 0, slots := 0, locals := 23 } : Room) s m ([.ref (ad 1)] : List Value).toArray below meth c H locs 0 0 (MQ below (va_Qv (S := AM) (fun u => u = ms_fence mm) (fun u t => Bw D ks A ((fun u => wM ks ad u) u) t) A) ([.ref (ad 1)] : List Value).toArray s 0 0 A) (F0 m 12 ls []) := by
    intro k9
    induction k9 with
    | zero =>
      intro i h9 H locs ls hl hP hD hS
      have h9 : i = 14 := h9
      subst h9
      refine lv_iload_n hx hb dM_fence_12 rfl (lv_at hl 0 rfl) ?_
      refine lv_bipush (v := nI 14) hx hb dM_fence_13 (by decide) ?_
      refine lv_icmp_ge (tgt := 45) hx hb dM_fence_15 rfl (fun _ => ?_) (fun h => absurd (by first | exact Int32.le_refl _ | (rw [h9]; exact Int32.le_refl _)) h)
      exact endV hx hb hr hlk hK (ms_fence mm) rfl hP hD hS dM_fence_45
    | succ k9 ih =>
      intro i h9 H locs ls hl hP hD hS
      have hlt : i < 14 := by omega
      refine lv_iload_n hx hb dM_fence_12 rfl (lv_at hl 0 rfl) ?_
      refine lv_bipush (v := nI 14) hx hb dM_fence_13 (by decide) ?_
      refine lv_icmp_ge (tgt := 45) hx hb dM_fence_15 rfl (fun h => absurd h (nI_ge (by omega) (by omega))) (fun _ => ?_)
      refine lv_aload_n hx hb dM_fence_18 rfl (lv_at hl 1 rfl) ?_
      refine va_get (D := D) (ci := 1) (v := .ref (ad 7)) (C := RM) (T := TM) (N := 10) hx hb ht uw_M hown hK hP 0 rfl rfl 5 (by decide) (ht _ tb_33) (fun _ h => h) rfl dM_fence_19 ?_
      refine lv_iload_n hx hb dM_fence_22 rfl (lv_at hl 0 rfl) ?_
      refine ra_z hx hb hK hP 6 rfl i hlt (by decide) rfl dM_fence_23 ?_
      refine tp_i (am_fd mm i) (kp_fd_n mm i) ?_
      refine lv_if_eq (tgt := 39) hx hb dM_fence_24 rfl (fun h1 => ?_) (fun h2 => ?_)
      · skip
        refine lv_iinc (k := 0) (x := (nI i)) (v := (nI (i + 1))) (lv' := [(1, .int (nI (i + 1))), (0, .ref (ad 1))]) hx hb dM_fence_39 hl rfl (nI_1 _) (by decide) rfl (fun ls hl => ?_)
        refine lv_goto (tgt := 12) hx hb dM_fence_42 rfl ?_
        have hl : lv_has ls 2 [(1, .int (nI (i + 1))), (0, .ref (ad 1))] := lv_sub hl [0, 1] rfl
        have eW : ([(ad 1, .inr (1, [.ref (ad 2), .ref (ad 3), .ref (ad 4), .ref (ad 5), .ref (ad 6), .ref (ad 7), .int (am_st mm), .int (am_fl mm), .int (am_fe mm + 1), .int (am_cr mm)])), (ad 2, .inl (ks 0, 112, .inr (.inl (am_va mm)))), (ad 3, .inl (ks 0, 112, .inr (.inl (kp_ke mm i)))), (ad 4, .inl (ks 0, 112, .inr (.inl (am_lv mm)))), (ad 5, .inl (ks 1, 112, .inl (kp_lc mm i))), (ad 6, .inl (ks 2, 14, .inl (am_uf mm))), (ad 7, .inl (ks 2, 14, .inl (kp_fd mm i)))] : va_W) = [(ad 1, .inr (1, [.ref (ad 2), .ref (ad 3), .ref (ad 4), .ref (ad 5), .ref (ad 6), .ref (ad 7), .int (am_st mm), .int (am_fl mm), .int (am_fe mm + 1), .int (am_cr mm)])), (ad 2, .inl (ks 0, 112, .inr (.inl (am_va mm)))), (ad 3, .inl (ks 0, 112, .inr (.inl (kp_ke mm (i + 1))))), (ad 4, .inl (ks 0, 112, .inr (.inl (am_lv mm)))), (ad 5, .inl (ks 1, 112, .inl (kp_lc mm (i + 1)))), (ad 6, .inl (ks 2, 14, .inl (am_uf mm))), (ad 7, .inl (ks 2, 14, .inl (kp_fd mm (i + 1))))] := by
          rw [kp_ke_k mm i h1, kp_lc_k mm i h1, kp_fd_k mm i h1]
        rw [eW] at hP hD
        exact ih (i + 1) (by omega) H locs ls hl hP hD hS
      · skip
        refine lv_aload_n hx hb dM_fence_27 rfl (lv_at hl 1 rfl) ?_
        refine lv_iload_n hx hb dM_fence_28 rfl (lv_at hl 0 rfl) ?_
        refine gcv (wr := []) [0, 1, 2, 3, 4, 5, 6] [] rfl rfl rfl (by decide) (va_runV (As := [.int (nI i)]) (rest := []) F (kM_keepLine l D ks ad (am_va mm, kp_ke mm i, am_lv mm, kp_lc mm i, am_uf mm, kp_fd mm i, am_st mm, am_fl mm, am_fe mm + 1, am_cr mm) i H.size hlt) (cwV (C := RM) 1 ht (tb_v tb_299 tb_301 tb_sM_keepLine tb_2 tb_302) rfl rfl rfl ⟨rfl, by decide, by decide, by decide +kernel⟩ ⟨by decide, by decide⟩) (preV 0 1 rfl rfl rfl hK hN hP hD [0, 1, 2, 3, 4, 5, 6] rfl rfl) rfl rfl hl.1 rfl (lv_room (Nat.le_of_ble_eq_true rfl)) dM_fence_29 (by decide)) hP hD hS hA (fun u1 H locs q1 hP hD hS => ?_)
        have hP : va_P D vwCl [(ad 1, .inr (1, [.ref (ad 2), .ref (ad 3), .ref (ad 4), .ref (ad 5), .ref (ad 6), .ref (ad 7), .int (am_st u1), .int (am_fl u1), .int (am_fe u1), .int (am_cr u1)])), (ad 2, .inl (ks 0, 112, .inr (.inl (am_va u1)))), (ad 3, .inl (ks 0, 112, .inr (.inl (am_ke u1)))), (ad 4, .inl (ks 0, 112, .inr (.inl (am_lv u1)))), (ad 5, .inl (ks 1, 112, .inl (am_lc u1))), (ad 6, .inl (ks 2, 14, .inl (am_uf u1))), (ad 7, .inl (ks 2, 14, .inl (am_fd u1)))] H := hP
        have hD : va_D A [(ad 1, .inr (1, [.ref (ad 2), .ref (ad 3), .ref (ad 4), .ref (ad 5), .ref (ad 6), .ref (ad 7), .int (am_st u1), .int (am_fl u1), .int (am_fe u1), .int (am_cr u1)])), (ad 2, .inl (ks 0, 112, .inr (.inl (am_va u1)))), (ad 3, .inl (ks 0, 112, .inr (.inl (am_ke u1)))), (ad 4, .inl (ks 0, 112, .inr (.inl (am_lv u1)))), (ad 5, .inl (ks 1, 112, .inl (am_lc u1))), (ad 6, .inl (ks 2, 14, .inl (am_uf u1))), (ad 7, .inl (ks 2, 14, .inl (am_fd u1)))] := hD
        subst q1
        have hP : va_P D vwCl [(ad 1, .inr (1, [.ref (ad 2), .ref (ad 3), .ref (ad 4), .ref (ad 5), .ref (ad 6), .ref (ad 7), .int (am_st mm), .int (am_fl mm), .int (am_fe mm + 1), .int (am_cr mm)])), (ad 2, .inl (ks 0, 112, .inr (.inl (am_va mm)))), (ad 3, .inl (ks 0, 112, .inr (.inl (kl_ke (am_va mm, kp_ke mm i, am_lv mm, kp_lc mm i, am_uf mm, kp_fd mm i, am_st mm, am_fl mm, am_fe mm + 1, am_cr mm) i 8)))), (ad 4, .inl (ks 0, 112, .inr (.inl (am_lv mm)))), (ad 5, .inl (ks 1, 112, .inl (kl_lc (am_va mm, kp_ke mm i, am_lv mm, kp_lc mm i, am_uf mm, kp_fd mm i, am_st mm, am_fl mm, am_fe mm + 1, am_cr mm) i 8))), (ad 6, .inl (ks 2, 14, .inl (am_uf mm))), (ad 7, .inl (ks 2, 14, .inl (kp_fd mm i)))] H := hP
        have hD : va_D A [(ad 1, .inr (1, [.ref (ad 2), .ref (ad 3), .ref (ad 4), .ref (ad 5), .ref (ad 6), .ref (ad 7), .int (am_st mm), .int (am_fl mm), .int (am_fe mm + 1), .int (am_cr mm)])), (ad 2, .inl (ks 0, 112, .inr (.inl (am_va mm)))), (ad 3, .inl (ks 0, 112, .inr (.inl (kl_ke (am_va mm, kp_ke mm i, am_lv mm, kp_lc mm i, am_uf mm, kp_fd mm i, am_st mm, am_fl mm, am_fe mm + 1, am_cr mm) i 8)))), (ad 4, .inl (ks 0, 112, .inr (.inl (am_lv mm)))), (ad 5, .inl (ks 1, 112, .inl (kl_lc (am_va mm, kp_ke mm i, am_lv mm, kp_lc mm i, am_uf mm, kp_fd mm i, am_st mm, am_fl mm, am_fe mm + 1, am_cr mm) i 8))), (ad 6, .inl (ks 2, 14, .inl (am_uf mm))), (ad 7, .inl (ks 2, 14, .inl (kp_fd mm i)))] := hD
        rw [kp_ke_l mm (am_va mm, kp_ke mm i, am_lv mm, kp_lc mm i, am_uf mm, kp_fd mm i, am_st mm, am_fl mm, am_fe mm + 1, am_cr mm) i h2 rfl rfl, kp_lc_l mm (am_va mm, kp_ke mm i, am_lv mm, kp_lc mm i, am_uf mm, kp_fd mm i, am_st mm, am_fl mm, am_fe mm + 1, am_cr mm) i h2 rfl] at hP hD
        refine lv_aload_n hx hb dM_fence_32 rfl (lv_at hl 1 rfl) ?_
        refine va_get (D := D) (ci := 1) (v := .ref (ad 7)) (C := RM) (T := TM) (N := 10) hx hb ht uw_M hown hK hP 0 rfl rfl 5 (by decide) (ht _ tb_33) (fun _ h => h) rfl dM_fence_33 ?_
        refine lv_iload_n hx hb dM_fence_36 rfl (lv_at hl 0 rfl) ?_
        refine lv_iconst (v := nI 0) hx hb dM_fence_37 (by decide) ?_
        refine wa_z hx hb hK hP hD hS 6 rfl i hlt (by decide) rfl 0 (by decide) dM_fence_38 (fun H locs hP hD hS => ?_)
        have hP : va_P D vwCl [(ad 1, .inr (1, [.ref (ad 2), .ref (ad 3), .ref (ad 4), .ref (ad 5), .ref (ad 6), .ref (ad 7), .int (am_st mm), .int (am_fl mm), .int (am_fe mm + 1), .int (am_cr mm)])), (ad 2, .inl (ks 0, 112, .inr (.inl (am_va mm)))), (ad 3, .inl (ks 0, 112, .inr (.inl (kp_ke mm (i + 1))))), (ad 4, .inl (ks 0, 112, .inr (.inl (am_lv mm)))), (ad 5, .inl (ks 1, 112, .inl (kp_lc mm (i + 1)))), (ad 6, .inl (ks 2, 14, .inl (am_uf mm))), (ad 7, .inl (ks 2, 14, .inl (upd (kp_fd mm i) i 0)))] H := hP
        have hD : va_D A [(ad 1, .inr (1, [.ref (ad 2), .ref (ad 3), .ref (ad 4), .ref (ad 5), .ref (ad 6), .ref (ad 7), .int (am_st mm), .int (am_fl mm), .int (am_fe mm + 1), .int (am_cr mm)])), (ad 2, .inl (ks 0, 112, .inr (.inl (am_va mm)))), (ad 3, .inl (ks 0, 112, .inr (.inl (kp_ke mm (i + 1))))), (ad 4, .inl (ks 0, 112, .inr (.inl (am_lv mm)))), (ad 5, .inl (ks 1, 112, .inl (kp_lc mm (i + 1)))), (ad 6, .inl (ks 2, 14, .inl (am_uf mm))), (ad 7, .inl (ks 2, 14, .inl (upd (kp_fd mm i) i 0)))] := hD
        refine lv_iinc (k := 0) (x := (nI i)) (v := (nI (i + 1))) (lv' := [(1, .int (nI (i + 1))), (0, .ref (ad 1))]) hx hb dM_fence_39 hl rfl (nI_1 _) (by decide) rfl (fun ls hl => ?_)
        refine lv_goto (tgt := 12) hx hb dM_fence_42 rfl ?_
        have hl : lv_has ls 2 [(1, .int (nI (i + 1))), (0, .ref (ad 1))] := lv_sub hl [0, 1] rfl
        have eW : ([(ad 1, .inr (1, [.ref (ad 2), .ref (ad 3), .ref (ad 4), .ref (ad 5), .ref (ad 6), .ref (ad 7), .int (am_st mm), .int (am_fl mm), .int (am_fe mm + 1), .int (am_cr mm)])), (ad 2, .inl (ks 0, 112, .inr (.inl (am_va mm)))), (ad 3, .inl (ks 0, 112, .inr (.inl (kp_ke mm (i + 1))))), (ad 4, .inl (ks 0, 112, .inr (.inl (am_lv mm)))), (ad 5, .inl (ks 1, 112, .inl (kp_lc mm (i + 1)))), (ad 6, .inl (ks 2, 14, .inl (am_uf mm))), (ad 7, .inl (ks 2, 14, .inl (upd (kp_fd mm i) i 0)))] : va_W) = [(ad 1, .inr (1, [.ref (ad 2), .ref (ad 3), .ref (ad 4), .ref (ad 5), .ref (ad 6), .ref (ad 7), .int (am_st mm), .int (am_fl mm), .int (am_fe mm + 1), .int (am_cr mm)])), (ad 2, .inl (ks 0, 112, .inr (.inl (am_va mm)))), (ad 3, .inl (ks 0, 112, .inr (.inl (kp_ke mm (i + 1))))), (ad 4, .inl (ks 0, 112, .inr (.inl (am_lv mm)))), (ad 5, .inl (ks 1, 112, .inl (kp_lc mm (i + 1)))), (ad 6, .inl (ks 2, 14, .inl (am_uf mm))), (ad 7, .inl (ks 2, 14, .inl (kp_fd mm (i + 1))))] := by
          rw [kp_fd_s]
        rw [eW] at hP hD
        exact ih (i + 1) (by omega) H locs ls hl hP hD hS
  exact LOOP (14 - 0) 0 (by omega) H _ _ hl hP hD hS

