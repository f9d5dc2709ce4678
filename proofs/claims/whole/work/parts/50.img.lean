abbrev wI (ks : Nat → ClassId) (qi qw : Nat) (wd : Nat → Int64) : va_W := [(qi, .inr (0, [.ref qw])), (qw, .inl (ks 0, 31, .inr (.inl wd)))]
set_option maxHeartbeats 4000000 in
set_option maxRecDepth 100000 in
theorem kI_queueSize (l : Launch) (D : va_G) (ks : Nat → ClassId) (qi qw : Nat) (wd : Nat → Int64) (n9 : Nat) (sz : Nat) (hn : n9 ≤ 8) (h5 : wd 5 = lN n9) : Met l yI_queueSize (.code yI_queueSize cI_queueSize 1 (some .int) :: TB) ({ frames := 2, cells := 0, slots := 0, locals := 42 } : Room) (Pcw D ks [.ref qi] sz [(qi, .inr (0, [.ref qw])), (qw, .inl (ks 0, 31, .inr (.inl wd)))]) (va_Qi (S := Unit) (fun r _ => r = nI n9) (fun u t => Bw D ks (va_A [(qi, .inr (0, [.ref qw])), (qw, .inl (ks 0, 31, .inr (.inl wd)))] sz) ((fun _ => wI ks qi qw wd) u) t) (va_A [(qi, .inr (0, [.ref qw])), (qw, .inl (ks 0, 31, .inr (.inl wd)))] sz)) 0 0 (va_A [(qi, .inr (0, [.ref qw])), (qw, .inl (ks 0, 31, .inr (.inl wd)))] sz) := by
  refine bodyI (S := Unit) (wN := (fun _ => wI ks qi qw wd)) (post := (fun r _ => r = nI n9)) (by decide) (Nat.le_of_ble_eq_true rfl) (fun p e s m below meth c A ls F hr hlk hK hN hA hsz hP hD hS hl => ?_)
  obtain ⟨hx, hb, hml, hown, ht⟩ := F
  have hown : s.vm.findClass RI = some m.cls := hown
  have F : CallFix p m c cI_queueSize 1 s ([.ref qi] : List Value).toArray TB RI := ⟨hx, hb, hml, hown, ht⟩
  have hl : lv_has ls 1 [(0, .ref qi)] := hl
  refine lv_aload_n hx hb dI_queueSize_0 rfl (lv_at hl 0 rfl) ?_
  refine va_get (D := D) (ci := 0) (v := .ref qw) (C := RI) (T := TI) (N := 1) hx hb ht uw_I hown hK hP 0 rfl rfl 0 (by decide) (ht _ tb_72) (fun _ h => h) rfl dI_queueSize_1 ?_
  refine lv_iconst (v := nI 5) hx hb dI_queueSize_4 (by decide) ?_
  refine ra_l hx hb hK hP 1 rfl 5 (by decide) (by decide) rfl dI_queueSize_5 ?_
  refine tp_l (lN n9) h5 ?_
  refine lv_bipush (v := nI 8) hx hb dI_queueSize_6 (by decide) ?_
  refine gpi (va_runSN (As := [.long (lN n9), .int (nI 8)]) (rest := []) F (kS_bounded l D ks n9 8 s.heap.size hn (by decide)) ⟨va_cnB (host := RS) 2 ht (tb_code tb_135) rfl rfl rfl (hN _ nb_133) (ht _ tb_1) ⟨by decide, by decide, by decide +kernel⟩ ⟨by decide, by decide⟩, ht _ tb_134, trivial⟩ (preS hK hN hP hD [] rfl rfl) rfl rfl hl.1 rfl (lv_room (Nat.le_of_ble_eq_true rfl)) dI_queueSize_8 (by decide)) hP hD hS hA (fun r1 H locs q1 hP hS => ?_)
  rw [q1]
  exact endI hx hb hr hlk hK () rfl hP hD hS dI_queueSize_11

set_option maxHeartbeats 4000000 in
set_option maxRecDepth 100000 in
theorem kI_pairs (l : Launch) (D : va_G) (ks : Nat → ClassId) (qi qw : Nat) (wd : Nat → Int64) (p9 : Nat) (sz : Nat) (hp : p9 ≤ 8) (h14 : wd 14 = lN p9) : Met l yI_pairs (.code yI_pairs cI_pairs 1 (some .int) :: TB) ({ frames := 2, cells := 0, slots := 0, locals := 42 } : Room) (Pcw D ks [.ref qi] sz [(qi, .inr (0, [.ref qw])), (qw, .inl (ks 0, 31, .inr (.inl wd)))]) (va_Qi (S := Unit) (fun r _ => r = nI p9) (fun u t => Bw D ks (va_A [(qi, .inr (0, [.ref qw])), (qw, .inl (ks 0, 31, .inr (.inl wd)))] sz) ((fun _ => wI ks qi qw wd) u) t) (va_A [(qi, .inr (0, [.ref qw])), (qw, .inl (ks 0, 31, .inr (.inl wd)))] sz)) 0 0 (va_A [(qi, .inr (0, [.ref qw])), (qw, .inl (ks 0, 31, .inr (.inl wd)))] sz) := by
  refine bodyI (S := Unit) (wN := (fun _ => wI ks qi qw wd)) (post := (fun r _ => r = nI p9)) (by decide) (Nat.le_of_ble_eq_true rfl) (fun p e s m below meth c A ls F hr hlk hK hN hA hsz hP hD hS hl => ?_)
  obtain ⟨hx, hb, hml, hown, ht⟩ := F
  have hown : s.vm.findClass RI = some m.cls := hown
  have F : CallFix p m c cI_pairs 1 s ([.ref qi] : List Value).toArray TB RI := ⟨hx, hb, hml, hown, ht⟩
  have hl : lv_has ls 1 [(0, .ref qi)] := hl
  refine lv_aload_n hx hb dI_pairs_0 rfl (lv_at hl 0 rfl) ?_
  refine va_get (D := D) (ci := 0) (v := .ref qw) (C := RI) (T := TI) (N := 1) hx hb ht uw_I hown hK hP 0 rfl rfl 0 (by decide) (ht _ tb_72) (fun _ h => h) rfl dI_pairs_1 ?_
  refine lv_bipush (v := nI 14) hx hb dI_pairs_4 (by decide) ?_
  refine ra_l hx hb hK hP 1 rfl 14 (by decide) (by decide) rfl dI_pairs_6 ?_
  refine tp_l (lN p9) h14 ?_
  refine lv_bipush (v := nI 8) hx hb dI_pairs_7 (by decide) ?_
  refine gpi (va_runSN (As := [.long (lN p9), .int (nI 8)]) (rest := []) F (kS_bounded l D ks p9 8 s.heap.size hp (by decide)) ⟨va_cnB (host := RS) 2 ht (tb_code tb_135) rfl rfl rfl (hN _ nb_133) (ht _ tb_1) ⟨by decide, by decide, by decide +kernel⟩ ⟨by decide, by decide⟩, ht _ tb_134, trivial⟩ (preS hK hN hP hD [] rfl rfl) rfl rfl hl.1 rfl (lv_room (Nat.le_of_ble_eq_true rfl)) dI_pairs_9 (by decide)) hP hD hS hA (fun r1 H locs q1 hP hS => ?_)
  rw [q1]
  exact endI hx hb hr hlk hK () rfl hP hD hS dI_pairs_12

set_option maxHeartbeats 4000000 in
set_option maxRecDepth 100000 in
theorem kI_raise (l : Launch) (D : va_G) (ks : Nat → ClassId) (qi qw : Nat) (wd : Nat → Int64) (k9 : Nat) (x9 : Int64) (sz : Nat) (hk : k9 < 4) : Met l yI_raise (.code yI_raise cI_raise 4 none :: TB) ({ frames := 1, cells := 0, slots := 0, locals := 22 } : Room) (Pcw D ks [.ref qi, .int (nI k9), .long x9] sz [(qi, .inr (0, [.ref qw])), (qw, .inl (ks 0, 31, .inr (.inl wd)))]) (va_Qv (S := (Nat → Int64)) (fun u => u = vp_updL wd k9 (wd k9 + x9)) (fun u t => Bw D ks (va_A [(qi, .inr (0, [.ref qw])), (qw, .inl (ks 0, 31, .inr (.inl wd)))] sz) ((fun u => wI ks qi qw u) u) t) (va_A [(qi, .inr (0, [.ref qw])), (qw, .inl (ks 0, 31, .inr (.inl wd)))] sz)) 0 0 (va_A [(qi, .inr (0, [.ref qw])), (qw, .inl (ks 0, 31, .inr (.inl wd)))] sz) := by
  refine bodyV (S := (Nat → Int64)) (wN := (fun u => wI ks qi qw u)) (post := (fun u => u = vp_updL wd k9 (wd k9 + x9))) (by decide) (Nat.le_of_ble_eq_true rfl) (fun p e s m below meth c A ls F hr hlk hK hN hA hsz hP hD hS hl => ?_)
  obtain ⟨hx, hb, hml, hown, ht⟩ := F
  have hown : s.vm.findClass RI = some m.cls := hown
  have F : CallFix p m c cI_raise 4 s ([.ref qi, .int (nI k9), .long x9] : List Value).toArray TB RI := ⟨hx, hb, hml, hown, ht⟩
  have hl : lv_has ls 4 [(0, .ref qi), (1, .int (nI k9)), (2, .long x9)] := hl
  refine lv_iload_n hx hb dI_raise_0 rfl (lv_at hl 1 rfl) ?_
  refine lv_i2l (v := (nI k9).toInt64) hx hb dI_raise_1 rfl ?_
  refine lv_iconst (v := nI 3) hx hb dI_raise_2 (by decide) ?_
  refine gpi (va_runSN (As := [.long (nI k9).toInt64, .int (nI 3)]) (rest := []) F (kS_isWithin l D ks ((nI k9).toInt64) (nI 3) s.heap.size ) ⟨va_cnB (host := RS) 2 ht (tb_code tb_119) rfl rfl rfl (hN _ nb_348) (ht _ tb_1) ⟨by decide, by decide, by decide +kernel⟩ ⟨by decide, by decide⟩, ht _ tb_118, trivial⟩ (preS hK hN hP hD [] rfl rfl) rfl rfl hl.1 rfl (lv_room (Nat.le_of_ble_eq_true rfl)) dI_raise_3 (by decide)) hP hD hS hA (fun r1 H locs q1 hP hS => ?_)
  have q1 : r1 = 1 := by rw [q1]; exact bI_t ((lN_iff (n := k9) (by omega) 3 (by omega)).mpr (by omega))
  refine lv_if_eq (tgt := 19) hx hb dI_raise_6 rfl (fun h => absurd h (by rw [q1]; decide)) (fun _ => ?_)
  refine lv_aload_n hx hb dI_raise_9 rfl (lv_at hl 0 rfl) ?_
  refine va_get (D := D) (ci := 0) (v := .ref qw) (C := RI) (T := TI) (N := 1) hx hb ht uw_I hown hK hP 0 rfl rfl 0 (by decide) (ht _ tb_72) (fun _ h => h) rfl dI_raise_10 ?_
  refine lv_iload_n hx hb dI_raise_13 rfl (lv_at hl 1 rfl) ?_
  refine lv_dup2_11 hx hb dI_raise_14 rfl rfl ?_
  refine ra_l hx hb hK hP 1 rfl k9 (by omega) (by decide) rfl dI_raise_15 ?_
  refine lv_lload_n hx hb dI_raise_16 rfl (lv_at hl 2 rfl) ?_
  refine lv_ladd hx hb dI_raise_17 ?_
  refine wa_l hx hb hK hP hD hS 1 rfl k9 (by omega) (by decide) rfl dI_raise_18 (fun H locs hP hD hS => ?_)
  have hP : va_P D vwCl [(qi, .inr (0, [.ref qw])), (qw, .inl (ks 0, 31, .inr (.inl (vp_updL wd k9 ((wd k9) + x9)))))] H := hP
  have hD : va_D A [(qi, .inr (0, [.ref qw])), (qw, .inl (ks 0, 31, .inr (.inl (vp_updL wd k9 ((wd k9) + x9)))))] := hD
  exact endV hx hb hr hlk hK (vp_updL wd k9 (wd k9 + x9)) rfl hP hD hS dI_raise_19

set_option maxHeartbeats 4000000 in
set_option maxRecDepth 100000 in
theorem kI_counterAt (l : Launch) (D : va_G) (ks : Nat → ClassId) (qi qw : Nat) (wd : Nat → Int64) (k9 : Nat) (sz : Nat) (hk : k9 < 4) : Met l yI_counterAt (.code yI_counterAt cI_counterAt 2 (some .long) :: TB) ({ frames := 1, cells := 0, slots := 0, locals := 22 } : Room) (Pcw D ks [.ref qi, .int (nI k9)] sz [(qi, .inr (0, [.ref qw])), (qw, .inl (ks 0, 31, .inr (.inl wd)))]) (va_Ql (S := Unit) (fun r _ => r = wd k9) (fun u t => Bw D ks (va_A [(qi, .inr (0, [.ref qw])), (qw, .inl (ks 0, 31, .inr (.inl wd)))] sz) ((fun _ => wI ks qi qw wd) u) t) (va_A [(qi, .inr (0, [.ref qw])), (qw, .inl (ks 0, 31, .inr (.inl wd)))] sz)) 0 0 (va_A [(qi, .inr (0, [.ref qw])), (qw, .inl (ks 0, 31, .inr (.inl wd)))] sz) := by
  refine bodyL (S := Unit) (wN := (fun _ => wI ks qi qw wd)) (post := (fun r _ => r = wd k9)) (by decide) (Nat.le_of_ble_eq_true rfl) (fun p e s m below meth c A ls F hr hlk hK hN hA hsz hP hD hS hl => ?_)
  obtain ⟨hx, hb, hml, hown, ht⟩ := F
  have hown : s.vm.findClass RI = some m.cls := hown
  have F : CallFix p m c cI_counterAt 2 s ([.ref qi, .int (nI k9)] : List Value).toArray TB RI := ⟨hx, hb, hml, hown, ht⟩
  have hl : lv_has ls 2 [(0, .ref qi), (1, .int (nI k9))] := hl
  refine lv_iload_n hx hb dI_counterAt_0 rfl (lv_at hl 1 rfl) ?_
  refine lv_i2l (v := (nI k9).toInt64) hx hb dI_counterAt_1 rfl ?_
  refine lv_iconst (v := nI 3) hx hb dI_counterAt_2 (by decide) ?_
  refine gpi (va_runSN (As := [.long (nI k9).toInt64, .int (nI 3)]) (rest := []) F (kS_isWithin l D ks ((nI k9).toInt64) (nI 3) s.heap.size ) ⟨va_cnB (host := RS) 2 ht (tb_code tb_119) rfl rfl rfl (hN _ nb_348) (ht _ tb_1) ⟨by decide, by decide, by decide +kernel⟩ ⟨by decide, by decide⟩, ht _ tb_118, trivial⟩ (preS hK hN hP hD [] rfl rfl) rfl rfl hl.1 rfl (lv_room (Nat.le_of_ble_eq_true rfl)) dI_counterAt_3 (by decide)) hP hD hS hA (fun r1 H locs q1 hP hS => ?_)
  have q1 : r1 = 1 := by rw [q1]; exact bI_t ((lN_iff (n := k9) (by omega) 3 (by omega)).mpr (by omega))
  refine lv_if_eq (tgt := 18) hx hb dI_counterAt_6 rfl (fun h => absurd h (by rw [q1]; decide)) (fun _ => ?_)
  refine lv_aload_n hx hb dI_counterAt_9 rfl (lv_at hl 0 rfl) ?_
  refine va_get (D := D) (ci := 0) (v := .ref qw) (C := RI) (T := TI) (N := 1) hx hb ht uw_I hown hK hP 0 rfl rfl 0 (by decide) (ht _ tb_72) (fun _ h => h) rfl dI_counterAt_10 ?_
  refine lv_iload_n hx hb dI_counterAt_13 rfl (lv_at hl 1 rfl) ?_
  refine ra_l hx hb hK hP 1 rfl k9 (by omega) (by decide) rfl dI_counterAt_14 ?_
  refine lv_goto (tgt := 19) hx hb dI_counterAt_15 rfl ?_
  exact endL hx hb hr hlk hK () rfl hP hD hS dI_counterAt_19

set_option maxHeartbeats 4000000 in
set_option maxRecDepth 100000 in
theorem kI_keyAt (l : Launch) (D : va_G) (ks : Nat → ClassId) (qi qw : Nat) (wd : Nat → Int64) (k9 : Nat) (sz : Nat) (hk : k9 < 8) : Met l yI_keyAt (.code yI_keyAt cI_keyAt 2 (some .long) :: TB) ({ frames := 1, cells := 0, slots := 0, locals := 22 } : Room) (Pcw D ks [.ref qi, .int (nI k9)] sz [(qi, .inr (0, [.ref qw])), (qw, .inl (ks 0, 31, .inr (.inl wd)))]) (va_Ql (S := Unit) (fun r _ => r = wd (15 + k9)) (fun u t => Bw D ks (va_A [(qi, .inr (0, [.ref qw])), (qw, .inl (ks 0, 31, .inr (.inl wd)))] sz) ((fun _ => wI ks qi qw wd) u) t) (va_A [(qi, .inr (0, [.ref qw])), (qw, .inl (ks 0, 31, .inr (.inl wd)))] sz)) 0 0 (va_A [(qi, .inr (0, [.ref qw])), (qw, .inl (ks 0, 31, .inr (.inl wd)))] sz) := by
  refine bodyL (S := Unit) (wN := (fun _ => wI ks qi qw wd)) (post := (fun r _ => r = wd (15 + k9))) (by decide) (Nat.le_of_ble_eq_true rfl) (fun p e s m below meth c A ls F hr hlk hK hN hA hsz hP hD hS hl => ?_)
  obtain ⟨hx, hb, hml, hown, ht⟩ := F
  have hown : s.vm.findClass RI = some m.cls := hown
  have F : CallFix p m c cI_keyAt 2 s ([.ref qi, .int (nI k9)] : List Value).toArray TB RI := ⟨hx, hb, hml, hown, ht⟩
  have hl : lv_has ls 2 [(0, .ref qi), (1, .int (nI k9))] := hl
  refine lv_iload_n hx hb dI_keyAt_0 rfl (lv_at hl 1 rfl) ?_
  refine lv_i2l (v := (nI k9).toInt64) hx hb dI_keyAt_1 rfl ?_
  refine lv_bipush (v := nI 7) hx hb dI_keyAt_2 (by decide) ?_
  refine gpi (va_runSN (As := [.long (nI k9).toInt64, .int (nI 7)]) (rest := []) F (kS_isWithin l D ks ((nI k9).toInt64) (nI 7) s.heap.size ) ⟨va_cnB (host := RS) 2 ht (tb_code tb_119) rfl rfl rfl (hN _ nb_348) (ht _ tb_1) ⟨by decide, by decide, by decide +kernel⟩ ⟨by decide, by decide⟩, ht _ tb_118, trivial⟩ (preS hK hN hP hD [] rfl rfl) rfl rfl hl.1 rfl (lv_room (Nat.le_of_ble_eq_true rfl)) dI_keyAt_4 (by decide)) hP hD hS hA (fun r1 H locs q1 hP hS => ?_)
  have q1 : r1 = 1 := by rw [q1]; exact bI_t ((lN_iff (n := k9) (by omega) 7 (by omega)).mpr (by omega))
  refine lv_if_eq (tgt := 22) hx hb dI_keyAt_7 rfl (fun h => absurd h (by rw [q1]; decide)) (fun _ => ?_)
  refine lv_aload_n hx hb dI_keyAt_10 rfl (lv_at hl 0 rfl) ?_
  refine va_get (D := D) (ci := 0) (v := .ref qw) (C := RI) (T := TI) (N := 1) hx hb ht uw_I hown hK hP 0 rfl rfl 0 (by decide) (ht _ tb_72) (fun _ h => h) rfl dI_keyAt_11 ?_
  refine lv_bipush (v := nI 15) hx hb dI_keyAt_14 (by decide) ?_
  refine lv_iload_n hx hb dI_keyAt_16 rfl (lv_at hl 1 rfl) ?_
  refine lv_iadd hx hb dI_keyAt_17 ?_
  refine tp_i (nI (15 + k9)) (nI_add _ _) ?_
  refine ra_l hx hb hK hP 1 rfl (15 + k9) (by omega) (by decide) rfl dI_keyAt_18 ?_
  refine lv_goto (tgt := 23) hx hb dI_keyAt_19 rfl ?_
  exact endL hx hb hr hlk hK () rfl hP hD hS dI_keyAt_23

set_option maxHeartbeats 4000000 in
set_option maxRecDepth 100000 in
theorem kI_numberAt (l : Launch) (D : va_G) (ks : Nat → ClassId) (qi qw : Nat) (wd : Nat → Int64) (k9 : Nat) (sz : Nat) (hk : k9 < 8) : Met l yI_numberAt (.code yI_numberAt cI_numberAt 2 (some .long) :: TB) ({ frames := 1, cells := 0, slots := 0, locals := 22 } : Room) (Pcw D ks [.ref qi, .int (nI k9)] sz [(qi, .inr (0, [.ref qw])), (qw, .inl (ks 0, 31, .inr (.inl wd)))]) (va_Ql (S := Unit) (fun r _ => r = wd (23 + k9)) (fun u t => Bw D ks (va_A [(qi, .inr (0, [.ref qw])), (qw, .inl (ks 0, 31, .inr (.inl wd)))] sz) ((fun _ => wI ks qi qw wd) u) t) (va_A [(qi, .inr (0, [.ref qw])), (qw, .inl (ks 0, 31, .inr (.inl wd)))] sz)) 0 0 (va_A [(qi, .inr (0, [.ref qw])), (qw, .inl (ks 0, 31, .inr (.inl wd)))] sz) := by
  refine bodyL (S := Unit) (wN := (fun _ => wI ks qi qw wd)) (post := (fun r _ => r = wd (23 + k9))) (by decide) (Nat.le_of_ble_eq_true rfl) (fun p e s m below meth c A ls F hr hlk hK hN hA hsz hP hD hS hl => ?_)
  obtain ⟨hx, hb, hml, hown, ht⟩ := F
  have hown : s.vm.findClass RI = some m.cls := hown
  have F : CallFix p m c cI_numberAt 2 s ([.ref qi, .int (nI k9)] : List Value).toArray TB RI := ⟨hx, hb, hml, hown, ht⟩
  have hl : lv_has ls 2 [(0, .ref qi), (1, .int (nI k9))] := hl
  refine lv_iload_n hx hb dI_numberAt_0 rfl (lv_at hl 1 rfl) ?_
  refine lv_i2l (v := (nI k9).toInt64) hx hb dI_numberAt_1 rfl ?_
  refine lv_bipush (v := nI 7) hx hb dI_numberAt_2 (by decide) ?_
  refine gpi (va_runSN (As := [.long (nI k9).toInt64, .int (nI 7)]) (rest := []) F (kS_isWithin l D ks ((nI k9).toInt64) (nI 7) s.heap.size ) ⟨va_cnB (host := RS) 2 ht (tb_code tb_119) rfl rfl rfl (hN _ nb_348) (ht _ tb_1) ⟨by decide, by decide, by decide +kernel⟩ ⟨by decide, by decide⟩, ht _ tb_118, trivial⟩ (preS hK hN hP hD [] rfl rfl) rfl rfl hl.1 rfl (lv_room (Nat.le_of_ble_eq_true rfl)) dI_numberAt_4 (by decide)) hP hD hS hA (fun r1 H locs q1 hP hS => ?_)
  have q1 : r1 = 1 := by rw [q1]; exact bI_t ((lN_iff (n := k9) (by omega) 7 (by omega)).mpr (by omega))
  refine lv_if_eq (tgt := 22) hx hb dI_numberAt_7 rfl (fun h => absurd h (by rw [q1]; decide)) (fun _ => ?_)
  refine lv_aload_n hx hb dI_numberAt_10 rfl (lv_at hl 0 rfl) ?_
  refine va_get (D := D) (ci := 0) (v := .ref qw) (C := RI) (T := TI) (N := 1) hx hb ht uw_I hown hK hP 0 rfl rfl 0 (by decide) (ht _ tb_72) (fun _ h => h) rfl dI_numberAt_11 ?_
  refine lv_bipush (v := nI 23) hx hb dI_numberAt_14 (by decide) ?_
  refine lv_iload_n hx hb dI_numberAt_16 rfl (lv_at hl 1 rfl) ?_
  refine lv_iadd hx hb dI_numberAt_17 ?_
  refine tp_i (nI (23 + k9)) (nI_add _ _) ?_
  refine ra_l hx hb hK hP 1 rfl (23 + k9) (by omega) (by decide) rfl dI_numberAt_18 ?_
  refine lv_goto (tgt := 23) hx hb dI_numberAt_19 rfl ?_
  exact endL hx hb hr hlk hK () rfl hP hD hS dI_numberAt_23

/-- how many keys stand below this one, from place i on, k places left -/
def lead (f : Nat → Int64) (key : Int64) : Nat → Nat → Nat
  | i, 0 => i
  | i, k + 1 => if f i < key then lead f key (i + 1) k else i
theorem lead_s {f : Nat → Int64} {key : Int64} {i k : Nat} (h : f i < key) : lead f key i (k + 1) = lead f key (i + 1) k := if_pos h
theorem lead_x {f : Nat → Int64} {key : Int64} {i k : Nat} (h : ¬ f i < key) : lead f key i (k + 1) = i := if_neg h
theorem lead_le (f : Nat → Int64) (key : Int64) : ∀ k i, lead f key i k ≤ i + k := by
  intro k
  induction k with
  | zero => intro i; exact Nat.le_refl _
  | succ k ih =>
    intro i
    by_cases h : f i < key
    · rw [lead_s h]; have := ih (i + 1); omega
    · rw [lead_x h]; omega
def plc (wd : Nat → Int64) (key : Int64) (p : Nat) : Nat := lead (fun i => wd (15 + i)) key 0 p
theorem plc_le (wd : Nat → Int64) (key : Int64) (p : Nat) : plc wd key p ≤ p := by have := lead_le (fun i => wd (15 + i)) key p 0; unfold plc; omega
set_option maxHeartbeats 4000000 in
set_option maxRecDepth 100000 in
theorem kI_placeOf (l : Launch) (D : va_G) (ks : Nat → ClassId) (qi qw : Nat) (wd : Nat → Int64) (key : Int64) (p9 : Nat) (sz : Nat) (hp : p9 ≤ 8) (h14 : wd 14 = lN p9) : Met l yI_placeOf (.code yI_placeOf cI_placeOf 5 (some .int) :: TB) ({ frames := 3, cells := 0, slots := 0, locals := 62 } : Room) (Pcw D ks [.ref qi, .long key] sz [(qi, .inr (0, [.ref qw])), (qw, .inl (ks 0, 31, .inr (.inl wd)))]) (va_Qi (S := Unit) (fun r _ => r = nI (plc wd key p9)) (fun u t => Bw D ks (va_A [(qi, .inr (0, [.ref qw])), (qw, .inl (ks 0, 31, .inr (.inl wd)))] sz) ((fun _ => wI ks qi qw wd) u) t) (va_A [(qi, .inr (0, [.ref qw])), (qw, .inl (ks 0, 31, .inr (.inl wd)))] sz)) 0 0 (va_A [(qi, .inr (0, [.ref qw])), (qw, .inl (ks 0, 31, .inr (.inl wd)))] sz) := by
  refine bodyI (S := Unit) (wN := (fun _ => wI ks qi qw wd)) (post := (fun r _ => r = nI (plc wd key p9))) (by decide) (Nat.le_of_ble_eq_true rfl) (fun p e s m below meth c A ls F hr hlk hK hN hA hsz hP hD hS hl => ?_)
  obtain ⟨hx, hb, hml, hown, ht⟩ := F
  have hown : s.vm.findClass RI = some m.cls := hown
  have F : CallFix p m c cI_placeOf 5 s ([.ref qi, .long key] : List Value).toArray TB RI := ⟨hx, hb, hml, hown, ht⟩
  have hl : lv_has ls 5 [(0, .ref qi), (1, .long key)] := hl
  refine lv_aload_n hx hb dI_placeOf_0 rfl (lv_at hl 0 rfl) ?_
  refine gci (wr := []) [0, 1] [] rfl rfl rfl (by decide) (va_runV (As := []) (rest := []) F (kI_pairs l D ks qi qw wd p9 s.heap.size hp h14) (cwV (C := RI) 0 ht (tb_v tb_425 tb_144 tb_sI_pairs tb_3 tb_145) rfl rfl rfl ⟨rfl, by decide, by decide, by decide +kernel⟩ ⟨by decide, by decide⟩) (preV 0 0 rfl rfl rfl hK hN hP hD [0, 1] rfl rfl) rfl rfl hl.1 rfl (lv_room (Nat.le_of_ble_eq_true rfl)) dI_placeOf_1 (by decide)) hP hD hS hA (fun r1 u1 H locs q1 hP hD hS => ?_)
  have hP : va_P D vwCl [(qi, .inr (0, [.ref qw])), (qw, .inl (ks 0, 31, .inr (.inl wd)))] H := hP
  have hD : va_D A [(qi, .inr (0, [.ref qw])), (qw, .inl (ks 0, 31, .inr (.inl wd)))] := hD
  rw [q1]
  refine lv_istore_n (lv' := [(3, .int (nI p9)), (0, .ref qi), (1, .long key)]) hx hb dI_placeOf_4 rfl hl (by decide) rfl (fun ls hl => ?_)
  refine lv_iconst (v := nI 0) hx hb dI_placeOf_5 (by decide) ?_
  refine lv_istore (lv' := [(4, .int (nI 0)), (3, .int (nI p9)), (0, .ref qi), (1, .long key)]) hx hb dI_placeOf_6 hl (by decide) rfl (fun ls hl => ?_)
  have hI : lead (fun i => wd (15 + i)) key 0 p9 = plc wd key p9 := rfl
  have LOOP : ∀ (k9 i : Nat), i + k9 = p9 → (lead (fun i => wd (15 + i)) key i k9 = plc wd key p9) → ∀ (H : Heap) (locs : List Loc) (ls : Array Slot), lv_has ls 5 [(4, .int (nI i)), (3, .int (nI p9)), (0, .ref qi), (1, .long key)] → va_P D vwCl [(qi, .inr (0, [.ref qw])), (qw, .inl (ks 0, 31, .inr (.inl wd)))] H → va_D A [(qi, .inr (0, [.ref qw])), (qw, .inl (ks 0, 31, .inr (.inl wd)))] → va_S A s.heap H locs → W p l e ({ frames := 3, cells := 0, slots := 0, locals := 62 } : Room) s m ([.ref qi, .long key] : List Value).toArray below meth c H locs 0 0 (MQ below (va_Qi (S := Unit) (fun r _ => r = nI (plc wd key p9)) (fun u t => Bw D ks A ((fun _ => wI ks qi qw wd) u) t) A) ([.ref qi, .long key] : List Value).toArray s 0 0 A) (F0 m 8 ls []) := by
    intro k9
    induction k9 with
    | zero =>
      intro i h9 hI H locs ls hl hP hD hS
      have h9 : i = p9 := h9
      refine lv_iload hx hb dI_placeOf_8 (lv_at hl 0 rfl) ?_
      refine lv_iload_n hx hb dI_placeOf_10 rfl (lv_at hl 1 rfl) ?_
      refine lv_icmp_ge (tgt := 35) hx hb dI_placeOf_11 rfl (fun _ => ?_) (fun h => absurd (by first | exact Int32.le_refl _ | (rw [h9]; exact Int32.le_refl _)) h)
      refine lv_iload hx hb dI_placeOf_35 (lv_at hl 0 rfl) ?_
      exact endI hx hb hr hlk hK () (by rw [← hI]; rfl) hP hD hS dI_placeOf_37
    | succ k9 ih =>
      intro i h9 hI H locs ls hl hP hD hS
      have hlt : i < p9 := by omega
      refine lv_iload hx hb dI_placeOf_8 (lv_at hl 0 rfl) ?_
      refine lv_iload_n hx hb dI_placeOf_10 rfl (lv_at hl 1 rfl) ?_
      refine lv_icmp_ge (tgt := 35) hx hb dI_placeOf_11 rfl (fun h => absurd h (nI_ge (by omega) (by omega))) (fun _ => ?_)
      refine lv_aload_n hx hb dI_placeOf_14 rfl (lv_at hl 2 rfl) ?_
      refine va_get (D := D) (ci := 0) (v := .ref qw) (C := RI) (T := TI) (N := 1) hx hb ht uw_I hown hK hP 0 rfl rfl 0 (by decide) (ht _ tb_72) (fun _ h => h) rfl dI_placeOf_15 ?_
      refine lv_bipush (v := nI 15) hx hb dI_placeOf_18 (by decide) ?_
      refine lv_iload hx hb dI_placeOf_20 (lv_at hl 0 rfl) ?_
      refine lv_iadd hx hb dI_placeOf_22 ?_
      refine tp_i (nI (15 + i)) (nI_add _ _) ?_
      refine ra_l hx hb hK hP 1 rfl (15 + i) (by omega) (by decide) rfl dI_placeOf_23 ?_
      refine lv_lload_n hx hb dI_placeOf_24 rfl (lv_at hl 3 rfl) ?_
      refine W.lcmp hx hb dI_placeOf_25 ?_
      refine lv_if_ge (tgt := 35) hx hb dI_placeOf_26 rfl (fun h1 => ?_) (fun h2 => ?_)
      · skip
        rw [lg_cmp_ge] at h1
        have h1 : ¬ wd (15 + i) < key := Int64.not_lt.mpr h1
        refine lv_iload hx hb dI_placeOf_35 (lv_at hl 0 rfl) ?_
        exact endI hx hb hr hlk hK () (by rw [← hI, lead_x (f := (fun i => wd (15 + i))) h1]) hP hD hS dI_placeOf_37
      · skip
        rw [lg_cmp_ge, Int64.not_le] at h2
        rw [lead_s (f := (fun i => wd (15 + i))) h2] at hI
        refine lv_iinc (k := 0) (x := (nI i)) (v := (nI (i + 1))) (lv' := [(4, .int (nI (i + 1))), (3, .int (nI p9)), (0, .ref qi), (1, .long key)]) hx hb dI_placeOf_29 hl rfl (nI_1 _) (by decide) rfl (fun ls hl => ?_)
        refine lv_goto (tgt := 8) hx hb dI_placeOf_32 rfl ?_
        have hl : lv_has ls 5 [(4, .int (nI (i + 1))), (3, .int (nI p9)), (0, .ref qi), (1, .long key)] := lv_sub hl [0, 1, 2, 3] rfl
        exact ih (i + 1) (by omega) hI H locs ls hl hP hD hS
  exact LOOP (p9 - 0) 0 (by omega) hI H _ _ hl hP hD hS

set_option maxHeartbeats 4000000 in
set_option maxRecDepth 100000 in
theorem kI_hasKey (l : Launch) (D : va_G) (ks : Nat → ClassId) (qi qw : Nat) (wd : Nat → Int64) (key : Int64) (p9 : Nat) (sz : Nat) (hp : p9 ≤ 8) (h14 : wd 14 = lN p9) : Met l yI_hasKey (.code yI_hasKey cI_hasKey 4 (some .boolean) :: TB) ({ frames := 4, cells := 0, slots := 0, locals := 86 } : Room) (Pcw D ks [.ref qi, .long key] sz [(qi, .inr (0, [.ref qw])), (qw, .inl (ks 0, 31, .inr (.inl wd)))]) (va_Qi (S := Unit) (fun r _ => r = bI (plc wd key p9 < p9 ∧ wd (15 + plc wd key p9) = key)) (fun u t => Bw D ks (va_A [(qi, .inr (0, [.ref qw])), (qw, .inl (ks 0, 31, .inr (.inl wd)))] sz) ((fun _ => wI ks qi qw wd) u) t) (va_A [(qi, .inr (0, [.ref qw])), (qw, .inl (ks 0, 31, .inr (.inl wd)))] sz)) 0 0 (va_A [(qi, .inr (0, [.ref qw])), (qw, .inl (ks 0, 31, .inr (.inl wd)))] sz) := by
  refine bodyI (S := Unit) (wN := (fun _ => wI ks qi qw wd)) (post := (fun r _ => r = bI (plc wd key p9 < p9 ∧ wd (15 + plc wd key p9) = key))) (by decide) (Nat.le_of_ble_eq_true rfl) (fun p e s m below meth c A ls F hr hlk hK hN hA hsz hP hD hS hl => ?_)
  obtain ⟨hx, hb, hml, hown, ht⟩ := F
  have hown : s.vm.findClass RI = some m.cls := hown
  have F : CallFix p m c cI_hasKey 4 s ([.ref qi, .long key] : List Value).toArray TB RI := ⟨hx, hb, hml, hown, ht⟩
  have hl : lv_has ls 4 [(0, .ref qi), (1, .long key)] := hl
  refine lv_aload_n hx hb dI_hasKey_0 rfl (lv_at hl 0 rfl) ?_
  refine lv_lload_n hx hb dI_hasKey_1 rfl (lv_at hl 1 rfl) ?_
  refine gci (wr := []) [0, 1] [] rfl rfl rfl (by decide) (va_runV (As := [.long key]) (rest := []) F (kI_placeOf l D ks qi qw wd key p9 s.heap.size hp h14) (cwV (C := RI) 1 ht (tb_v tb_421 tb_423 tb_sI_placeOf tb_3 tb_424) rfl rfl rfl ⟨rfl, by decide, by decide, by decide +kernel⟩ ⟨by decide, by decide⟩) (preV 0 0 rfl rfl rfl hK hN hP hD [0, 1] rfl rfl) rfl rfl hl.1 rfl (lv_room (Nat.le_of_ble_eq_true rfl)) dI_hasKey_2 (by decide)) hP hD hS hA (fun r1 u1 H locs q1 hP hD hS => ?_)
  have hP : va_P D vwCl [(qi, .inr (0, [.ref qw])), (qw, .inl (ks 0, 31, .inr (.inl wd)))] H := hP
  have hD : va_D A [(qi, .inr (0, [.ref qw])), (qw, .inl (ks 0, 31, .inr (.inl wd)))] := hD
  rw [q1]
  refine lv_istore_n (lv' := [(3, .int (nI (plc wd key p9))), (0, .ref qi), (1, .long key)]) hx hb dI_hasKey_5 rfl hl (by decide) rfl (fun ls hl => ?_)
  refine lv_iload_n hx hb dI_hasKey_6 rfl (lv_at hl 0 rfl) ?_
  refine lv_aload_n hx hb dI_hasKey_7 rfl (lv_at hl 1 rfl) ?_
  refine gci (wr := []) [0, 1] [] rfl rfl rfl (by decide) (va_runV (As := []) (rest := [.int (nI (plc wd key p9))]) F (kI_pairs l D ks qi qw wd p9 H.size hp h14) (cwV (C := RI) 0 ht (tb_v tb_425 tb_144 tb_sI_pairs tb_3 tb_145) rfl rfl rfl ⟨rfl, by decide, by decide, by decide +kernel⟩ ⟨by decide, by decide⟩) (preV 0 0 rfl rfl rfl hK hN hP hD [0, 1] rfl rfl) rfl rfl hl.1 rfl (lv_room (Nat.le_of_ble_eq_true rfl)) dI_hasKey_8 (by decide)) hP hD hS hA (fun r2 u2 H locs q2 hP hD hS => ?_)
  have hP : va_P D vwCl [(qi, .inr (0, [.ref qw])), (qw, .inl (ks 0, 31, .inr (.inl wd)))] H := hP
  have hD : va_D A [(qi, .inr (0, [.ref qw])), (qw, .inl (ks 0, 31, .inr (.inl wd)))] := hD
  rw [q2]
  refine lv_icmp_ge (tgt := 28) hx hb dI_hasKey_11 rfl (fun h1 => ?_) (fun h2 => ?_)
  · skip
    refine lv_iconst (v := 0) hx hb dI_hasKey_28 (by decide) ?_
    exact endZ hx hb hr hlk hK (by decide) () (by rw [bI_f (fun z => absurd ((nI_leI (by omega) (by have := plc_le wd key p9; omega)).mp h1) (by omega))]) hP hD hS dI_hasKey_29
  · skip
    have h2 : plc wd key p9 < p9 := Nat.not_le.mp (fun z => h2 (nI_le z (by have := plc_le wd key p9; omega)))
    refine lv_aload_n hx hb dI_hasKey_14 rfl (lv_at hl 1 rfl) ?_
    refine lv_iload_n hx hb dI_hasKey_15 rfl (lv_at hl 0 rfl) ?_
    refine gcl (wr := []) [0, 1] [] rfl rfl rfl (by decide) (va_runV (As := [.int (nI (plc wd key p9))]) (rest := []) F (kI_keyAt l D ks qi qw wd (plc wd key p9) H.size (by omega)) (cwV (C := RI) 1 ht (tb_v tb_426 tb_428 tb_sI_keyAt tb_3 tb_429) rfl rfl rfl ⟨rfl, by decide, by decide, by decide +kernel⟩ ⟨by decide, by decide⟩) (preV 0 0 rfl rfl rfl hK hN hP hD [0, 1] rfl rfl) rfl rfl hl.1 rfl (lv_room (Nat.le_of_ble_eq_true rfl)) dI_hasKey_16 (by decide)) hP hD hS hA (fun r3 u3 H locs q3 hP hD hS => ?_)
    have hP : va_P D vwCl [(qi, .inr (0, [.ref qw])), (qw, .inl (ks 0, 31, .inr (.inl wd)))] H := hP
    have hD : va_D A [(qi, .inr (0, [.ref qw])), (qw, .inl (ks 0, 31, .inr (.inl wd)))] := hD
    rw [q3]
    refine lv_lload_n hx hb dI_hasKey_19 rfl (lv_at hl 2 rfl) ?_
    refine W.lcmp hx hb dI_hasKey_20 ?_
    refine lv_if_ne (tgt := 28) hx hb dI_hasKey_21 rfl (fun h3 => ?_) (fun h4 => ?_)
    · skip
      rw [lg_cmp_eq] at h3
      refine lv_iconst (v := 0) hx hb dI_hasKey_28 (by decide) ?_
      exact endZ hx hb hr hlk hK (by decide) () (by rw [bI_f (fun z => h3 z.2)]) hP hD hS dI_hasKey_29
    · skip
      rw [lg_cmp_eq] at h4
      refine lv_iconst (v := 1) hx hb dI_hasKey_24 (by decide) ?_
      refine lv_goto (tgt := 29) hx hb dI_hasKey_25 rfl ?_
      exact endZ hx hb hr hlk hK (by decide) () (by rw [bI_t ⟨h2, h4⟩]) hP hD hS dI_hasKey_29

