/-- a place made free -/
def opn1 (wd : Nat → Int64) (p i : Nat) : Nat → Int64 := va_cpy wd wd (15 + i) (15 + i + 1) (p - i)
def opn2 (wd : Nat → Int64) (p i : Nat) : Nat → Int64 := va_cpy (opn1 wd p i) (opn1 wd p i) (23 + i) (23 + i + 1) (p - i)
def opnd (wd : Nat → Int64) (p i : Nat) : Nat → Int64 := vp_updL (opn2 wd p i) 14 (lN (p + 1))
def drp1 (wd : Nat → Int64) (p i : Nat) : Nat → Int64 := va_cpy wd wd (15 + i + 1) (15 + i) (p - i - 1)
def drp2 (wd : Nat → Int64) (p i : Nat) : Nat → Int64 := va_cpy (drp1 wd p i) (drp1 wd p i) (23 + i + 1) (23 + i) (p - i - 1)
def drpd (wd : Nat → Int64) (p i : Nat) : Nat → Int64 := vp_updL (drp2 wd p i) 14 (lN (p - 1))
theorem opn2_14 (wd : Nat → Int64) (p i : Nat) : opn2 wd p i 14 = wd 14 := by unfold opn2; rw [pk_cpy_out (by omega)]; unfold opn1; rw [pk_cpy_out (by omega)]
theorem drp2_14 (wd : Nat → Int64) (p i : Nat) : drp2 wd p i 14 = wd 14 := by unfold drp2; rw [pk_cpy_out (by omega)]; unfold drp1; rw [pk_cpy_out (by omega)]
def hasK (wd : Nat → Int64) (key : Int64) (p : Nat) : Prop := plc wd key p < p ∧ wd (15 + plc wd key p) = key
def stpr (wd : Nat → Int64) (key num : Int64) (i : Nat) : Nat → Int64 := vp_updL (vp_updL wd (15 + i) key) (23 + i) num
set_option maxHeartbeats 4000000 in
set_option maxRecDepth 100000 in
theorem kI_openPlace (l : Launch) (D : va_G) (ks : Nat → ClassId) (qi qw : Nat) (wd : Nat → Int64) (p9 i9 : Nat) (sz : Nat) (hp : p9 < 8) (h14 : wd 14 = lN p9) (hi : i9 ≤ p9) : Met l yI_openPlace (.code yI_openPlace cI_openPlace 3 none :: TB) ({ frames := 3, cells := 0, slots := 0, locals := 62 } : Room) (Pcw D ks [.ref qi, .int (nI i9)] sz [(qi, .inr (0, [.ref qw])), (qw, .inl (ks 0, 31, .inr (.inl wd)))]) (va_Qv (S := (Nat → Int64)) (fun u => u = opnd wd p9 i9) (fun u t => Bw D ks (va_A [(qi, .inr (0, [.ref qw])), (qw, .inl (ks 0, 31, .inr (.inl wd)))] sz) ((fun u => wI ks qi qw u) u) t) (va_A [(qi, .inr (0, [.ref qw])), (qw, .inl (ks 0, 31, .inr (.inl wd)))] sz)) 0 0 (va_A [(qi, .inr (0, [.ref qw])), (qw, .inl (ks 0, 31, .inr (.inl wd)))] sz) := by
  refine bodyV (S := (Nat → Int64)) (wN := (fun u => wI ks qi qw u)) (post := (fun u => u = opnd wd p9 i9)) (by decide) (Nat.le_of_ble_eq_true rfl) (fun p e s m below meth c A ls F hr hlk hK hN hA hsz hP hD hS hl => ?_)
  obtain ⟨hx, hb, hml, hown, ht⟩ := F
  have hown : s.vm.findClass RI = some m.cls := hown
  have F : CallFix p m c cI_openPlace 3 s ([.ref qi, .int (nI i9)] : List Value).toArray TB RI := ⟨hx, hb, hml, hown, ht⟩
  have hl : lv_has ls 3 [(0, .ref qi), (1, .int (nI i9))] := hl
  refine lv_aload_n hx hb dI_openPlace_0 rfl (lv_at hl 0 rfl) ?_
  refine gci (wr := []) [0, 1] [] rfl rfl rfl (by decide) (va_runV (As := []) (rest := []) F (kI_pairs l D ks qi qw wd p9 s.heap.size (by omega) h14) (cwV (C := RI) 0 ht (tb_v tb_425 tb_144 tb_sI_pairs tb_3 tb_145) rfl rfl rfl ⟨rfl, by decide, by decide, by decide +kernel⟩ ⟨by decide, by decide⟩) (preV 0 0 rfl rfl rfl hK hN hP hD [0, 1] rfl rfl) rfl rfl hl.1 rfl (lv_room (Nat.le_of_ble_eq_true rfl)) dI_openPlace_1 (by decide)) hP hD hS hA (fun r1 u1 H locs q1 hP hD hS => ?_)
  have hP : va_P D vwCl [(qi, .inr (0, [.ref qw])), (qw, .inl (ks 0, 31, .inr (.inl wd)))] H := hP
  have hD : va_D A [(qi, .inr (0, [.ref qw])), (qw, .inl (ks 0, 31, .inr (.inl wd)))] := hD
  rw [q1]
  refine lv_iload_n hx hb dI_openPlace_4 rfl (lv_at hl 1 rfl) ?_
  refine lv_isub hx hb dI_openPlace_5 ?_
  refine tp_i (nI (p9 - i9)) (pk_sub hi) ?_
  refine lv_istore_n (lv' := [(2, .int (nI (p9 - i9))), (0, .ref qi), (1, .int (nI i9))]) hx hb dI_openPlace_6 rfl hl (by decide) rfl (fun ls hl => ?_)
  refine lv_aload_n hx hb dI_openPlace_7 rfl (lv_at hl 1 rfl) ?_
  refine gci (wr := []) [0, 1] [] rfl rfl rfl (by decide) (va_runV (As := []) (rest := []) F (kI_pairs l D ks qi qw wd p9 H.size (by omega) h14) (cwV (C := RI) 0 ht (tb_v tb_425 tb_144 tb_sI_pairs tb_3 tb_145) rfl rfl rfl ⟨rfl, by decide, by decide, by decide +kernel⟩ ⟨by decide, by decide⟩) (preV 0 0 rfl rfl rfl hK hN hP hD [0, 1] rfl rfl) rfl rfl hl.1 rfl (lv_room (Nat.le_of_ble_eq_true rfl)) dI_openPlace_8 (by decide)) hP hD hS hA (fun r2 u2 H locs q2 hP hD hS => ?_)
  have hP : va_P D vwCl [(qi, .inr (0, [.ref qw])), (qw, .inl (ks 0, 31, .inr (.inl wd)))] H := hP
  have hD : va_D A [(qi, .inr (0, [.ref qw])), (qw, .inl (ks 0, 31, .inr (.inl wd)))] := hD
  rw [q2]
  refine lv_bipush (v := nI 8) hx hb dI_openPlace_11 (by decide) ?_
  refine lv_icmp_ge (tgt := 24) hx hb dI_openPlace_13 rfl (fun h => absurd h (nI_ge hp (by decide))) (fun _ => ?_)
  refine lv_iload_n hx hb dI_openPlace_16 rfl (lv_at hl 2 rfl) ?_
  refine lv_if_lt (tgt := 24) hx hb dI_openPlace_17 rfl (fun h => absurd h (nI_pos (by omega))) (fun _ => ?_)
  refine lv_iload_n hx hb dI_openPlace_20 rfl (lv_at hl 0 rfl) ?_
  refine lv_if_ge (tgt := 25) hx hb dI_openPlace_21 rfl (fun _ => ?_) (fun h => absurd (nI_pos' (by omega)) h)
  refine lv_aload_n hx hb dI_openPlace_25 rfl (lv_at hl 1 rfl) ?_
  refine va_get (D := D) (ci := 0) (v := .ref qw) (C := RI) (T := TI) (N := 1) hx hb ht uw_I hown hK hP 0 rfl rfl 0 (by decide) (ht _ tb_72) (fun _ h => h) rfl dI_openPlace_26 ?_
  refine lv_bipush (v := nI 15) hx hb dI_openPlace_29 (by decide) ?_
  refine lv_iload_n hx hb dI_openPlace_31 rfl (lv_at hl 2 rfl) ?_
  refine lv_iadd hx hb dI_openPlace_32 ?_
  refine lv_aload_n hx hb dI_openPlace_33 rfl (lv_at hl 1 rfl) ?_
  refine va_get (D := D) (ci := 0) (v := .ref qw) (C := RI) (T := TI) (N := 1) hx hb ht uw_I hown hK hP 0 rfl rfl 0 (by decide) (ht _ tb_72) (fun _ h => h) rfl dI_openPlace_34 ?_
  refine lv_bipush (v := nI 15) hx hb dI_openPlace_37 (by decide) ?_
  refine lv_iload_n hx hb dI_openPlace_39 rfl (lv_at hl 2 rfl) ?_
  refine lv_iadd hx hb dI_openPlace_40 ?_
  refine lv_iconst (v := nI 1) hx hb dI_openPlace_41 (by decide) ?_
  refine lv_iadd hx hb dI_openPlace_42 ?_
  refine lv_iload_n hx hb dI_openPlace_43 rfl (lv_at hl 0 rfl) ?_
  refine cp_l hx hb (hml.trans hl.1.symm) hown (ht _ tb_314) (ht _ tb_316) (ht _ tb_315) (ht _ tb_9) hK hP hD hS 1 1 rfl rfl (15 + i9) (15 + i9 + 1) (p9 - i9) (nI_add _ _) (by rw [nI_add, nI_add]) rfl (by omega) (by omega) (by decide) (by decide) (by decide) (by decide +kernel) dI_openPlace_44 (fun H locs hP hD hS => ?_)
  have hP : va_P D vwCl [(qi, .inr (0, [.ref qw])), (qw, .inl (ks 0, 31, .inr (.inl (va_cpy wd wd (15 + i9) (15 + i9 + 1) (p9 - i9)))))] H := hP
  have hD : va_D A [(qi, .inr (0, [.ref qw])), (qw, .inl (ks 0, 31, .inr (.inl (va_cpy wd wd (15 + i9) (15 + i9 + 1) (p9 - i9)))))] := hD
  refine lv_aload_n hx hb dI_openPlace_47 rfl (lv_at hl 1 rfl) ?_
  refine va_get (D := D) (ci := 0) (v := .ref qw) (C := RI) (T := TI) (N := 1) hx hb ht uw_I hown hK hP 0 rfl rfl 0 (by decide) (ht _ tb_72) (fun _ h => h) rfl dI_openPlace_48 ?_
  refine lv_bipush (v := nI 23) hx hb dI_openPlace_51 (by decide) ?_
  refine lv_iload_n hx hb dI_openPlace_53 rfl (lv_at hl 2 rfl) ?_
  refine lv_iadd hx hb dI_openPlace_54 ?_
  refine lv_aload_n hx hb dI_openPlace_55 rfl (lv_at hl 1 rfl) ?_
  refine va_get (D := D) (ci := 0) (v := .ref qw) (C := RI) (T := TI) (N := 1) hx hb ht uw_I hown hK hP 0 rfl rfl 0 (by decide) (ht _ tb_72) (fun _ h => h) rfl dI_openPlace_56 ?_
  refine lv_bipush (v := nI 23) hx hb dI_openPlace_59 (by decide) ?_
  refine lv_iload_n hx hb dI_openPlace_61 rfl (lv_at hl 2 rfl) ?_
  refine lv_iadd hx hb dI_openPlace_62 ?_
  refine lv_iconst (v := nI 1) hx hb dI_openPlace_63 (by decide) ?_
  refine lv_iadd hx hb dI_openPlace_64 ?_
  refine lv_iload_n hx hb dI_openPlace_65 rfl (lv_at hl 0 rfl) ?_
  refine cp_l hx hb (hml.trans hl.1.symm) hown (ht _ tb_314) (ht _ tb_316) (ht _ tb_315) (ht _ tb_9) hK hP hD hS 1 1 rfl rfl (23 + i9) (23 + i9 + 1) (p9 - i9) (nI_add _ _) (by rw [nI_add, nI_add]) rfl (by omega) (by omega) (by decide) (by decide) (by decide) (by decide +kernel) dI_openPlace_66 (fun H locs hP hD hS => ?_)
  have hP : va_P D vwCl [(qi, .inr (0, [.ref qw])), (qw, .inl (ks 0, 31, .inr (.inl (va_cpy (va_cpy wd wd (15 + i9) (15 + i9 + 1) (p9 - i9)) (va_cpy wd wd (15 + i9) (15 + i9 + 1) (p9 - i9)) (23 + i9) (23 + i9 + 1) (p9 - i9)))))] H := hP
  have hD : va_D A [(qi, .inr (0, [.ref qw])), (qw, .inl (ks 0, 31, .inr (.inl (va_cpy (va_cpy wd wd (15 + i9) (15 + i9 + 1) (p9 - i9)) (va_cpy wd wd (15 + i9) (15 + i9 + 1) (p9 - i9)) (23 + i9) (23 + i9 + 1) (p9 - i9)))))] := hD
  refine lv_aload_n hx hb dI_openPlace_69 rfl (lv_at hl 1 rfl) ?_
  refine va_get (D := D) (ci := 0) (v := .ref qw) (C := RI) (T := TI) (N := 1) hx hb ht uw_I hown hK hP 0 rfl rfl 0 (by decide) (ht _ tb_72) (fun _ h => h) rfl dI_openPlace_70 ?_
  refine lv_bipush (v := nI 14) hx hb dI_openPlace_73 (by decide) ?_
  refine lv_aload_n hx hb dI_openPlace_75 rfl (lv_at hl 1 rfl) ?_
  refine gci (wr := []) [0, 1] [] rfl rfl rfl (by decide) (va_runV (As := []) (rest := [.int (nI 14), .ref qw]) F (kI_pairs l D ks qi qw (opn2 wd p9 i9) p9 H.size (by omega) (by rw [opn2_14]; exact h14)) (cwV (C := RI) 0 ht (tb_v tb_425 tb_144 tb_sI_pairs tb_3 tb_145) rfl rfl rfl ⟨rfl, by decide, by decide, by decide +kernel⟩ ⟨by decide, by decide⟩) (preV 0 0 rfl rfl rfl hK hN hP hD [0, 1] rfl rfl) rfl rfl hl.1 rfl (lv_room (Nat.le_of_ble_eq_true rfl)) dI_openPlace_76 (by decide)) hP hD hS hA (fun r3 u3 H locs q3 hP hD hS => ?_)
  have hP : va_P D vwCl [(qi, .inr (0, [.ref qw])), (qw, .inl (ks 0, 31, .inr (.inl (va_cpy (va_cpy wd wd (15 + i9) (15 + i9 + 1) (p9 - i9)) (va_cpy wd wd (15 + i9) (15 + i9 + 1) (p9 - i9)) (23 + i9) (23 + i9 + 1) (p9 - i9)))))] H := hP
  have hD : va_D A [(qi, .inr (0, [.ref qw])), (qw, .inl (ks 0, 31, .inr (.inl (va_cpy (va_cpy wd wd (15 + i9) (15 + i9 + 1) (p9 - i9)) (va_cpy wd wd (15 + i9) (15 + i9 + 1) (p9 - i9)) (23 + i9) (23 + i9 + 1) (p9 - i9)))))] := hD
  rw [q3]
  refine lv_iconst (v := nI 1) hx hb dI_openPlace_79 (by decide) ?_
  refine lv_iadd hx hb dI_openPlace_80 ?_
  refine tp_i (nI (p9 + 1)) (nI_add _ _) ?_
  refine lv_i2l (v := (lN (p9 + 1))) hx hb dI_openPlace_81 (nI_l (by omega)) ?_
  refine wa_l hx hb hK hP hD hS 1 rfl 14 (by decide) (by decide) rfl dI_openPlace_82 (fun H locs hP hD hS => ?_)
  have hP : va_P D vwCl [(qi, .inr (0, [.ref qw])), (qw, .inl (ks 0, 31, .inr (.inl (vp_updL (va_cpy (va_cpy wd wd (15 + i9) (15 + i9 + 1) (p9 - i9)) (va_cpy wd wd (15 + i9) (15 + i9 + 1) (p9 - i9)) (23 + i9) (23 + i9 + 1) (p9 - i9)) 14 (lN (p9 + 1))))))] H := hP
  have hD : va_D A [(qi, .inr (0, [.ref qw])), (qw, .inl (ks 0, 31, .inr (.inl (vp_updL (va_cpy (va_cpy wd wd (15 + i9) (15 + i9 + 1) (p9 - i9)) (va_cpy wd wd (15 + i9) (15 + i9 + 1) (p9 - i9)) (23 + i9) (23 + i9 + 1) (p9 - i9)) 14 (lN (p9 + 1))))))] := hD
  exact endV hx hb hr hlk hK (opnd wd p9 i9) rfl hP hD hS dI_openPlace_83

set_option maxHeartbeats 4000000 in
set_option maxRecDepth 100000 in
theorem kI_setPair (l : Launch) (D : va_G) (ks : Nat → ClassId) (qi qw : Nat) (wd : Nat → Int64) (key num : Int64) (p9 : Nat) (sz : Nat) (hp : p9 ≤ 8) (h14 : wd 14 = lN p9) (hfull : hasK wd key p9 ∨ p9 < 8) : Met l yI_setPair (.code yI_setPair cI_setPair 6 none :: TB) ({ frames := 5, cells := 0, slots := 0, locals := 109 } : Room) (Pcw D ks [.ref qi, .long key, .long num] sz [(qi, .inr (0, [.ref qw])), (qw, .inl (ks 0, 31, .inr (.inl wd)))]) (va_Qv (S := (Nat → Int64)) (fun u => (hasK wd key p9 ∧ u = stpr wd key num (plc wd key p9)) ∨ (¬ hasK wd key p9 ∧ u = stpr (opnd wd p9 (plc wd key p9)) key num (plc wd key p9))) (fun u t => Bw D ks (va_A [(qi, .inr (0, [.ref qw])), (qw, .inl (ks 0, 31, .inr (.inl wd)))] sz) ((fun u => wI ks qi qw u) u) t) (va_A [(qi, .inr (0, [.ref qw])), (qw, .inl (ks 0, 31, .inr (.inl wd)))] sz)) 0 0 (va_A [(qi, .inr (0, [.ref qw])), (qw, .inl (ks 0, 31, .inr (.inl wd)))] sz) := by
  refine bodyV (S := (Nat → Int64)) (wN := (fun u => wI ks qi qw u)) (post := (fun u => (hasK wd key p9 ∧ u = stpr wd key num (plc wd key p9)) ∨ (¬ hasK wd key p9 ∧ u = stpr (opnd wd p9 (plc wd key p9)) key num (plc wd key p9)))) (by decide) (Nat.le_of_ble_eq_true rfl) (fun p e s m below meth c A ls F hr hlk hK hN hA hsz hP hD hS hl => ?_)
  obtain ⟨hx, hb, hml, hown, ht⟩ := F
  have hown : s.vm.findClass RI = some m.cls := hown
  have F : CallFix p m c cI_setPair 6 s ([.ref qi, .long key, .long num] : List Value).toArray TB RI := ⟨hx, hb, hml, hown, ht⟩
  have hl : lv_has ls 6 [(0, .ref qi), (1, .long key), (3, .long num)] := hl
  have hple := plc_le wd key p9
  refine lv_aload_n hx hb dI_setPair_0 rfl (lv_at hl 0 rfl) ?_
  refine lv_lload_n hx hb dI_setPair_1 rfl (lv_at hl 1 rfl) ?_
  refine gci (wr := []) [0, 1] [] rfl rfl rfl (by decide) (va_runV (As := [.long key]) (rest := []) F (kI_placeOf l D ks qi qw wd key p9 s.heap.size hp h14) (cwV (C := RI) 1 ht (tb_v tb_421 tb_423 tb_sI_placeOf tb_3 tb_424) rfl rfl rfl ⟨rfl, by decide, by decide, by decide +kernel⟩ ⟨by decide, by decide⟩) (preV 0 0 rfl rfl rfl hK hN hP hD [0, 1] rfl rfl) rfl rfl hl.1 rfl (lv_room (Nat.le_of_ble_eq_true rfl)) dI_setPair_2 (by decide)) hP hD hS hA (fun r1 u1 H locs q1 hP hD hS => ?_)
  have hP : va_P D vwCl [(qi, .inr (0, [.ref qw])), (qw, .inl (ks 0, 31, .inr (.inl wd)))] H := hP
  have hD : va_D A [(qi, .inr (0, [.ref qw])), (qw, .inl (ks 0, 31, .inr (.inl wd)))] := hD
  rw [q1]
  refine lv_istore (lv' := [(5, .int (nI (plc wd key p9))), (0, .ref qi), (1, .long key), (3, .long num)]) hx hb dI_setPair_5 hl (by decide) rfl (fun ls hl => ?_)
  refine lv_aload_n hx hb dI_setPair_7 rfl (lv_at hl 1 rfl) ?_
  refine lv_lload_n hx hb dI_setPair_8 rfl (lv_at hl 2 rfl) ?_
  refine gci (wr := []) [0, 1] [] rfl rfl rfl (by decide) (va_runV (As := [.long key]) (rest := []) F (kI_hasKey l D ks qi qw wd key p9 H.size hp h14) (cwV (C := RI) 1 ht (tb_v tb_435 tb_419 tb_sI_hasKey tb_3 tb_420) rfl rfl rfl ⟨rfl, by decide, by decide, by decide +kernel⟩ ⟨by decide, by decide⟩) (preV 0 0 rfl rfl rfl hK hN hP hD [0, 1] rfl rfl) rfl rfl hl.1 rfl (lv_room (Nat.le_of_ble_eq_true rfl)) dI_setPair_9 (by decide)) hP hD hS hA (fun r2 u2 H locs q2 hP hD hS => ?_)
  have hP : va_P D vwCl [(qi, .inr (0, [.ref qw])), (qw, .inl (ks 0, 31, .inr (.inl wd)))] H := hP
  have hD : va_D A [(qi, .inr (0, [.ref qw])), (qw, .inl (ks 0, 31, .inr (.inl wd)))] := hD
  refine lv_if_ne (tgt := 21) hx hb dI_setPair_12 rfl (fun h1 => ?_) (fun h2 => ?_)
  · skip
    have h1 : hasK wd key p9 := Classical.byContradiction (fun z => h1 (by rw [q2]; exact bI_f (q := (plc wd key p9) < p9 ∧ wd (15 + (plc wd key p9)) = key) z))
    have h8 : (plc wd key p9) < 8 := by have := h1.1; omega
    refine lv_iload hx hb dI_setPair_21 (lv_at hl 0 rfl) ?_
    refine lv_i2l (v := (nI (plc wd key p9)).toInt64) hx hb dI_setPair_23 rfl ?_
    refine lv_bipush (v := nI 7) hx hb dI_setPair_24 (by decide) ?_
    refine gpi (va_runSN (As := [.long (nI (plc wd key p9)).toInt64, .int (nI 7)]) (rest := []) F (kS_isWithin l D ks ((nI (plc wd key p9)).toInt64) (nI 7) H.size ) ⟨va_cnB (host := RS) 2 ht (tb_code tb_119) rfl rfl rfl (hN _ nb_348) (ht _ tb_1) ⟨by decide, by decide, by decide +kernel⟩ ⟨by decide, by decide⟩, ht _ tb_118, trivial⟩ (preS hK hN hP hD [] rfl rfl) rfl rfl hl.1 rfl (lv_room (Nat.le_of_ble_eq_true rfl)) dI_setPair_26 (by decide)) hP hD hS hA (fun r3 H locs q3 hP hS => ?_)
    have hy : r3 = 1 := by rw [q3]; exact bI_t ((lN_iff (n := (plc wd key p9)) (by omega) 7 (by omega)).mpr (by omega))
    refine lv_if_eq (tgt := 54) hx hb dI_setPair_29 rfl (fun h => absurd h (by rw [hy]; decide)) (fun _ => ?_)
    refine lv_aload_n hx hb dI_setPair_32 rfl (lv_at hl 1 rfl) ?_
    refine va_get (D := D) (ci := 0) (v := .ref qw) (C := RI) (T := TI) (N := 1) hx hb ht uw_I hown hK hP 0 rfl rfl 0 (by decide) (ht _ tb_72) (fun _ h => h) rfl dI_setPair_33 ?_
    refine lv_bipush (v := nI 15) hx hb dI_setPair_36 (by decide) ?_
    refine lv_iload hx hb dI_setPair_38 (lv_at hl 0 rfl) ?_
    refine lv_iadd hx hb dI_setPair_40 ?_
    refine lv_lload_n hx hb dI_setPair_41 rfl (lv_at hl 2 rfl) ?_
    refine wa_l hx hb hK hP hD hS 1 rfl (15 + (plc wd key p9)) (by omega) (by decide) (nI_add _ _) dI_setPair_42 (fun H locs hP hD hS => ?_)
    have hP : va_P D vwCl [(qi, .inr (0, [.ref qw])), (qw, .inl (ks 0, 31, .inr (.inl (vp_updL wd (15 + (plc wd key p9)) key))))] H := hP
    have hD : va_D A [(qi, .inr (0, [.ref qw])), (qw, .inl (ks 0, 31, .inr (.inl (vp_updL wd (15 + (plc wd key p9)) key))))] := hD
    refine lv_aload_n hx hb dI_setPair_43 rfl (lv_at hl 1 rfl) ?_
    refine va_get (D := D) (ci := 0) (v := .ref qw) (C := RI) (T := TI) (N := 1) hx hb ht uw_I hown hK hP 0 rfl rfl 0 (by decide) (ht _ tb_72) (fun _ h => h) rfl dI_setPair_44 ?_
    refine lv_bipush (v := nI 23) hx hb dI_setPair_47 (by decide) ?_
    refine lv_iload hx hb dI_setPair_49 (lv_at hl 0 rfl) ?_
    refine lv_iadd hx hb dI_setPair_51 ?_
    refine lv_lload_n hx hb dI_setPair_52 rfl (lv_at hl 3 rfl) ?_
    refine wa_l hx hb hK hP hD hS 1 rfl (23 + (plc wd key p9)) (by omega) (by decide) (nI_add _ _) dI_setPair_53 (fun H locs hP hD hS => ?_)
    have hP : va_P D vwCl [(qi, .inr (0, [.ref qw])), (qw, .inl (ks 0, 31, .inr (.inl (vp_updL (vp_updL wd (15 + (plc wd key p9)) key) (23 + (plc wd key p9)) num))))] H := hP
    have hD : va_D A [(qi, .inr (0, [.ref qw])), (qw, .inl (ks 0, 31, .inr (.inl (vp_updL (vp_updL wd (15 + (plc wd key p9)) key) (23 + (plc wd key p9)) num))))] := hD
    exact endV hx hb hr hlk hK (stpr wd key num (plc wd key p9)) (Or.inl ⟨h1, rfl⟩) hP hD hS dI_setPair_54
  · skip
    have h2 : ¬ hasK wd key p9 := fun z => absurd h2 (by rw [q2, bI_t (q := (plc wd key p9) < p9 ∧ wd (15 + (plc wd key p9)) = key) z]; decide)
    have h8 : (plc wd key p9) < 8 := by have := hfull.resolve_left h2; omega
    refine lv_aload_n hx hb dI_setPair_15 rfl (lv_at hl 1 rfl) ?_
    refine lv_iload hx hb dI_setPair_16 (lv_at hl 0 rfl) ?_
    refine gcv (wr := []) [0, 1] [] rfl rfl rfl (by decide) (va_runV (As := [.int (nI (plc wd key p9))]) (rest := []) F (kI_openPlace l D ks qi qw wd p9 (plc wd key p9) H.size (hfull.resolve_left h2) h14 hple) (cwV (C := RI) 1 ht (tb_v tb_436 tb_438 tb_sI_openPlace tb_3 tb_439) rfl rfl rfl ⟨rfl, by decide, by decide, by decide +kernel⟩ ⟨by decide, by decide⟩) (preV 0 0 rfl rfl rfl hK hN hP hD [0, 1] rfl rfl) rfl rfl hl.1 rfl (lv_room (Nat.le_of_ble_eq_true rfl)) dI_setPair_18 (by decide)) hP hD hS hA (fun u4 H locs q4 hP hD hS => ?_)
    have hP : va_P D vwCl [(qi, .inr (0, [.ref qw])), (qw, .inl (ks 0, 31, .inr (.inl u4)))] H := hP
    have hD : va_D A [(qi, .inr (0, [.ref qw])), (qw, .inl (ks 0, 31, .inr (.inl u4)))] := hD
    subst q4
    have hP : va_P D vwCl [(qi, .inr (0, [.ref qw])), (qw, .inl (ks 0, 31, .inr (.inl (opnd wd p9 (plc wd key p9)))))] H := hP
    have hD : va_D A [(qi, .inr (0, [.ref qw])), (qw, .inl (ks 0, 31, .inr (.inl (opnd wd p9 (plc wd key p9)))))] := hD
    refine lv_iload hx hb dI_setPair_21 (lv_at hl 0 rfl) ?_
    refine lv_i2l (v := (nI (plc wd key p9)).toInt64) hx hb dI_setPair_23 rfl ?_
    refine lv_bipush (v := nI 7) hx hb dI_setPair_24 (by decide) ?_
    refine gpi (va_runSN (As := [.long (nI (plc wd key p9)).toInt64, .int (nI 7)]) (rest := []) F (kS_isWithin l D ks ((nI (plc wd key p9)).toInt64) (nI 7) H.size ) ⟨va_cnB (host := RS) 2 ht (tb_code tb_119) rfl rfl rfl (hN _ nb_348) (ht _ tb_1) ⟨by decide, by decide, by decide +kernel⟩ ⟨by decide, by decide⟩, ht _ tb_118, trivial⟩ (preS hK hN hP hD [] rfl rfl) rfl rfl hl.1 rfl (lv_room (Nat.le_of_ble_eq_true rfl)) dI_setPair_26 (by decide)) hP hD hS hA (fun r5 H locs q5 hP hS => ?_)
    have hy : r5 = 1 := by rw [q5]; exact bI_t ((lN_iff (n := (plc wd key p9)) (by omega) 7 (by omega)).mpr (by omega))
    refine lv_if_eq (tgt := 54) hx hb dI_setPair_29 rfl (fun h => absurd h (by rw [hy]; decide)) (fun _ => ?_)
    refine lv_aload_n hx hb dI_setPair_32 rfl (lv_at hl 1 rfl) ?_
    refine va_get (D := D) (ci := 0) (v := .ref qw) (C := RI) (T := TI) (N := 1) hx hb ht uw_I hown hK hP 0 rfl rfl 0 (by decide) (ht _ tb_72) (fun _ h => h) rfl dI_setPair_33 ?_
    refine lv_bipush (v := nI 15) hx hb dI_setPair_36 (by decide) ?_
    refine lv_iload hx hb dI_setPair_38 (lv_at hl 0 rfl) ?_
    refine lv_iadd hx hb dI_setPair_40 ?_
    refine lv_lload_n hx hb dI_setPair_41 rfl (lv_at hl 2 rfl) ?_
    refine wa_l hx hb hK hP hD hS 1 rfl (15 + (plc wd key p9)) (by omega) (by decide) (nI_add _ _) dI_setPair_42 (fun H locs hP hD hS => ?_)
    have hP : va_P D vwCl [(qi, .inr (0, [.ref qw])), (qw, .inl (ks 0, 31, .inr (.inl (vp_updL (opnd wd p9 (plc wd key p9)) (15 + (plc wd key p9)) key))))] H := hP
    have hD : va_D A [(qi, .inr (0, [.ref qw])), (qw, .inl (ks 0, 31, .inr (.inl (vp_updL (opnd wd p9 (plc wd key p9)) (15 + (plc wd key p9)) key))))] := hD
    refine lv_aload_n hx hb dI_setPair_43 rfl (lv_at hl 1 rfl) ?_
    refine va_get (D := D) (ci := 0) (v := .ref qw) (C := RI) (T := TI) (N := 1) hx hb ht uw_I hown hK hP 0 rfl rfl 0 (by decide) (ht _ tb_72) (fun _ h => h) rfl dI_setPair_44 ?_
    refine lv_bipush (v := nI 23) hx hb dI_setPair_47 (by decide) ?_
    refine lv_iload hx hb dI_setPair_49 (lv_at hl 0 rfl) ?_
    refine lv_iadd hx hb dI_setPair_51 ?_
    refine lv_lload_n hx hb dI_setPair_52 rfl (lv_at hl 3 rfl) ?_
    refine wa_l hx hb hK hP hD hS 1 rfl (23 + (plc wd key p9)) (by omega) (by decide) (nI_add _ _) dI_setPair_53 (fun H locs hP hD hS => ?_)
    have hP : va_P D vwCl [(qi, .inr (0, [.ref qw])), (qw, .inl (ks 0, 31, .inr (.inl (vp_updL (vp_updL (opnd wd p9 (plc wd key p9)) (15 + (plc wd key p9)) key) (23 + (plc wd key p9)) num))))] H := hP
    have hD : va_D A [(qi, .inr (0, [.ref qw])), (qw, .inl (ks 0, 31, .inr (.inl (vp_updL (vp_updL (opnd wd p9 (plc wd key p9)) (15 + (plc wd key p9)) key) (23 + (plc wd key p9)) num))))] := hD
    exact endV hx hb hr hlk hK (stpr (opnd wd p9 (plc wd key p9)) key num (plc wd key p9)) (Or.inr ⟨h2, rfl⟩) hP hD hS dI_setPair_54

set_option maxHeartbeats 4000000 in
set_option maxRecDepth 100000 in
theorem kI_dropPair (l : Launch) (D : va_G) (ks : Nat → ClassId) (qi qw : Nat) (wd : Nat → Int64) (key : Int64) (p9 : Nat) (sz : Nat) (hp : p9 ≤ 8) (h14 : wd 14 = lN p9) (hlp : (plc wd key p9) < p9) : Met l yI_dropPair (.code yI_dropPair cI_dropPair 5 none :: TB) ({ frames := 4, cells := 0, slots := 0, locals := 86 } : Room) (Pcw D ks [.ref qi, .long key] sz [(qi, .inr (0, [.ref qw])), (qw, .inl (ks 0, 31, .inr (.inl wd)))]) (va_Qv (S := (Nat → Int64)) (fun u => u = drpd wd p9 (plc wd key p9)) (fun u t => Bw D ks (va_A [(qi, .inr (0, [.ref qw])), (qw, .inl (ks 0, 31, .inr (.inl wd)))] sz) ((fun u => wI ks qi qw u) u) t) (va_A [(qi, .inr (0, [.ref qw])), (qw, .inl (ks 0, 31, .inr (.inl wd)))] sz)) 0 0 (va_A [(qi, .inr (0, [.ref qw])), (qw, .inl (ks 0, 31, .inr (.inl wd)))] sz) := by
  refine bodyV (S := (Nat → Int64)) (wN := (fun u => wI ks qi qw u)) (post := (fun u => u = drpd wd p9 (plc wd key p9))) (by decide) (Nat.le_of_ble_eq_true rfl) (fun p e s m below meth c A ls F hr hlk hK hN hA hsz hP hD hS hl => ?_)
  obtain ⟨hx, hb, hml, hown, ht⟩ := F
  have hown : s.vm.findClass RI = some m.cls := hown
  have F : CallFix p m c cI_dropPair 5 s ([.ref qi, .long key] : List Value).toArray TB RI := ⟨hx, hb, hml, hown, ht⟩
  have hl : lv_has ls 5 [(0, .ref qi), (1, .long key)] := hl
  refine lv_aload_n hx hb dI_dropPair_0 rfl (lv_at hl 0 rfl) ?_
  refine lv_lload_n hx hb dI_dropPair_1 rfl (lv_at hl 1 rfl) ?_
  refine gci (wr := []) [0, 1] [] rfl rfl rfl (by decide) (va_runV (As := [.long key]) (rest := []) F (kI_placeOf l D ks qi qw wd key p9 s.heap.size hp h14) (cwV (C := RI) 1 ht (tb_v tb_421 tb_423 tb_sI_placeOf tb_3 tb_424) rfl rfl rfl ⟨rfl, by decide, by decide, by decide +kernel⟩ ⟨by decide, by decide⟩) (preV 0 0 rfl rfl rfl hK hN hP hD [0, 1] rfl rfl) rfl rfl hl.1 rfl (lv_room (Nat.le_of_ble_eq_true rfl)) dI_dropPair_2 (by decide)) hP hD hS hA (fun r1 u1 H locs q1 hP hD hS => ?_)
  have hP : va_P D vwCl [(qi, .inr (0, [.ref qw])), (qw, .inl (ks 0, 31, .inr (.inl wd)))] H := hP
  have hD : va_D A [(qi, .inr (0, [.ref qw])), (qw, .inl (ks 0, 31, .inr (.inl wd)))] := hD
  rw [q1]
  refine lv_istore_n (lv' := [(3, .int (nI (plc wd key p9))), (0, .ref qi), (1, .long key)]) hx hb dI_dropPair_5 rfl hl (by decide) rfl (fun ls hl => ?_)
  refine lv_aload_n hx hb dI_dropPair_6 rfl (lv_at hl 1 rfl) ?_
  refine gci (wr := []) [0, 1] [] rfl rfl rfl (by decide) (va_runV (As := []) (rest := []) F (kI_pairs l D ks qi qw wd p9 H.size hp h14) (cwV (C := RI) 0 ht (tb_v tb_425 tb_144 tb_sI_pairs tb_3 tb_145) rfl rfl rfl ⟨rfl, by decide, by decide, by decide +kernel⟩ ⟨by decide, by decide⟩) (preV 0 0 rfl rfl rfl hK hN hP hD [0, 1] rfl rfl) rfl rfl hl.1 rfl (lv_room (Nat.le_of_ble_eq_true rfl)) dI_dropPair_7 (by decide)) hP hD hS hA (fun r2 u2 H locs q2 hP hD hS => ?_)
  have hP : va_P D vwCl [(qi, .inr (0, [.ref qw])), (qw, .inl (ks 0, 31, .inr (.inl wd)))] H := hP
  have hD : va_D A [(qi, .inr (0, [.ref qw])), (qw, .inl (ks 0, 31, .inr (.inl wd)))] := hD
  rw [q2]
  refine lv_iload_n hx hb dI_dropPair_10 rfl (lv_at hl 0 rfl) ?_
  refine lv_isub hx hb dI_dropPair_11 ?_
  refine lv_iconst (v := nI 1) hx hb dI_dropPair_12 (by decide) ?_
  refine lv_isub hx hb dI_dropPair_13 ?_
  refine tp_i (nI (p9 - (plc wd key p9) - 1)) (by rw [pk_sub (by omega), pk_sub (by omega)]) ?_
  refine lv_istore (lv' := [(4, .int (nI (p9 - (plc wd key p9) - 1))), (3, .int (nI (plc wd key p9))), (0, .ref qi), (1, .long key)]) hx hb dI_dropPair_14 hl (by decide) rfl (fun ls hl => ?_)
  refine lv_iload hx hb dI_dropPair_16 (lv_at hl 0 rfl) ?_
  refine lv_if_ge (tgt := 22) hx hb dI_dropPair_18 rfl (fun _ => ?_) (fun h => absurd (nI_pos' (by omega)) h)
  refine lv_aload_n hx hb dI_dropPair_22 rfl (lv_at hl 2 rfl) ?_
  refine va_get (D := D) (ci := 0) (v := .ref qw) (C := RI) (T := TI) (N := 1) hx hb ht uw_I hown hK hP 0 rfl rfl 0 (by decide) (ht _ tb_72) (fun _ h => h) rfl dI_dropPair_23 ?_
  refine lv_bipush (v := nI 15) hx hb dI_dropPair_26 (by decide) ?_
  refine lv_iload_n hx hb dI_dropPair_28 rfl (lv_at hl 1 rfl) ?_
  refine lv_iadd hx hb dI_dropPair_29 ?_
  refine lv_iconst (v := nI 1) hx hb dI_dropPair_30 (by decide) ?_
  refine lv_iadd hx hb dI_dropPair_31 ?_
  refine lv_aload_n hx hb dI_dropPair_32 rfl (lv_at hl 2 rfl) ?_
  refine va_get (D := D) (ci := 0) (v := .ref qw) (C := RI) (T := TI) (N := 1) hx hb ht uw_I hown hK hP 0 rfl rfl 0 (by decide) (ht _ tb_72) (fun _ h => h) rfl dI_dropPair_33 ?_
  refine lv_bipush (v := nI 15) hx hb dI_dropPair_36 (by decide) ?_
  refine lv_iload_n hx hb dI_dropPair_38 rfl (lv_at hl 1 rfl) ?_
  refine lv_iadd hx hb dI_dropPair_39 ?_
  refine lv_iload hx hb dI_dropPair_40 (lv_at hl 0 rfl) ?_
  refine cp_l hx hb (hml.trans hl.1.symm) hown (ht _ tb_314) (ht _ tb_316) (ht _ tb_315) (ht _ tb_9) hK hP hD hS 1 1 rfl rfl (15 + (plc wd key p9) + 1) (15 + (plc wd key p9)) (p9 - (plc wd key p9) - 1) (by rw [nI_add, nI_add]) (nI_add _ _) rfl (by omega) (by omega) (by decide) (by decide) (by decide) (by decide +kernel) dI_dropPair_42 (fun H locs hP hD hS => ?_)
  have hP : va_P D vwCl [(qi, .inr (0, [.ref qw])), (qw, .inl (ks 0, 31, .inr (.inl (va_cpy wd wd (15 + (plc wd key p9) + 1) (15 + (plc wd key p9)) (p9 - (plc wd key p9) - 1)))))] H := hP
  have hD : va_D A [(qi, .inr (0, [.ref qw])), (qw, .inl (ks 0, 31, .inr (.inl (va_cpy wd wd (15 + (plc wd key p9) + 1) (15 + (plc wd key p9)) (p9 - (plc wd key p9) - 1)))))] := hD
  refine lv_aload_n hx hb dI_dropPair_45 rfl (lv_at hl 2 rfl) ?_
  refine va_get (D := D) (ci := 0) (v := .ref qw) (C := RI) (T := TI) (N := 1) hx hb ht uw_I hown hK hP 0 rfl rfl 0 (by decide) (ht _ tb_72) (fun _ h => h) rfl dI_dropPair_46 ?_
  refine lv_bipush (v := nI 23) hx hb dI_dropPair_49 (by decide) ?_
  refine lv_iload_n hx hb dI_dropPair_51 rfl (lv_at hl 1 rfl) ?_
  refine lv_iadd hx hb dI_dropPair_52 ?_
  refine lv_iconst (v := nI 1) hx hb dI_dropPair_53 (by decide) ?_
  refine lv_iadd hx hb dI_dropPair_54 ?_
  refine lv_aload_n hx hb dI_dropPair_55 rfl (lv_at hl 2 rfl) ?_
  refine va_get (D := D) (ci := 0) (v := .ref qw) (C := RI) (T := TI) (N := 1) hx hb ht uw_I hown hK hP 0 rfl rfl 0 (by decide) (ht _ tb_72) (fun _ h => h) rfl dI_dropPair_56 ?_
  refine lv_bipush (v := nI 23) hx hb dI_dropPair_59 (by decide) ?_
  refine lv_iload_n hx hb dI_dropPair_61 rfl (lv_at hl 1 rfl) ?_
  refine lv_iadd hx hb dI_dropPair_62 ?_
  refine lv_iload hx hb dI_dropPair_63 (lv_at hl 0 rfl) ?_
  refine cp_l hx hb (hml.trans hl.1.symm) hown (ht _ tb_314) (ht _ tb_316) (ht _ tb_315) (ht _ tb_9) hK hP hD hS 1 1 rfl rfl (23 + (plc wd key p9) + 1) (23 + (plc wd key p9)) (p9 - (plc wd key p9) - 1) (by rw [nI_add, nI_add]) (nI_add _ _) rfl (by omega) (by omega) (by decide) (by decide) (by decide) (by decide +kernel) dI_dropPair_65 (fun H locs hP hD hS => ?_)
  have hP : va_P D vwCl [(qi, .inr (0, [.ref qw])), (qw, .inl (ks 0, 31, .inr (.inl (va_cpy (va_cpy wd wd (15 + (plc wd key p9) + 1) (15 + (plc wd key p9)) (p9 - (plc wd key p9) - 1)) (va_cpy wd wd (15 + (plc wd key p9) + 1) (15 + (plc wd key p9)) (p9 - (plc wd key p9) - 1)) (23 + (plc wd key p9) + 1) (23 + (plc wd key p9)) (p9 - (plc wd key p9) - 1)))))] H := hP
  have hD : va_D A [(qi, .inr (0, [.ref qw])), (qw, .inl (ks 0, 31, .inr (.inl (va_cpy (va_cpy wd wd (15 + (plc wd key p9) + 1) (15 + (plc wd key p9)) (p9 - (plc wd key p9) - 1)) (va_cpy wd wd (15 + (plc wd key p9) + 1) (15 + (plc wd key p9)) (p9 - (plc wd key p9) - 1)) (23 + (plc wd key p9) + 1) (23 + (plc wd key p9)) (p9 - (plc wd key p9) - 1)))))] := hD
  refine lv_aload_n hx hb dI_dropPair_68 rfl (lv_at hl 2 rfl) ?_
  refine va_get (D := D) (ci := 0) (v := .ref qw) (C := RI) (T := TI) (N := 1) hx hb ht uw_I hown hK hP 0 rfl rfl 0 (by decide) (ht _ tb_72) (fun _ h => h) rfl dI_dropPair_69 ?_
  refine lv_bipush (v := nI 14) hx hb dI_dropPair_72 (by decide) ?_
  refine lv_aload_n hx hb dI_dropPair_74 rfl (lv_at hl 2 rfl) ?_
  refine gci (wr := []) [0, 1] [] rfl rfl rfl (by decide) (va_runV (As := []) (rest := [.int (nI 14), .ref qw]) F (kI_pairs l D ks qi qw (drp2 wd p9 (plc wd key p9)) p9 H.size hp (by rw [drp2_14]; exact h14)) (cwV (C := RI) 0 ht (tb_v tb_425 tb_144 tb_sI_pairs tb_3 tb_145) rfl rfl rfl ⟨rfl, by decide, by decide, by decide +kernel⟩ ⟨by decide, by decide⟩) (preV 0 0 rfl rfl rfl hK hN hP hD [0, 1] rfl rfl) rfl rfl hl.1 rfl (lv_room (Nat.le_of_ble_eq_true rfl)) dI_dropPair_75 (by decide)) hP hD hS hA (fun r3 u3 H locs q3 hP hD hS => ?_)
  have hP : va_P D vwCl [(qi, .inr (0, [.ref qw])), (qw, .inl (ks 0, 31, .inr (.inl (va_cpy (va_cpy wd wd (15 + (plc wd key p9) + 1) (15 + (plc wd key p9)) (p9 - (plc wd key p9) - 1)) (va_cpy wd wd (15 + (plc wd key p9) + 1) (15 + (plc wd key p9)) (p9 - (plc wd key p9) - 1)) (23 + (plc wd key p9) + 1) (23 + (plc wd key p9)) (p9 - (plc wd key p9) - 1)))))] H := hP
  have hD : va_D A [(qi, .inr (0, [.ref qw])), (qw, .inl (ks 0, 31, .inr (.inl (va_cpy (va_cpy wd wd (15 + (plc wd key p9) + 1) (15 + (plc wd key p9)) (p9 - (plc wd key p9) - 1)) (va_cpy wd wd (15 + (plc wd key p9) + 1) (15 + (plc wd key p9)) (p9 - (plc wd key p9) - 1)) (23 + (plc wd key p9) + 1) (23 + (plc wd key p9)) (p9 - (plc wd key p9) - 1)))))] := hD
  rw [q3]
  refine lv_iconst (v := nI 1) hx hb dI_dropPair_78 (by decide) ?_
  refine lv_isub hx hb dI_dropPair_79 ?_
  refine tp_i (nI (p9 - 1)) (pk_sub (by omega)) ?_
  refine lv_i2l (v := (lN (p9 - 1))) hx hb dI_dropPair_80 (nI_l (by omega)) ?_
  refine wa_l hx hb hK hP hD hS 1 rfl 14 (by decide) (by decide) rfl dI_dropPair_81 (fun H locs hP hD hS => ?_)
  have hP : va_P D vwCl [(qi, .inr (0, [.ref qw])), (qw, .inl (ks 0, 31, .inr (.inl (vp_updL (va_cpy (va_cpy wd wd (15 + (plc wd key p9) + 1) (15 + (plc wd key p9)) (p9 - (plc wd key p9) - 1)) (va_cpy wd wd (15 + (plc wd key p9) + 1) (15 + (plc wd key p9)) (p9 - (plc wd key p9) - 1)) (23 + (plc wd key p9) + 1) (23 + (plc wd key p9)) (p9 - (plc wd key p9) - 1)) 14 (lN (p9 - 1))))))] H := hP
  have hD : va_D A [(qi, .inr (0, [.ref qw])), (qw, .inl (ks 0, 31, .inr (.inl (vp_updL (va_cpy (va_cpy wd wd (15 + (plc wd key p9) + 1) (15 + (plc wd key p9)) (p9 - (plc wd key p9) - 1)) (va_cpy wd wd (15 + (plc wd key p9) + 1) (15 + (plc wd key p9)) (p9 - (plc wd key p9) - 1)) (23 + (plc wd key p9) + 1) (23 + (plc wd key p9)) (p9 - (plc wd key p9) - 1)) 14 (lN (p9 - 1))))))] := hD
  exact endV hx hb hr hlk hK (drpd wd p9 (plc wd key p9)) rfl hP hD hS dI_dropPair_82

set_option maxHeartbeats 4000000 in
set_option maxRecDepth 100000 in
theorem kI_load (l : Launch) (D : va_G) (ks : Nat → ClassId) (qi qw : Nat) (wd : Nat → Int64) (ad : Nat → Nat) (mm : AM) (sz : Nat)  : Met l yI_load (.code yI_load cI_load 2 none :: TB) ({ frames := 1, cells := 0, slots := 0, locals := 60 } : Room) (Pcw D ks [.ref qi, .ref (ad 1)] sz [(qi, .inr (0, [.ref qw])), (qw, .inl (ks 0, 31, .inr (.inl wd))), (ad 1, .inr (1, [.ref (ad 2), .ref (ad 3), .ref (ad 4), .ref (ad 5), .ref (ad 6), .ref (ad 7), .int (am_st mm), .int (am_fl mm), .int (am_fe mm), .int (am_cr mm)])), (ad 2, .inl (ks 0, 112, .inr (.inl (am_va mm)))), (ad 3, .inl (ks 0, 112, .inr (.inl (am_ke mm)))), (ad 4, .inl (ks 0, 112, .inr (.inl (am_lv mm)))), (ad 5, .inl (ks 1, 112, .inl (am_lc mm))), (ad 6, .inl (ks 2, 14, .inl (am_uf mm))), (ad 7, .inl (ks 2, 14, .inl (am_fd mm)))]) (va_Qv (S := (Nat → Int64)) (fun u => u = va_cpy (am_va mm) wd 0 0 31) (fun u t => Bw D ks (va_A [(qi, .inr (0, [.ref qw])), (qw, .inl (ks 0, 31, .inr (.inl wd))), (ad 1, .inr (1, [.ref (ad 2), .ref (ad 3), .ref (ad 4), .ref (ad 5), .ref (ad 6), .ref (ad 7), .int (am_st mm), .int (am_fl mm), .int (am_fe mm), .int (am_cr mm)])), (ad 2, .inl (ks 0, 112, .inr (.inl (am_va mm)))), (ad 3, .inl (ks 0, 112, .inr (.inl (am_ke mm)))), (ad 4, .inl (ks 0, 112, .inr (.inl (am_lv mm)))), (ad 5, .inl (ks 1, 112, .inl (am_lc mm))), (ad 6, .inl (ks 2, 14, .inl (am_uf mm))), (ad 7, .inl (ks 2, 14, .inl (am_fd mm)))] sz) ((fun u => wI ks qi qw u ++ wM ks ad mm) u) t) (va_A [(qi, .inr (0, [.ref qw])), (qw, .inl (ks 0, 31, .inr (.inl wd))), (ad 1, .inr (1, [.ref (ad 2), .ref (ad 3), .ref (ad 4), .ref (ad 5), .ref (ad 6), .ref (ad 7), .int (am_st mm), .int (am_fl mm), .int (am_fe mm), .int (am_cr mm)])), (ad 2, .inl (ks 0, 112, .inr (.inl (am_va mm)))), (ad 3, .inl (ks 0, 112, .inr (.inl (am_ke mm)))), (ad 4, .inl (ks 0, 112, .inr (.inl (am_lv mm)))), (ad 5, .inl (ks 1, 112, .inl (am_lc mm))), (ad 6, .inl (ks 2, 14, .inl (am_uf mm))), (ad 7, .inl (ks 2, 14, .inl (am_fd mm)))] sz)) 0 0 (va_A [(qi, .inr (0, [.ref qw])), (qw, .inl (ks 0, 31, .inr (.inl wd))), (ad 1, .inr (1, [.ref (ad 2), .ref (ad 3), .ref (ad 4), .ref (ad 5), .ref (ad 6), .ref (ad 7), .int (am_st mm), .int (am_fl mm), .int (am_fe mm), .int (am_cr mm)])), (ad 2, .inl (ks 0, 112, .inr (.inl (am_va mm)))), (ad 3, .inl (ks 0, 112, .inr (.inl (am_ke mm)))), (ad 4, .inl (ks 0, 112, .inr (.inl (am_lv mm)))), (ad 5, .inl (ks 1, 112, .inl (am_lc mm))), (ad 6, .inl (ks 2, 14, .inl (am_uf mm))), (ad 7, .inl (ks 2, 14, .inl (am_fd mm)))] sz) := by
  refine bodyV (S := (Nat → Int64)) (wN := (fun u => wI ks qi qw u ++ wM ks ad mm)) (post := (fun u => u = va_cpy (am_va mm) wd 0 0 31)) (by decide) (Nat.le_of_ble_eq_true rfl) (fun p e s m below meth c A ls F hr hlk hK hN hA hsz hP hD hS hl => ?_)
  obtain ⟨hx, hb, hml, hown, ht⟩ := F
  have hown : s.vm.findClass RI = some m.cls := hown
  have F : CallFix p m c cI_load 2 s ([.ref qi, .ref (ad 1)] : List Value).toArray TB RI := ⟨hx, hb, hml, hown, ht⟩
  have hl : lv_has ls 2 [(0, .ref qi), (1, .ref (ad 1))] := hl
  refine lv_aload_n hx hb dI_load_0 rfl (lv_at hl 1 rfl) ?_
  refine va_getN (D := D) (ci := 1) (v := .ref (ad 2)) (C := RM) (T := TM) (N := 10) hx hb ht uw_M hown hK hP 2 rfl rfl 0 (by decide) (va_Nw.use rfl (hN _ nb_28)) (fun _ h => h) rfl dI_load_1 ?_
  refine lv_iconst (v := nI 0) hx hb dI_load_4 (by decide) ?_
  refine lv_aload_n hx hb dI_load_5 rfl (lv_at hl 0 rfl) ?_
  refine va_get (D := D) (ci := 0) (v := .ref qw) (C := RI) (T := TI) (N := 1) hx hb ht uw_I hown hK hP 0 rfl rfl 0 (by decide) (ht _ tb_72) (fun _ h => h) rfl dI_load_6 ?_
  refine lv_iconst (v := nI 0) hx hb dI_load_9 (by decide) ?_
  refine lv_bipush (v := nI 31) hx hb dI_load_10 (by decide) ?_
  refine cp_l hx hb (hml.trans hl.1.symm) hown (ht _ tb_314) (ht _ tb_316) (ht _ tb_315) (ht _ tb_9) hK hP hD hS 3 1 rfl rfl 0 0 31 rfl rfl rfl (by omega) (by omega) (by decide) (by decide) (by decide) (by decide +kernel) dI_load_12 (fun H locs hP hD hS => ?_)
  have hP : va_P D vwCl [(qi, .inr (0, [.ref qw])), (qw, .inl (ks 0, 31, .inr (.inl (va_cpy (am_va mm) wd 0 0 31)))), (ad 1, .inr (1, [.ref (ad 2), .ref (ad 3), .ref (ad 4), .ref (ad 5), .ref (ad 6), .ref (ad 7), .int (am_st mm), .int (am_fl mm), .int (am_fe mm), .int (am_cr mm)])), (ad 2, .inl (ks 0, 112, .inr (.inl (am_va mm)))), (ad 3, .inl (ks 0, 112, .inr (.inl (am_ke mm)))), (ad 4, .inl (ks 0, 112, .inr (.inl (am_lv mm)))), (ad 5, .inl (ks 1, 112, .inl (am_lc mm))), (ad 6, .inl (ks 2, 14, .inl (am_uf mm))), (ad 7, .inl (ks 2, 14, .inl (am_fd mm)))] H := hP
  have hD : va_D A [(qi, .inr (0, [.ref qw])), (qw, .inl (ks 0, 31, .inr (.inl (va_cpy (am_va mm) wd 0 0 31)))), (ad 1, .inr (1, [.ref (ad 2), .ref (ad 3), .ref (ad 4), .ref (ad 5), .ref (ad 6), .ref (ad 7), .int (am_st mm), .int (am_fl mm), .int (am_fe mm), .int (am_cr mm)])), (ad 2, .inl (ks 0, 112, .inr (.inl (am_va mm)))), (ad 3, .inl (ks 0, 112, .inr (.inl (am_ke mm)))), (ad 4, .inl (ks 0, 112, .inr (.inl (am_lv mm)))), (ad 5, .inl (ks 1, 112, .inl (am_lc mm))), (ad 6, .inl (ks 2, 14, .inl (am_uf mm))), (ad 7, .inl (ks 2, 14, .inl (am_fd mm)))] := hD
  exact endV hx hb hr hlk hK (va_cpy (am_va mm) wd 0 0 31) rfl hP hD hS dI_load_15

set_option maxHeartbeats 4000000 in
set_option maxRecDepth 100000 in
theorem kI_copy (l : Launch) (D : va_G) (ks : Nat → ClassId) (qi qw : Nat) (wd : Nat → Int64) (qj qv : Nat) (vd : Nat → Int64) (sz : Nat)  : Met l yI_copy (.code yI_copy cI_copy 2 none :: TB) ({ frames := 1, cells := 0, slots := 0, locals := 60 } : Room) (Pcw D ks [.ref qi, .ref qj] sz [(qi, .inr (0, [.ref qw])), (qw, .inl (ks 0, 31, .inr (.inl wd))), (qj, .inr (0, [.ref qv])), (qv, .inl (ks 0, 31, .inr (.inl vd)))]) (va_Qv (S := (Nat → Int64)) (fun u => u = va_cpy vd wd 0 0 31) (fun u t => Bw D ks (va_A [(qi, .inr (0, [.ref qw])), (qw, .inl (ks 0, 31, .inr (.inl wd))), (qj, .inr (0, [.ref qv])), (qv, .inl (ks 0, 31, .inr (.inl vd)))] sz) ((fun u => wI ks qi qw u ++ wI ks qj qv vd) u) t) (va_A [(qi, .inr (0, [.ref qw])), (qw, .inl (ks 0, 31, .inr (.inl wd))), (qj, .inr (0, [.ref qv])), (qv, .inl (ks 0, 31, .inr (.inl vd)))] sz)) 0 0 (va_A [(qi, .inr (0, [.ref qw])), (qw, .inl (ks 0, 31, .inr (.inl wd))), (qj, .inr (0, [.ref qv])), (qv, .inl (ks 0, 31, .inr (.inl vd)))] sz) := by
  refine bodyV (S := (Nat → Int64)) (wN := (fun u => wI ks qi qw u ++ wI ks qj qv vd)) (post := (fun u => u = va_cpy vd wd 0 0 31)) (by decide) (Nat.le_of_ble_eq_true rfl) (fun p e s m below meth c A ls F hr hlk hK hN hA hsz hP hD hS hl => ?_)
  obtain ⟨hx, hb, hml, hown, ht⟩ := F
  have hown : s.vm.findClass RI = some m.cls := hown
  have F : CallFix p m c cI_copy 2 s ([.ref qi, .ref qj] : List Value).toArray TB RI := ⟨hx, hb, hml, hown, ht⟩
  have hl : lv_has ls 2 [(0, .ref qi), (1, .ref qj)] := hl
  refine lv_aload_n hx hb dI_copy_0 rfl (lv_at hl 1 rfl) ?_
  refine va_get (D := D) (ci := 0) (v := .ref qv) (C := RI) (T := TI) (N := 1) hx hb ht uw_I hown hK hP 2 rfl rfl 0 (by decide) (ht _ tb_72) (fun _ h => h) rfl dI_copy_1 ?_
  refine lv_iconst (v := nI 0) hx hb dI_copy_4 (by decide) ?_
  refine lv_aload_n hx hb dI_copy_5 rfl (lv_at hl 0 rfl) ?_
  refine va_get (D := D) (ci := 0) (v := .ref qw) (C := RI) (T := TI) (N := 1) hx hb ht uw_I hown hK hP 0 rfl rfl 0 (by decide) (ht _ tb_72) (fun _ h => h) rfl dI_copy_6 ?_
  refine lv_iconst (v := nI 0) hx hb dI_copy_9 (by decide) ?_
  refine lv_bipush (v := nI 31) hx hb dI_copy_10 (by decide) ?_
  refine cp_l hx hb (hml.trans hl.1.symm) hown (ht _ tb_314) (ht _ tb_316) (ht _ tb_315) (ht _ tb_9) hK hP hD hS 3 1 rfl rfl 0 0 31 rfl rfl rfl (by omega) (by omega) (by decide) (by decide) (by decide) (by decide +kernel) dI_copy_12 (fun H locs hP hD hS => ?_)
  have hP : va_P D vwCl [(qi, .inr (0, [.ref qw])), (qw, .inl (ks 0, 31, .inr (.inl (va_cpy vd wd 0 0 31)))), (qj, .inr (0, [.ref qv])), (qv, .inl (ks 0, 31, .inr (.inl vd)))] H := hP
  have hD : va_D A [(qi, .inr (0, [.ref qw])), (qw, .inl (ks 0, 31, .inr (.inl (va_cpy vd wd 0 0 31)))), (qj, .inr (0, [.ref qv])), (qv, .inl (ks 0, 31, .inr (.inl vd)))] := hD
  exact endV hx hb hr hlk hK (va_cpy vd wd 0 0 31) rfl hP hD hS dI_copy_15

