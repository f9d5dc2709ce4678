theorem cpy_0 {α : Type} (f g : Nat → α) (sp dp : Nat) : va_cpy f g sp dp 0 = g := funext fun k => if_neg (by omega)
theorem cpy_s {f g : Nat → Int64} {sp dp n : Nat} {x : Int64} (hx : x = f (sp + n)) : vp_updL (va_cpy f g sp dp n) (dp + n) x = va_cpy f g sp dp (n + 1) :=
  up_s (fun k hk => by
    unfold va_cpy
    by_cases h : dp ≤ k ∧ k < dp + n
    · rw [if_pos h, if_pos (by omega)]
    · rw [if_neg h, if_neg (by omega)]) (by
    unfold va_cpy
    rw [if_pos (by omega), hx, Nat.add_sub_cancel_left])
theorem updS {f : Nat → Int32} {k : Nat} {x : Int32} : upd f k x k = x := if_pos rfl
/-- the reference frozen at k9 -/
def rs_frz (r0 : MS) (k9 p9 : Nat) : MS := (0, rs_va r0, rs_ke r0, rs_lo r0, rs_ls r0, rs_fd r0, rs_dn r0, rs_wi r0, (WK r0), rs_st r0, rs_fl r0, rs_fe r0, rs_cr r0, rs_sp r0, rs_sd r0, rs_so r0, (upd (rs_tk r0) k9 1), (va_cpy (WK r0) (rs_co r0) 0 (4 * k9) 4), (upd (rs_pr r0) k9 (nI p9)), (va_cpy (WK r0) (rs_ky r0) 15 (8 * k9) p9), (va_cpy (WK r0) (rs_nu r0) 23 (8 * k9) p9))
set_option maxHeartbeats 4000000 in
set_option maxRecDepth 100000 in
theorem kR_freeze (l : Launch) (D : va_G) (ks : Nat → ClassId) (bd : Nat → Nat) (r0 : MS) (f9 n9 p9 : Nat) (x9 : Int32) (sz : Nat) (hwf : rs_dn r0 = 0 → WfN f9 n9 p9 (WK r0))  : Met l yR_freeze (.code yR_freeze cR_freeze 3 none :: TB) ({ frames := 2, cells := 0, slots := 0, locals := 41 } : Room) (Pcw D ks [.ref (bd 0), .int x9] sz [(bd 0, .inr (3, [.int (rs_th r0), .ref (bd 1), .ref (bd 2), .ref (bd 3), .ref (bd 4), .ref (bd 5), .int (rs_dn r0), .int (rs_wi r0), .ref (bd 6), .int (rs_st r0), .int (rs_fl r0), .int (rs_fe r0), .int (rs_cr r0), .int (rs_sp r0), .int (rs_sd r0), .int (rs_so r0), .ref (bd 7), .ref (bd 8), .ref (bd 9), .ref (bd 10), .ref (bd 11)])), (bd 1, .inl (ks 0, 112, .inr (.inl (rs_va r0)))), (bd 2, .inl (ks 0, 112, .inr (.inl (rs_ke r0)))), (bd 3, .inl (ks 0, 448, .inr (.inl (rs_lo r0)))), (bd 4, .inl (ks 1, 112, .inl (rs_ls r0))), (bd 5, .inl (ks 2, 14, .inl (rs_fd r0))), (bd 6, .inl (ks 0, 31, .inr (.inl (rs_wk r0)))), (bd 7, .inl (ks 2, 2, .inl (rs_tk r0))), (bd 8, .inl (ks 0, 8, .inr (.inl (rs_co r0)))), (bd 9, .inl (ks 1, 2, .inl (rs_pr r0))), (bd 10, .inl (ks 0, 16, .inr (.inl (rs_ky r0)))), (bd 11, .inl (ks 0, 16, .inr (.inl (rs_nu r0))))]) (va_Qv (S := MS) (fun u => (¬ rs_dn r0 = 0 ∧ u = rs_thr r0 1) ∨ (rs_dn r0 = 0 ∧ ¬ (0 ≤ x9 ∧ x9 ≤ nI 1) ∧ u = rs_thr r0 2) ∨ (rs_dn r0 = 0 ∧ ∃ s9, s9 ≤ 1 ∧ x9 = nI s9 ∧ u = rs_frz r0 s9 p9)) (fun u t => Bw D ks (va_A [(bd 0, .inr (3, [.int (rs_th r0), .ref (bd 1), .ref (bd 2), .ref (bd 3), .ref (bd 4), .ref (bd 5), .int (rs_dn r0), .int (rs_wi r0), .ref (bd 6), .int (rs_st r0), .int (rs_fl r0), .int (rs_fe r0), .int (rs_cr r0), .int (rs_sp r0), .int (rs_sd r0), .int (rs_so r0), .ref (bd 7), .ref (bd 8), .ref (bd 9), .ref (bd 10), .ref (bd 11)])), (bd 1, .inl (ks 0, 112, .inr (.inl (rs_va r0)))), (bd 2, .inl (ks 0, 112, .inr (.inl (rs_ke r0)))), (bd 3, .inl (ks 0, 448, .inr (.inl (rs_lo r0)))), (bd 4, .inl (ks 1, 112, .inl (rs_ls r0))), (bd 5, .inl (ks 2, 14, .inl (rs_fd r0))), (bd 6, .inl (ks 0, 31, .inr (.inl (rs_wk r0)))), (bd 7, .inl (ks 2, 2, .inl (rs_tk r0))), (bd 8, .inl (ks 0, 8, .inr (.inl (rs_co r0)))), (bd 9, .inl (ks 1, 2, .inl (rs_pr r0))), (bd 10, .inl (ks 0, 16, .inr (.inl (rs_ky r0)))), (bd 11, .inl (ks 0, 16, .inr (.inl (rs_nu r0))))] sz) ((fun u => wR ks bd u) u) t) (va_A [(bd 0, .inr (3, [.int (rs_th r0), .ref (bd 1), .ref (bd 2), .ref (bd 3), .ref (bd 4), .ref (bd 5), .int (rs_dn r0), .int (rs_wi r0), .ref (bd 6), .int (rs_st r0), .int (rs_fl r0), .int (rs_fe r0), .int (rs_cr r0), .int (rs_sp r0), .int (rs_sd r0), .int (rs_so r0), .ref (bd 7), .ref (bd 8), .ref (bd 9), .ref (bd 10), .ref (bd 11)])), (bd 1, .inl (ks 0, 112, .inr (.inl (rs_va r0)))), (bd 2, .inl (ks 0, 112, .inr (.inl (rs_ke r0)))), (bd 3, .inl (ks 0, 448, .inr (.inl (rs_lo r0)))), (bd 4, .inl (ks 1, 112, .inl (rs_ls r0))), (bd 5, .inl (ks 2, 14, .inl (rs_fd r0))), (bd 6, .inl (ks 0, 31, .inr (.inl (rs_wk r0)))), (bd 7, .inl (ks 2, 2, .inl (rs_tk r0))), (bd 8, .inl (ks 0, 8, .inr (.inl (rs_co r0)))), (bd 9, .inl (ks 1, 2, .inl (rs_pr r0))), (bd 10, .inl (ks 0, 16, .inr (.inl (rs_ky r0)))), (bd 11, .inl (ks 0, 16, .inr (.inl (rs_nu r0))))] sz)) 0 0 (va_A [(bd 0, .inr (3, [.int (rs_th r0), .ref (bd 1), .ref (bd 2), .ref (bd 3), .ref (bd 4), .ref (bd 5), .int (rs_dn r0), .int (rs_wi r0), .ref (bd 6), .int (rs_st r0), .int (rs_fl r0), .int (rs_fe r0), .int (rs_cr r0), .int (rs_sp r0), .int (rs_sd r0), .int (rs_so r0), .ref (bd 7), .ref (bd 8), .ref (bd 9), .ref (bd 10), .ref (bd 11)])), (bd 1, .inl (ks 0, 112, .inr (.inl (rs_va r0)))), (bd 2, .inl (ks 0, 112, .inr (.inl (rs_ke r0)))), (bd 3, .inl (ks 0, 448, .inr (.inl (rs_lo r0)))), (bd 4, .inl (ks 1, 112, .inl (rs_ls r0))), (bd 5, .inl (ks 2, 14, .inl (rs_fd r0))), (bd 6, .inl (ks 0, 31, .inr (.inl (rs_wk r0)))), (bd 7, .inl (ks 2, 2, .inl (rs_tk r0))), (bd 8, .inl (ks 0, 8, .inr (.inl (rs_co r0)))), (bd 9, .inl (ks 1, 2, .inl (rs_pr r0))), (bd 10, .inl (ks 0, 16, .inr (.inl (rs_ky r0)))), (bd 11, .inl (ks 0, 16, .inr (.inl (rs_nu r0))))] sz) := by
  refine bodyV (S := MS) (wN := (fun u => wR ks bd u)) (post := (fun u => (¬ rs_dn r0 = 0 ∧ u = rs_thr r0 1) ∨ (rs_dn r0 = 0 ∧ ¬ (0 ≤ x9 ∧ x9 ≤ nI 1) ∧ u = rs_thr r0 2) ∨ (rs_dn r0 = 0 ∧ ∃ s9, s9 ≤ 1 ∧ x9 = nI s9 ∧ u = rs_frz r0 s9 p9))) (by decide) (Nat.le_of_ble_eq_true rfl) (fun p e s m below meth c A ls F hr hlk hK hN hA hsz hP hD hS hl => ?_)
  obtain ⟨hx, hb, hml, hown, ht⟩ := F
  have hown : s.vm.findClass RR = some m.cls := hown
  have F : CallFix p m c cR_freeze 3 s ([.ref (bd 0), .int x9] : List Value).toArray TB RR := ⟨hx, hb, hml, hown, ht⟩
  have hl : lv_has ls 3 [(0, .ref (bd 0)), (1, .int x9)] := hl
  refine lv_aload_n hx hb dR_freeze_0 rfl (lv_at hl 0 rfl) ?_
  refine lv_aload_n hx hb dR_freeze_1 rfl (lv_at hl 0 rfl) ?_
  refine va_get (D := D) (ci := 3) (v := .int (rs_dn r0)) (C := RR) (T := TR) (N := 21) hx hb ht uw_R hown hK hP 0 rfl rfl 6 (by decide) (ht _ tb_545) (fun _ h => h) rfl dR_freeze_2 ?_
  refine lv_if_eq (tgt := 12) hx hb dR_freeze_5 rfl (fun h1 => ?_) (fun h2 => ?_)
  · skip
    obtain ⟨hf, hn, hp, h4, h5, h14, hso⟩ := hwf h1
    refine lv_iload_n hx hb dR_freeze_12 rfl (lv_at hl 1 rfl) ?_
    refine lv_if_lt (tgt := 21) hx hb dR_freeze_13 rfl (fun hN0 => ?_) (fun hP0 => ?_)
    · skip
      refine lv_iconst (v := 2) hx hb dR_freeze_21 (by decide) ?_
      refine lv_goto (tgt := 26) hx hb dR_freeze_22 rfl ?_
      refine va_put (D := D) (ci := 3) (v := .int 2) (ty := .int) (C := RR) (T := TR) (N := 21) hx hb ht uw_R ty_R ty_R_ok nm_R hown hK hP hD hS 0 rfl rfl 0 (by decide) (ht _ tb_539) (fun _ h => h) rfl (by decide +kernel) rfl rfl (Nat.le_of_ble_eq_true rfl) dR_freeze_26 (fun H locs hP hD hS => ?_)
      have hP : va_P D vwCl [(bd 0, .inr (3, [.int 2, .ref (bd 1), .ref (bd 2), .ref (bd 3), .ref (bd 4), .ref (bd 5), .int (rs_dn r0), .int (rs_wi r0), .ref (bd 6), .int (rs_st r0), .int (rs_fl r0), .int (rs_fe r0), .int (rs_cr r0), .int (rs_sp r0), .int (rs_sd r0), .int (rs_so r0), .ref (bd 7), .ref (bd 8), .ref (bd 9), .ref (bd 10), .ref (bd 11)])), (bd 1, .inl (ks 0, 112, .inr (.inl (rs_va r0)))), (bd 2, .inl (ks 0, 112, .inr (.inl (rs_ke r0)))), (bd 3, .inl (ks 0, 448, .inr (.inl (rs_lo r0)))), (bd 4, .inl (ks 1, 112, .inl (rs_ls r0))), (bd 5, .inl (ks 2, 14, .inl (rs_fd r0))), (bd 6, .inl (ks 0, 31, .inr (.inl (rs_wk r0)))), (bd 7, .inl (ks 2, 2, .inl (rs_tk r0))), (bd 8, .inl (ks 0, 8, .inr (.inl (rs_co r0)))), (bd 9, .inl (ks 1, 2, .inl (rs_pr r0))), (bd 10, .inl (ks 0, 16, .inr (.inl (rs_ky r0)))), (bd 11, .inl (ks 0, 16, .inr (.inl (rs_nu r0))))] H := hP
      have hD : va_D A [(bd 0, .inr (3, [.int 2, .ref (bd 1), .ref (bd 2), .ref (bd 3), .ref (bd 4), .ref (bd 5), .int (rs_dn r0), .int (rs_wi r0), .ref (bd 6), .int (rs_st r0), .int (rs_fl r0), .int (rs_fe r0), .int (rs_cr r0), .int (rs_sp r0), .int (rs_sd r0), .int (rs_so r0), .ref (bd 7), .ref (bd 8), .ref (bd 9), .ref (bd 10), .ref (bd 11)])), (bd 1, .inl (ks 0, 112, .inr (.inl (rs_va r0)))), (bd 2, .inl (ks 0, 112, .inr (.inl (rs_ke r0)))), (bd 3, .inl (ks 0, 448, .inr (.inl (rs_lo r0)))), (bd 4, .inl (ks 1, 112, .inl (rs_ls r0))), (bd 5, .inl (ks 2, 14, .inl (rs_fd r0))), (bd 6, .inl (ks 0, 31, .inr (.inl (rs_wk r0)))), (bd 7, .inl (ks 2, 2, .inl (rs_tk r0))), (bd 8, .inl (ks 0, 8, .inr (.inl (rs_co r0)))), (bd 9, .inl (ks 1, 2, .inl (rs_pr r0))), (bd 10, .inl (ks 0, 16, .inr (.inl (rs_ky r0)))), (bd 11, .inl (ks 0, 16, .inr (.inl (rs_nu r0))))] := hD
      refine lv_aload_n hx hb dR_freeze_29 rfl (lv_at hl 0 rfl) ?_
      refine va_get (D := D) (ci := 3) (v := .int 2) (C := RR) (T := TR) (N := 21) hx hb ht uw_R hown hK hP 0 rfl rfl 0 (by decide) (ht _ tb_539) (fun _ h => h) rfl dR_freeze_30 ?_
      refine lv_if_le (tgt := 37) hx hb dR_freeze_33 rfl (fun h => absurd h (by decide)) (fun _ => ?_)
      exact endV hx hb hr hlk hK (2, (rs_va r0), (rs_ke r0), (rs_lo r0), (rs_ls r0), (rs_fd r0), (rs_dn r0), (rs_wi r0), (rs_wk r0), (rs_st r0), (rs_fl r0), (rs_fe r0), (rs_cr r0), (rs_sp r0), (rs_sd r0), (rs_so r0), (rs_tk r0), (rs_co r0), (rs_pr r0), (rs_ky r0), (rs_nu r0)) (Or.inr (Or.inl ⟨h1, fun z => absurd hN0 (Int32.not_lt.mpr z.1), rfl⟩)) hP hD hS dR_freeze_36
    · skip
      refine lv_iload_n hx hb dR_freeze_16 rfl (lv_at hl 1 rfl) ?_
      refine lv_iconst (v := nI 1) hx hb dR_freeze_17 (by decide) ?_
      refine lv_icmp_le (tgt := 25) hx hb dR_freeze_18 rfl (fun hC => ?_) (fun hB => ?_)
      · skip
        obtain ⟨s9, hk8, hx9⟩ := nI_of hP0
        have hs9 : s9 ≤ 1 := Nat.not_lt.mp (fun z => Int32.not_lt.mpr hC (by rw [hx9]; exact (nI_ltI (by decide) hk8).mpr z))
        refine lv_iconst (v := 0) hx hb dR_freeze_25 (by decide) ?_
        refine va_put (D := D) (ci := 3) (v := .int 0) (ty := .int) (C := RR) (T := TR) (N := 21) hx hb ht uw_R ty_R ty_R_ok nm_R hown hK hP hD hS 0 rfl rfl 0 (by decide) (ht _ tb_539) (fun _ h => h) rfl (by decide +kernel) rfl rfl (Nat.le_of_ble_eq_true rfl) dR_freeze_26 (fun H locs hP hD hS => ?_)
        have hP : va_P D vwCl [(bd 0, .inr (3, [.int 0, .ref (bd 1), .ref (bd 2), .ref (bd 3), .ref (bd 4), .ref (bd 5), .int (rs_dn r0), .int (rs_wi r0), .ref (bd 6), .int (rs_st r0), .int (rs_fl r0), .int (rs_fe r0), .int (rs_cr r0), .int (rs_sp r0), .int (rs_sd r0), .int (rs_so r0), .ref (bd 7), .ref (bd 8), .ref (bd 9), .ref (bd 10), .ref (bd 11)])), (bd 1, .inl (ks 0, 112, .inr (.inl (rs_va r0)))), (bd 2, .inl (ks 0, 112, .inr (.inl (rs_ke r0)))), (bd 3, .inl (ks 0, 448, .inr (.inl (rs_lo r0)))), (bd 4, .inl (ks 1, 112, .inl (rs_ls r0))), (bd 5, .inl (ks 2, 14, .inl (rs_fd r0))), (bd 6, .inl (ks 0, 31, .inr (.inl (rs_wk r0)))), (bd 7, .inl (ks 2, 2, .inl (rs_tk r0))), (bd 8, .inl (ks 0, 8, .inr (.inl (rs_co r0)))), (bd 9, .inl (ks 1, 2, .inl (rs_pr r0))), (bd 10, .inl (ks 0, 16, .inr (.inl (rs_ky r0)))), (bd 11, .inl (ks 0, 16, .inr (.inl (rs_nu r0))))] H := hP
        have hD : va_D A [(bd 0, .inr (3, [.int 0, .ref (bd 1), .ref (bd 2), .ref (bd 3), .ref (bd 4), .ref (bd 5), .int (rs_dn r0), .int (rs_wi r0), .ref (bd 6), .int (rs_st r0), .int (rs_fl r0), .int (rs_fe r0), .int (rs_cr r0), .int (rs_sp r0), .int (rs_sd r0), .int (rs_so r0), .ref (bd 7), .ref (bd 8), .ref (bd 9), .ref (bd 10), .ref (bd 11)])), (bd 1, .inl (ks 0, 112, .inr (.inl (rs_va r0)))), (bd 2, .inl (ks 0, 112, .inr (.inl (rs_ke r0)))), (bd 3, .inl (ks 0, 448, .inr (.inl (rs_lo r0)))), (bd 4, .inl (ks 1, 112, .inl (rs_ls r0))), (bd 5, .inl (ks 2, 14, .inl (rs_fd r0))), (bd 6, .inl (ks 0, 31, .inr (.inl (rs_wk r0)))), (bd 7, .inl (ks 2, 2, .inl (rs_tk r0))), (bd 8, .inl (ks 0, 8, .inr (.inl (rs_co r0)))), (bd 9, .inl (ks 1, 2, .inl (rs_pr r0))), (bd 10, .inl (ks 0, 16, .inr (.inl (rs_ky r0)))), (bd 11, .inl (ks 0, 16, .inr (.inl (rs_nu r0))))] := hD
        refine lv_aload_n hx hb dR_freeze_29 rfl (lv_at hl 0 rfl) ?_
        refine va_get (D := D) (ci := 3) (v := .int 0) (C := RR) (T := TR) (N := 21) hx hb ht uw_R hown hK hP 0 rfl rfl 0 (by decide) (ht _ tb_539) (fun _ h => h) rfl dR_freeze_30 ?_
        refine lv_if_le (tgt := 37) hx hb dR_freeze_33 rfl (fun _ => ?_) (fun h => absurd (by decide) h)
        refine lv_aload_n hx hb dR_freeze_37 rfl (lv_at hl 0 rfl) ?_
        refine gcv (wr := []) [0, 1, 2, 3, 4, 5, 6, 7, 8, 9, 10, 11] [] rfl rfl rfl (by decide) (va_runV (As := []) (rest := []) F (kR_see l D ks bd (rs_thr r0 0) H.size ) (cwV (C := RR) 0 ht (tb_v tb_668 tb_670 tb_sR_see tb_4 tb_671) rfl rfl rfl ⟨rfl, by decide, by decide, by decide +kernel⟩ ⟨by decide, by decide⟩) (preV 0 3 rfl rfl rfl hK hN hP hD [0, 1, 2, 3, 4, 5, 6, 7, 8, 9, 10, 11] rfl rfl) rfl rfl hl.1 rfl (lv_room (Nat.le_of_ble_eq_true rfl)) dR_freeze_38 (by decide)) hP hD hS hA (fun u1 H locs q1 hP hD hS => ?_)
        have hP : va_P D vwCl [(bd 0, .inr (3, [.int (rs_th u1), .ref (bd 1), .ref (bd 2), .ref (bd 3), .ref (bd 4), .ref (bd 5), .int (rs_dn u1), .int (rs_wi u1), .ref (bd 6), .int (rs_st u1), .int (rs_fl u1), .int (rs_fe u1), .int (rs_cr u1), .int (rs_sp u1), .int (rs_sd u1), .int (rs_so u1), .ref (bd 7), .ref (bd 8), .ref (bd 9), .ref (bd 10), .ref (bd 11)])), (bd 1, .inl (ks 0, 112, .inr (.inl (rs_va u1)))), (bd 2, .inl (ks 0, 112, .inr (.inl (rs_ke u1)))), (bd 3, .inl (ks 0, 448, .inr (.inl (rs_lo u1)))), (bd 4, .inl (ks 1, 112, .inl (rs_ls u1))), (bd 5, .inl (ks 2, 14, .inl (rs_fd u1))), (bd 6, .inl (ks 0, 31, .inr (.inl (rs_wk u1)))), (bd 7, .inl (ks 2, 2, .inl (rs_tk u1))), (bd 8, .inl (ks 0, 8, .inr (.inl (rs_co u1)))), (bd 9, .inl (ks 1, 2, .inl (rs_pr u1))), (bd 10, .inl (ks 0, 16, .inr (.inl (rs_ky u1)))), (bd 11, .inl (ks 0, 16, .inr (.inl (rs_nu u1))))] H := hP
        have hD : va_D A [(bd 0, .inr (3, [.int (rs_th u1), .ref (bd 1), .ref (bd 2), .ref (bd 3), .ref (bd 4), .ref (bd 5), .int (rs_dn u1), .int (rs_wi u1), .ref (bd 6), .int (rs_st u1), .int (rs_fl u1), .int (rs_fe u1), .int (rs_cr u1), .int (rs_sp u1), .int (rs_sd u1), .int (rs_so u1), .ref (bd 7), .ref (bd 8), .ref (bd 9), .ref (bd 10), .ref (bd 11)])), (bd 1, .inl (ks 0, 112, .inr (.inl (rs_va u1)))), (bd 2, .inl (ks 0, 112, .inr (.inl (rs_ke u1)))), (bd 3, .inl (ks 0, 448, .inr (.inl (rs_lo u1)))), (bd 4, .inl (ks 1, 112, .inl (rs_ls u1))), (bd 5, .inl (ks 2, 14, .inl (rs_fd u1))), (bd 6, .inl (ks 0, 31, .inr (.inl (rs_wk u1)))), (bd 7, .inl (ks 2, 2, .inl (rs_tk u1))), (bd 8, .inl (ks 0, 8, .inr (.inl (rs_co u1)))), (bd 9, .inl (ks 1, 2, .inl (rs_pr u1))), (bd 10, .inl (ks 0, 16, .inr (.inl (rs_ky u1)))), (bd 11, .inl (ks 0, 16, .inr (.inl (rs_nu u1))))] := hD
        have e9 : u1 = rs_tw r0 0 (WK r0) := see_w q1
        subst e9
        have hP : va_P D vwCl [(bd 0, .inr (3, [.int (0), .ref (bd 1), .ref (bd 2), .ref (bd 3), .ref (bd 4), .ref (bd 5), .int (rs_dn r0), .int (rs_wi r0), .ref (bd 6), .int (rs_st r0), .int (rs_fl r0), .int (rs_fe r0), .int (rs_cr r0), .int (rs_sp r0), .int (rs_sd r0), .int (rs_so r0), .ref (bd 7), .ref (bd 8), .ref (bd 9), .ref (bd 10), .ref (bd 11)])), (bd 1, .inl (ks 0, 112, .inr (.inl (rs_va r0)))), (bd 2, .inl (ks 0, 112, .inr (.inl (rs_ke r0)))), (bd 3, .inl (ks 0, 448, .inr (.inl (rs_lo r0)))), (bd 4, .inl (ks 1, 112, .inl (rs_ls r0))), (bd 5, .inl (ks 2, 14, .inl (rs_fd r0))), (bd 6, .inl (ks 0, 31, .inr (.inl ((WK r0))))), (bd 7, .inl (ks 2, 2, .inl (rs_tk r0))), (bd 8, .inl (ks 0, 8, .inr (.inl (rs_co r0)))), (bd 9, .inl (ks 1, 2, .inl (rs_pr r0))), (bd 10, .inl (ks 0, 16, .inr (.inl (rs_ky r0)))), (bd 11, .inl (ks 0, 16, .inr (.inl (rs_nu r0))))] H := hP
        have hD : va_D A [(bd 0, .inr (3, [.int (0), .ref (bd 1), .ref (bd 2), .ref (bd 3), .ref (bd 4), .ref (bd 5), .int (rs_dn r0), .int (rs_wi r0), .ref (bd 6), .int (rs_st r0), .int (rs_fl r0), .int (rs_fe r0), .int (rs_cr r0), .int (rs_sp r0), .int (rs_sd r0), .int (rs_so r0), .ref (bd 7), .ref (bd 8), .ref (bd 9), .ref (bd 10), .ref (bd 11)])), (bd 1, .inl (ks 0, 112, .inr (.inl (rs_va r0)))), (bd 2, .inl (ks 0, 112, .inr (.inl (rs_ke r0)))), (bd 3, .inl (ks 0, 448, .inr (.inl (rs_lo r0)))), (bd 4, .inl (ks 1, 112, .inl (rs_ls r0))), (bd 5, .inl (ks 2, 14, .inl (rs_fd r0))), (bd 6, .inl (ks 0, 31, .inr (.inl ((WK r0))))), (bd 7, .inl (ks 2, 2, .inl (rs_tk r0))), (bd 8, .inl (ks 0, 8, .inr (.inl (rs_co r0)))), (bd 9, .inl (ks 1, 2, .inl (rs_pr r0))), (bd 10, .inl (ks 0, 16, .inr (.inl (rs_ky r0)))), (bd 11, .inl (ks 0, 16, .inr (.inl (rs_nu r0))))] := hD
        refine lv_aload_n hx hb dR_freeze_41 rfl (lv_at hl 0 rfl) ?_
        refine va_get (D := D) (ci := 3) (v := .ref (bd 7)) (C := RR) (T := TR) (N := 21) hx hb ht uw_R hown hK hP 0 rfl rfl 16 (by decide) (ht _ tb_555) (fun _ h => h) rfl dR_freeze_42 ?_
        refine lv_iload_n hx hb dR_freeze_45 rfl (lv_at hl 1 rfl) ?_
        refine lv_iconst (v := nI 1) hx hb dR_freeze_46 (by decide) ?_
        refine wa_z hx hb hK hP hD hS 7 rfl s9 (by omega) (by decide) hx9 1 (by decide) dR_freeze_47 (fun H locs hP hD hS => ?_)
        have hP : va_P D vwCl [(bd 0, .inr (3, [.int (0), .ref (bd 1), .ref (bd 2), .ref (bd 3), .ref (bd 4), .ref (bd 5), .int (rs_dn r0), .int (rs_wi r0), .ref (bd 6), .int (rs_st r0), .int (rs_fl r0), .int (rs_fe r0), .int (rs_cr r0), .int (rs_sp r0), .int (rs_sd r0), .int (rs_so r0), .ref (bd 7), .ref (bd 8), .ref (bd 9), .ref (bd 10), .ref (bd 11)])), (bd 1, .inl (ks 0, 112, .inr (.inl (rs_va r0)))), (bd 2, .inl (ks 0, 112, .inr (.inl (rs_ke r0)))), (bd 3, .inl (ks 0, 448, .inr (.inl (rs_lo r0)))), (bd 4, .inl (ks 1, 112, .inl (rs_ls r0))), (bd 5, .inl (ks 2, 14, .inl (rs_fd r0))), (bd 6, .inl (ks 0, 31, .inr (.inl ((WK r0))))), (bd 7, .inl (ks 2, 2, .inl (upd (rs_tk r0) s9 1))), (bd 8, .inl (ks 0, 8, .inr (.inl (rs_co r0)))), (bd 9, .inl (ks 1, 2, .inl (rs_pr r0))), (bd 10, .inl (ks 0, 16, .inr (.inl (rs_ky r0)))), (bd 11, .inl (ks 0, 16, .inr (.inl (rs_nu r0))))] H := hP
        have hD : va_D A [(bd 0, .inr (3, [.int (0), .ref (bd 1), .ref (bd 2), .ref (bd 3), .ref (bd 4), .ref (bd 5), .int (rs_dn r0), .int (rs_wi r0), .ref (bd 6), .int (rs_st r0), .int (rs_fl r0), .int (rs_fe r0), .int (rs_cr r0), .int (rs_sp r0), .int (rs_sd r0), .int (rs_so r0), .ref (bd 7), .ref (bd 8), .ref (bd 9), .ref (bd 10), .ref (bd 11)])), (bd 1, .inl (ks 0, 112, .inr (.inl (rs_va r0)))), (bd 2, .inl (ks 0, 112, .inr (.inl (rs_ke r0)))), (bd 3, .inl (ks 0, 448, .inr (.inl (rs_lo r0)))), (bd 4, .inl (ks 1, 112, .inl (rs_ls r0))), (bd 5, .inl (ks 2, 14, .inl (rs_fd r0))), (bd 6, .inl (ks 0, 31, .inr (.inl ((WK r0))))), (bd 7, .inl (ks 2, 2, .inl (upd (rs_tk r0) s9 1))), (bd 8, .inl (ks 0, 8, .inr (.inl (rs_co r0)))), (bd 9, .inl (ks 1, 2, .inl (rs_pr r0))), (bd 10, .inl (ks 0, 16, .inr (.inl (rs_ky r0)))), (bd 11, .inl (ks 0, 16, .inr (.inl (rs_nu r0))))] := hD
        refine lv_iconst (v := nI 0) hx hb dR_freeze_48 (by decide) ?_
        refine lv_istore_n (lv' := [(2, .int (nI 0)), (0, .ref (bd 0)), (1, .int x9)]) hx hb dR_freeze_49 rfl hl (by decide) rfl (fun ls hl => ?_)
        have hP : va_P D vwCl [(bd 0, .inr (3, [.int (0), .ref (bd 1), .ref (bd 2), .ref (bd 3), .ref (bd 4), .ref (bd 5), .int (rs_dn r0), .int (rs_wi r0), .ref (bd 6), .int (rs_st r0), .int (rs_fl r0), .int (rs_fe r0), .int (rs_cr r0), .int (rs_sp r0), .int (rs_sd r0), .int (rs_so r0), .ref (bd 7), .ref (bd 8), .ref (bd 9), .ref (bd 10), .ref (bd 11)])), (bd 1, .inl (ks 0, 112, .inr (.inl (rs_va r0)))), (bd 2, .inl (ks 0, 112, .inr (.inl (rs_ke r0)))), (bd 3, .inl (ks 0, 448, .inr (.inl (rs_lo r0)))), (bd 4, .inl (ks 1, 112, .inl (rs_ls r0))), (bd 5, .inl (ks 2, 14, .inl (rs_fd r0))), (bd 6, .inl (ks 0, 31, .inr (.inl ((WK r0))))), (bd 7, .inl (ks 2, 2, .inl ((upd (rs_tk r0) s9 1)))), (bd 8, .inl (ks 0, 8, .inr (.inl ((va_cpy (WK r0) (rs_co r0) 0 (4 * s9) 0))))), (bd 9, .inl (ks 1, 2, .inl (rs_pr r0))), (bd 10, .inl (ks 0, 16, .inr (.inl (rs_ky r0)))), (bd 11, .inl (ks 0, 16, .inr (.inl (rs_nu r0))))] H := by rw [cpy_0]; exact hP
        have hD : va_D A [(bd 0, .inr (3, [.int (0), .ref (bd 1), .ref (bd 2), .ref (bd 3), .ref (bd 4), .ref (bd 5), .int (rs_dn r0), .int (rs_wi r0), .ref (bd 6), .int (rs_st r0), .int (rs_fl r0), .int (rs_fe r0), .int (rs_cr r0), .int (rs_sp r0), .int (rs_sd r0), .int (rs_so r0), .ref (bd 7), .ref (bd 8), .ref (bd 9), .ref (bd 10), .ref (bd 11)])), (bd 1, .inl (ks 0, 112, .inr (.inl (rs_va r0)))), (bd 2, .inl (ks 0, 112, .inr (.inl (rs_ke r0)))), (bd 3, .inl (ks 0, 448, .inr (.inl (rs_lo r0)))), (bd 4, .inl (ks 1, 112, .inl (rs_ls r0))), (bd 5, .inl (ks 2, 14, .inl (rs_fd r0))), (bd 6, .inl (ks 0, 31, .inr (.inl ((WK r0))))), (bd 7, .inl (ks 2, 2, .inl ((upd (rs_tk r0) s9 1)))), (bd 8, .inl (ks 0, 8, .inr (.inl ((va_cpy (WK r0) (rs_co r0) 0 (4 * s9) 0))))), (bd 9, .inl (ks 1, 2, .inl (rs_pr r0))), (bd 10, .inl (ks 0, 16, .inr (.inl (rs_ky r0)))), (bd 11, .inl (ks 0, 16, .inr (.inl (rs_nu r0))))] := by rw [cpy_0]; exact hD
        have hl : lv_has ls 3 [(2, .int (nI 0)), (0, .ref (bd 0)), (1, .int x9)] := lv_sub hl [0, 1, 2] rfl
        have LOOP1 : ∀ (k9 j : Nat), j + k9 = 4 → ∀ (H : Heap) (locs : List Loc) (ls : Array Slot), lv_has ls 3 [(2, .int (nI j)), (0, .ref (bd 0)), (1, .int x9)] → va_P D vwCl [(bd 0, .inr (3, [.int (0), .ref (bd 1), .ref (bd 2), .ref (bd 3), .ref (bd 4), .ref (bd 5), .int (rs_dn r0), .int (rs_wi r0), .ref (bd 6), .int (rs_st r0), .int (rs_fl r0), .int (rs_fe r0), .int (rs_cr r0), .int (rs_sp r0), .int (rs_sd r0), .int (rs_so r0), .ref (bd 7), .ref (bd 8), .ref (bd 9), .ref (bd 10), .ref (bd 11)])), (bd 1, .inl (ks 0, 112, .inr (.inl (rs_va r0)))), (bd 2, .inl (ks 0, 112, .inr (.inl (rs_ke r0)))), (bd 3, .inl (ks 0, 448, .inr (.inl (rs_lo r0)))), (bd 4, .inl (ks 1, 112, .inl (rs_ls r0))), (bd 5, .inl (ks 2, 14, .inl (rs_fd r0))), (bd 6, .inl (ks 0, 31, .inr (.inl ((WK r0))))), (bd 7, .inl (ks 2, 2, .inl ((upd (rs_tk r0) s9 1)))), (bd 8, .inl (ks 0, 8, .inr (.inl ((va_cpy (WK r0) (rs_co r0) 0 (4 * s9) j))))), (bd 9, .inl (ks 1, 2, .inl (rs_pr r0))), (bd 10, .inl (ks 0, 16, .inr (.inl (rs_ky r0)))), (bd 11, .inl (ks 0, 16, .inr (.inl (rs_nu r0))))] H → va_D A [(bd 0, .inr (3, [.int (0), .ref (bd 1), .ref (bd 2), .ref (bd 3), .ref (bd 4), .ref (bd 5), .int (rs_dn r0), .int (rs_wi r0), .ref (bd 6), .int (rs_st r0), .int (rs_fl r0), .int (rs_fe r0), .int (rs_cr r0), .int (rs_sp r0), .int (rs_sd r0), .int (rs_so r0), .ref (bd 7), .ref (bd 8), .ref (bd 9), .ref (bd 10), .ref (bd 11)])), (bd 1, .inl (ks 0, 112, .inr (.inl (rs_va r0)))), (bd 2, .inl (ks 0, 112, .inr (.inl (rs_ke r0)))), (bd 3, .inl (ks 0, 448, .inr (.inl (rs_lo r0)))), (bd 4, .inl (ks 1, 112, .inl (rs_ls r0))), (bd 5, .inl (ks 2, 14, .inl (rs_fd r0))), (bd 6, .inl (ks 0, 31, .inr (.inl ((WK r0))))), (bd 7, .inl (ks 2, 2, .inl ((upd (rs_tk r0) s9 1)))), (bd 8, .inl (ks 0, 8, .inr (.inl ((va_cpy (WK r0) (rs_co r0) 0 (4 * s9) j))))), (bd 9, .inl (ks 1, 2, .inl (rs_pr r0))), (bd 10, .inl (ks 0, 16, .inr (.inl (rs_ky r0)))), (bd 11, .inl (ks 0, 16, .inr (.inl (rs_nu r0))))] → va_S A s.heap H locs → W p l e ({ frames := 2, cells := 0, slots := 0, locals := 41 } : Room) s m ([.ref (bd 0), .int x9] : List Value).toArray below meth c H locs 0 0 (MQ below (va_Qv (S := MS) (fun u => (¬ rs_dn r0 = 0 ∧ u = rs_thr r0 1) ∨ (rs_dn r0 = 0 ∧ ¬ (0 ≤ x9 ∧ x9 ≤ nI 1) ∧ u = rs_thr r0 2) ∨ (rs_dn r0 = 0 ∧ ∃ s9, s9 ≤ 1 ∧ x9 = nI s9 ∧ u = rs_frz r0 s9 p9)) (fun u t => Bw D ks A ((fun u => wR ks bd u) u) t) A) ([.ref (bd 0), .int x9] : List Value).toArray s 0 0 A) (F0 m 50 ls []) := by
          intro k9
          induction k9 with
          | zero =>
            intro j h9 H locs ls hl hP hD hS
            have h9 : j = 4 := h9
            subst h9
            refine lv_iload_n hx hb dR_freeze_50 rfl (lv_at hl 0 rfl) ?_
            refine lv_iconst (v := nI 4) hx hb dR_freeze_51 (by decide) ?_
            refine lv_icmp_ge (tgt := 77) hx hb dR_freeze_52 rfl (fun _ => ?_) (fun h => absurd (by first | exact Int32.le_refl _ | (rw [h9]; exact Int32.le_refl _)) h)
            refine lv_aload_n hx hb dR_freeze_77 rfl (lv_at hl 1 rfl) ?_
            refine va_get (D := D) (ci := 3) (v := .ref (bd 9)) (C := RR) (T := TR) (N := 21) hx hb ht uw_R hown hK hP 0 rfl rfl 18 (by decide) (ht _ tb_557) (fun _ h => h) rfl dR_freeze_78 ?_
            refine lv_iload_n hx hb dR_freeze_81 rfl (lv_at hl 2 rfl) ?_
            refine lv_aload_n hx hb dR_freeze_82 rfl (lv_at hl 1 rfl) ?_
            refine va_get (D := D) (ci := 3) (v := .ref (bd 6)) (C := RR) (T := TR) (N := 21) hx hb ht uw_R hown hK hP 0 rfl rfl 8 (by decide) (ht _ tb_547) (fun _ h => h) rfl dR_freeze_83 ?_
            refine lv_bipush (v := nI 14) hx hb dR_freeze_86 (by decide) ?_
            refine ra_l hx hb hK hP 6 rfl 14 (by decide) (by decide) rfl dR_freeze_88 ?_
            refine tp_l (lN p9) h14 ?_
            refine lv_l2i (v := (nI p9)) hx hb dR_freeze_89 (lN_i _) ?_
            refine wa_i hx hb hK hP hD hS 9 rfl s9 (by omega) (by decide) hx9 dR_freeze_90 (fun H locs hP hD hS => ?_)
            have hP : va_P D vwCl [(bd 0, .inr (3, [.int (0), .ref (bd 1), .ref (bd 2), .ref (bd 3), .ref (bd 4), .ref (bd 5), .int (rs_dn r0), .int (rs_wi r0), .ref (bd 6), .int (rs_st r0), .int (rs_fl r0), .int (rs_fe r0), .int (rs_cr r0), .int (rs_sp r0), .int (rs_sd r0), .int (rs_so r0), .ref (bd 7), .ref (bd 8), .ref (bd 9), .ref (bd 10), .ref (bd 11)])), (bd 1, .inl (ks 0, 112, .inr (.inl (rs_va r0)))), (bd 2, .inl (ks 0, 112, .inr (.inl (rs_ke r0)))), (bd 3, .inl (ks 0, 448, .inr (.inl (rs_lo r0)))), (bd 4, .inl (ks 1, 112, .inl (rs_ls r0))), (bd 5, .inl (ks 2, 14, .inl (rs_fd r0))), (bd 6, .inl (ks 0, 31, .inr (.inl ((WK r0))))), (bd 7, .inl (ks 2, 2, .inl ((upd (rs_tk r0) s9 1)))), (bd 8, .inl (ks 0, 8, .inr (.inl ((va_cpy (WK r0) (rs_co r0) 0 (4 * s9) 4))))), (bd 9, .inl (ks 1, 2, .inl (upd (rs_pr r0) s9 (nI p9)))), (bd 10, .inl (ks 0, 16, .inr (.inl (rs_ky r0)))), (bd 11, .inl (ks 0, 16, .inr (.inl (rs_nu r0))))] H := hP
            have hD : va_D A [(bd 0, .inr (3, [.int (0), .ref (bd 1), .ref (bd 2), .ref (bd 3), .ref (bd 4), .ref (bd 5), .int (rs_dn r0), .int (rs_wi r0), .ref (bd 6), .int (rs_st r0), .int (rs_fl r0), .int (rs_fe r0), .int (rs_cr r0), .int (rs_sp r0), .int (rs_sd r0), .int (rs_so r0), .ref (bd 7), .ref (bd 8), .ref (bd 9), .ref (bd 10), .ref (bd 11)])), (bd 1, .inl (ks 0, 112, .inr (.inl (rs_va r0)))), (bd 2, .inl (ks 0, 112, .inr (.inl (rs_ke r0)))), (bd 3, .inl (ks 0, 448, .inr (.inl (rs_lo r0)))), (bd 4, .inl (ks 1, 112, .inl (rs_ls r0))), (bd 5, .inl (ks 2, 14, .inl (rs_fd r0))), (bd 6, .inl (ks 0, 31, .inr (.inl ((WK r0))))), (bd 7, .inl (ks 2, 2, .inl ((upd (rs_tk r0) s9 1)))), (bd 8, .inl (ks 0, 8, .inr (.inl ((va_cpy (WK r0) (rs_co r0) 0 (4 * s9) 4))))), (bd 9, .inl (ks 1, 2, .inl (upd (rs_pr r0) s9 (nI p9)))), (bd 10, .inl (ks 0, 16, .inr (.inl (rs_ky r0)))), (bd 11, .inl (ks 0, 16, .inr (.inl (rs_nu r0))))] := hD
            refine lv_iconst (v := nI 0) hx hb dR_freeze_91 (by decide) ?_
            refine lv_istore_n (lv' := [(2, .int (nI 0)), (0, .ref (bd 0)), (1, .int x9)]) hx hb dR_freeze_92 rfl hl (by decide) rfl (fun ls hl => ?_)
            have hP : va_P D vwCl [(bd 0, .inr (3, [.int (0), .ref (bd 1), .ref (bd 2), .ref (bd 3), .ref (bd 4), .ref (bd 5), .int (rs_dn r0), .int (rs_wi r0), .ref (bd 6), .int (rs_st r0), .int (rs_fl r0), .int (rs_fe r0), .int (rs_cr r0), .int (rs_sp r0), .int (rs_sd r0), .int (rs_so r0), .ref (bd 7), .ref (bd 8), .ref (bd 9), .ref (bd 10), .ref (bd 11)])), (bd 1, .inl (ks 0, 112, .inr (.inl (rs_va r0)))), (bd 2, .inl (ks 0, 112, .inr (.inl (rs_ke r0)))), (bd 3, .inl (ks 0, 448, .inr (.inl (rs_lo r0)))), (bd 4, .inl (ks 1, 112, .inl (rs_ls r0))), (bd 5, .inl (ks 2, 14, .inl (rs_fd r0))), (bd 6, .inl (ks 0, 31, .inr (.inl ((WK r0))))), (bd 7, .inl (ks 2, 2, .inl ((upd (rs_tk r0) s9 1)))), (bd 8, .inl (ks 0, 8, .inr (.inl ((va_cpy (WK r0) (rs_co r0) 0 (4 * s9) 4))))), (bd 9, .inl (ks 1, 2, .inl ((upd (rs_pr r0) s9 (nI p9))))), (bd 10, .inl (ks 0, 16, .inr (.inl ((va_cpy (WK r0) (rs_ky r0) 15 (8 * s9) 0))))), (bd 11, .inl (ks 0, 16, .inr (.inl ((va_cpy (WK r0) (rs_nu r0) 23 (8 * s9) 0)))))] H := by rw [cpy_0, cpy_0]; exact hP
            have hD : va_D A [(bd 0, .inr (3, [.int (0), .ref (bd 1), .ref (bd 2), .ref (bd 3), .ref (bd 4), .ref (bd 5), .int (rs_dn r0), .int (rs_wi r0), .ref (bd 6), .int (rs_st r0), .int (rs_fl r0), .int (rs_fe r0), .int (rs_cr r0), .int (rs_sp r0), .int (rs_sd r0), .int (rs_so r0), .ref (bd 7), .ref (bd 8), .ref (bd 9), .ref (bd 10), .ref (bd 11)])), (bd 1, .inl (ks 0, 112, .inr (.inl (rs_va r0)))), (bd 2, .inl (ks 0, 112, .inr (.inl (rs_ke r0)))), (bd 3, .inl (ks 0, 448, .inr (.inl (rs_lo r0)))), (bd 4, .inl (ks 1, 112, .inl (rs_ls r0))), (bd 5, .inl (ks 2, 14, .inl (rs_fd r0))), (bd 6, .inl (ks 0, 31, .inr (.inl ((WK r0))))), (bd 7, .inl (ks 2, 2, .inl ((upd (rs_tk r0) s9 1)))), (bd 8, .inl (ks 0, 8, .inr (.inl ((va_cpy (WK r0) (rs_co r0) 0 (4 * s9) 4))))), (bd 9, .inl (ks 1, 2, .inl ((upd (rs_pr r0) s9 (nI p9))))), (bd 10, .inl (ks 0, 16, .inr (.inl ((va_cpy (WK r0) (rs_ky r0) 15 (8 * s9) 0))))), (bd 11, .inl (ks 0, 16, .inr (.inl ((va_cpy (WK r0) (rs_nu r0) 23 (8 * s9) 0)))))] := by rw [cpy_0, cpy_0]; exact hD
            have hl : lv_has ls 3 [(2, .int (nI 0)), (0, .ref (bd 0)), (1, .int x9)] := lv_sub hl [0, 1, 2] rfl
            have LOOP2 : ∀ (k9 i : Nat), i + k9 = p9 → ∀ (H : Heap) (locs : List Loc) (ls : Array Slot), lv_has ls 3 [(2, .int (nI i)), (0, .ref (bd 0)), (1, .int x9)] → va_P D vwCl [(bd 0, .inr (3, [.int (0), .ref (bd 1), .ref (bd 2), .ref (bd 3), .ref (bd 4), .ref (bd 5), .int (rs_dn r0), .int (rs_wi r0), .ref (bd 6), .int (rs_st r0), .int (rs_fl r0), .int (rs_fe r0), .int (rs_cr r0), .int (rs_sp r0), .int (rs_sd r0), .int (rs_so r0), .ref (bd 7), .ref (bd 8), .ref (bd 9), .ref (bd 10), .ref (bd 11)])), (bd 1, .inl (ks 0, 112, .inr (.inl (rs_va r0)))), (bd 2, .inl (ks 0, 112, .inr (.inl (rs_ke r0)))), (bd 3, .inl (ks 0, 448, .inr (.inl (rs_lo r0)))), (bd 4, .inl (ks 1, 112, .inl (rs_ls r0))), (bd 5, .inl (ks 2, 14, .inl (rs_fd r0))), (bd 6, .inl (ks 0, 31, .inr (.inl ((WK r0))))), (bd 7, .inl (ks 2, 2, .inl ((upd (rs_tk r0) s9 1)))), (bd 8, .inl (ks 0, 8, .inr (.inl ((va_cpy (WK r0) (rs_co r0) 0 (4 * s9) 4))))), (bd 9, .inl (ks 1, 2, .inl ((upd (rs_pr r0) s9 (nI p9))))), (bd 10, .inl (ks 0, 16, .inr (.inl ((va_cpy (WK r0) (rs_ky r0) 15 (8 * s9) i))))), (bd 11, .inl (ks 0, 16, .inr (.inl ((va_cpy (WK r0) (rs_nu r0) 23 (8 * s9) i)))))] H → va_D A [(bd 0, .inr (3, [.int (0), .ref (bd 1), .ref (bd 2), .ref (bd 3), .ref (bd 4), .ref (bd 5), .int (rs_dn r0), .int (rs_wi r0), .ref (bd 6), .int (rs_st r0), .int (rs_fl r0), .int (rs_fe r0), .int (rs_cr r0), .int (rs_sp r0), .int (rs_sd r0), .int (rs_so r0), .ref (bd 7), .ref (bd 8), .ref (bd 9), .ref (bd 10), .ref (bd 11)])), (bd 1, .inl (ks 0, 112, .inr (.inl (rs_va r0)))), (bd 2, .inl (ks 0, 112, .inr (.inl (rs_ke r0)))), (bd 3, .inl (ks 0, 448, .inr (.inl (rs_lo r0)))), (bd 4, .inl (ks 1, 112, .inl (rs_ls r0))), (bd 5, .inl (ks 2, 14, .inl (rs_fd r0))), (bd 6, .inl (ks 0, 31, .inr (.inl ((WK r0))))), (bd 7, .inl (ks 2, 2, .inl ((upd (rs_tk r0) s9 1)))), (bd 8, .inl (ks 0, 8, .inr (.inl ((va_cpy (WK r0) (rs_co r0) 0 (4 * s9) 4))))), (bd 9, .inl (ks 1, 2, .inl ((upd (rs_pr r0) s9 (nI p9))))), (bd 10, .inl (ks 0, 16, .inr (.inl ((va_cpy (WK r0) (rs_ky r0) 15 (8 * s9) i))))), (bd 11, .inl (ks 0, 16, .inr (.inl ((va_cpy (WK r0) (rs_nu r0) 23 (8 * s9) i)))))] → va_S A s.heap H locs → W p l e ({ frames := 2, cells := 0, slots := 0, locals := 41 } : Room) s m ([.ref (bd 0), .int x9] : List Value).toArray below meth c H locs 0 0 (MQ below (va_Qv (S := MS) (fun u => (¬ rs_dn r0 = 0 ∧ u = rs_thr r0 1) ∨ (rs_dn r0 = 0 ∧ ¬ (0 ≤ x9 ∧ x9 ≤ nI 1) ∧ u = rs_thr r0 2) ∨ (rs_dn r0 = 0 ∧ ∃ s9, s9 ≤ 1 ∧ x9 = nI s9 ∧ u = rs_frz r0 s9 p9)) (fun u t => Bw D ks A ((fun u => wR ks bd u) u) t) A) ([.ref (bd 0), .int x9] : List Value).toArray s 0 0 A) (F0 m 93 ls []) := by
              intro k9
              induction k9 with
              | zero =>
                intro i h9 H locs ls hl hP hD hS
                have h9 : i = p9 := h9
                refine lv_iload_n hx hb dR_freeze_93 rfl (lv_at hl 0 rfl) ?_
                refine lv_aload_n hx hb dR_freeze_94 rfl (lv_at hl 1 rfl) ?_
                refine va_get (D := D) (ci := 3) (v := .ref (bd 9)) (C := RR) (T := TR) (N := 21) hx hb ht uw_R hown hK hP 0 rfl rfl 18 (by decide) (ht _ tb_557) (fun _ h => h) rfl dR_freeze_95 ?_
                refine lv_iload_n hx hb dR_freeze_98 rfl (lv_at hl 2 rfl) ?_
                refine ra_i hx hb hK hP 9 rfl s9 (by omega) (by decide) hx9 dR_freeze_99 ?_
                refine tp_i (nI p9) updS ?_
                refine lv_icmp_ge (tgt := 149) hx hb dR_freeze_100 rfl (fun _ => ?_) (fun h => absurd (by first | exact Int32.le_refl _ | (rw [h9]; exact Int32.le_refl _)) h)
                exact endV hx hb hr hlk hK ((0), (rs_va r0), (rs_ke r0), (rs_lo r0), (rs_ls r0), (rs_fd r0), (rs_dn r0), (rs_wi r0), ((WK r0)), (rs_st r0), (rs_fl r0), (rs_fe r0), (rs_cr r0), (rs_sp r0), (rs_sd r0), (rs_so r0), ((upd (rs_tk r0) s9 1)), ((va_cpy (WK r0) (rs_co r0) 0 (4 * s9) 4)), ((upd (rs_pr r0) s9 (nI p9))), ((va_cpy (WK r0) (rs_ky r0) 15 (8 * s9) i)), ((va_cpy (WK r0) (rs_nu r0) 23 (8 * s9) i))) (Or.inr (Or.inr ⟨h1, s9, hs9, hx9, by rw [h9]; rfl⟩)) hP hD hS dR_freeze_149
              | succ k9 ih =>
                intro i h9 H locs ls hl hP hD hS
                have hlt : i < p9 := by omega
                refine lv_iload_n hx hb dR_freeze_93 rfl (lv_at hl 0 rfl) ?_
                refine lv_aload_n hx hb dR_freeze_94 rfl (lv_at hl 1 rfl) ?_
                refine va_get (D := D) (ci := 3) (v := .ref (bd 9)) (C := RR) (T := TR) (N := 21) hx hb ht uw_R hown hK hP 0 rfl rfl 18 (by decide) (ht _ tb_557) (fun _ h => h) rfl dR_freeze_95 ?_
                refine lv_iload_n hx hb dR_freeze_98 rfl (lv_at hl 2 rfl) ?_
                refine ra_i hx hb hK hP 9 rfl s9 (by omega) (by decide) hx9 dR_freeze_99 ?_
                refine tp_i (nI p9) updS ?_
                refine lv_icmp_ge (tgt := 149) hx hb dR_freeze_100 rfl (fun h => absurd h (nI_ge (by omega) (by omega))) (fun _ => ?_)
                refine lv_aload_n hx hb dR_freeze_103 rfl (lv_at hl 1 rfl) ?_
                refine va_get (D := D) (ci := 3) (v := .ref (bd 10)) (C := RR) (T := TR) (N := 21) hx hb ht uw_R hown hK hP 0 rfl rfl 19 (by decide) (ht _ tb_558) (fun _ h => h) rfl dR_freeze_104 ?_
                refine lv_bipush (v := nI 8) hx hb dR_freeze_107 (by decide) ?_
                refine lv_iload_n hx hb dR_freeze_109 rfl (lv_at hl 2 rfl) ?_
                refine lv_imul hx hb dR_freeze_110 ?_
                refine tp_i (nI (8 * s9)) (by rw [hx9, pk_mul]) ?_
                refine lv_iload_n hx hb dR_freeze_111 rfl (lv_at hl 0 rfl) ?_
                refine lv_iadd hx hb dR_freeze_112 ?_
                refine tp_i (nI (8 * s9 + i)) (nI_add _ _) ?_
                refine lv_aload_n hx hb dR_freeze_113 rfl (lv_at hl 1 rfl) ?_
                refine va_get (D := D) (ci := 3) (v := .ref (bd 6)) (C := RR) (T := TR) (N := 21) hx hb ht uw_R hown hK hP 0 rfl rfl 8 (by decide) (ht _ tb_547) (fun _ h => h) rfl dR_freeze_114 ?_
                refine lv_bipush (v := nI 15) hx hb dR_freeze_117 (by decide) ?_
                refine lv_iload_n hx hb dR_freeze_119 rfl (lv_at hl 0 rfl) ?_
                refine lv_iadd hx hb dR_freeze_120 ?_
                refine tp_i (nI (15 + i)) (nI_add _ _) ?_
                refine ra_l hx hb hK hP 6 rfl (15 + i) (by omega) (by decide) rfl dR_freeze_121 ?_
                refine wa_l hx hb hK hP hD hS 10 rfl (8 * s9 + i) (by omega) (by decide) rfl dR_freeze_122 (fun H locs hP hD hS => ?_)
                have hP : va_P D vwCl [(bd 0, .inr (3, [.int (0), .ref (bd 1), .ref (bd 2), .ref (bd 3), .ref (bd 4), .ref (bd 5), .int (rs_dn r0), .int (rs_wi r0), .ref (bd 6), .int (rs_st r0), .int (rs_fl r0), .int (rs_fe r0), .int (rs_cr r0), .int (rs_sp r0), .int (rs_sd r0), .int (rs_so r0), .ref (bd 7), .ref (bd 8), .ref (bd 9), .ref (bd 10), .ref (bd 11)])), (bd 1, .inl (ks 0, 112, .inr (.inl (rs_va r0)))), (bd 2, .inl (ks 0, 112, .inr (.inl (rs_ke r0)))), (bd 3, .inl (ks 0, 448, .inr (.inl (rs_lo r0)))), (bd 4, .inl (ks 1, 112, .inl (rs_ls r0))), (bd 5, .inl (ks 2, 14, .inl (rs_fd r0))), (bd 6, .inl (ks 0, 31, .inr (.inl ((WK r0))))), (bd 7, .inl (ks 2, 2, .inl ((upd (rs_tk r0) s9 1)))), (bd 8, .inl (ks 0, 8, .inr (.inl ((va_cpy (WK r0) (rs_co r0) 0 (4 * s9) 4))))), (bd 9, .inl (ks 1, 2, .inl ((upd (rs_pr r0) s9 (nI p9))))), (bd 10, .inl (ks 0, 16, .inr (.inl (vp_updL ((va_cpy (WK r0) (rs_ky r0) 15 (8 * s9) i)) (8 * s9 + i) (((WK r0)) (15 + i)))))), (bd 11, .inl (ks 0, 16, .inr (.inl ((va_cpy (WK r0) (rs_nu r0) 23 (8 * s9) i)))))] H := hP
                have hD : va_D A [(bd 0, .inr (3, [.int (0), .ref (bd 1), .ref (bd 2), .ref (bd 3), .ref (bd 4), .ref (bd 5), .int (rs_dn r0), .int (rs_wi r0), .ref (bd 6), .int (rs_st r0), .int (rs_fl r0), .int (rs_fe r0), .int (rs_cr r0), .int (rs_sp r0), .int (rs_sd r0), .int (rs_so r0), .ref (bd 7), .ref (bd 8), .ref (bd 9), .ref (bd 10), .ref (bd 11)])), (bd 1, .inl (ks 0, 112, .inr (.inl (rs_va r0)))), (bd 2, .inl (ks 0, 112, .inr (.inl (rs_ke r0)))), (bd 3, .inl (ks 0, 448, .inr (.inl (rs_lo r0)))), (bd 4, .inl (ks 1, 112, .inl (rs_ls r0))), (bd 5, .inl (ks 2, 14, .inl (rs_fd r0))), (bd 6, .inl (ks 0, 31, .inr (.inl ((WK r0))))), (bd 7, .inl (ks 2, 2, .inl ((upd (rs_tk r0) s9 1)))), (bd 8, .inl (ks 0, 8, .inr (.inl ((va_cpy (WK r0) (rs_co r0) 0 (4 * s9) 4))))), (bd 9, .inl (ks 1, 2, .inl ((upd (rs_pr r0) s9 (nI p9))))), (bd 10, .inl (ks 0, 16, .inr (.inl (vp_updL ((va_cpy (WK r0) (rs_ky r0) 15 (8 * s9) i)) (8 * s9 + i) (((WK r0)) (15 + i)))))), (bd 11, .inl (ks 0, 16, .inr (.inl ((va_cpy (WK r0) (rs_nu r0) 23 (8 * s9) i)))))] := hD
                refine lv_aload_n hx hb dR_freeze_123 rfl (lv_at hl 1 rfl) ?_
                refine va_get (D := D) (ci := 3) (v := .ref (bd 11)) (C := RR) (T := TR) (N := 21) hx hb ht uw_R hown hK hP 0 rfl rfl 20 (by decide) (ht _ tb_559) (fun _ h => h) rfl dR_freeze_124 ?_
                refine lv_bipush (v := nI 8) hx hb dR_freeze_127 (by decide) ?_
                refine lv_iload_n hx hb dR_freeze_129 rfl (lv_at hl 2 rfl) ?_
                refine lv_imul hx hb dR_freeze_130 ?_
                refine tp_i (nI (8 * s9)) (by rw [hx9, pk_mul]) ?_
                refine lv_iload_n hx hb dR_freeze_131 rfl (lv_at hl 0 rfl) ?_
                refine lv_iadd hx hb dR_freeze_132 ?_
                refine tp_i (nI (8 * s9 + i)) (nI_add _ _) ?_
                refine lv_aload_n hx hb dR_freeze_133 rfl (lv_at hl 1 rfl) ?_
                refine va_get (D := D) (ci := 3) (v := .ref (bd 6)) (C := RR) (T := TR) (N := 21) hx hb ht uw_R hown hK hP 0 rfl rfl 8 (by decide) (ht _ tb_547) (fun _ h => h) rfl dR_freeze_134 ?_
                refine lv_bipush (v := nI 23) hx hb dR_freeze_137 (by decide) ?_
                refine lv_iload_n hx hb dR_freeze_139 rfl (lv_at hl 0 rfl) ?_
                refine lv_iadd hx hb dR_freeze_140 ?_
                refine tp_i (nI (23 + i)) (nI_add _ _) ?_
                refine ra_l hx hb hK hP 6 rfl (23 + i) (by omega) (by decide) rfl dR_freeze_141 ?_
                refine wa_l hx hb hK hP hD hS 11 rfl (8 * s9 + i) (by omega) (by decide) rfl dR_freeze_142 (fun H locs hP hD hS => ?_)
                have hP : va_P D vwCl [(bd 0, .inr (3, [.int (0), .ref (bd 1), .ref (bd 2), .ref (bd 3), .ref (bd 4), .ref (bd 5), .int (rs_dn r0), .int (rs_wi r0), .ref (bd 6), .int (rs_st r0), .int (rs_fl r0), .int (rs_fe r0), .int (rs_cr r0), .int (rs_sp r0), .int (rs_sd r0), .int (rs_so r0), .ref (bd 7), .ref (bd 8), .ref (bd 9), .ref (bd 10), .ref (bd 11)])), (bd 1, .inl (ks 0, 112, .inr (.inl (rs_va r0)))), (bd 2, .inl (ks 0, 112, .inr (.inl (rs_ke r0)))), (bd 3, .inl (ks 0, 448, .inr (.inl (rs_lo r0)))), (bd 4, .inl (ks 1, 112, .inl (rs_ls r0))), (bd 5, .inl (ks 2, 14, .inl (rs_fd r0))), (bd 6, .inl (ks 0, 31, .inr (.inl ((WK r0))))), (bd 7, .inl (ks 2, 2, .inl ((upd (rs_tk r0) s9 1)))), (bd 8, .inl (ks 0, 8, .inr (.inl ((va_cpy (WK r0) (rs_co r0) 0 (4 * s9) 4))))), (bd 9, .inl (ks 1, 2, .inl ((upd (rs_pr r0) s9 (nI p9))))), (bd 10, .inl (ks 0, 16, .inr (.inl (vp_updL ((va_cpy (WK r0) (rs_ky r0) 15 (8 * s9) i)) (8 * s9 + i) (((WK r0)) (15 + i)))))), (bd 11, .inl (ks 0, 16, .inr (.inl (vp_updL ((va_cpy (WK r0) (rs_nu r0) 23 (8 * s9) i)) (8 * s9 + i) (((WK r0)) (23 + i))))))] H := hP
                have hD : va_D A [(bd 0, .inr (3, [.int (0), .ref (bd 1), .ref (bd 2), .ref (bd 3), .ref (bd 4), .ref (bd 5), .int (rs_dn r0), .int (rs_wi r0), .ref (bd 6), .int (rs_st r0), .int (rs_fl r0), .int (rs_fe r0), .int (rs_cr r0), .int (rs_sp r0), .int (rs_sd r0), .int (rs_so r0), .ref (bd 7), .ref (bd 8), .ref (bd 9), .ref (bd 10), .ref (bd 11)])), (bd 1, .inl (ks 0, 112, .inr (.inl (rs_va r0)))), (bd 2, .inl (ks 0, 112, .inr (.inl (rs_ke r0)))), (bd 3, .inl (ks 0, 448, .inr (.inl (rs_lo r0)))), (bd 4, .inl (ks 1, 112, .inl (rs_ls r0))), (bd 5, .inl (ks 2, 14, .inl (rs_fd r0))), (bd 6, .inl (ks 0, 31, .inr (.inl ((WK r0))))), (bd 7, .inl (ks 2, 2, .inl ((upd (rs_tk r0) s9 1)))), (bd 8, .inl (ks 0, 8, .inr (.inl ((va_cpy (WK r0) (rs_co r0) 0 (4 * s9) 4))))), (bd 9, .inl (ks 1, 2, .inl ((upd (rs_pr r0) s9 (nI p9))))), (bd 10, .inl (ks 0, 16, .inr (.inl (vp_updL ((va_cpy (WK r0) (rs_ky r0) 15 (8 * s9) i)) (8 * s9 + i) (((WK r0)) (15 + i)))))), (bd 11, .inl (ks 0, 16, .inr (.inl (vp_updL ((va_cpy (WK r0) (rs_nu r0) 23 (8 * s9) i)) (8 * s9 + i) (((WK r0)) (23 + i))))))] := hD
                refine lv_iinc (k := 0) (x := (nI i)) (v := (nI (i + 1))) (lv' := [(2, .int (nI (i + 1))), (0, .ref (bd 0)), (1, .int x9)]) hx hb dR_freeze_143 hl rfl (nI_1 _) (by decide) rfl (fun ls hl => ?_)
                refine lv_goto (tgt := 93) hx hb dR_freeze_146 rfl ?_
                have hl : lv_has ls 3 [(2, .int (nI (i + 1))), (0, .ref (bd 0)), (1, .int x9)] := lv_sub hl [0, 1, 2] rfl
                have eW : ([(bd 0, .inr (3, [.int (0), .ref (bd 1), .ref (bd 2), .ref (bd 3), .ref (bd 4), .ref (bd 5), .int (rs_dn r0), .int (rs_wi r0), .ref (bd 6), .int (rs_st r0), .int (rs_fl r0), .int (rs_fe r0), .int (rs_cr r0), .int (rs_sp r0), .int (rs_sd r0), .int (rs_so r0), .ref (bd 7), .ref (bd 8), .ref (bd 9), .ref (bd 10), .ref (bd 11)])), (bd 1, .inl (ks 0, 112, .inr (.inl (rs_va r0)))), (bd 2, .inl (ks 0, 112, .inr (.inl (rs_ke r0)))), (bd 3, .inl (ks 0, 448, .inr (.inl (rs_lo r0)))), (bd 4, .inl (ks 1, 112, .inl (rs_ls r0))), (bd 5, .inl (ks 2, 14, .inl (rs_fd r0))), (bd 6, .inl (ks 0, 31, .inr (.inl ((WK r0))))), (bd 7, .inl (ks 2, 2, .inl ((upd (rs_tk r0) s9 1)))), (bd 8, .inl (ks 0, 8, .inr (.inl ((va_cpy (WK r0) (rs_co r0) 0 (4 * s9) 4))))), (bd 9, .inl (ks 1, 2, .inl ((upd (rs_pr r0) s9 (nI p9))))), (bd 10, .inl (ks 0, 16, .inr (.inl (vp_updL ((va_cpy (WK r0) (rs_ky r0) 15 (8 * s9) i)) (8 * s9 + i) (((WK r0)) (15 + i)))))), (bd 11, .inl (ks 0, 16, .inr (.inl (vp_updL ((va_cpy (WK r0) (rs_nu r0) 23 (8 * s9) i)) (8 * s9 + i) (((WK r0)) (23 + i))))))] : va_W) = [(bd 0, .inr (3, [.int (0), .ref (bd 1), .ref (bd 2), .ref (bd 3), .ref (bd 4), .ref (bd 5), .int (rs_dn r0), .int (rs_wi r0), .ref (bd 6), .int (rs_st r0), .int (rs_fl r0), .int (rs_fe r0), .int (rs_cr r0), .int (rs_sp r0), .int (rs_sd r0), .int (rs_so r0), .ref (bd 7), .ref (bd 8), .ref (bd 9), .ref (bd 10), .ref (bd 11)])), (bd 1, .inl (ks 0, 112, .inr (.inl (rs_va r0)))), (bd 2, .inl (ks 0, 112, .inr (.inl (rs_ke r0)))), (bd 3, .inl (ks 0, 448, .inr (.inl (rs_lo r0)))), (bd 4, .inl (ks 1, 112, .inl (rs_ls r0))), (bd 5, .inl (ks 2, 14, .inl (rs_fd r0))), (bd 6, .inl (ks 0, 31, .inr (.inl ((WK r0))))), (bd 7, .inl (ks 2, 2, .inl ((upd (rs_tk r0) s9 1)))), (bd 8, .inl (ks 0, 8, .inr (.inl ((va_cpy (WK r0) (rs_co r0) 0 (4 * s9) 4))))), (bd 9, .inl (ks 1, 2, .inl ((upd (rs_pr r0) s9 (nI p9))))), (bd 10, .inl (ks 0, 16, .inr (.inl ((va_cpy (WK r0) (rs_ky r0) 15 (8 * s9) (i + 1)))))), (bd 11, .inl (ks 0, 16, .inr (.inl ((va_cpy (WK r0) (rs_nu r0) 23 (8 * s9) (i + 1))))))] := by
                  rw [cpy_s (f := WK r0) (g := rs_ky r0) (sp := 15) rfl, cpy_s (f := WK r0) (g := rs_nu r0) (sp := 23) rfl]
                rw [eW] at hP hD
                exact ih (i + 1) (by omega) H locs ls hl hP hD hS
            exact LOOP2 (p9 - 0) 0 (by omega) H _ _ hl hP hD hS
          | succ k9 ih =>
            intro j h9 H locs ls hl hP hD hS
            have hlt : j < 4 := by omega
            refine lv_iload_n hx hb dR_freeze_50 rfl (lv_at hl 0 rfl) ?_
            refine lv_iconst (v := nI 4) hx hb dR_freeze_51 (by decide) ?_
            refine lv_icmp_ge (tgt := 77) hx hb dR_freeze_52 rfl (fun h => absurd h (nI_ge (by omega) (by omega))) (fun _ => ?_)
            refine lv_aload_n hx hb dR_freeze_55 rfl (lv_at hl 1 rfl) ?_
            refine va_get (D := D) (ci := 3) (v := .ref (bd 8)) (C := RR) (T := TR) (N := 21) hx hb ht uw_R hown hK hP 0 rfl rfl 17 (by decide) (ht _ tb_556) (fun _ h => h) rfl dR_freeze_56 ?_
            refine lv_iconst (v := nI 4) hx hb dR_freeze_59 (by decide) ?_
            refine lv_iload_n hx hb dR_freeze_60 rfl (lv_at hl 2 rfl) ?_
            refine lv_imul hx hb dR_freeze_61 ?_
            refine tp_i (nI (4 * s9)) (by rw [hx9, pk_mul]) ?_
            refine lv_iload_n hx hb dR_freeze_62 rfl (lv_at hl 0 rfl) ?_
            refine lv_iadd hx hb dR_freeze_63 ?_
            refine tp_i (nI (4 * s9 + j)) (nI_add _ _) ?_
            refine lv_aload_n hx hb dR_freeze_64 rfl (lv_at hl 1 rfl) ?_
            refine va_get (D := D) (ci := 3) (v := .ref (bd 6)) (C := RR) (T := TR) (N := 21) hx hb ht uw_R hown hK hP 0 rfl rfl 8 (by decide) (ht _ tb_547) (fun _ h => h) rfl dR_freeze_65 ?_
            refine lv_iload_n hx hb dR_freeze_68 rfl (lv_at hl 0 rfl) ?_
            refine ra_l hx hb hK hP 6 rfl j (by omega) (by decide) rfl dR_freeze_69 ?_
            refine wa_l hx hb hK hP hD hS 8 rfl (4 * s9 + j) (by omega) (by decide) rfl dR_freeze_70 (fun H locs hP hD hS => ?_)
            have hP : va_P D vwCl [(bd 0, .inr (3, [.int (0), .ref (bd 1), .ref (bd 2), .ref (bd 3), .ref (bd 4), .ref (bd 5), .int (rs_dn r0), .int (rs_wi r0), .ref (bd 6), .int (rs_st r0), .int (rs_fl r0), .int (rs_fe r0), .int (rs_cr r0), .int (rs_sp r0), .int (rs_sd r0), .int (rs_so r0), .ref (bd 7), .ref (bd 8), .ref (bd 9), .ref (bd 10), .ref (bd 11)])), (bd 1, .inl (ks 0, 112, .inr (.inl (rs_va r0)))), (bd 2, .inl (ks 0, 112, .inr (.inl (rs_ke r0)))), (bd 3, .inl (ks 0, 448, .inr (.inl (rs_lo r0)))), (bd 4, .inl (ks 1, 112, .inl (rs_ls r0))), (bd 5, .inl (ks 2, 14, .inl (rs_fd r0))), (bd 6, .inl (ks 0, 31, .inr (.inl ((WK r0))))), (bd 7, .inl (ks 2, 2, .inl ((upd (rs_tk r0) s9 1)))), (bd 8, .inl (ks 0, 8, .inr (.inl (vp_updL ((va_cpy (WK r0) (rs_co r0) 0 (4 * s9) j)) (4 * s9 + j) (((WK r0)) j))))), (bd 9, .inl (ks 1, 2, .inl (rs_pr r0))), (bd 10, .inl (ks 0, 16, .inr (.inl (rs_ky r0)))), (bd 11, .inl (ks 0, 16, .inr (.inl (rs_nu r0))))] H := hP
            have hD : va_D A [(bd 0, .inr (3, [.int (0), .ref (bd 1), .ref (bd 2), .ref (bd 3), .ref (bd 4), .ref (bd 5), .int (rs_dn r0), .int (rs_wi r0), .ref (bd 6), .int (rs_st r0), .int (rs_fl r0), .int (rs_fe r0), .int (rs_cr r0), .int (rs_sp r0), .int (rs_sd r0), .int (rs_so r0), .ref (bd 7), .ref (bd 8), .ref (bd 9), .ref (bd 10), .ref (bd 11)])), (bd 1, .inl (ks 0, 112, .inr (.inl (rs_va r0)))), (bd 2, .inl (ks 0, 112, .inr (.inl (rs_ke r0)))), (bd 3, .inl (ks 0, 448, .inr (.inl (rs_lo r0)))), (bd 4, .inl (ks 1, 112, .inl (rs_ls r0))), (bd 5, .inl (ks 2, 14, .inl (rs_fd r0))), (bd 6, .inl (ks 0, 31, .inr (.inl ((WK r0))))), (bd 7, .inl (ks 2, 2, .inl ((upd (rs_tk r0) s9 1)))), (bd 8, .inl (ks 0, 8, .inr (.inl (vp_updL ((va_cpy (WK r0) (rs_co r0) 0 (4 * s9) j)) (4 * s9 + j) (((WK r0)) j))))), (bd 9, .inl (ks 1, 2, .inl (rs_pr r0))), (bd 10, .inl (ks 0, 16, .inr (.inl (rs_ky r0)))), (bd 11, .inl (ks 0, 16, .inr (.inl (rs_nu r0))))] := hD
            refine lv_iinc (k := 0) (x := (nI j)) (v := (nI (j + 1))) (lv' := [(2, .int (nI (j + 1))), (0, .ref (bd 0)), (1, .int x9)]) hx hb dR_freeze_71 hl rfl (nI_1 _) (by decide) rfl (fun ls hl => ?_)
            refine lv_goto (tgt := 50) hx hb dR_freeze_74 rfl ?_
            have hl : lv_has ls 3 [(2, .int (nI (j + 1))), (0, .ref (bd 0)), (1, .int x9)] := lv_sub hl [0, 1, 2] rfl
            have eW : ([(bd 0, .inr (3, [.int (0), .ref (bd 1), .ref (bd 2), .ref (bd 3), .ref (bd 4), .ref (bd 5), .int (rs_dn r0), .int (rs_wi r0), .ref (bd 6), .int (rs_st r0), .int (rs_fl r0), .int (rs_fe r0), .int (rs_cr r0), .int (rs_sp r0), .int (rs_sd r0), .int (rs_so r0), .ref (bd 7), .ref (bd 8), .ref (bd 9), .ref (bd 10), .ref (bd 11)])), (bd 1, .inl (ks 0, 112, .inr (.inl (rs_va r0)))), (bd 2, .inl (ks 0, 112, .inr (.inl (rs_ke r0)))), (bd 3, .inl (ks 0, 448, .inr (.inl (rs_lo r0)))), (bd 4, .inl (ks 1, 112, .inl (rs_ls r0))), (bd 5, .inl (ks 2, 14, .inl (rs_fd r0))), (bd 6, .inl (ks 0, 31, .inr (.inl ((WK r0))))), (bd 7, .inl (ks 2, 2, .inl ((upd (rs_tk r0) s9 1)))), (bd 8, .inl (ks 0, 8, .inr (.inl (vp_updL ((va_cpy (WK r0) (rs_co r0) 0 (4 * s9) j)) (4 * s9 + j) (((WK r0)) j))))), (bd 9, .inl (ks 1, 2, .inl (rs_pr r0))), (bd 10, .inl (ks 0, 16, .inr (.inl (rs_ky r0)))), (bd 11, .inl (ks 0, 16, .inr (.inl (rs_nu r0))))] : va_W) = [(bd 0, .inr (3, [.int (0), .ref (bd 1), .ref (bd 2), .ref (bd 3), .ref (bd 4), .ref (bd 5), .int (rs_dn r0), .int (rs_wi r0), .ref (bd 6), .int (rs_st r0), .int (rs_fl r0), .int (rs_fe r0), .int (rs_cr r0), .int (rs_sp r0), .int (rs_sd r0), .int (rs_so r0), .ref (bd 7), .ref (bd 8), .ref (bd 9), .ref (bd 10), .ref (bd 11)])), (bd 1, .inl (ks 0, 112, .inr (.inl (rs_va r0)))), (bd 2, .inl (ks 0, 112, .inr (.inl (rs_ke r0)))), (bd 3, .inl (ks 0, 448, .inr (.inl (rs_lo r0)))), (bd 4, .inl (ks 1, 112, .inl (rs_ls r0))), (bd 5, .inl (ks 2, 14, .inl (rs_fd r0))), (bd 6, .inl (ks 0, 31, .inr (.inl ((WK r0))))), (bd 7, .inl (ks 2, 2, .inl ((upd (rs_tk r0) s9 1)))), (bd 8, .inl (ks 0, 8, .inr (.inl ((va_cpy (WK r0) (rs_co r0) 0 (4 * s9) (j + 1)))))), (bd 9, .inl (ks 1, 2, .inl (rs_pr r0))), (bd 10, .inl (ks 0, 16, .inr (.inl (rs_ky r0)))), (bd 11, .inl (ks 0, 16, .inr (.inl (rs_nu r0))))] := by
              rw [cpy_s (f := WK r0) (g := rs_co r0) (sp := 0) (by rw [Nat.zero_add])]
            rw [eW] at hP hD
            exact ih (j + 1) (by omega) H locs ls hl hP hD hS
        exact LOOP1 (4 - 0) 0 (by omega) H _ _ hl hP hD hS
      · skip
        refine lv_iconst (v := 2) hx hb dR_freeze_21 (by decide) ?_
        refine lv_goto (tgt := 26) hx hb dR_freeze_22 rfl ?_
        refine va_put (D := D) (ci := 3) (v := .int 2) (ty := .int) (C := RR) (T := TR) (N := 21) hx hb ht uw_R ty_R ty_R_ok nm_R hown hK hP hD hS 0 rfl rfl 0 (by decide) (ht _ tb_539) (fun _ h => h) rfl (by decide +kernel) rfl rfl (Nat.le_of_ble_eq_true rfl) dR_freeze_26 (fun H locs hP hD hS => ?_)
        have hP : va_P D vwCl [(bd 0, .inr (3, [.int 2, .ref (bd 1), .ref (bd 2), .ref (bd 3), .ref (bd 4), .ref (bd 5), .int (rs_dn r0), .int (rs_wi r0), .ref (bd 6), .int (rs_st r0), .int (rs_fl r0), .int (rs_fe r0), .int (rs_cr r0), .int (rs_sp r0), .int (rs_sd r0), .int (rs_so r0), .ref (bd 7), .ref (bd 8), .ref (bd 9), .ref (bd 10), .ref (bd 11)])), (bd 1, .inl (ks 0, 112, .inr (.inl (rs_va r0)))), (bd 2, .inl (ks 0, 112, .inr (.inl (rs_ke r0)))), (bd 3, .inl (ks 0, 448, .inr (.inl (rs_lo r0)))), (bd 4, .inl (ks 1, 112, .inl (rs_ls r0))), (bd 5, .inl (ks 2, 14, .inl (rs_fd r0))), (bd 6, .inl (ks 0, 31, .inr (.inl (rs_wk r0)))), (bd 7, .inl (ks 2, 2, .inl (rs_tk r0))), (bd 8, .inl (ks 0, 8, .inr (.inl (rs_co r0)))), (bd 9, .inl (ks 1, 2, .inl (rs_pr r0))), (bd 10, .inl (ks 0, 16, .inr (.inl (rs_ky r0)))), (bd 11, .inl (ks 0, 16, .inr (.inl (rs_nu r0))))] H := hP
        have hD : va_D A [(bd 0, .inr (3, [.int 2, .ref (bd 1), .ref (bd 2), .ref (bd 3), .ref (bd 4), .ref (bd 5), .int (rs_dn r0), .int (rs_wi r0), .ref (bd 6), .int (rs_st r0), .int (rs_fl r0), .int (rs_fe r0), .int (rs_cr r0), .int (rs_sp r0), .int (rs_sd r0), .int (rs_so r0), .ref (bd 7), .ref (bd 8), .ref (bd 9), .ref (bd 10), .ref (bd 11)])), (bd 1, .inl (ks 0, 112, .inr (.inl (rs_va r0)))), (bd 2, .inl (ks 0, 112, .inr (.inl (rs_ke r0)))), (bd 3, .inl (ks 0, 448, .inr (.inl (rs_lo r0)))), (bd 4, .inl (ks 1, 112, .inl (rs_ls r0))), (bd 5, .inl (ks 2, 14, .inl (rs_fd r0))), (bd 6, .inl (ks 0, 31, .inr (.inl (rs_wk r0)))), (bd 7, .inl (ks 2, 2, .inl (rs_tk r0))), (bd 8, .inl (ks 0, 8, .inr (.inl (rs_co r0)))), (bd 9, .inl (ks 1, 2, .inl (rs_pr r0))), (bd 10, .inl (ks 0, 16, .inr (.inl (rs_ky r0)))), (bd 11, .inl (ks 0, 16, .inr (.inl (rs_nu r0))))] := hD
        refine lv_aload_n hx hb dR_freeze_29 rfl (lv_at hl 0 rfl) ?_
        refine va_get (D := D) (ci := 3) (v := .int 2) (C := RR) (T := TR) (N := 21) hx hb ht uw_R hown hK hP 0 rfl rfl 0 (by decide) (ht _ tb_539) (fun _ h => h) rfl dR_freeze_30 ?_
        refine lv_if_le (tgt := 37) hx hb dR_freeze_33 rfl (fun h => absurd h (by decide)) (fun _ => ?_)
        exact endV hx hb hr hlk hK (2, (rs_va r0), (rs_ke r0), (rs_lo r0), (rs_ls r0), (rs_fd r0), (rs_dn r0), (rs_wi r0), (rs_wk r0), (rs_st r0), (rs_fl r0), (rs_fe r0), (rs_cr r0), (rs_sp r0), (rs_sd r0), (rs_so r0), (rs_tk r0), (rs_co r0), (rs_pr r0), (rs_ky r0), (rs_nu r0)) (Or.inr (Or.inl ⟨h1, fun z => hB z.2, rfl⟩)) hP hD hS dR_freeze_36
  · skip
    refine lv_iconst (v := 1) hx hb dR_freeze_8 (by decide) ?_
    refine lv_goto (tgt := 26) hx hb dR_freeze_9 rfl ?_
    refine va_put (D := D) (ci := 3) (v := .int 1) (ty := .int) (C := RR) (T := TR) (N := 21) hx hb ht uw_R ty_R ty_R_ok nm_R hown hK hP hD hS 0 rfl rfl 0 (by decide) (ht _ tb_539) (fun _ h => h) rfl (by decide +kernel) rfl rfl (Nat.le_of_ble_eq_true rfl) dR_freeze_26 (fun H locs hP hD hS => ?_)
    have hP : va_P D vwCl [(bd 0, .inr (3, [.int 1, .ref (bd 1), .ref (bd 2), .ref (bd 3), .ref (bd 4), .ref (bd 5), .int (rs_dn r0), .int (rs_wi r0), .ref (bd 6), .int (rs_st r0), .int (rs_fl r0), .int (rs_fe r0), .int (rs_cr r0), .int (rs_sp r0), .int (rs_sd r0), .int (rs_so r0), .ref (bd 7), .ref (bd 8), .ref (bd 9), .ref (bd 10), .ref (bd 11)])), (bd 1, .inl (ks 0, 112, .inr (.inl (rs_va r0)))), (bd 2, .inl (ks 0, 112, .inr (.inl (rs_ke r0)))), (bd 3, .inl (ks 0, 448, .inr (.inl (rs_lo r0)))), (bd 4, .inl (ks 1, 112, .inl (rs_ls r0))), (bd 5, .inl (ks 2, 14, .inl (rs_fd r0))), (bd 6, .inl (ks 0, 31, .inr (.inl (rs_wk r0)))), (bd 7, .inl (ks 2, 2, .inl (rs_tk r0))), (bd 8, .inl (ks 0, 8, .inr (.inl (rs_co r0)))), (bd 9, .inl (ks 1, 2, .inl (rs_pr r0))), (bd 10, .inl (ks 0, 16, .inr (.inl (rs_ky r0)))), (bd 11, .inl (ks 0, 16, .inr (.inl (rs_nu r0))))] H := hP
    have hD : va_D A [(bd 0, .inr (3, [.int 1, .ref (bd 1), .ref (bd 2), .ref (bd 3), .ref (bd 4), .ref (bd 5), .int (rs_dn r0), .int (rs_wi r0), .ref (bd 6), .int (rs_st r0), .int (rs_fl r0), .int (rs_fe r0), .int (rs_cr r0), .int (rs_sp r0), .int (rs_sd r0), .int (rs_so r0), .ref (bd 7), .ref (bd 8), .ref (bd 9), .ref (bd 10), .ref (bd 11)])), (bd 1, .inl (ks 0, 112, .inr (.inl (rs_va r0)))), (bd 2, .inl (ks 0, 112, .inr (.inl (rs_ke r0)))), (bd 3, .inl (ks 0, 448, .inr (.inl (rs_lo r0)))), (bd 4, .inl (ks 1, 112, .inl (rs_ls r0))), (bd 5, .inl (ks 2, 14, .inl (rs_fd r0))), (bd 6, .inl (ks 0, 31, .inr (.inl (rs_wk r0)))), (bd 7, .inl (ks 2, 2, .inl (rs_tk r0))), (bd 8, .inl (ks 0, 8, .inr (.inl (rs_co r0)))), (bd 9, .inl (ks 1, 2, .inl (rs_pr r0))), (bd 10, .inl (ks 0, 16, .inr (.inl (rs_ky r0)))), (bd 11, .inl (ks 0, 16, .inr (.inl (rs_nu r0))))] := hD
    refine lv_aload_n hx hb dR_freeze_29 rfl (lv_at hl 0 rfl) ?_
    refine va_get (D := D) (ci := 3) (v := .int 1) (C := RR) (T := TR) (N := 21) hx hb ht uw_R hown hK hP 0 rfl rfl 0 (by decide) (ht _ tb_539) (fun _ h => h) rfl dR_freeze_30 ?_
    refine lv_if_le (tgt := 37) hx hb dR_freeze_33 rfl (fun h => absurd h (by decide)) (fun _ => ?_)
    exact endV hx hb hr hlk hK (1, rs_va r0, rs_ke r0, rs_lo r0, rs_ls r0, rs_fd r0, rs_dn r0, rs_wi r0, rs_wk r0, rs_st r0, rs_fl r0, rs_fe r0, rs_cr r0, rs_sp r0, rs_sd r0, rs_so r0, rs_tk r0, rs_co r0, rs_pr r0, rs_ky r0, rs_nu r0) (Or.inl ⟨h2, rfl⟩) hP hD hS dR_freeze_36

/-- what frozen() of the reference answers, at a snapshot -/
def RFz (r0 : MS) (s9 q : Nat) (b9 : Int32) (y9 r : Int64) (u : MS) : Prop := (rs_tk r0 s9 = 0 ∧ u = rs_thr r0 1) ∨ (¬ rs_tk r0 s9 = 0 ∧ ((¬ b9 = 0 ∧ ((¬ (0 ≤ y9 ∧ y9 ≤ (nI 3).toInt64) ∧ u = rs_thr r0 1) ∨ ∃ c9, c9 ≤ 3 ∧ y9 = lN c9 ∧ r = rs_co r0 (4 * s9 + c9) ∧ u = rs_thr r0 0)) ∨ (b9 = 0 ∧ ((∃ i, i < q ∧ rs_ky r0 (8 * s9 + i) = y9 ∧ r = rs_nu r0 (8 * s9 + i) ∧ u = rs_thr r0 0) ∨ ((∀ j, j < q → ¬ rs_ky r0 (8 * s9 + j) = y9) ∧ u = rs_thr r0 1)))))
set_option maxHeartbeats 4000000 in
set_option maxRecDepth 100000 in
theorem kR_frozen (l : Launch) (D : va_G) (ks : Nat → ClassId) (bd : Nat → Nat) (r0 : MS) (q9 : Nat → Nat) (x9 b9 : Int32) (y9 : Int64) (sz : Nat) (hq9 : ∀ k, k ≤ 1 → ¬ rs_tk r0 k = 0 → q9 k ≤ 8 ∧ rs_pr r0 k = nI (q9 k))  : Met l yR_frozen (.code yR_frozen cR_frozen 6 (some .long) :: TB) ({ frames := 1, cells := 0, slots := 0, locals := 21 } : Room) (Pcw D ks [.ref (bd 0), .int x9, .int b9, .long y9] sz [(bd 0, .inr (3, [.int (rs_th r0), .ref (bd 1), .ref (bd 2), .ref (bd 3), .ref (bd 4), .ref (bd 5), .int (rs_dn r0), .int (rs_wi r0), .ref (bd 6), .int (rs_st r0), .int (rs_fl r0), .int (rs_fe r0), .int (rs_cr r0), .int (rs_sp r0), .int (rs_sd r0), .int (rs_so r0), .ref (bd 7), .ref (bd 8), .ref (bd 9), .ref (bd 10), .ref (bd 11)])), (bd 1, .inl (ks 0, 112, .inr (.inl (rs_va r0)))), (bd 2, .inl (ks 0, 112, .inr (.inl (rs_ke r0)))), (bd 3, .inl (ks 0, 448, .inr (.inl (rs_lo r0)))), (bd 4, .inl (ks 1, 112, .inl (rs_ls r0))), (bd 5, .inl (ks 2, 14, .inl (rs_fd r0))), (bd 6, .inl (ks 0, 31, .inr (.inl (rs_wk r0)))), (bd 7, .inl (ks 2, 2, .inl (rs_tk r0))), (bd 8, .inl (ks 0, 8, .inr (.inl (rs_co r0)))), (bd 9, .inl (ks 1, 2, .inl (rs_pr r0))), (bd 10, .inl (ks 0, 16, .inr (.inl (rs_ky r0)))), (bd 11, .inl (ks 0, 16, .inr (.inl (rs_nu r0))))]) (va_Ql (S := MS) (fun r u => (¬ (0 ≤ x9 ∧ x9 ≤ nI 1) ∧ u = rs_thr r0 1) ∨ (∃ s9, s9 ≤ 1 ∧ x9 = nI s9 ∧ RFz r0 s9 (q9 s9) b9 y9 r u)) (fun u t => Bw D ks (va_A [(bd 0, .inr (3, [.int (rs_th r0), .ref (bd 1), .ref (bd 2), .ref (bd 3), .ref (bd 4), .ref (bd 5), .int (rs_dn r0), .int (rs_wi r0), .ref (bd 6), .int (rs_st r0), .int (rs_fl r0), .int (rs_fe r0), .int (rs_cr r0), .int (rs_sp r0), .int (rs_sd r0), .int (rs_so r0), .ref (bd 7), .ref (bd 8), .ref (bd 9), .ref (bd 10), .ref (bd 11)])), (bd 1, .inl (ks 0, 112, .inr (.inl (rs_va r0)))), (bd 2, .inl (ks 0, 112, .inr (.inl (rs_ke r0)))), (bd 3, .inl (ks 0, 448, .inr (.inl (rs_lo r0)))), (bd 4, .inl (ks 1, 112, .inl (rs_ls r0))), (bd 5, .inl (ks 2, 14, .inl (rs_fd r0))), (bd 6, .inl (ks 0, 31, .inr (.inl (rs_wk r0)))), (bd 7, .inl (ks 2, 2, .inl (rs_tk r0))), (bd 8, .inl (ks 0, 8, .inr (.inl (rs_co r0)))), (bd 9, .inl (ks 1, 2, .inl (rs_pr r0))), (bd 10, .inl (ks 0, 16, .inr (.inl (rs_ky r0)))), (bd 11, .inl (ks 0, 16, .inr (.inl (rs_nu r0))))] sz) ((fun u => wR ks bd u) u) t) (va_A [(bd 0, .inr (3, [.int (rs_th r0), .ref (bd 1), .ref (bd 2), .ref (bd 3), .ref (bd 4), .ref (bd 5), .int (rs_dn r0), .int (rs_wi r0), .ref (bd 6), .int (rs_st r0), .int (rs_fl r0), .int (rs_fe r0), .int (rs_cr r0), .int (rs_sp r0), .int (rs_sd r0), .int (rs_so r0), .ref (bd 7), .ref (bd 8), .ref (bd 9), .ref (bd 10), .ref (bd 11)])), (bd 1, .inl (ks 0, 112, .inr (.inl (rs_va r0)))), (bd 2, .inl (ks 0, 112, .inr (.inl (rs_ke r0)))), (bd 3, .inl (ks 0, 448, .inr (.inl (rs_lo r0)))), (bd 4, .inl (ks 1, 112, .inl (rs_ls r0))), (bd 5, .inl (ks 2, 14, .inl (rs_fd r0))), (bd 6, .inl (ks 0, 31, .inr (.inl (rs_wk r0)))), (bd 7, .inl (ks 2, 2, .inl (rs_tk r0))), (bd 8, .inl (ks 0, 8, .inr (.inl (rs_co r0)))), (bd 9, .inl (ks 1, 2, .inl (rs_pr r0))), (bd 10, .inl (ks 0, 16, .inr (.inl (rs_ky r0)))), (bd 11, .inl (ks 0, 16, .inr (.inl (rs_nu r0))))] sz)) 0 0 (va_A [(bd 0, .inr (3, [.int (rs_th r0), .ref (bd 1), .ref (bd 2), .ref (bd 3), .ref (bd 4), .ref (bd 5), .int (rs_dn r0), .int (rs_wi r0), .ref (bd 6), .int (rs_st r0), .int (rs_fl r0), .int (rs_fe r0), .int (rs_cr r0), .int (rs_sp r0), .int (rs_sd r0), .int (rs_so r0), .ref (bd 7), .ref (bd 8), .ref (bd 9), .ref (bd 10), .ref (bd 11)])), (bd 1, .inl (ks 0, 112, .inr (.inl (rs_va r0)))), (bd 2, .inl (ks 0, 112, .inr (.inl (rs_ke r0)))), (bd 3, .inl (ks 0, 448, .inr (.inl (rs_lo r0)))), (bd 4, .inl (ks 1, 112, .inl (rs_ls r0))), (bd 5, .inl (ks 2, 14, .inl (rs_fd r0))), (bd 6, .inl (ks 0, 31, .inr (.inl (rs_wk r0)))), (bd 7, .inl (ks 2, 2, .inl (rs_tk r0))), (bd 8, .inl (ks 0, 8, .inr (.inl (rs_co r0)))), (bd 9, .inl (ks 1, 2, .inl (rs_pr r0))), (bd 10, .inl (ks 0, 16, .inr (.inl (rs_ky r0)))), (bd 11, .inl (ks 0, 16, .inr (.inl (rs_nu r0))))] sz) := by
  refine bodyL (S := MS) (wN := (fun u => wR ks bd u)) (post := (fun r u => (¬ (0 ≤ x9 ∧ x9 ≤ nI 1) ∧ u = rs_thr r0 1) ∨ (∃ s9, s9 ≤ 1 ∧ x9 = nI s9 ∧ RFz r0 s9 (q9 s9) b9 y9 r u))) (by decide) (Nat.le_of_ble_eq_true rfl) (fun p e s m below meth c A ls F hr hlk hK hN hA hsz hP hD hS hl => ?_)
  obtain ⟨hx, hb, hml, hown, ht⟩ := F
  have hown : s.vm.findClass RR = some m.cls := hown
  have F : CallFix p m c cR_frozen 6 s ([.ref (bd 0), .int x9, .int b9, .long y9] : List Value).toArray TB RR := ⟨hx, hb, hml, hown, ht⟩
  have hl : lv_has ls 6 [(0, .ref (bd 0)), (1, .int x9), (2, .int b9), (3, .long y9)] := hl
  refine lv_aload_n hx hb dR_frozen_0 rfl (lv_at hl 0 rfl) ?_
  refine lv_iload_n hx hb dR_frozen_1 rfl (lv_at hl 1 rfl) ?_
  refine lv_if_lt (tgt := 10) hx hb dR_frozen_2 rfl (fun hN0 => ?_) (fun hP0 => ?_)
  · skip
    refine lv_iconst (v := 1) hx hb dR_frozen_10 (by decide) ?_
    refine lv_goto (tgt := 15) hx hb dR_frozen_11 rfl ?_
    refine va_put (D := D) (ci := 3) (v := .int 1) (ty := .int) (C := RR) (T := TR) (N := 21) hx hb ht uw_R ty_R ty_R_ok nm_R hown hK hP hD hS 0 rfl rfl 0 (by decide) (ht _ tb_539) (fun _ h => h) rfl (by decide +kernel) rfl rfl (Nat.le_of_ble_eq_true rfl) dR_frozen_15 (fun H locs hP hD hS => ?_)
    have hP : va_P D vwCl [(bd 0, .inr (3, [.int 1, .ref (bd 1), .ref (bd 2), .ref (bd 3), .ref (bd 4), .ref (bd 5), .int (rs_dn r0), .int (rs_wi r0), .ref (bd 6), .int (rs_st r0), .int (rs_fl r0), .int (rs_fe r0), .int (rs_cr r0), .int (rs_sp r0), .int (rs_sd r0), .int (rs_so r0), .ref (bd 7), .ref (bd 8), .ref (bd 9), .ref (bd 10), .ref (bd 11)])), (bd 1, .inl (ks 0, 112, .inr (.inl (rs_va r0)))), (bd 2, .inl (ks 0, 112, .inr (.inl (rs_ke r0)))), (bd 3, .inl (ks 0, 448, .inr (.inl (rs_lo r0)))), (bd 4, .inl (ks 1, 112, .inl (rs_ls r0))), (bd 5, .inl (ks 2, 14, .inl (rs_fd r0))), (bd 6, .inl (ks 0, 31, .inr (.inl (rs_wk r0)))), (bd 7, .inl (ks 2, 2, .inl (rs_tk r0))), (bd 8, .inl (ks 0, 8, .inr (.inl (rs_co r0)))), (bd 9, .inl (ks 1, 2, .inl (rs_pr r0))), (bd 10, .inl (ks 0, 16, .inr (.inl (rs_ky r0)))), (bd 11, .inl (ks 0, 16, .inr (.inl (rs_nu r0))))] H := hP
    have hD : va_D A [(bd 0, .inr (3, [.int 1, .ref (bd 1), .ref (bd 2), .ref (bd 3), .ref (bd 4), .ref (bd 5), .int (rs_dn r0), .int (rs_wi r0), .ref (bd 6), .int (rs_st r0), .int (rs_fl r0), .int (rs_fe r0), .int (rs_cr r0), .int (rs_sp r0), .int (rs_sd r0), .int (rs_so r0), .ref (bd 7), .ref (bd 8), .ref (bd 9), .ref (bd 10), .ref (bd 11)])), (bd 1, .inl (ks 0, 112, .inr (.inl (rs_va r0)))), (bd 2, .inl (ks 0, 112, .inr (.inl (rs_ke r0)))), (bd 3, .inl (ks 0, 448, .inr (.inl (rs_lo r0)))), (bd 4, .inl (ks 1, 112, .inl (rs_ls r0))), (bd 5, .inl (ks 2, 14, .inl (rs_fd r0))), (bd 6, .inl (ks 0, 31, .inr (.inl (rs_wk r0)))), (bd 7, .inl (ks 2, 2, .inl (rs_tk r0))), (bd 8, .inl (ks 0, 8, .inr (.inl (rs_co r0)))), (bd 9, .inl (ks 1, 2, .inl (rs_pr r0))), (bd 10, .inl (ks 0, 16, .inr (.inl (rs_ky r0)))), (bd 11, .inl (ks 0, 16, .inr (.inl (rs_nu r0))))] := hD
    refine lv_aload_n hx hb dR_frozen_18 rfl (lv_at hl 0 rfl) ?_
    refine va_get (D := D) (ci := 3) (v := .int 1) (C := RR) (T := TR) (N := 21) hx hb ht uw_R hown hK hP 0 rfl rfl 0 (by decide) (ht _ tb_539) (fun _ h => h) rfl dR_frozen_19 ?_
    refine lv_if_le (tgt := 27) hx hb dR_frozen_22 rfl (fun h => absurd h (by decide)) (fun _ => ?_)
    refine lv_lconst (v := 0) hx hb dR_frozen_25 (by decide) ?_
    exact endL hx hb hr hlk hK (1, rs_va r0, rs_ke r0, rs_lo r0, rs_ls r0, rs_fd r0, rs_dn r0, rs_wi r0, rs_wk r0, rs_st r0, rs_fl r0, rs_fe r0, rs_cr r0, rs_sp r0, rs_sd r0, rs_so r0, rs_tk r0, rs_co r0, rs_pr r0, rs_ky r0, rs_nu r0) (Or.inl ⟨fun z => absurd hN0 (Int32.not_lt.mpr z.1), rfl⟩) hP hD hS dR_frozen_26
  · skip
    refine lv_iload_n hx hb dR_frozen_5 rfl (lv_at hl 1 rfl) ?_
    refine lv_iconst (v := nI 1) hx hb dR_frozen_6 (by decide) ?_
    refine lv_icmp_le (tgt := 14) hx hb dR_frozen_7 rfl (fun hC => ?_) (fun hB => ?_)
    · skip
      obtain ⟨s9, hk8, hx9⟩ := nI_of hP0
      have hs9 : s9 ≤ 1 := Nat.not_lt.mp (fun z => Int32.not_lt.mpr hC (by rw [hx9]; exact (nI_ltI (by decide) hk8).mpr z))
      refine lv_iconst (v := 0) hx hb dR_frozen_14 (by decide) ?_
      refine va_put (D := D) (ci := 3) (v := .int 0) (ty := .int) (C := RR) (T := TR) (N := 21) hx hb ht uw_R ty_R ty_R_ok nm_R hown hK hP hD hS 0 rfl rfl 0 (by decide) (ht _ tb_539) (fun _ h => h) rfl (by decide +kernel) rfl rfl (Nat.le_of_ble_eq_true rfl) dR_frozen_15 (fun H locs hP hD hS => ?_)
      have hP : va_P D vwCl [(bd 0, .inr (3, [.int 0, .ref (bd 1), .ref (bd 2), .ref (bd 3), .ref (bd 4), .ref (bd 5), .int (rs_dn r0), .int (rs_wi r0), .ref (bd 6), .int (rs_st r0), .int (rs_fl r0), .int (rs_fe r0), .int (rs_cr r0), .int (rs_sp r0), .int (rs_sd r0), .int (rs_so r0), .ref (bd 7), .ref (bd 8), .ref (bd 9), .ref (bd 10), .ref (bd 11)])), (bd 1, .inl (ks 0, 112, .inr (.inl (rs_va r0)))), (bd 2, .inl (ks 0, 112, .inr (.inl (rs_ke r0)))), (bd 3, .inl (ks 0, 448, .inr (.inl (rs_lo r0)))), (bd 4, .inl (ks 1, 112, .inl (rs_ls r0))), (bd 5, .inl (ks 2, 14, .inl (rs_fd r0))), (bd 6, .inl (ks 0, 31, .inr (.inl (rs_wk r0)))), (bd 7, .inl (ks 2, 2, .inl (rs_tk r0))), (bd 8, .inl (ks 0, 8, .inr (.inl (rs_co r0)))), (bd 9, .inl (ks 1, 2, .inl (rs_pr r0))), (bd 10, .inl (ks 0, 16, .inr (.inl (rs_ky r0)))), (bd 11, .inl (ks 0, 16, .inr (.inl (rs_nu r0))))] H := hP
      have hD : va_D A [(bd 0, .inr (3, [.int 0, .ref (bd 1), .ref (bd 2), .ref (bd 3), .ref (bd 4), .ref (bd 5), .int (rs_dn r0), .int (rs_wi r0), .ref (bd 6), .int (rs_st r0), .int (rs_fl r0), .int (rs_fe r0), .int (rs_cr r0), .int (rs_sp r0), .int (rs_sd r0), .int (rs_so r0), .ref (bd 7), .ref (bd 8), .ref (bd 9), .ref (bd 10), .ref (bd 11)])), (bd 1, .inl (ks 0, 112, .inr (.inl (rs_va r0)))), (bd 2, .inl (ks 0, 112, .inr (.inl (rs_ke r0)))), (bd 3, .inl (ks 0, 448, .inr (.inl (rs_lo r0)))), (bd 4, .inl (ks 1, 112, .inl (rs_ls r0))), (bd 5, .inl (ks 2, 14, .inl (rs_fd r0))), (bd 6, .inl (ks 0, 31, .inr (.inl (rs_wk r0)))), (bd 7, .inl (ks 2, 2, .inl (rs_tk r0))), (bd 8, .inl (ks 0, 8, .inr (.inl (rs_co r0)))), (bd 9, .inl (ks 1, 2, .inl (rs_pr r0))), (bd 10, .inl (ks 0, 16, .inr (.inl (rs_ky r0)))), (bd 11, .inl (ks 0, 16, .inr (.inl (rs_nu r0))))] := hD
      refine lv_aload_n hx hb dR_frozen_18 rfl (lv_at hl 0 rfl) ?_
      refine va_get (D := D) (ci := 3) (v := .int 0) (C := RR) (T := TR) (N := 21) hx hb ht uw_R hown hK hP 0 rfl rfl 0 (by decide) (ht _ tb_539) (fun _ h => h) rfl dR_frozen_19 ?_
      refine lv_if_le (tgt := 27) hx hb dR_frozen_22 rfl (fun _ => ?_) (fun h => absurd (by decide) h)
      refine lv_aload_n hx hb dR_frozen_27 rfl (lv_at hl 0 rfl) ?_
      refine lv_aload_n hx hb dR_frozen_28 rfl (lv_at hl 0 rfl) ?_
      refine va_get (D := D) (ci := 3) (v := .ref (bd 7)) (C := RR) (T := TR) (N := 21) hx hb ht uw_R hown hK hP 0 rfl rfl 16 (by decide) (ht _ tb_555) (fun _ h => h) rfl dR_frozen_29 ?_
      refine lv_iload_n hx hb dR_frozen_32 rfl (lv_at hl 1 rfl) ?_
      refine ra_z hx hb hK hP 7 rfl s9 (by omega) (by decide) hx9 dR_frozen_33 ?_
      refine lv_if_eq (tgt := 48) hx hb dR_frozen_34 rfl (fun hz0 => ?_) (fun hz1 => ?_)
      · skip
        refine lv_iconst (v := 1) hx hb dR_frozen_48 (by decide) ?_
        refine lv_goto (tgt := 53) hx hb dR_frozen_49 rfl ?_
        refine va_put (D := D) (ci := 3) (v := .int 1) (ty := .int) (C := RR) (T := TR) (N := 21) hx hb ht uw_R ty_R ty_R_ok nm_R hown hK hP hD hS 0 rfl rfl 0 (by decide) (ht _ tb_539) (fun _ h => h) rfl (by decide +kernel) rfl rfl (Nat.le_of_ble_eq_true rfl) dR_frozen_53 (fun H locs hP hD hS => ?_)
        have hP : va_P D vwCl [(bd 0, .inr (3, [.int 1, .ref (bd 1), .ref (bd 2), .ref (bd 3), .ref (bd 4), .ref (bd 5), .int (rs_dn r0), .int (rs_wi r0), .ref (bd 6), .int (rs_st r0), .int (rs_fl r0), .int (rs_fe r0), .int (rs_cr r0), .int (rs_sp r0), .int (rs_sd r0), .int (rs_so r0), .ref (bd 7), .ref (bd 8), .ref (bd 9), .ref (bd 10), .ref (bd 11)])), (bd 1, .inl (ks 0, 112, .inr (.inl (rs_va r0)))), (bd 2, .inl (ks 0, 112, .inr (.inl (rs_ke r0)))), (bd 3, .inl (ks 0, 448, .inr (.inl (rs_lo r0)))), (bd 4, .inl (ks 1, 112, .inl (rs_ls r0))), (bd 5, .inl (ks 2, 14, .inl (rs_fd r0))), (bd 6, .inl (ks 0, 31, .inr (.inl (rs_wk r0)))), (bd 7, .inl (ks 2, 2, .inl (rs_tk r0))), (bd 8, .inl (ks 0, 8, .inr (.inl (rs_co r0)))), (bd 9, .inl (ks 1, 2, .inl (rs_pr r0))), (bd 10, .inl (ks 0, 16, .inr (.inl (rs_ky r0)))), (bd 11, .inl (ks 0, 16, .inr (.inl (rs_nu r0))))] H := hP
        have hD : va_D A [(bd 0, .inr (3, [.int 1, .ref (bd 1), .ref (bd 2), .ref (bd 3), .ref (bd 4), .ref (bd 5), .int (rs_dn r0), .int (rs_wi r0), .ref (bd 6), .int (rs_st r0), .int (rs_fl r0), .int (rs_fe r0), .int (rs_cr r0), .int (rs_sp r0), .int (rs_sd r0), .int (rs_so r0), .ref (bd 7), .ref (bd 8), .ref (bd 9), .ref (bd 10), .ref (bd 11)])), (bd 1, .inl (ks 0, 112, .inr (.inl (rs_va r0)))), (bd 2, .inl (ks 0, 112, .inr (.inl (rs_ke r0)))), (bd 3, .inl (ks 0, 448, .inr (.inl (rs_lo r0)))), (bd 4, .inl (ks 1, 112, .inl (rs_ls r0))), (bd 5, .inl (ks 2, 14, .inl (rs_fd r0))), (bd 6, .inl (ks 0, 31, .inr (.inl (rs_wk r0)))), (bd 7, .inl (ks 2, 2, .inl (rs_tk r0))), (bd 8, .inl (ks 0, 8, .inr (.inl (rs_co r0)))), (bd 9, .inl (ks 1, 2, .inl (rs_pr r0))), (bd 10, .inl (ks 0, 16, .inr (.inl (rs_ky r0)))), (bd 11, .inl (ks 0, 16, .inr (.inl (rs_nu r0))))] := hD
        refine lv_aload_n hx hb dR_frozen_56 rfl (lv_at hl 0 rfl) ?_
        refine va_get (D := D) (ci := 3) (v := .int 1) (C := RR) (T := TR) (N := 21) hx hb ht uw_R hown hK hP 0 rfl rfl 0 (by decide) (ht _ tb_539) (fun _ h => h) rfl dR_frozen_57 ?_
        refine lv_if_gt (tgt := 67) hx hb dR_frozen_60 rfl (fun _ => ?_) (fun h => absurd (by decide) h)
        refine lv_aload_n hx hb dR_frozen_67 rfl (lv_at hl 0 rfl) ?_
        refine va_get (D := D) (ci := 3) (v := .int 1) (C := RR) (T := TR) (N := 21) hx hb ht uw_R hown hK hP 0 rfl rfl 0 (by decide) (ht _ tb_539) (fun _ h => h) rfl dR_frozen_68 ?_
        refine lv_if_le (tgt := 78) hx hb dR_frozen_71 rfl (fun h => absurd h (by decide)) (fun _ => ?_)
        refine lv_lconst (v := 0) hx hb dR_frozen_74 (by decide) ?_
        refine lv_goto (tgt := 89) hx hb dR_frozen_75 rfl ?_
        exact endL hx hb hr hlk hK (1, rs_va r0, rs_ke r0, rs_lo r0, rs_ls r0, rs_fd r0, rs_dn r0, rs_wi r0, rs_wk r0, rs_st r0, rs_fl r0, rs_fe r0, rs_cr r0, rs_sp r0, rs_sd r0, rs_so r0, rs_tk r0, rs_co r0, rs_pr r0, rs_ky r0, rs_nu r0) (Or.inr ⟨s9, hs9, hx9, Or.inl ⟨hz0, rfl⟩⟩) hP hD hS dR_frozen_89
      · skip
        refine lv_iload_n hx hb dR_frozen_37 rfl (lv_at hl 2 rfl) ?_
        refine lv_if_eq (tgt := 52) hx hb dR_frozen_38 rfl (fun hb0 => ?_) (fun hb1 => ?_)
        · skip
          refine lv_iconst (v := 0) hx hb dR_frozen_52 (by decide) ?_
          refine va_put (D := D) (ci := 3) (v := .int 0) (ty := .int) (C := RR) (T := TR) (N := 21) hx hb ht uw_R ty_R ty_R_ok nm_R hown hK hP hD hS 0 rfl rfl 0 (by decide) (ht _ tb_539) (fun _ h => h) rfl (by decide +kernel) rfl rfl (Nat.le_of_ble_eq_true rfl) dR_frozen_53 (fun H locs hP hD hS => ?_)
          have hP : va_P D vwCl [(bd 0, .inr (3, [.int 0, .ref (bd 1), .ref (bd 2), .ref (bd 3), .ref (bd 4), .ref (bd 5), .int (rs_dn r0), .int (rs_wi r0), .ref (bd 6), .int (rs_st r0), .int (rs_fl r0), .int (rs_fe r0), .int (rs_cr r0), .int (rs_sp r0), .int (rs_sd r0), .int (rs_so r0), .ref (bd 7), .ref (bd 8), .ref (bd 9), .ref (bd 10), .ref (bd 11)])), (bd 1, .inl (ks 0, 112, .inr (.inl (rs_va r0)))), (bd 2, .inl (ks 0, 112, .inr (.inl (rs_ke r0)))), (bd 3, .inl (ks 0, 448, .inr (.inl (rs_lo r0)))), (bd 4, .inl (ks 1, 112, .inl (rs_ls r0))), (bd 5, .inl (ks 2, 14, .inl (rs_fd r0))), (bd 6, .inl (ks 0, 31, .inr (.inl (rs_wk r0)))), (bd 7, .inl (ks 2, 2, .inl (rs_tk r0))), (bd 8, .inl (ks 0, 8, .inr (.inl (rs_co r0)))), (bd 9, .inl (ks 1, 2, .inl (rs_pr r0))), (bd 10, .inl (ks 0, 16, .inr (.inl (rs_ky r0)))), (bd 11, .inl (ks 0, 16, .inr (.inl (rs_nu r0))))] H := hP
          have hD : va_D A [(bd 0, .inr (3, [.int 0, .ref (bd 1), .ref (bd 2), .ref (bd 3), .ref (bd 4), .ref (bd 5), .int (rs_dn r0), .int (rs_wi r0), .ref (bd 6), .int (rs_st r0), .int (rs_fl r0), .int (rs_fe r0), .int (rs_cr r0), .int (rs_sp r0), .int (rs_sd r0), .int (rs_so r0), .ref (bd 7), .ref (bd 8), .ref (bd 9), .ref (bd 10), .ref (bd 11)])), (bd 1, .inl (ks 0, 112, .inr (.inl (rs_va r0)))), (bd 2, .inl (ks 0, 112, .inr (.inl (rs_ke r0)))), (bd 3, .inl (ks 0, 448, .inr (.inl (rs_lo r0)))), (bd 4, .inl (ks 1, 112, .inl (rs_ls r0))), (bd 5, .inl (ks 2, 14, .inl (rs_fd r0))), (bd 6, .inl (ks 0, 31, .inr (.inl (rs_wk r0)))), (bd 7, .inl (ks 2, 2, .inl (rs_tk r0))), (bd 8, .inl (ks 0, 8, .inr (.inl (rs_co r0)))), (bd 9, .inl (ks 1, 2, .inl (rs_pr r0))), (bd 10, .inl (ks 0, 16, .inr (.inl (rs_ky r0)))), (bd 11, .inl (ks 0, 16, .inr (.inl (rs_nu r0))))] := hD
          refine lv_aload_n hx hb dR_frozen_56 rfl (lv_at hl 0 rfl) ?_
          refine va_get (D := D) (ci := 3) (v := .int 0) (C := RR) (T := TR) (N := 21) hx hb ht uw_R hown hK hP 0 rfl rfl 0 (by decide) (ht _ tb_539) (fun _ h => h) rfl dR_frozen_57 ?_
          refine lv_if_gt (tgt := 67) hx hb dR_frozen_60 rfl (fun h => absurd h (by decide)) (fun _ => ?_)
          refine lv_iload_n hx hb dR_frozen_63 rfl (lv_at hl 2 rfl) ?_
          refine lv_if_eq (tgt := 90) hx hb dR_frozen_64 rfl (fun _ => ?_) (fun h => absurd hb0 h)
          refine lv_iconst (v := nI 0) hx hb dR_frozen_90 (by decide) ?_
          refine lv_istore (lv' := [(5, .int (nI 0)), (0, .ref (bd 0)), (1, .int x9), (2, .int b9), (3, .long y9)]) hx hb dR_frozen_91 hl (by decide) rfl (fun ls hl => ?_)
          obtain ⟨hq8, hpr⟩ := hq9 s9 hs9 hz1
          have hl : lv_has ls 6 [(5, .int (nI 0)), (0, .ref (bd 0)), (1, .int x9), (3, .long y9)] := lv_sub hl [0, 1, 2, 4] rfl
          have hI : ∀ j, j < 0 → ¬ rs_ky r0 (8 * s9 + j) = y9 := fun j hj => absurd hj (Nat.not_lt_zero j)
          have LOOP : ∀ (k9 i : Nat), i + k9 = q9 s9 → (∀ j, j < i → ¬ rs_ky r0 (8 * s9 + j) = y9) → ∀ (H : Heap) (locs : List Loc) (ls : Array Slot), lv_has ls 6 [(5, .int (nI i)), (0, .ref (bd 0)), (1, .int x9), (3, .long y9)] → va_P D vwCl [(bd 0, .inr (3, [.int (0), .ref (bd 1), .ref (bd 2), .ref (bd 3), .ref (bd 4), .ref (bd 5), .int (rs_dn r0), .int (rs_wi r0), .ref (bd 6), .int (rs_st r0), .int (rs_fl r0), .int (rs_fe r0), .int (rs_cr r0), .int (rs_sp r0), .int (rs_sd r0), .int (rs_so r0), .ref (bd 7), .ref (bd 8), .ref (bd 9), .ref (bd 10), .ref (bd 11)])), (bd 1, .inl (ks 0, 112, .inr (.inl (rs_va r0)))), (bd 2, .inl (ks 0, 112, .inr (.inl (rs_ke r0)))), (bd 3, .inl (ks 0, 448, .inr (.inl (rs_lo r0)))), (bd 4, .inl (ks 1, 112, .inl (rs_ls r0))), (bd 5, .inl (ks 2, 14, .inl (rs_fd r0))), (bd 6, .inl (ks 0, 31, .inr (.inl (rs_wk r0)))), (bd 7, .inl (ks 2, 2, .inl (rs_tk r0))), (bd 8, .inl (ks 0, 8, .inr (.inl (rs_co r0)))), (bd 9, .inl (ks 1, 2, .inl (rs_pr r0))), (bd 10, .inl (ks 0, 16, .inr (.inl (rs_ky r0)))), (bd 11, .inl (ks 0, 16, .inr (.inl (rs_nu r0))))] H → va_D A [(bd 0, .inr (3, [.int (0), .ref (bd 1), .ref (bd 2), .ref (bd 3), .ref (bd 4), .ref (bd 5), .int (rs_dn r0), .int (rs_wi r0), .ref (bd 6), .int (rs_st r0), .int (rs_fl r0), .int (rs_fe r0), .int (rs_cr r0), .int (rs_sp r0), .int (rs_sd r0), .int (rs_so r0), .ref (bd 7), .ref (bd 8), .ref (bd 9), .ref (bd 10), .ref (bd 11)])), (bd 1, .inl (ks 0, 112, .inr (.inl (rs_va r0)))), (bd 2, .inl (ks 0, 112, .inr (.inl (rs_ke r0)))), (bd 3, .inl (ks 0, 448, .inr (.inl (rs_lo r0)))), (bd 4, .inl (ks 1, 112, .inl (rs_ls r0))), (bd 5, .inl (ks 2, 14, .inl (rs_fd r0))), (bd 6, .inl (ks 0, 31, .inr (.inl (rs_wk r0)))), (bd 7, .inl (ks 2, 2, .inl (rs_tk r0))), (bd 8, .inl (ks 0, 8, .inr (.inl (rs_co r0)))), (bd 9, .inl (ks 1, 2, .inl (rs_pr r0))), (bd 10, .inl (ks 0, 16, .inr (.inl (rs_ky r0)))), (bd 11, .inl (ks 0, 16, .inr (.inl (rs_nu r0))))] → va_S A s.heap H locs → W p l e ({ frames := 1, cells := 0, slots := 0, locals := 21 } : Room) s m ([.ref (bd 0), .int x9, .int b9, .long y9] : List Value).toArray below meth c H locs 0 0 (MQ below (va_Ql (S := MS) (fun r u => (¬ (0 ≤ x9 ∧ x9 ≤ nI 1) ∧ u = rs_thr r0 1) ∨ (∃ s9, s9 ≤ 1 ∧ x9 = nI s9 ∧ RFz r0 s9 (q9 s9) b9 y9 r u)) (fun u t => Bw D ks A ((fun u => wR ks bd u) u) t) A) ([.ref (bd 0), .int x9, .int b9, .long y9] : List Value).toArray s 0 0 A) (F0 m 93 ls []) := by
            intro k9
            induction k9 with
            | zero =>
              intro i h9 hI H locs ls hl hP hD hS
              have h9 : i = q9 s9 := h9
              subst h9
              refine lv_iload hx hb dR_frozen_93 (lv_at hl 0 rfl) ?_
              refine lv_aload_n hx hb dR_frozen_95 rfl (lv_at hl 1 rfl) ?_
              refine va_get (D := D) (ci := 3) (v := .ref (bd 9)) (C := RR) (T := TR) (N := 21) hx hb ht uw_R hown hK hP 0 rfl rfl 18 (by decide) (ht _ tb_557) (fun _ h => h) rfl dR_frozen_96 ?_
              refine lv_iload_n hx hb dR_frozen_99 rfl (lv_at hl 2 rfl) ?_
              refine ra_i hx hb hK hP 9 rfl s9 (by omega) (by decide) hx9 dR_frozen_100 ?_
              refine tp_i (nI (q9 s9)) hpr ?_
              refine lv_icmp_ge (tgt := 140) hx hb dR_frozen_101 rfl (fun _ => ?_) (fun h => absurd (by first | exact Int32.le_refl _ | (rw [h9]; exact Int32.le_refl _)) h)
              refine lv_aload_n hx hb dR_frozen_140 rfl (lv_at hl 1 rfl) ?_
              refine lv_iconst (v := 1) hx hb dR_frozen_141 (by decide) ?_
              refine va_put (D := D) (ci := 3) (v := .int 1) (ty := .int) (C := RR) (T := TR) (N := 21) hx hb ht uw_R ty_R ty_R_ok nm_R hown hK hP hD hS 0 rfl rfl 0 (by decide) (ht _ tb_539) (fun _ h => h) rfl (by decide +kernel) rfl rfl (Nat.le_of_ble_eq_true rfl) dR_frozen_142 (fun H locs hP hD hS => ?_)
              have hP : va_P D vwCl [(bd 0, .inr (3, [.int 1, .ref (bd 1), .ref (bd 2), .ref (bd 3), .ref (bd 4), .ref (bd 5), .int (rs_dn r0), .int (rs_wi r0), .ref (bd 6), .int (rs_st r0), .int (rs_fl r0), .int (rs_fe r0), .int (rs_cr r0), .int (rs_sp r0), .int (rs_sd r0), .int (rs_so r0), .ref (bd 7), .ref (bd 8), .ref (bd 9), .ref (bd 10), .ref (bd 11)])), (bd 1, .inl (ks 0, 112, .inr (.inl (rs_va r0)))), (bd 2, .inl (ks 0, 112, .inr (.inl (rs_ke r0)))), (bd 3, .inl (ks 0, 448, .inr (.inl (rs_lo r0)))), (bd 4, .inl (ks 1, 112, .inl (rs_ls r0))), (bd 5, .inl (ks 2, 14, .inl (rs_fd r0))), (bd 6, .inl (ks 0, 31, .inr (.inl (rs_wk r0)))), (bd 7, .inl (ks 2, 2, .inl (rs_tk r0))), (bd 8, .inl (ks 0, 8, .inr (.inl (rs_co r0)))), (bd 9, .inl (ks 1, 2, .inl (rs_pr r0))), (bd 10, .inl (ks 0, 16, .inr (.inl (rs_ky r0)))), (bd 11, .inl (ks 0, 16, .inr (.inl (rs_nu r0))))] H := hP
              have hD : va_D A [(bd 0, .inr (3, [.int 1, .ref (bd 1), .ref (bd 2), .ref (bd 3), .ref (bd 4), .ref (bd 5), .int (rs_dn r0), .int (rs_wi r0), .ref (bd 6), .int (rs_st r0), .int (rs_fl r0), .int (rs_fe r0), .int (rs_cr r0), .int (rs_sp r0), .int (rs_sd r0), .int (rs_so r0), .ref (bd 7), .ref (bd 8), .ref (bd 9), .ref (bd 10), .ref (bd 11)])), (bd 1, .inl (ks 0, 112, .inr (.inl (rs_va r0)))), (bd 2, .inl (ks 0, 112, .inr (.inl (rs_ke r0)))), (bd 3, .inl (ks 0, 448, .inr (.inl (rs_lo r0)))), (bd 4, .inl (ks 1, 112, .inl (rs_ls r0))), (bd 5, .inl (ks 2, 14, .inl (rs_fd r0))), (bd 6, .inl (ks 0, 31, .inr (.inl (rs_wk r0)))), (bd 7, .inl (ks 2, 2, .inl (rs_tk r0))), (bd 8, .inl (ks 0, 8, .inr (.inl (rs_co r0)))), (bd 9, .inl (ks 1, 2, .inl (rs_pr r0))), (bd 10, .inl (ks 0, 16, .inr (.inl (rs_ky r0)))), (bd 11, .inl (ks 0, 16, .inr (.inl (rs_nu r0))))] := hD
              refine lv_lconst (v := 0) hx hb dR_frozen_145 (by decide) ?_
              exact endL hx hb hr hlk hK (1, rs_va r0, rs_ke r0, rs_lo r0, rs_ls r0, rs_fd r0, rs_dn r0, rs_wi r0, rs_wk r0, rs_st r0, rs_fl r0, rs_fe r0, rs_cr r0, rs_sp r0, rs_sd r0, rs_so r0, rs_tk r0, rs_co r0, rs_pr r0, rs_ky r0, rs_nu r0) (Or.inr ⟨s9, hs9, hx9, Or.inr ⟨hz1, Or.inr ⟨hb0, Or.inr ⟨hI, rfl⟩⟩⟩⟩) hP hD hS dR_frozen_146
            | succ k9 ih =>
              intro i h9 hI H locs ls hl hP hD hS
              have hlt : i < q9 s9 := by omega
              refine lv_iload hx hb dR_frozen_93 (lv_at hl 0 rfl) ?_
              refine lv_aload_n hx hb dR_frozen_95 rfl (lv_at hl 1 rfl) ?_
              refine va_get (D := D) (ci := 3) (v := .ref (bd 9)) (C := RR) (T := TR) (N := 21) hx hb ht uw_R hown hK hP 0 rfl rfl 18 (by decide) (ht _ tb_557) (fun _ h => h) rfl dR_frozen_96 ?_
              refine lv_iload_n hx hb dR_frozen_99 rfl (lv_at hl 2 rfl) ?_
              refine ra_i hx hb hK hP 9 rfl s9 (by omega) (by decide) hx9 dR_frozen_100 ?_
              refine tp_i (nI (q9 s9)) hpr ?_
              refine lv_icmp_ge (tgt := 140) hx hb dR_frozen_101 rfl (fun h => absurd h (nI_ge (by omega) (by omega))) (fun _ => ?_)
              refine lv_aload_n hx hb dR_frozen_104 rfl (lv_at hl 1 rfl) ?_
              refine va_get (D := D) (ci := 3) (v := .ref (bd 10)) (C := RR) (T := TR) (N := 21) hx hb ht uw_R hown hK hP 0 rfl rfl 19 (by decide) (ht _ tb_558) (fun _ h => h) rfl dR_frozen_105 ?_
              refine lv_bipush (v := nI 8) hx hb dR_frozen_108 (by decide) ?_
              refine lv_iload_n hx hb dR_frozen_110 rfl (lv_at hl 2 rfl) ?_
              refine lv_imul hx hb dR_frozen_111 ?_
              refine tp_i (nI (8 * s9)) (by rw [hx9, pk_mul]) ?_
              refine lv_iload hx hb dR_frozen_112 (lv_at hl 0 rfl) ?_
              refine lv_iadd hx hb dR_frozen_114 ?_
              refine tp_i (nI (8 * s9 + i)) (nI_add _ _) ?_
              refine ra_l hx hb hK hP 10 rfl (8 * s9 + i) (by omega) (by decide) rfl dR_frozen_115 ?_
              refine lv_lload_n hx hb dR_frozen_116 rfl (lv_at hl 3 rfl) ?_
              refine W.lcmp hx hb dR_frozen_117 ?_
              refine lv_if_ne (tgt := 134) hx hb dR_frozen_118 rfl (fun hNE => ?_) (fun hE => ?_)
              · skip
                rw [lg_cmp_eq] at hNE
                refine lv_iinc (k := 0) (x := (nI i)) (v := (nI (i + 1))) (lv' := [(5, .int (nI (i + 1))), (0, .ref (bd 0)), (1, .int x9), (3, .long y9)]) hx hb dR_frozen_134 hl rfl (nI_1 _) (by decide) rfl (fun ls hl => ?_)
                refine lv_goto (tgt := 93) hx hb dR_frozen_137 rfl ?_
                have hl : lv_has ls 6 [(5, .int (nI (i + 1))), (0, .ref (bd 0)), (1, .int x9), (3, .long y9)] := lv_sub hl [0, 1, 2, 3] rfl
                exact ih (i + 1) (by omega) (fun j hj => by rcases Nat.lt_succ_iff_lt_or_eq.mp hj with h | h; exact hI j h; rw [h]; exact hNE) H locs ls hl hP hD hS
              · skip
                rw [lg_cmp_eq] at hE
                refine lv_aload_n hx hb dR_frozen_121 rfl (lv_at hl 1 rfl) ?_
                refine va_get (D := D) (ci := 3) (v := .ref (bd 11)) (C := RR) (T := TR) (N := 21) hx hb ht uw_R hown hK hP 0 rfl rfl 20 (by decide) (ht _ tb_559) (fun _ h => h) rfl dR_frozen_122 ?_
                refine lv_bipush (v := nI 8) hx hb dR_frozen_125 (by decide) ?_
                refine lv_iload_n hx hb dR_frozen_127 rfl (lv_at hl 2 rfl) ?_
                refine lv_imul hx hb dR_frozen_128 ?_
                refine tp_i (nI (8 * s9)) (by rw [hx9, pk_mul]) ?_
                refine lv_iload hx hb dR_frozen_129 (lv_at hl 0 rfl) ?_
                refine lv_iadd hx hb dR_frozen_131 ?_
                refine tp_i (nI (8 * s9 + i)) (nI_add _ _) ?_
                refine ra_l hx hb hK hP 11 rfl (8 * s9 + i) (by omega) (by decide) rfl dR_frozen_132 ?_
                exact endL hx hb hr hlk hK (0, rs_va r0, rs_ke r0, rs_lo r0, rs_ls r0, rs_fd r0, rs_dn r0, rs_wi r0, rs_wk r0, rs_st r0, rs_fl r0, rs_fe r0, rs_cr r0, rs_sp r0, rs_sd r0, rs_so r0, rs_tk r0, rs_co r0, rs_pr r0, rs_ky r0, rs_nu r0) (Or.inr ⟨s9, hs9, hx9, Or.inr ⟨hz1, Or.inr ⟨hb0, Or.inl ⟨i, hlt, hE, rfl, rfl⟩⟩⟩⟩) hP hD hS dR_frozen_133
          exact LOOP (q9 s9 - 0) 0 (by omega) hI H _ _ hl hP hD hS
        · skip
          refine lv_lload_n hx hb dR_frozen_41 rfl (lv_at hl 3 rfl) ?_
          refine gpi (va_runS (As := [.long y9]) (rest := [.ref (bd 0)]) F (kR_isCounter l D ks y9 H.size ) (va_cwS 1 ht (tb_st tb_664 tb_665 tb_4 tb_666) rfl rfl rfl ⟨by decide, by decide, by decide +kernel⟩ ⟨by decide, by decide⟩) (preS hK hN hP hD [] rfl rfl) rfl rfl hl.1 rfl (lv_room (Nat.le_of_ble_eq_true rfl)) dR_frozen_42 (by decide)) hP hD hS hA (fun r1 H locs q1 hP hS => ?_)
          refine lv_if_ne (tgt := 52) hx hb dR_frozen_45 rfl (fun hY => ?_) (fun hNY => ?_)
          · skip
            have hY : (0 ≤ y9 ∧ y9 ≤ (nI 3).toInt64) := (i4_iff _).mp (Classical.byContradiction (fun z => hY (by rw [q1]; exact bI_f z)))
            obtain ⟨c9, hc9, rfl⟩ := inL_of (by decide) hY
            refine lv_iconst (v := 0) hx hb dR_frozen_52 (by decide) ?_
            refine va_put (D := D) (ci := 3) (v := .int 0) (ty := .int) (C := RR) (T := TR) (N := 21) hx hb ht uw_R ty_R ty_R_ok nm_R hown hK hP hD hS 0 rfl rfl 0 (by decide) (ht _ tb_539) (fun _ h => h) rfl (by decide +kernel) rfl rfl (Nat.le_of_ble_eq_true rfl) dR_frozen_53 (fun H locs hP hD hS => ?_)
            have hP : va_P D vwCl [(bd 0, .inr (3, [.int 0, .ref (bd 1), .ref (bd 2), .ref (bd 3), .ref (bd 4), .ref (bd 5), .int (rs_dn r0), .int (rs_wi r0), .ref (bd 6), .int (rs_st r0), .int (rs_fl r0), .int (rs_fe r0), .int (rs_cr r0), .int (rs_sp r0), .int (rs_sd r0), .int (rs_so r0), .ref (bd 7), .ref (bd 8), .ref (bd 9), .ref (bd 10), .ref (bd 11)])), (bd 1, .inl (ks 0, 112, .inr (.inl (rs_va r0)))), (bd 2, .inl (ks 0, 112, .inr (.inl (rs_ke r0)))), (bd 3, .inl (ks 0, 448, .inr (.inl (rs_lo r0)))), (bd 4, .inl (ks 1, 112, .inl (rs_ls r0))), (bd 5, .inl (ks 2, 14, .inl (rs_fd r0))), (bd 6, .inl (ks 0, 31, .inr (.inl (rs_wk r0)))), (bd 7, .inl (ks 2, 2, .inl (rs_tk r0))), (bd 8, .inl (ks 0, 8, .inr (.inl (rs_co r0)))), (bd 9, .inl (ks 1, 2, .inl (rs_pr r0))), (bd 10, .inl (ks 0, 16, .inr (.inl (rs_ky r0)))), (bd 11, .inl (ks 0, 16, .inr (.inl (rs_nu r0))))] H := hP
            have hD : va_D A [(bd 0, .inr (3, [.int 0, .ref (bd 1), .ref (bd 2), .ref (bd 3), .ref (bd 4), .ref (bd 5), .int (rs_dn r0), .int (rs_wi r0), .ref (bd 6), .int (rs_st r0), .int (rs_fl r0), .int (rs_fe r0), .int (rs_cr r0), .int (rs_sp r0), .int (rs_sd r0), .int (rs_so r0), .ref (bd 7), .ref (bd 8), .ref (bd 9), .ref (bd 10), .ref (bd 11)])), (bd 1, .inl (ks 0, 112, .inr (.inl (rs_va r0)))), (bd 2, .inl (ks 0, 112, .inr (.inl (rs_ke r0)))), (bd 3, .inl (ks 0, 448, .inr (.inl (rs_lo r0)))), (bd 4, .inl (ks 1, 112, .inl (rs_ls r0))), (bd 5, .inl (ks 2, 14, .inl (rs_fd r0))), (bd 6, .inl (ks 0, 31, .inr (.inl (rs_wk r0)))), (bd 7, .inl (ks 2, 2, .inl (rs_tk r0))), (bd 8, .inl (ks 0, 8, .inr (.inl (rs_co r0)))), (bd 9, .inl (ks 1, 2, .inl (rs_pr r0))), (bd 10, .inl (ks 0, 16, .inr (.inl (rs_ky r0)))), (bd 11, .inl (ks 0, 16, .inr (.inl (rs_nu r0))))] := hD
            refine lv_aload_n hx hb dR_frozen_56 rfl (lv_at hl 0 rfl) ?_
            refine va_get (D := D) (ci := 3) (v := .int 0) (C := RR) (T := TR) (N := 21) hx hb ht uw_R hown hK hP 0 rfl rfl 0 (by decide) (ht _ tb_539) (fun _ h => h) rfl dR_frozen_57 ?_
            refine lv_if_gt (tgt := 67) hx hb dR_frozen_60 rfl (fun h => absurd h (by decide)) (fun _ => ?_)
            refine lv_iload_n hx hb dR_frozen_63 rfl (lv_at hl 2 rfl) ?_
            refine lv_if_eq (tgt := 90) hx hb dR_frozen_64 rfl (fun h => absurd h hb1) (fun _ => ?_)
            refine lv_aload_n hx hb dR_frozen_67 rfl (lv_at hl 0 rfl) ?_
            refine va_get (D := D) (ci := 3) (v := .int 0) (C := RR) (T := TR) (N := 21) hx hb ht uw_R hown hK hP 0 rfl rfl 0 (by decide) (ht _ tb_539) (fun _ h => h) rfl dR_frozen_68 ?_
            refine lv_if_le (tgt := 78) hx hb dR_frozen_71 rfl (fun _ => ?_) (fun h => absurd (by decide) h)
            refine lv_aload_n hx hb dR_frozen_78 rfl (lv_at hl 0 rfl) ?_
            refine va_get (D := D) (ci := 3) (v := .ref (bd 8)) (C := RR) (T := TR) (N := 21) hx hb ht uw_R hown hK hP 0 rfl rfl 17 (by decide) (ht _ tb_556) (fun _ h => h) rfl dR_frozen_79 ?_
            refine lv_iconst (v := nI 4) hx hb dR_frozen_82 (by decide) ?_
            refine lv_iload_n hx hb dR_frozen_83 rfl (lv_at hl 1 rfl) ?_
            refine lv_imul hx hb dR_frozen_84 ?_
            refine tp_i (nI (4 * s9)) (by rw [hx9, pk_mul]) ?_
            refine lv_lload_n hx hb dR_frozen_85 rfl (lv_at hl 3 rfl) ?_
            refine lv_l2i (v := (nI c9)) hx hb dR_frozen_86 (lN_i _) ?_
            refine lv_iadd hx hb dR_frozen_87 ?_
            refine tp_i (nI (4 * s9 + c9)) (nI_add _ _) ?_
            refine ra_l hx hb hK hP 8 rfl (4 * s9 + c9) (by omega) (by decide) rfl dR_frozen_88 ?_
            exact endL hx hb hr hlk hK (0, rs_va r0, rs_ke r0, rs_lo r0, rs_ls r0, rs_fd r0, rs_dn r0, rs_wi r0, rs_wk r0, rs_st r0, rs_fl r0, rs_fe r0, rs_cr r0, rs_sp r0, rs_sd r0, rs_so r0, rs_tk r0, rs_co r0, rs_pr r0, rs_ky r0, rs_nu r0) (Or.inr ⟨s9, hs9, hx9, Or.inr ⟨hz1, Or.inl ⟨hb1, Or.inr ⟨c9, hc9, rfl, rfl, rfl⟩⟩⟩⟩) hP hD hS dR_frozen_89
          · skip
            have hNY : ¬ (0 ≤ y9 ∧ y9 ≤ (nI 3).toInt64) := fun z => absurd hNY (by rw [q1, bI_t ((i4_iff _).mpr z)]; decide)
            refine lv_iconst (v := 1) hx hb dR_frozen_48 (by decide) ?_
            refine lv_goto (tgt := 53) hx hb dR_frozen_49 rfl ?_
            refine va_put (D := D) (ci := 3) (v := .int 1) (ty := .int) (C := RR) (T := TR) (N := 21) hx hb ht uw_R ty_R ty_R_ok nm_R hown hK hP hD hS 0 rfl rfl 0 (by decide) (ht _ tb_539) (fun _ h => h) rfl (by decide +kernel) rfl rfl (Nat.le_of_ble_eq_true rfl) dR_frozen_53 (fun H locs hP hD hS => ?_)
            have hP : va_P D vwCl [(bd 0, .inr (3, [.int 1, .ref (bd 1), .ref (bd 2), .ref (bd 3), .ref (bd 4), .ref (bd 5), .int (rs_dn r0), .int (rs_wi r0), .ref (bd 6), .int (rs_st r0), .int (rs_fl r0), .int (rs_fe r0), .int (rs_cr r0), .int (rs_sp r0), .int (rs_sd r0), .int (rs_so r0), .ref (bd 7), .ref (bd 8), .ref (bd 9), .ref (bd 10), .ref (bd 11)])), (bd 1, .inl (ks 0, 112, .inr (.inl (rs_va r0)))), (bd 2, .inl (ks 0, 112, .inr (.inl (rs_ke r0)))), (bd 3, .inl (ks 0, 448, .inr (.inl (rs_lo r0)))), (bd 4, .inl (ks 1, 112, .inl (rs_ls r0))), (bd 5, .inl (ks 2, 14, .inl (rs_fd r0))), (bd 6, .inl (ks 0, 31, .inr (.inl (rs_wk r0)))), (bd 7, .inl (ks 2, 2, .inl (rs_tk r0))), (bd 8, .inl (ks 0, 8, .inr (.inl (rs_co r0)))), (bd 9, .inl (ks 1, 2, .inl (rs_pr r0))), (bd 10, .inl (ks 0, 16, .inr (.inl (rs_ky r0)))), (bd 11, .inl (ks 0, 16, .inr (.inl (rs_nu r0))))] H := hP
            have hD : va_D A [(bd 0, .inr (3, [.int 1, .ref (bd 1), .ref (bd 2), .ref (bd 3), .ref (bd 4), .ref (bd 5), .int (rs_dn r0), .int (rs_wi r0), .ref (bd 6), .int (rs_st r0), .int (rs_fl r0), .int (rs_fe r0), .int (rs_cr r0), .int (rs_sp r0), .int (rs_sd r0), .int (rs_so r0), .ref (bd 7), .ref (bd 8), .ref (bd 9), .ref (bd 10), .ref (bd 11)])), (bd 1, .inl (ks 0, 112, .inr (.inl (rs_va r0)))), (bd 2, .inl (ks 0, 112, .inr (.inl (rs_ke r0)))), (bd 3, .inl (ks 0, 448, .inr (.inl (rs_lo r0)))), (bd 4, .inl (ks 1, 112, .inl (rs_ls r0))), (bd 5, .inl (ks 2, 14, .inl (rs_fd r0))), (bd 6, .inl (ks 0, 31, .inr (.inl (rs_wk r0)))), (bd 7, .inl (ks 2, 2, .inl (rs_tk r0))), (bd 8, .inl (ks 0, 8, .inr (.inl (rs_co r0)))), (bd 9, .inl (ks 1, 2, .inl (rs_pr r0))), (bd 10, .inl (ks 0, 16, .inr (.inl (rs_ky r0)))), (bd 11, .inl (ks 0, 16, .inr (.inl (rs_nu r0))))] := hD
            refine lv_aload_n hx hb dR_frozen_56 rfl (lv_at hl 0 rfl) ?_
            refine va_get (D := D) (ci := 3) (v := .int 1) (C := RR) (T := TR) (N := 21) hx hb ht uw_R hown hK hP 0 rfl rfl 0 (by decide) (ht _ tb_539) (fun _ h => h) rfl dR_frozen_57 ?_
            refine lv_if_gt (tgt := 67) hx hb dR_frozen_60 rfl (fun _ => ?_) (fun h => absurd (by decide) h)
            refine lv_aload_n hx hb dR_frozen_67 rfl (lv_at hl 0 rfl) ?_
            refine va_get (D := D) (ci := 3) (v := .int 1) (C := RR) (T := TR) (N := 21) hx hb ht uw_R hown hK hP 0 rfl rfl 0 (by decide) (ht _ tb_539) (fun _ h => h) rfl dR_frozen_68 ?_
            refine lv_if_le (tgt := 78) hx hb dR_frozen_71 rfl (fun h => absurd h (by decide)) (fun _ => ?_)
            refine lv_lconst (v := 0) hx hb dR_frozen_74 (by decide) ?_
            refine lv_goto (tgt := 89) hx hb dR_frozen_75 rfl ?_
            exact endL hx hb hr hlk hK (1, rs_va r0, rs_ke r0, rs_lo r0, rs_ls r0, rs_fd r0, rs_dn r0, rs_wi r0, rs_wk r0, rs_st r0, rs_fl r0, rs_fe r0, rs_cr r0, rs_sp r0, rs_sd r0, rs_so r0, rs_tk r0, rs_co r0, rs_pr r0, rs_ky r0, rs_nu r0) (Or.inr ⟨s9, hs9, hx9, Or.inr ⟨hz1, Or.inl ⟨hb1, Or.inl ⟨hNY, rfl⟩⟩⟩⟩) hP hD hS dR_frozen_89
    · skip
      refine lv_iconst (v := 1) hx hb dR_frozen_10 (by decide) ?_
      refine lv_goto (tgt := 15) hx hb dR_frozen_11 rfl ?_
      refine va_put (D := D) (ci := 3) (v := .int 1) (ty := .int) (C := RR) (T := TR) (N := 21) hx hb ht uw_R ty_R ty_R_ok nm_R hown hK hP hD hS 0 rfl rfl 0 (by decide) (ht _ tb_539) (fun _ h => h) rfl (by decide +kernel) rfl rfl (Nat.le_of_ble_eq_true rfl) dR_frozen_15 (fun H locs hP hD hS => ?_)
      have hP : va_P D vwCl [(bd 0, .inr (3, [.int 1, .ref (bd 1), .ref (bd 2), .ref (bd 3), .ref (bd 4), .ref (bd 5), .int (rs_dn r0), .int (rs_wi r0), .ref (bd 6), .int (rs_st r0), .int (rs_fl r0), .int (rs_fe r0), .int (rs_cr r0), .int (rs_sp r0), .int (rs_sd r0), .int (rs_so r0), .ref (bd 7), .ref (bd 8), .ref (bd 9), .ref (bd 10), .ref (bd 11)])), (bd 1, .inl (ks 0, 112, .inr (.inl (rs_va r0)))), (bd 2, .inl (ks 0, 112, .inr (.inl (rs_ke r0)))), (bd 3, .inl (ks 0, 448, .inr (.inl (rs_lo r0)))), (bd 4, .inl (ks 1, 112, .inl (rs_ls r0))), (bd 5, .inl (ks 2, 14, .inl (rs_fd r0))), (bd 6, .inl (ks 0, 31, .inr (.inl (rs_wk r0)))), (bd 7, .inl (ks 2, 2, .inl (rs_tk r0))), (bd 8, .inl (ks 0, 8, .inr (.inl (rs_co r0)))), (bd 9, .inl (ks 1, 2, .inl (rs_pr r0))), (bd 10, .inl (ks 0, 16, .inr (.inl (rs_ky r0)))), (bd 11, .inl (ks 0, 16, .inr (.inl (rs_nu r0))))] H := hP
      have hD : va_D A [(bd 0, .inr (3, [.int 1, .ref (bd 1), .ref (bd 2), .ref (bd 3), .ref (bd 4), .ref (bd 5), .int (rs_dn r0), .int (rs_wi r0), .ref (bd 6), .int (rs_st r0), .int (rs_fl r0), .int (rs_fe r0), .int (rs_cr r0), .int (rs_sp r0), .int (rs_sd r0), .int (rs_so r0), .ref (bd 7), .ref (bd 8), .ref (bd 9), .ref (bd 10), .ref (bd 11)])), (bd 1, .inl (ks 0, 112, .inr (.inl (rs_va r0)))), (bd 2, .inl (ks 0, 112, .inr (.inl (rs_ke r0)))), (bd 3, .inl (ks 0, 448, .inr (.inl (rs_lo r0)))), (bd 4, .inl (ks 1, 112, .inl (rs_ls r0))), (bd 5, .inl (ks 2, 14, .inl (rs_fd r0))), (bd 6, .inl (ks 0, 31, .inr (.inl (rs_wk r0)))), (bd 7, .inl (ks 2, 2, .inl (rs_tk r0))), (bd 8, .inl (ks 0, 8, .inr (.inl (rs_co r0)))), (bd 9, .inl (ks 1, 2, .inl (rs_pr r0))), (bd 10, .inl (ks 0, 16, .inr (.inl (rs_ky r0)))), (bd 11, .inl (ks 0, 16, .inr (.inl (rs_nu r0))))] := hD
      refine lv_aload_n hx hb dR_frozen_18 rfl (lv_at hl 0 rfl) ?_
      refine va_get (D := D) (ci := 3) (v := .int 1) (C := RR) (T := TR) (N := 21) hx hb ht uw_R hown hK hP 0 rfl rfl 0 (by decide) (ht _ tb_539) (fun _ h => h) rfl dR_frozen_19 ?_
      refine lv_if_le (tgt := 27) hx hb dR_frozen_22 rfl (fun h => absurd h (by decide)) (fun _ => ?_)
      refine lv_lconst (v := 0) hx hb dR_frozen_25 (by decide) ?_
      exact endL hx hb hr hlk hK (1, rs_va r0, rs_ke r0, rs_lo r0, rs_ls r0, rs_fd r0, rs_dn r0, rs_wi r0, rs_wk r0, rs_st r0, rs_fl r0, rs_fe r0, rs_cr r0, rs_sp r0, rs_sd r0, rs_so r0, rs_tk r0, rs_co r0, rs_pr r0, rs_ky r0, rs_nu r0) (Or.inl ⟨fun z => hB z.2, rfl⟩) hP hD hS dR_frozen_26

/-- what look() of the reference answers -/
def RLk (r0 : MS) (n9 p9 : Nat) (x9 r : Int32) : Prop := (x9 = nI 0 ∧ r = if rs_dn r0 = 0 then nI 0 else nI 1) ∨ (x9 = nI 1 ∧ r = if rs_wi r0 = 0 then nI 0 else nI 1) ∨ (x9 = nI 2 ∧ r = if rs_dn r0 = 0 then nI n9 else -1) ∨ (x9 = nI 3 ∧ r = if rs_dn r0 = 0 then nI p9 else -1) ∨ (x9 = nI 4 ∧ r = rs_st r0) ∨ (x9 = nI 5 ∧ r = rs_fl r0) ∨ (x9 = nI 6 ∧ r = rs_fe r0) ∨ (x9 = nI 7 ∧ r = rs_cr r0) ∨ (x9 = nI 8 ∧ r = rs_sp r0) ∨ ((∀ j, j ≤ 8 → ¬ x9 = nI j) ∧ r = -1)
theorem WK_va {r0 : MS} {w : Nat} (h : rs_wi r0 = 0) (hw : w < 31) : rs_va r0 w = WK r0 w := by
  unfold WK
  rw [if_pos h]
  exact (if_pos hw).symm
theorem WK_wk {r0 : MS} (h : ¬ rs_wi r0 = 0) (w : Nat) : rs_wk r0 w = WK r0 w := by
  unfold WK
  rw [if_neg h]
theorem lk_small {j : Nat} {x : Int32} (hj : j ≤ 8) (z : x = nI j) (g0 : ¬ x = 0) (g1 : ¬ x = nI 1) (g2 : ¬ x = nI 2) (g3 : ¬ x = nI 3) (l4 : ¬ nI 4 ≤ x) : False := by
  subst z
  have h4 : j < 4 := (nI_ltI (by omega) (by decide)).mp (Int32.not_le.mp l4)
  rcases Nat.lt_or_ge j 1 with h | h
  · exact g0 (by rw [show j = 0 by omega]; rfl)
  rcases Nat.lt_or_ge j 2 with h | h
  · exact g1 (by rw [show j = 1 by omega])
  rcases Nat.lt_or_ge j 3 with h | h
  · exact g2 (by rw [show j = 2 by omega])
  exact g3 (by rw [show j = 3 by omega])
theorem lk_big {j : Nat} {x : Int32} (hj : j ≤ 8) (z : x = nI j) (b4 : nI 4 ≤ x) (g4 : ¬ x = nI 4) (g5 : ¬ x = nI 5) (g6 : ¬ x = nI 6) (g7 : ¬ x = nI 7) (g8 : ¬ x = nI 8) : False := by
  subst z
  have h4 : ¬ j < 4 := fun z => Int32.not_lt.mpr b4 ((nI_ltI (by omega) (by decide)).mpr z)
  rcases Nat.lt_or_ge j 5 with h | h
  · exact g4 (by rw [show j = 4 by omega])
  rcases Nat.lt_or_ge j 6 with h | h
  · exact g5 (by rw [show j = 5 by omega])
  rcases Nat.lt_or_ge j 7 with h | h
  · exact g6 (by rw [show j = 6 by omega])
  rcases Nat.lt_or_ge j 8 with h | h
  · exact g7 (by rw [show j = 7 by omega])
  exact g8 (by rw [show j = 8 by omega])
set_option maxHeartbeats 4000000 in
set_option maxRecDepth 100000 in
theorem kR_look (l : Launch) (D : va_G) (ks : Nat → ClassId) (bd : Nat → Nat) (r0 : MS) (f9 n9 p9 : Nat) (x9 : Int32) (sz : Nat) (hwf : rs_dn r0 = 0 → WfN f9 n9 p9 (WK r0))  : Met l yR_look (.code yR_look cR_look 3 (some .int) :: TB) ({ frames := 0, cells := 0, slots := 0, locals := 0 } : Room) (Pcw D ks [.ref (bd 0), .int x9] sz [(bd 0, .inr (3, [.int (rs_th r0), .ref (bd 1), .ref (bd 2), .ref (bd 3), .ref (bd 4), .ref (bd 5), .int (rs_dn r0), .int (rs_wi r0), .ref (bd 6), .int (rs_st r0), .int (rs_fl r0), .int (rs_fe r0), .int (rs_cr r0), .int (rs_sp r0), .int (rs_sd r0), .int (rs_so r0), .ref (bd 7), .ref (bd 8), .ref (bd 9), .ref (bd 10), .ref (bd 11)])), (bd 1, .inl (ks 0, 112, .inr (.inl (rs_va r0)))), (bd 2, .inl (ks 0, 112, .inr (.inl (rs_ke r0)))), (bd 3, .inl (ks 0, 448, .inr (.inl (rs_lo r0)))), (bd 4, .inl (ks 1, 112, .inl (rs_ls r0))), (bd 5, .inl (ks 2, 14, .inl (rs_fd r0))), (bd 6, .inl (ks 0, 31, .inr (.inl (rs_wk r0)))), (bd 7, .inl (ks 2, 2, .inl (rs_tk r0))), (bd 8, .inl (ks 0, 8, .inr (.inl (rs_co r0)))), (bd 9, .inl (ks 1, 2, .inl (rs_pr r0))), (bd 10, .inl (ks 0, 16, .inr (.inl (rs_ky r0)))), (bd 11, .inl (ks 0, 16, .inr (.inl (rs_nu r0))))]) (va_Qi (S := MS) (fun r u => u = rs_thr r0 0 ∧ RLk r0 n9 p9 x9 r) (fun u t => Bw D ks (va_A [(bd 0, .inr (3, [.int (rs_th r0), .ref (bd 1), .ref (bd 2), .ref (bd 3), .ref (bd 4), .ref (bd 5), .int (rs_dn r0), .int (rs_wi r0), .ref (bd 6), .int (rs_st r0), .int (rs_fl r0), .int (rs_fe r0), .int (rs_cr r0), .int (rs_sp r0), .int (rs_sd r0), .int (rs_so r0), .ref (bd 7), .ref (bd 8), .ref (bd 9), .ref (bd 10), .ref (bd 11)])), (bd 1, .inl (ks 0, 112, .inr (.inl (rs_va r0)))), (bd 2, .inl (ks 0, 112, .inr (.inl (rs_ke r0)))), (bd 3, .inl (ks 0, 448, .inr (.inl (rs_lo r0)))), (bd 4, .inl (ks 1, 112, .inl (rs_ls r0))), (bd 5, .inl (ks 2, 14, .inl (rs_fd r0))), (bd 6, .inl (ks 0, 31, .inr (.inl (rs_wk r0)))), (bd 7, .inl (ks 2, 2, .inl (rs_tk r0))), (bd 8, .inl (ks 0, 8, .inr (.inl (rs_co r0)))), (bd 9, .inl (ks 1, 2, .inl (rs_pr r0))), (bd 10, .inl (ks 0, 16, .inr (.inl (rs_ky r0)))), (bd 11, .inl (ks 0, 16, .inr (.inl (rs_nu r0))))] sz) ((fun u => wR ks bd u) u) t) (va_A [(bd 0, .inr (3, [.int (rs_th r0), .ref (bd 1), .ref (bd 2), .ref (bd 3), .ref (bd 4), .ref (bd 5), .int (rs_dn r0), .int (rs_wi r0), .ref (bd 6), .int (rs_st r0), .int (rs_fl r0), .int (rs_fe r0), .int (rs_cr r0), .int (rs_sp r0), .int (rs_sd r0), .int (rs_so r0), .ref (bd 7), .ref (bd 8), .ref (bd 9), .ref (bd 10), .ref (bd 11)])), (bd 1, .inl (ks 0, 112, .inr (.inl (rs_va r0)))), (bd 2, .inl (ks 0, 112, .inr (.inl (rs_ke r0)))), (bd 3, .inl (ks 0, 448, .inr (.inl (rs_lo r0)))), (bd 4, .inl (ks 1, 112, .inl (rs_ls r0))), (bd 5, .inl (ks 2, 14, .inl (rs_fd r0))), (bd 6, .inl (ks 0, 31, .inr (.inl (rs_wk r0)))), (bd 7, .inl (ks 2, 2, .inl (rs_tk r0))), (bd 8, .inl (ks 0, 8, .inr (.inl (rs_co r0)))), (bd 9, .inl (ks 1, 2, .inl (rs_pr r0))), (bd 10, .inl (ks 0, 16, .inr (.inl (rs_ky r0)))), (bd 11, .inl (ks 0, 16, .inr (.inl (rs_nu r0))))] sz)) 0 0 (va_A [(bd 0, .inr (3, [.int (rs_th r0), .ref (bd 1), .ref (bd 2), .ref (bd 3), .ref (bd 4), .ref (bd 5), .int (rs_dn r0), .int (rs_wi r0), .ref (bd 6), .int (rs_st r0), .int (rs_fl r0), .int (rs_fe r0), .int (rs_cr r0), .int (rs_sp r0), .int (rs_sd r0), .int (rs_so r0), .ref (bd 7), .ref (bd 8), .ref (bd 9), .ref (bd 10), .ref (bd 11)])), (bd 1, .inl (ks 0, 112, .inr (.inl (rs_va r0)))), (bd 2, .inl (ks 0, 112, .inr (.inl (rs_ke r0)))), (bd 3, .inl (ks 0, 448, .inr (.inl (rs_lo r0)))), (bd 4, .inl (ks 1, 112, .inl (rs_ls r0))), (bd 5, .inl (ks 2, 14, .inl (rs_fd r0))), (bd 6, .inl (ks 0, 31, .inr (.inl (rs_wk r0)))), (bd 7, .inl (ks 2, 2, .inl (rs_tk r0))), (bd 8, .inl (ks 0, 8, .inr (.inl (rs_co r0)))), (bd 9, .inl (ks 1, 2, .inl (rs_pr r0))), (bd 10, .inl (ks 0, 16, .inr (.inl (rs_ky r0)))), (bd 11, .inl (ks 0, 16, .inr (.inl (rs_nu r0))))] sz) := by
  refine bodyI (S := MS) (wN := (fun u => wR ks bd u)) (post := (fun r u => u = rs_thr r0 0 ∧ RLk r0 n9 p9 x9 r)) (by decide) (Nat.le_of_ble_eq_true rfl) (fun p e s m below meth c A ls F hr hlk hK hN hA hsz hP hD hS hl => ?_)
  obtain ⟨hx, hb, hml, hown, ht⟩ := F
  have hown : s.vm.findClass RR = some m.cls := hown
  have F : CallFix p m c cR_look 3 s ([.ref (bd 0), .int x9] : List Value).toArray TB RR := ⟨hx, hb, hml, hown, ht⟩
  have hl : lv_has ls 3 [(0, .ref (bd 0)), (1, .int x9)] := hl
  refine lv_aload_n hx hb dR_look_0 rfl (lv_at hl 0 rfl) ?_
  refine lv_iconst (v := 0) hx hb dR_look_1 (by decide) ?_
  refine va_put (D := D) (ci := 3) (v := .int 0) (ty := .int) (C := RR) (T := TR) (N := 21) hx hb ht uw_R ty_R ty_R_ok nm_R hown hK hP hD hS 0 rfl rfl 0 (by decide) (ht _ tb_539) (fun _ h => h) rfl (by decide +kernel) rfl rfl (Nat.le_of_ble_eq_true rfl) dR_look_2 (fun H locs hP hD hS => ?_)
  have hP : va_P D vwCl [(bd 0, .inr (3, [.int 0, .ref (bd 1), .ref (bd 2), .ref (bd 3), .ref (bd 4), .ref (bd 5), .int (rs_dn r0), .int (rs_wi r0), .ref (bd 6), .int (rs_st r0), .int (rs_fl r0), .int (rs_fe r0), .int (rs_cr r0), .int (rs_sp r0), .int (rs_sd r0), .int (rs_so r0), .ref (bd 7), .ref (bd 8), .ref (bd 9), .ref (bd 10), .ref (bd 11)])), (bd 1, .inl (ks 0, 112, .inr (.inl (rs_va r0)))), (bd 2, .inl (ks 0, 112, .inr (.inl (rs_ke r0)))), (bd 3, .inl (ks 0, 448, .inr (.inl (rs_lo r0)))), (bd 4, .inl (ks 1, 112, .inl (rs_ls r0))), (bd 5, .inl (ks 2, 14, .inl (rs_fd r0))), (bd 6, .inl (ks 0, 31, .inr (.inl (rs_wk r0)))), (bd 7, .inl (ks 2, 2, .inl (rs_tk r0))), (bd 8, .inl (ks 0, 8, .inr (.inl (rs_co r0)))), (bd 9, .inl (ks 1, 2, .inl (rs_pr r0))), (bd 10, .inl (ks 0, 16, .inr (.inl (rs_ky r0)))), (bd 11, .inl (ks 0, 16, .inr (.inl (rs_nu r0))))] H := hP
  have hD : va_D A [(bd 0, .inr (3, [.int 0, .ref (bd 1), .ref (bd 2), .ref (bd 3), .ref (bd 4), .ref (bd 5), .int (rs_dn r0), .int (rs_wi r0), .ref (bd 6), .int (rs_st r0), .int (rs_fl r0), .int (rs_fe r0), .int (rs_cr r0), .int (rs_sp r0), .int (rs_sd r0), .int (rs_so r0), .ref (bd 7), .ref (bd 8), .ref (bd 9), .ref (bd 10), .ref (bd 11)])), (bd 1, .inl (ks 0, 112, .inr (.inl (rs_va r0)))), (bd 2, .inl (ks 0, 112, .inr (.inl (rs_ke r0)))), (bd 3, .inl (ks 0, 448, .inr (.inl (rs_lo r0)))), (bd 4, .inl (ks 1, 112, .inl (rs_ls r0))), (bd 5, .inl (ks 2, 14, .inl (rs_fd r0))), (bd 6, .inl (ks 0, 31, .inr (.inl (rs_wk r0)))), (bd 7, .inl (ks 2, 2, .inl (rs_tk r0))), (bd 8, .inl (ks 0, 8, .inr (.inl (rs_co r0)))), (bd 9, .inl (ks 1, 2, .inl (rs_pr r0))), (bd 10, .inl (ks 0, 16, .inr (.inl (rs_ky r0)))), (bd 11, .inl (ks 0, 16, .inr (.inl (rs_nu r0))))] := hD
  refine lv_iload_n hx hb dR_look_5 rfl (lv_at hl 1 rfl) ?_
  refine lv_iconst (v := nI 2) hx hb dR_look_6 (by decide) ?_
  refine lv_icmp_eq (tgt := 15) hx hb dR_look_7 rfl (fun e2 => ?_) (fun g2 => ?_)
  · skip
    refine lv_iload_n hx hb dR_look_15 rfl (lv_at hl 1 rfl) ?_
    refine lv_iconst (v := nI 2) hx hb dR_look_16 (by decide) ?_
    refine lv_icmp_ne (tgt := 24) hx hb dR_look_17 rfl (fun h => absurd e2 h) (fun _ => ?_)
    refine lv_iconst (v := nI 5) hx hb dR_look_20 (by decide) ?_
    refine lv_goto (tgt := 26) hx hb dR_look_21 rfl ?_
    refine lv_istore_n (lv' := [(2, .int (nI 5)), (0, .ref (bd 0)), (1, .int x9)]) hx hb dR_look_26 rfl hl (by decide) rfl (fun ls hl => ?_)
    refine lv_aload_n hx hb dR_look_27 rfl (lv_at hl 1 rfl) ?_
    refine va_get (D := D) (ci := 3) (v := .int (rs_dn r0)) (C := RR) (T := TR) (N := 21) hx hb ht uw_R hown hK hP 0 rfl rfl 6 (by decide) (ht _ tb_545) (fun _ h => h) rfl dR_look_28 ?_
    refine lv_if_eq (tgt := 38) hx hb dR_look_31 rfl (fun d0 => ?_) (fun d1 => ?_)
    · skip
      obtain ⟨hf, hn, hp, h4, h5, h14, hso⟩ := hwf d0
      refine lv_aload_n hx hb dR_look_38 rfl (lv_at hl 1 rfl) ?_
      refine va_get (D := D) (ci := 3) (v := .int (rs_wi r0)) (C := RR) (T := TR) (N := 21) hx hb ht uw_R hown hK hP 0 rfl rfl 7 (by decide) (ht _ tb_546) (fun _ h => h) rfl dR_look_39 ?_
      refine lv_if_eq (tgt := 54) hx hb dR_look_42 rfl (fun w0 => ?_) (fun w1 => ?_)
      · skip
        refine lv_aload_n hx hb dR_look_54 rfl (lv_at hl 1 rfl) ?_
        refine va_get (D := D) (ci := 3) (v := .ref (bd 1)) (C := RR) (T := TR) (N := 21) hx hb ht uw_R hown hK hP 0 rfl rfl 1 (by decide) (ht _ tb_540) (fun _ h => h) rfl dR_look_55 ?_
        refine lv_iload_n hx hb dR_look_58 rfl (lv_at hl 0 rfl) ?_
        refine ra_l hx hb hK hP 1 rfl 5 (by decide) (by decide) rfl dR_look_59 ?_
        refine tp_l (lN n9) ((WK_va w0 (by decide)).trans h5) ?_
        refine lv_l2i (v := (nI n9)) hx hb dR_look_60 (lN_i _) ?_
        exact endI hx hb hr hlk hK (0, rs_va r0, rs_ke r0, rs_lo r0, rs_ls r0, rs_fd r0, rs_dn r0, rs_wi r0, rs_wk r0, rs_st r0, rs_fl r0, rs_fe r0, rs_cr r0, rs_sp r0, rs_sd r0, rs_so r0, rs_tk r0, rs_co r0, rs_pr r0, rs_ky r0, rs_nu r0) (⟨rfl, Or.inr (Or.inr (Or.inl ⟨e2, (if_pos d0).symm⟩))⟩) hP hD hS dR_look_61
      · skip
        refine lv_aload_n hx hb dR_look_45 rfl (lv_at hl 1 rfl) ?_
        refine va_get (D := D) (ci := 3) (v := .ref (bd 6)) (C := RR) (T := TR) (N := 21) hx hb ht uw_R hown hK hP 0 rfl rfl 8 (by decide) (ht _ tb_547) (fun _ h => h) rfl dR_look_46 ?_
        refine lv_iload_n hx hb dR_look_49 rfl (lv_at hl 0 rfl) ?_
        refine ra_l hx hb hK hP 6 rfl 5 (by decide) (by decide) rfl dR_look_50 ?_
        refine lv_goto (tgt := 60) hx hb dR_look_51 rfl ?_
        refine tp_l (lN n9) ((WK_wk w1 _).trans h5) ?_
        refine lv_l2i (v := (nI n9)) hx hb dR_look_60 (lN_i _) ?_
        exact endI hx hb hr hlk hK (0, rs_va r0, rs_ke r0, rs_lo r0, rs_ls r0, rs_fd r0, rs_dn r0, rs_wi r0, rs_wk r0, rs_st r0, rs_fl r0, rs_fe r0, rs_cr r0, rs_sp r0, rs_sd r0, rs_so r0, rs_tk r0, rs_co r0, rs_pr r0, rs_ky r0, rs_nu r0) (⟨rfl, Or.inr (Or.inr (Or.inl ⟨e2, (if_pos d0).symm⟩))⟩) hP hD hS dR_look_61
    · skip
      refine lv_iconst (v := (-1)) hx hb dR_look_34 (by decide) ?_
      refine lv_goto (tgt := 61) hx hb dR_look_35 rfl ?_
      exact endI hx hb hr hlk hK (0, rs_va r0, rs_ke r0, rs_lo r0, rs_ls r0, rs_fd r0, rs_dn r0, rs_wi r0, rs_wk r0, rs_st r0, rs_fl r0, rs_fe r0, rs_cr r0, rs_sp r0, rs_sd r0, rs_so r0, rs_tk r0, rs_co r0, rs_pr r0, rs_ky r0, rs_nu r0) (⟨rfl, Or.inr (Or.inr (Or.inl ⟨e2, (if_neg d1).symm⟩))⟩) hP hD hS dR_look_61
  · skip
    refine lv_iload_n hx hb dR_look_10 rfl (lv_at hl 1 rfl) ?_
    refine lv_iconst (v := nI 3) hx hb dR_look_11 (by decide) ?_
    refine lv_icmp_ne (tgt := 62) hx hb dR_look_12 rfl (fun g3 => ?_) (fun e3 => ?_)
    · skip
      refine lv_iload_n hx hb dR_look_62 rfl (lv_at hl 1 rfl) ?_
      refine lv_iconst (v := nI 4) hx hb dR_look_63 (by decide) ?_
      refine lv_icmp_ge (tgt := 108) hx hb dR_look_64 rfl (fun b4 => ?_) (fun l4 => ?_)
      · skip
        refine lv_iload_n hx hb dR_look_108 rfl (lv_at hl 1 rfl) ?_
        refine lv_iconst (v := nI 4) hx hb dR_look_109 (by decide) ?_
        refine lv_icmp_ne (tgt := 120) hx hb dR_look_110 rfl (fun g4 => ?_) (fun e4 => ?_)
        · skip
          refine lv_iload_n hx hb dR_look_120 rfl (lv_at hl 1 rfl) ?_
          refine lv_iconst (v := nI 5) hx hb dR_look_121 (by decide) ?_
          refine lv_icmp_ne (tgt := 132) hx hb dR_look_122 rfl (fun g5 => ?_) (fun e5 => ?_)
          · skip
            refine lv_iload_n hx hb dR_look_132 rfl (lv_at hl 1 rfl) ?_
            refine lv_bipush (v := nI 6) hx hb dR_look_133 (by decide) ?_
            refine lv_icmp_ne (tgt := 145) hx hb dR_look_135 rfl (fun g6 => ?_) (fun e6 => ?_)
            · skip
              refine lv_iload_n hx hb dR_look_145 rfl (lv_at hl 1 rfl) ?_
              refine lv_bipush (v := nI 7) hx hb dR_look_146 (by decide) ?_
              refine lv_icmp_ne (tgt := 158) hx hb dR_look_148 rfl (fun g7 => ?_) (fun e7 => ?_)
              · skip
                refine lv_iload_n hx hb dR_look_158 rfl (lv_at hl 1 rfl) ?_
                refine lv_bipush (v := nI 8) hx hb dR_look_159 (by decide) ?_
                refine lv_icmp_ne (tgt := 171) hx hb dR_look_161 rfl (fun g8 => ?_) (fun e8 => ?_)
                · skip
                  refine lv_iconst (v := (-1)) hx hb dR_look_171 (by decide) ?_
                  exact endI hx hb hr hlk hK (0, rs_va r0, rs_ke r0, rs_lo r0, rs_ls r0, rs_fd r0, rs_dn r0, rs_wi r0, rs_wk r0, rs_st r0, rs_fl r0, rs_fe r0, rs_cr r0, rs_sp r0, rs_sd r0, rs_so r0, rs_tk r0, rs_co r0, rs_pr r0, rs_ky r0, rs_nu r0) (⟨rfl, Or.inr (Or.inr (Or.inr (Or.inr (Or.inr (Or.inr (Or.inr (Or.inr (Or.inr (⟨fun j hj z => lk_big hj z b4 g4 g5 g6 g7 g8, rfl⟩)))))))))⟩) hP hD hS dR_look_172
                · skip
                  refine lv_aload_n hx hb dR_look_164 rfl (lv_at hl 0 rfl) ?_
                  refine va_get (D := D) (ci := 3) (v := .int (rs_sp r0)) (C := RR) (T := TR) (N := 21) hx hb ht uw_R hown hK hP 0 rfl rfl 13 (by decide) (ht _ tb_552) (fun _ h => h) rfl dR_look_165 ?_
                  refine lv_goto (tgt := 172) hx hb dR_look_168 rfl ?_
                  exact endI hx hb hr hlk hK (0, rs_va r0, rs_ke r0, rs_lo r0, rs_ls r0, rs_fd r0, rs_dn r0, rs_wi r0, rs_wk r0, rs_st r0, rs_fl r0, rs_fe r0, rs_cr r0, rs_sp r0, rs_sd r0, rs_so r0, rs_tk r0, rs_co r0, rs_pr r0, rs_ky r0, rs_nu r0) (⟨rfl, Or.inr (Or.inr (Or.inr (Or.inr (Or.inr (Or.inr (Or.inr (Or.inr (Or.inl ⟨e8, rfl⟩))))))))⟩) hP hD hS dR_look_172
              · skip
                refine lv_aload_n hx hb dR_look_151 rfl (lv_at hl 0 rfl) ?_
                refine va_get (D := D) (ci := 3) (v := .int (rs_cr r0)) (C := RR) (T := TR) (N := 21) hx hb ht uw_R hown hK hP 0 rfl rfl 12 (by decide) (ht _ tb_551) (fun _ h => h) rfl dR_look_152 ?_
                refine lv_goto (tgt := 172) hx hb dR_look_155 rfl ?_
                exact endI hx hb hr hlk hK (0, rs_va r0, rs_ke r0, rs_lo r0, rs_ls r0, rs_fd r0, rs_dn r0, rs_wi r0, rs_wk r0, rs_st r0, rs_fl r0, rs_fe r0, rs_cr r0, rs_sp r0, rs_sd r0, rs_so r0, rs_tk r0, rs_co r0, rs_pr r0, rs_ky r0, rs_nu r0) (⟨rfl, Or.inr (Or.inr (Or.inr (Or.inr (Or.inr (Or.inr (Or.inr (Or.inl ⟨e7, rfl⟩)))))))⟩) hP hD hS dR_look_172
            · skip
              refine lv_aload_n hx hb dR_look_138 rfl (lv_at hl 0 rfl) ?_
              refine va_get (D := D) (ci := 3) (v := .int (rs_fe r0)) (C := RR) (T := TR) (N := 21) hx hb ht uw_R hown hK hP 0 rfl rfl 11 (by decide) (ht _ tb_550) (fun _ h => h) rfl dR_look_139 ?_
              refine lv_goto (tgt := 172) hx hb dR_look_142 rfl ?_
              exact endI hx hb hr hlk hK (0, rs_va r0, rs_ke r0, rs_lo r0, rs_ls r0, rs_fd r0, rs_dn r0, rs_wi r0, rs_wk r0, rs_st r0, rs_fl r0, rs_fe r0, rs_cr r0, rs_sp r0, rs_sd r0, rs_so r0, rs_tk r0, rs_co r0, rs_pr r0, rs_ky r0, rs_nu r0) (⟨rfl, Or.inr (Or.inr (Or.inr (Or.inr (Or.inr (Or.inr (Or.inl ⟨e6, rfl⟩))))))⟩) hP hD hS dR_look_172
          · skip
            refine lv_aload_n hx hb dR_look_125 rfl (lv_at hl 0 rfl) ?_
            refine va_get (D := D) (ci := 3) (v := .int (rs_fl r0)) (C := RR) (T := TR) (N := 21) hx hb ht uw_R hown hK hP 0 rfl rfl 10 (by decide) (ht _ tb_549) (fun _ h => h) rfl dR_look_126 ?_
            refine lv_goto (tgt := 172) hx hb dR_look_129 rfl ?_
            exact endI hx hb hr hlk hK (0, rs_va r0, rs_ke r0, rs_lo r0, rs_ls r0, rs_fd r0, rs_dn r0, rs_wi r0, rs_wk r0, rs_st r0, rs_fl r0, rs_fe r0, rs_cr r0, rs_sp r0, rs_sd r0, rs_so r0, rs_tk r0, rs_co r0, rs_pr r0, rs_ky r0, rs_nu r0) (⟨rfl, Or.inr (Or.inr (Or.inr (Or.inr (Or.inr (Or.inl ⟨e5, rfl⟩)))))⟩) hP hD hS dR_look_172
        · skip
          refine lv_aload_n hx hb dR_look_113 rfl (lv_at hl 0 rfl) ?_
          refine va_get (D := D) (ci := 3) (v := .int (rs_st r0)) (C := RR) (T := TR) (N := 21) hx hb ht uw_R hown hK hP 0 rfl rfl 9 (by decide) (ht _ tb_548) (fun _ h => h) rfl dR_look_114 ?_
          refine lv_goto (tgt := 172) hx hb dR_look_117 rfl ?_
          exact endI hx hb hr hlk hK (0, rs_va r0, rs_ke r0, rs_lo r0, rs_ls r0, rs_fd r0, rs_dn r0, rs_wi r0, rs_wk r0, rs_st r0, rs_fl r0, rs_fe r0, rs_cr r0, rs_sp r0, rs_sd r0, rs_so r0, rs_tk r0, rs_co r0, rs_pr r0, rs_ky r0, rs_nu r0) (⟨rfl, Or.inr (Or.inr (Or.inr (Or.inr (Or.inl ⟨e4, rfl⟩))))⟩) hP hD hS dR_look_172
      · skip
        refine lv_iload_n hx hb dR_look_67 rfl (lv_at hl 1 rfl) ?_
        refine lv_if_ne (tgt := 86) hx hb dR_look_68 rfl (fun g0 => ?_) (fun e0 => ?_)
        · skip
          refine lv_iload_n hx hb dR_look_86 rfl (lv_at hl 1 rfl) ?_
          refine lv_iconst (v := nI 1) hx hb dR_look_87 (by decide) ?_
          refine lv_icmp_ne (tgt := 106) hx hb dR_look_88 rfl (fun g1 => ?_) (fun e1 => ?_)
          · skip
            refine lv_iconst (v := (-1)) hx hb dR_look_106 (by decide) ?_
            exact endI hx hb hr hlk hK (0, rs_va r0, rs_ke r0, rs_lo r0, rs_ls r0, rs_fd r0, rs_dn r0, rs_wi r0, rs_wk r0, rs_st r0, rs_fl r0, rs_fe r0, rs_cr r0, rs_sp r0, rs_sd r0, rs_so r0, rs_tk r0, rs_co r0, rs_pr r0, rs_ky r0, rs_nu r0) (⟨rfl, Or.inr (Or.inr (Or.inr (Or.inr (Or.inr (Or.inr (Or.inr (Or.inr (Or.inr (⟨fun j hj z => lk_small hj z g0 g1 g2 g3 l4, rfl⟩)))))))))⟩) hP hD hS dR_look_107
          · skip
            refine lv_aload_n hx hb dR_look_91 rfl (lv_at hl 0 rfl) ?_
            refine va_get (D := D) (ci := 3) (v := .int (rs_wi r0)) (C := RR) (T := TR) (N := 21) hx hb ht uw_R hown hK hP 0 rfl rfl 7 (by decide) (ht _ tb_546) (fun _ h => h) rfl dR_look_92 ?_
            refine lv_if_eq (tgt := 102) hx hb dR_look_95 rfl (fun w0 => ?_) (fun w1 => ?_)
            · skip
              refine lv_iconst (v := nI 0) hx hb dR_look_102 (by decide) ?_
              refine lv_goto (tgt := 107) hx hb dR_look_103 rfl ?_
              exact endI hx hb hr hlk hK (0, rs_va r0, rs_ke r0, rs_lo r0, rs_ls r0, rs_fd r0, rs_dn r0, rs_wi r0, rs_wk r0, rs_st r0, rs_fl r0, rs_fe r0, rs_cr r0, rs_sp r0, rs_sd r0, rs_so r0, rs_tk r0, rs_co r0, rs_pr r0, rs_ky r0, rs_nu r0) (⟨rfl, Or.inr (Or.inl ⟨e1, (if_pos w0).symm⟩)⟩) hP hD hS dR_look_107
            · skip
              refine lv_iconst (v := nI 1) hx hb dR_look_98 (by decide) ?_
              refine lv_goto (tgt := 107) hx hb dR_look_99 rfl ?_
              exact endI hx hb hr hlk hK (0, rs_va r0, rs_ke r0, rs_lo r0, rs_ls r0, rs_fd r0, rs_dn r0, rs_wi r0, rs_wk r0, rs_st r0, rs_fl r0, rs_fe r0, rs_cr r0, rs_sp r0, rs_sd r0, rs_so r0, rs_tk r0, rs_co r0, rs_pr r0, rs_ky r0, rs_nu r0) (⟨rfl, Or.inr (Or.inl ⟨e1, (if_neg w1).symm⟩)⟩) hP hD hS dR_look_107
        · skip
          refine lv_aload_n hx hb dR_look_71 rfl (lv_at hl 0 rfl) ?_
          refine va_get (D := D) (ci := 3) (v := .int (rs_dn r0)) (C := RR) (T := TR) (N := 21) hx hb ht uw_R hown hK hP 0 rfl rfl 6 (by decide) (ht _ tb_545) (fun _ h => h) rfl dR_look_72 ?_
          refine lv_if_eq (tgt := 82) hx hb dR_look_75 rfl (fun d0 => ?_) (fun d1 => ?_)
          · skip
            refine lv_iconst (v := nI 0) hx hb dR_look_82 (by decide) ?_
            refine lv_goto (tgt := 107) hx hb dR_look_83 rfl ?_
            exact endI hx hb hr hlk hK (0, rs_va r0, rs_ke r0, rs_lo r0, rs_ls r0, rs_fd r0, rs_dn r0, rs_wi r0, rs_wk r0, rs_st r0, rs_fl r0, rs_fe r0, rs_cr r0, rs_sp r0, rs_sd r0, rs_so r0, rs_tk r0, rs_co r0, rs_pr r0, rs_ky r0, rs_nu r0) (⟨rfl, Or.inl ⟨e0, (if_pos d0).symm⟩⟩) hP hD hS dR_look_107
          · skip
            refine lv_iconst (v := nI 1) hx hb dR_look_78 (by decide) ?_
            refine lv_goto (tgt := 107) hx hb dR_look_79 rfl ?_
            exact endI hx hb hr hlk hK (0, rs_va r0, rs_ke r0, rs_lo r0, rs_ls r0, rs_fd r0, rs_dn r0, rs_wi r0, rs_wk r0, rs_st r0, rs_fl r0, rs_fe r0, rs_cr r0, rs_sp r0, rs_sd r0, rs_so r0, rs_tk r0, rs_co r0, rs_pr r0, rs_ky r0, rs_nu r0) (⟨rfl, Or.inl ⟨e0, (if_neg d1).symm⟩⟩) hP hD hS dR_look_107
    · skip
      refine lv_iload_n hx hb dR_look_15 rfl (lv_at hl 1 rfl) ?_
      refine lv_iconst (v := nI 2) hx hb dR_look_16 (by decide) ?_
      refine lv_icmp_ne (tgt := 24) hx hb dR_look_17 rfl (fun _ => ?_) (fun h => absurd h g2)
      refine lv_bipush (v := nI 14) hx hb dR_look_24 (by decide) ?_
      refine lv_istore_n (lv' := [(2, .int (nI 14)), (0, .ref (bd 0)), (1, .int x9)]) hx hb dR_look_26 rfl hl (by decide) rfl (fun ls hl => ?_)
      refine lv_aload_n hx hb dR_look_27 rfl (lv_at hl 1 rfl) ?_
      refine va_get (D := D) (ci := 3) (v := .int (rs_dn r0)) (C := RR) (T := TR) (N := 21) hx hb ht uw_R hown hK hP 0 rfl rfl 6 (by decide) (ht _ tb_545) (fun _ h => h) rfl dR_look_28 ?_
      refine lv_if_eq (tgt := 38) hx hb dR_look_31 rfl (fun d0 => ?_) (fun d1 => ?_)
      · skip
        obtain ⟨hf, hn, hp, h4, h5, h14, hso⟩ := hwf d0
        refine lv_aload_n hx hb dR_look_38 rfl (lv_at hl 1 rfl) ?_
        refine va_get (D := D) (ci := 3) (v := .int (rs_wi r0)) (C := RR) (T := TR) (N := 21) hx hb ht uw_R hown hK hP 0 rfl rfl 7 (by decide) (ht _ tb_546) (fun _ h => h) rfl dR_look_39 ?_
        refine lv_if_eq (tgt := 54) hx hb dR_look_42 rfl (fun w0 => ?_) (fun w1 => ?_)
        · skip
          refine lv_aload_n hx hb dR_look_54 rfl (lv_at hl 1 rfl) ?_
          refine va_get (D := D) (ci := 3) (v := .ref (bd 1)) (C := RR) (T := TR) (N := 21) hx hb ht uw_R hown hK hP 0 rfl rfl 1 (by decide) (ht _ tb_540) (fun _ h => h) rfl dR_look_55 ?_
          refine lv_iload_n hx hb dR_look_58 rfl (lv_at hl 0 rfl) ?_
          refine ra_l hx hb hK hP 1 rfl 14 (by decide) (by decide) rfl dR_look_59 ?_
          refine tp_l (lN p9) ((WK_va w0 (by decide)).trans h14) ?_
          refine lv_l2i (v := (nI p9)) hx hb dR_look_60 (lN_i _) ?_
          exact endI hx hb hr hlk hK (0, rs_va r0, rs_ke r0, rs_lo r0, rs_ls r0, rs_fd r0, rs_dn r0, rs_wi r0, rs_wk r0, rs_st r0, rs_fl r0, rs_fe r0, rs_cr r0, rs_sp r0, rs_sd r0, rs_so r0, rs_tk r0, rs_co r0, rs_pr r0, rs_ky r0, rs_nu r0) (⟨rfl, Or.inr (Or.inr (Or.inr (Or.inl ⟨e3, (if_pos d0).symm⟩)))⟩) hP hD hS dR_look_61
        · skip
          refine lv_aload_n hx hb dR_look_45 rfl (lv_at hl 1 rfl) ?_
          refine va_get (D := D) (ci := 3) (v := .ref (bd 6)) (C := RR) (T := TR) (N := 21) hx hb ht uw_R hown hK hP 0 rfl rfl 8 (by decide) (ht _ tb_547) (fun _ h => h) rfl dR_look_46 ?_
          refine lv_iload_n hx hb dR_look_49 rfl (lv_at hl 0 rfl) ?_
          refine ra_l hx hb hK hP 6 rfl 14 (by decide) (by decide) rfl dR_look_50 ?_
          refine lv_goto (tgt := 60) hx hb dR_look_51 rfl ?_
          refine tp_l (lN p9) ((WK_wk w1 _).trans h14) ?_
          refine lv_l2i (v := (nI p9)) hx hb dR_look_60 (lN_i _) ?_
          exact endI hx hb hr hlk hK (0, rs_va r0, rs_ke r0, rs_lo r0, rs_ls r0, rs_fd r0, rs_dn r0, rs_wi r0, rs_wk r0, rs_st r0, rs_fl r0, rs_fe r0, rs_cr r0, rs_sp r0, rs_sd r0, rs_so r0, rs_tk r0, rs_co r0, rs_pr r0, rs_ky r0, rs_nu r0) (⟨rfl, Or.inr (Or.inr (Or.inr (Or.inl ⟨e3, (if_pos d0).symm⟩)))⟩) hP hD hS dR_look_61
      · skip
        refine lv_iconst (v := (-1)) hx hb dR_look_34 (by decide) ?_
        refine lv_goto (tgt := 61) hx hb dR_look_35 rfl ?_
        exact endI hx hb hr hlk hK (0, rs_va r0, rs_ke r0, rs_lo r0, rs_ls r0, rs_fd r0, rs_dn r0, rs_wi r0, rs_wk r0, rs_st r0, rs_fl r0, rs_fe r0, rs_cr r0, rs_sp r0, rs_sd r0, rs_so r0, rs_tk r0, rs_co r0, rs_pr r0, rs_ky r0, rs_nu r0) (⟨rfl, Or.inr (Or.inr (Or.inr (Or.inl ⟨e3, (if_neg d1).symm⟩)))⟩) hP hD hS dR_look_61

