theorem ms_x_s {lc : Nat → Int32} {sd : Int32} {n : Nat} (h : 0 < lc n) : ms_x lc sd n * 1103515245 + 12345 = ms_x lc sd (n + 1) := (if_pos h).symm
theorem ms_x_k {lc : Nat → Int32} {sd : Int32} {n : Nat} (h : ¬ 0 < lc n) : ms_x lc sd n = ms_x lc sd (n + 1) := (if_neg h).symm
theorem ms_r_01 {lc : Nat → Int32} {sd : Int32} {n : Nat} (h : lc n = 1) : ms_r lc sd n = nI 0 ∨ ms_r lc sd n = nI 1 := by
  unfold ms_r
  generalize ms_x lc sd (n + 1) = x
  rw [h]
  dsimp only
  have hu : (x.toUInt32 >>> ((16 : Int32).toUInt32 &&& Int32.toUInt32 31)).toInt32 = nI (x.toBitVec.toNat / 2 ^ 16) := by
    have h1 := pk_ushr x 16 16 (by decide)
    have h2 : x.toBitVec.toNat / 2 ^ 16 < 2 ^ 32 := by have := x.toBitVec.isLt; omega
    apply Int32.toBitVec_inj.mp
    apply BitVec.eq_of_toNat_eq
    rw [h1, pk_tn h2]
  rw [hu]
  have h3 : x.toBitVec.toNat / 2 ^ 16 < 2 ^ 31 := by have := x.toBitVec.isLt; omega
  have h4 := pk_rem (a := x.toBitVec.toNat / 2 ^ 16) (d := 2) h3 (by decide) (by decide)
  have e2 : (1 : Int32) + 1 = nI 2 := by decide
  rw [e2, h4]
  rcases Nat.mod_two_eq_zero_or_one (x.toBitVec.toNat / 2 ^ 16) with q | q
  · rw [q]; exact Or.inl rfl
  · rw [q]; exact Or.inr rfl
def ls_va (m : AM) (sd : Int32) (n : Nat) : Nat → Int64 := fun w => if w < n then ms_pick m sd w else am_va m w
def ls_ke (m : AM) (sd : Int32) (n : Nat) : Nat → Int64 := fun w => if w < n then ms_pick m sd w else am_ke m w
def zl (f : Nat → Int32) (n : Nat) : Nat → Int32 := fun k => if k < n then 0 else f k
theorem ls_va_0 (m : AM) (sd : Int32) : ls_va m sd 0 = am_va m := funext fun w => if_neg (by omega)
theorem ls_ke_0 (m : AM) (sd : Int32) : ls_ke m sd 0 = am_ke m := funext fun w => if_neg (by omega)
theorem zl_0 (f : Nat → Int32) : zl f 0 = f := funext fun w => if_neg (by omega)
theorem zl_n (f : Nat → Int32) (n : Nat) : zl f n n = f n := if_neg (by omega)
theorem ls_ke_n (m : AM) (sd : Int32) (n : Nat) : ls_ke m sd n n = am_ke m n := if_neg (by omega)
theorem up_s {α : Type} {f g : Nat → α} {n : Nat} {x : α} (hn : ∀ k, k ≠ n → f k = g k) (hx : x = g n) : (fun j => if j = n then x else f j) = g := funext fun k => by
  by_cases e : k = n
  · rw [if_pos e, e, hx]
  · rw [if_neg e, hn k e]
theorem ls_va_s (m : AM) (sd : Int32) (n : Nat) : vp_updL (ls_va m sd n) n (ms_pick m sd n) = ls_va m sd (n + 1) :=
  up_s (fun k hk => by unfold ls_va; by_cases h : k < n; rw [if_pos h, if_pos (by omega)]; rw [if_neg h, if_neg (by omega)]) (if_pos (by omega)).symm
theorem ls_ke_s (m : AM) (sd : Int32) (n : Nat) : vp_updL (ls_ke m sd n) n (ms_pick m sd n) = ls_ke m sd (n + 1) :=
  up_s (fun k hk => by unfold ls_ke; by_cases h : k < n; rw [if_pos h, if_pos (by omega)]; rw [if_neg h, if_neg (by omega)]) (if_pos (by omega)).symm
theorem zl_s (f : Nat → Int32) (n : Nat) : upd (zl f n) n 0 = zl f (n + 1) := funext fun k => by
  by_cases e : k = n
  · rw [e, pk_us]; exact (if_pos (by omega)).symm
  · rw [pk_un e]; unfold zl; by_cases h : k < n; rw [if_pos h, if_pos (by omega)]; rw [if_neg h, if_neg (by omega)]
theorem zl_k (f : Nat → Int32) (n : Nat) (h : f n = 0) : zl f n = zl f (n + 1) := funext fun k => by
  unfold zl
  by_cases e : k = n
  · rw [e, if_neg (by omega), if_pos (by omega)]; exact h
  · by_cases q : k < n; rw [if_pos q, if_pos (by omega)]; rw [if_neg q, if_neg (by omega)]
theorem pick_0 {m : AM} {sd : Int32} {n : Nat} (h : am_lc m n = 0) : ms_pick m sd n = am_ke m n := if_neg (by rw [h]; decide)
theorem pick_k {m : AM} {sd : Int32} {n : Nat} (h : am_lc m n = 1) (r : ms_r (am_lc m) sd n = 0) : ms_pick m sd n = am_ke m n := by
  unfold ms_pick
  rw [if_pos (by rw [h]; decide), if_pos r]
theorem pick_v {m : AM} {sd : Int32} {n : Nat} (h : am_lc m n = 1) (r : ¬ ms_r (am_lc m) sd n = 0) : ms_pick m sd n = am_lv m n := by
  unfold ms_pick
  rw [if_pos (by rw [h]; decide), if_neg r]
theorem ls_ke_k (m : AM) (sd : Int32) (n : Nat) (h : am_lc m n = 0) : ls_ke m sd n = ls_ke m sd (n + 1) := funext fun k => by
  unfold ls_ke
  by_cases e : k = n
  · rw [e, if_neg (by omega), if_pos (by omega), pick_0 h]
  · by_cases q : k < n; rw [if_pos q, if_pos (by omega)]; rw [if_neg q, if_neg (by omega)]
set_option maxHeartbeats 4000000 in
set_option maxRecDepth 100000 in
theorem kM_forget (l : Launch) (D : va_G) (ks : Nat → ClassId) (ad : Nat → Nat) (mm : AM) (sd : Int32) (sz : Nat) (hc : ∀ w, w < 112 → am_lc mm w = 0 ∨ am_lc mm w = 1) : Met l yM_forget (.code yM_forget cM_forget 5 none :: TB) ({ frames := 0, cells := 0, slots := 0, locals := 0 } : Room) (Pcw D ks [.ref (ad 1), .int sd] sz [(ad 1, .inr (1, [.ref (ad 2), .ref (ad 3), .ref (ad 4), .ref (ad 5), .ref (ad 6), .ref (ad 7), .int (am_st mm), .int (am_fl mm), .int (am_fe mm), .int (am_cr mm)])), (ad 2, .inl (ks 0, 112, .inr (.inl (am_va mm)))), (ad 3, .inl (ks 0, 112, .inr (.inl (am_ke mm)))), (ad 4, .inl (ks 0, 112, .inr (.inl (am_lv mm)))), (ad 5, .inl (ks 1, 112, .inl (am_lc mm))), (ad 6, .inl (ks 2, 14, .inl (am_uf mm))), (ad 7, .inl (ks 2, 14, .inl (am_fd mm)))]) (va_Qv (S := AM) (fun u => u = ms_crash mm sd) (fun u t => Bw D ks (va_A [(ad 1, .inr (1, [.ref (ad 2), .ref (ad 3), .ref (ad 4), .ref (ad 5), .ref (ad 6), .ref (ad 7), .int (am_st mm), .int (am_fl mm), .int (am_fe mm), .int (am_cr mm)])), (ad 2, .inl (ks 0, 112, .inr (.inl (am_va mm)))), (ad 3, .inl (ks 0, 112, .inr (.inl (am_ke mm)))), (ad 4, .inl (ks 0, 112, .inr (.inl (am_lv mm)))), (ad 5, .inl (ks 1, 112, .inl (am_lc mm))), (ad 6, .inl (ks 2, 14, .inl (am_uf mm))), (ad 7, .inl (ks 2, 14, .inl (am_fd mm)))] sz) ((fun u => wM ks ad u) u) t) (va_A [(ad 1, .inr (1, [.ref (ad 2), .ref (ad 3), .ref (ad 4), .ref (ad 5), .ref (ad 6), .ref (ad 7), .int (am_st mm), .int (am_fl mm), .int (am_fe mm), .int (am_cr mm)])), (ad 2, .inl (ks 0, 112, .inr (.inl (am_va mm)))), (ad 3, .inl (ks 0, 112, .inr (.inl (am_ke mm)))), (ad 4, .inl (ks 0, 112, .inr (.inl (am_lv mm)))), (ad 5, .inl (ks 1, 112, .inl (am_lc mm))), (ad 6, .inl (ks 2, 14, .inl (am_uf mm))), (ad 7, .inl (ks 2, 14, .inl (am_fd mm)))] sz)) 0 0 (va_A [(ad 1, .inr (1, [.ref (ad 2), .ref (ad 3), .ref (ad 4), .ref (ad 5), .ref (ad 6), .ref (ad 7), .int (am_st mm), .int (am_fl mm), .int (am_fe mm), .int (am_cr mm)])), (ad 2, .inl (ks 0, 112, .inr (.inl (am_va mm)))), (ad 3, .inl (ks 0, 112, .inr (.inl (am_ke mm)))), (ad 4, .inl (ks 0, 112, .inr (.inl (am_lv mm)))), (ad 5, .inl (ks 1, 112, .inl (am_lc mm))), (ad 6, .inl (ks 2, 14, .inl (am_uf mm))), (ad 7, .inl (ks 2, 14, .inl (am_fd mm)))] sz) := by
  refine bodyV (S := AM) (wN := (fun u => wM ks ad u)) (post := (fun u => u = ms_crash mm sd)) (by decide) (Nat.le_of_ble_eq_true rfl) (fun p e s m below meth c A ls F hr hlk hK hN hA hsz hP hD hS hl => ?_)
  obtain ⟨hx, hb, hml, hown, ht⟩ := F
  have hown : s.vm.findClass RM = some m.cls := hown
  have F : CallFix p m c cM_forget 5 s ([.ref (ad 1), .int sd] : List Value).toArray TB RM := ⟨hx, hb, hml, hown, ht⟩
  have hl : lv_has ls 5 [(0, .ref (ad 1)), (1, .int sd)] := hl
  refine lv_aload_n hx hb dM_forget_0 rfl (lv_at hl 0 rfl) ?_
  refine lv_dup hx hb dM_forget_1 rfl ?_
  refine va_get (D := D) (ci := 1) (v := .int (am_cr mm)) (C := RM) (T := TM) (N := 10) hx hb ht uw_M hown hK hP 0 rfl rfl 9 (by decide) (ht _ tb_40) (fun _ h => h) rfl dM_forget_2 ?_
  refine lv_iconst (v := 1) hx hb dM_forget_5 (by decide) ?_
  refine lv_iadd hx hb dM_forget_6 ?_
  refine va_put (D := D) (ci := 1) (v := .int ((am_cr mm) + 1)) (ty := .int) (C := RM) (T := TM) (N := 10) hx hb ht uw_M ty_M ty_M_ok nm_M hown hK hP hD hS 0 rfl rfl 9 (by decide) (ht _ tb_40) (fun _ h => h) rfl (by decide +kernel) rfl rfl (Nat.le_of_ble_eq_true rfl) dM_forget_7 (fun H locs hP hD hS => ?_)
  have hP : va_P D vwCl [(ad 1, .inr (1, [.ref (ad 2), .ref (ad 3), .ref (ad 4), .ref (ad 5), .ref (ad 6), .ref (ad 7), .int (am_st mm), .int (am_fl mm), .int (am_fe mm), .int ((am_cr mm) + 1)])), (ad 2, .inl (ks 0, 112, .inr (.inl (am_va mm)))), (ad 3, .inl (ks 0, 112, .inr (.inl (am_ke mm)))), (ad 4, .inl (ks 0, 112, .inr (.inl (am_lv mm)))), (ad 5, .inl (ks 1, 112, .inl (am_lc mm))), (ad 6, .inl (ks 2, 14, .inl (am_uf mm))), (ad 7, .inl (ks 2, 14, .inl (am_fd mm)))] H := hP
  have hD : va_D A [(ad 1, .inr (1, [.ref (ad 2), .ref (ad 3), .ref (ad 4), .ref (ad 5), .ref (ad 6), .ref (ad 7), .int (am_st mm), .int (am_fl mm), .int (am_fe mm), .int ((am_cr mm) + 1)])), (ad 2, .inl (ks 0, 112, .inr (.inl (am_va mm)))), (ad 3, .inl (ks 0, 112, .inr (.inl (am_ke mm)))), (ad 4, .inl (ks 0, 112, .inr (.inl (am_lv mm)))), (ad 5, .inl (ks 1, 112, .inl (am_lc mm))), (ad 6, .inl (ks 2, 14, .inl (am_uf mm))), (ad 7, .inl (ks 2, 14, .inl (am_fd mm)))] := hD
  refine lv_iload_n hx hb dM_forget_10 rfl (lv_at hl 1 rfl) ?_
  refine lv_istore_n (lv' := [(2, .int sd), (0, .ref (ad 1)), (1, .int sd)]) hx hb dM_forget_11 rfl hl (by decide) rfl (fun ls hl => ?_)
  refine lv_iconst (v := nI 0) hx hb dM_forget_12 (by decide) ?_
  refine lv_istore_n (lv' := [(3, .int (nI 0)), (2, .int sd), (0, .ref (ad 1)), (1, .int sd)]) hx hb dM_forget_13 rfl hl (by decide) rfl (fun ls hl => ?_)
  have hP : va_P D vwCl [(ad 1, .inr (1, [.ref (ad 2), .ref (ad 3), .ref (ad 4), .ref (ad 5), .ref (ad 6), .ref (ad 7), .int (am_st mm), .int (am_fl mm), .int (am_fe mm), .int (am_cr mm + 1)])), (ad 2, .inl (ks 0, 112, .inr (.inl (ls_va mm sd 0)))), (ad 3, .inl (ks 0, 112, .inr (.inl (ls_ke mm sd 0)))), (ad 4, .inl (ks 0, 112, .inr (.inl (am_lv mm)))), (ad 5, .inl (ks 1, 112, .inl (zl (am_lc mm) 0))), (ad 6, .inl (ks 2, 14, .inl (am_uf mm))), (ad 7, .inl (ks 2, 14, .inl (am_fd mm)))] H := by rw [ls_va_0, ls_ke_0, zl_0]; exact hP
  have hD : va_D A [(ad 1, .inr (1, [.ref (ad 2), .ref (ad 3), .ref (ad 4), .ref (ad 5), .ref (ad 6), .ref (ad 7), .int (am_st mm), .int (am_fl mm), .int (am_fe mm), .int (am_cr mm + 1)])), (ad 2, .inl (ks 0, 112, .inr (.inl (ls_va mm sd 0)))), (ad 3, .inl (ks 0, 112, .inr (.inl (ls_ke mm sd 0)))), (ad 4, .inl (ks 0, 112, .inr (.inl (am_lv mm)))), (ad 5, .inl (ks 1, 112, .inl (zl (am_lc mm) 0))), (ad 6, .inl (ks 2, 14, .inl (am_uf mm))), (ad 7, .inl (ks 2, 14, .inl (am_fd mm)))] := by rw [ls_va_0, ls_ke_0, zl_0]; exact hD
  have hl : lv_has ls 5 [(3, .int (nI 0)), (2, .int (ms_x (am_lc mm) sd 0)), (0, .ref (ad 1))] := lv_sub hl [0, 1, 2] rfl
  have LOOP1 : ∀ (k9 n : Nat), n + k9 = 112 → ∀ (H : Heap) (locs : List Loc) (ls : Array Slot), lv_has ls 5 [(3, .int (nI n)), (2, .int (ms_x (am_lc mm) sd n)), (0, .ref (ad 1))] → va_P D vwCl [(ad 1, .inr (1, [.ref (ad 2), .ref (ad 3), .ref (ad 4), .ref (ad 5), .ref (ad 6), .ref (ad 7), .int (am_st mm), .int (am_fl mm), .int (am_fe mm), .int (am_cr mm + 1)])), (ad 2, .inl (ks 0, 112, .inr (.inl (ls_va mm sd n)))), (ad 3, .inl (ks 0, 112, .inr (.inl (ls_ke mm sd n)))), (ad 4, .inl (ks 0, 112, .inr (.inl (am_lv mm)))), (ad 5, .inl (ks 1, 112, .inl (zl (am_lc mm) n))), (ad 6, .inl (ks 2, 14, .inl (am_uf mm))), (ad 7, .inl (ks 2, 14, .inl (am_fd mm)))] H → va_D A [(ad 1, .inr (1, [.ref (ad 2), .ref (ad 3), .ref (ad 4), .ref (ad 5), .ref (ad 6), .ref (ad 7), .int (am_st mm), .int (am_fl mm), .int (am_fe mm), .int (am_cr mm + 1)])), (ad 2, .inl (ks 0, 112, .inr (.inl (ls_va mm sd n)))), (ad 3, .inl (ks 0, 112, .inr (.inl (ls_ke mm sd n)))), (ad 4, .inl (ks 0, 112, .inr (.inl (am_lv mm)))), (ad 5, .inl (ks 1, 112, .inl (zl (am_lc mm) n))), (ad 6, .inl (ks 2, 14, .inl (am_uf mm))), (ad 7, .inl (ks 2, 14, .inl (am_fd mm)))] → va_S A s.heap H locs → W p l e ({ frames := 0, cells := 0, slots := 0, locals := 0 } : Room) s m ([.ref (ad 1), .int sd] : List Value).toArray below meth c H locs 0 0 (MQ below (va_Qv (S := AM) (fun u => u = ms_crash mm sd) (fun u t => Bw D ks A ((fun u => wM ks ad u) u) t) A) ([.ref (ad 1), .int sd] : List Value).toArray s 0 0 A) (F0 m 14 ls []) := by
    intro k9
    induction k9 with
    | zero =>
      intro n h9 H locs ls hl hP hD hS
      have h9 : n = 112 := h9
      subst h9
      refine lv_iload_n hx hb dM_forget_14 rfl (lv_at hl 0 rfl) ?_
      refine lv_bipush (v := nI 112) hx hb dM_forget_15 (by decide) ?_
      refine lv_icmp_ge (tgt := 111) hx hb dM_forget_17 rfl (fun _ => ?_) (fun h => absurd (by first | exact Int32.le_refl _ | (rw [h9]; exact Int32.le_refl _)) h)
      refine lv_iconst (v := nI 0) hx hb dM_forget_111 (by decide) ?_
      refine lv_istore_n (lv' := [(3, .int (nI 0)), (2, .int (ms_x (am_lc mm) sd 112)), (0, .ref (ad 1))]) hx hb dM_forget_112 rfl hl (by decide) rfl (fun ls hl => ?_)
      have hP : va_P D vwCl [(ad 1, .inr (1, [.ref (ad 2), .ref (ad 3), .ref (ad 4), .ref (ad 5), .ref (ad 6), .ref (ad 7), .int (am_st mm), .int (am_fl mm), .int (am_fe mm), .int (am_cr mm + 1)])), (ad 2, .inl (ks 0, 112, .inr (.inl (ls_va mm sd 112)))), (ad 3, .inl (ks 0, 112, .inr (.inl (ls_ke mm sd 112)))), (ad 4, .inl (ks 0, 112, .inr (.inl (am_lv mm)))), (ad 5, .inl (ks 1, 112, .inl (zl (am_lc mm) 112))), (ad 6, .inl (ks 2, 14, .inl (zl (am_uf mm) 0))), (ad 7, .inl (ks 2, 14, .inl (zl (am_fd mm) 0)))] H := by rw [zl_0 (am_uf mm), zl_0 (am_fd mm)]; exact hP
      have hD : va_D A [(ad 1, .inr (1, [.ref (ad 2), .ref (ad 3), .ref (ad 4), .ref (ad 5), .ref (ad 6), .ref (ad 7), .int (am_st mm), .int (am_fl mm), .int (am_fe mm), .int (am_cr mm + 1)])), (ad 2, .inl (ks 0, 112, .inr (.inl (ls_va mm sd 112)))), (ad 3, .inl (ks 0, 112, .inr (.inl (ls_ke mm sd 112)))), (ad 4, .inl (ks 0, 112, .inr (.inl (am_lv mm)))), (ad 5, .inl (ks 1, 112, .inl (zl (am_lc mm) 112))), (ad 6, .inl (ks 2, 14, .inl (zl (am_uf mm) 0))), (ad 7, .inl (ks 2, 14, .inl (zl (am_fd mm) 0)))] := by rw [zl_0 (am_uf mm), zl_0 (am_fd mm)]; exact hD
      have hl : lv_has ls 5 [(3, .int (nI 0)), (0, .ref (ad 1))] := lv_sub hl [0, 2] rfl
      have LOOP2 : ∀ (k9 j : Nat), j + k9 = 14 → ∀ (H : Heap) (locs : List Loc) (ls : Array Slot), lv_has ls 5 [(3, .int (nI j)), (0, .ref (ad 1))] → va_P D vwCl [(ad 1, .inr (1, [.ref (ad 2), .ref (ad 3), .ref (ad 4), .ref (ad 5), .ref (ad 6), .ref (ad 7), .int (am_st mm), .int (am_fl mm), .int (am_fe mm), .int (am_cr mm + 1)])), (ad 2, .inl (ks 0, 112, .inr (.inl (ls_va mm sd 112)))), (ad 3, .inl (ks 0, 112, .inr (.inl (ls_ke mm sd 112)))), (ad 4, .inl (ks 0, 112, .inr (.inl (am_lv mm)))), (ad 5, .inl (ks 1, 112, .inl (zl (am_lc mm) 112))), (ad 6, .inl (ks 2, 14, .inl (zl (am_uf mm) j))), (ad 7, .inl (ks 2, 14, .inl (zl (am_fd mm) j)))] H → va_D A [(ad 1, .inr (1, [.ref (ad 2), .ref (ad 3), .ref (ad 4), .ref (ad 5), .ref (ad 6), .ref (ad 7), .int (am_st mm), .int (am_fl mm), .int (am_fe mm), .int (am_cr mm + 1)])), (ad 2, .inl (ks 0, 112, .inr (.inl (ls_va mm sd 112)))), (ad 3, .inl (ks 0, 112, .inr (.inl (ls_ke mm sd 112)))), (ad 4, .inl (ks 0, 112, .inr (.inl (am_lv mm)))), (ad 5, .inl (ks 1, 112, .inl (zl (am_lc mm) 112))), (ad 6, .inl (ks 2, 14, .inl (zl (am_uf mm) j))), (ad 7, .inl (ks 2, 14, .inl (zl (am_fd mm) j)))] → va_S A s.heap H locs → W p l e ({ frames := 0, cells := 0, slots := 0, locals := 0 } : Room) s m ([.ref (ad 1), .int sd] : List Value).toArray below meth c H locs 0 0 (MQ below (va_Qv (S := AM) (fun u => u = ms_crash mm sd) (fun u t => Bw D ks A ((fun u => wM ks ad u) u) t) A) ([.ref (ad 1), .int sd] : List Value).toArray s 0 0 A) (F0 m 113 ls []) := by
        intro k9
        induction k9 with
        | zero =>
          intro j h9 H locs ls hl hP hD hS
          have h9 : j = 14 := h9
          subst h9
          refine lv_iload_n hx hb dM_forget_113 rfl (lv_at hl 0 rfl) ?_
          refine lv_bipush (v := nI 14) hx hb dM_forget_114 (by decide) ?_
          refine lv_icmp_ge (tgt := 139) hx hb dM_forget_116 rfl (fun _ => ?_) (fun h => absurd (by first | exact Int32.le_refl _ | (rw [h9]; exact Int32.le_refl _)) h)
          exact endV hx hb hr hlk hK (ms_crash mm sd) rfl hP hD hS dM_forget_139
        | succ k9 ih =>
          intro j h9 H locs ls hl hP hD hS
          have hlt : j < 14 := by omega
          refine lv_iload_n hx hb dM_forget_113 rfl (lv_at hl 0 rfl) ?_
          refine lv_bipush (v := nI 14) hx hb dM_forget_114 (by decide) ?_
          refine lv_icmp_ge (tgt := 139) hx hb dM_forget_116 rfl (fun h => absurd h (nI_ge (by omega) (by omega))) (fun _ => ?_)
          refine lv_aload_n hx hb dM_forget_119 rfl (lv_at hl 1 rfl) ?_
          refine va_get (D := D) (ci := 1) (v := .ref (ad 6)) (C := RM) (T := TM) (N := 10) hx hb ht uw_M hown hK hP 0 rfl rfl 4 (by decide) (ht _ tb_32) (fun _ h => h) rfl dM_forget_120 ?_
          refine lv_iload_n hx hb dM_forget_123 rfl (lv_at hl 0 rfl) ?_
          refine lv_iconst (v := nI 0) hx hb dM_forget_124 (by decide) ?_
          refine wa_z hx hb hK hP hD hS 5 rfl j hlt (by decide) rfl 0 (by decide) dM_forget_125 (fun H locs hP hD hS => ?_)
          have hP : va_P D vwCl [(ad 1, .inr (1, [.ref (ad 2), .ref (ad 3), .ref (ad 4), .ref (ad 5), .ref (ad 6), .ref (ad 7), .int (am_st mm), .int (am_fl mm), .int (am_fe mm), .int (am_cr mm + 1)])), (ad 2, .inl (ks 0, 112, .inr (.inl (ls_va mm sd 112)))), (ad 3, .inl (ks 0, 112, .inr (.inl (ls_ke mm sd 112)))), (ad 4, .inl (ks 0, 112, .inr (.inl (am_lv mm)))), (ad 5, .inl (ks 1, 112, .inl (zl (am_lc mm) 112))), (ad 6, .inl (ks 2, 14, .inl (upd (zl (am_uf mm) j) j 0))), (ad 7, .inl (ks 2, 14, .inl (zl (am_fd mm) j)))] H := hP
          have hD : va_D A [(ad 1, .inr (1, [.ref (ad 2), .ref (ad 3), .ref (ad 4), .ref (ad 5), .ref (ad 6), .ref (ad 7), .int (am_st mm), .int (am_fl mm), .int (am_fe mm), .int (am_cr mm + 1)])), (ad 2, .inl (ks 0, 112, .inr (.inl (ls_va mm sd 112)))), (ad 3, .inl (ks 0, 112, .inr (.inl (ls_ke mm sd 112)))), (ad 4, .inl (ks 0, 112, .inr (.inl (am_lv mm)))), (ad 5, .inl (ks 1, 112, .inl (zl (am_lc mm) 112))), (ad 6, .inl (ks 2, 14, .inl (upd (zl (am_uf mm) j) j 0))), (ad 7, .inl (ks 2, 14, .inl (zl (am_fd mm) j)))] := hD
          refine lv_aload_n hx hb dM_forget_126 rfl (lv_at hl 1 rfl) ?_
          refine va_get (D := D) (ci := 1) (v := .ref (ad 7)) (C := RM) (T := TM) (N := 10) hx hb ht uw_M hown hK hP 0 rfl rfl 5 (by decide) (ht _ tb_33) (fun _ h => h) rfl dM_forget_127 ?_
          refine lv_iload_n hx hb dM_forget_130 rfl (lv_at hl 0 rfl) ?_
          refine lv_iconst (v := nI 0) hx hb dM_forget_131 (by decide) ?_
          refine wa_z hx hb hK hP hD hS 6 rfl j hlt (by decide) rfl 0 (by decide) dM_forget_132 (fun H locs hP hD hS => ?_)
          have hP : va_P D vwCl [(ad 1, .inr (1, [.ref (ad 2), .ref (ad 3), .ref (ad 4), .ref (ad 5), .ref (ad 6), .ref (ad 7), .int (am_st mm), .int (am_fl mm), .int (am_fe mm), .int (am_cr mm + 1)])), (ad 2, .inl (ks 0, 112, .inr (.inl (ls_va mm sd 112)))), (ad 3, .inl (ks 0, 112, .inr (.inl (ls_ke mm sd 112)))), (ad 4, .inl (ks 0, 112, .inr (.inl (am_lv mm)))), (ad 5, .inl (ks 1, 112, .inl (zl (am_lc mm) 112))), (ad 6, .inl (ks 2, 14, .inl (upd (zl (am_uf mm) j) j 0))), (ad 7, .inl (ks 2, 14, .inl (upd (zl (am_fd mm) j) j 0)))] H := hP
          have hD : va_D A [(ad 1, .inr (1, [.ref (ad 2), .ref (ad 3), .ref (ad 4), .ref (ad 5), .ref (ad 6), .ref (ad 7), .int (am_st mm), .int (am_fl mm), .int (am_fe mm), .int (am_cr mm + 1)])), (ad 2, .inl (ks 0, 112, .inr (.inl (ls_va mm sd 112)))), (ad 3, .inl (ks 0, 112, .inr (.inl (ls_ke mm sd 112)))), (ad 4, .inl (ks 0, 112, .inr (.inl (am_lv mm)))), (ad 5, .inl (ks 1, 112, .inl (zl (am_lc mm) 112))), (ad 6, .inl (ks 2, 14, .inl (upd (zl (am_uf mm) j) j 0))), (ad 7, .inl (ks 2, 14, .inl (upd (zl (am_fd mm) j) j 0)))] := hD
          refine lv_iinc (k := 0) (x := (nI j)) (v := (nI (j + 1))) (lv' := [(3, .int (nI (j + 1))), (0, .ref (ad 1))]) hx hb dM_forget_133 hl rfl (nI_1 _) (by decide) rfl (fun ls hl => ?_)
          refine lv_goto (tgt := 113) hx hb dM_forget_136 rfl ?_
          have hl : lv_has ls 5 [(3, .int (nI (j + 1))), (0, .ref (ad 1))] := lv_sub hl [0, 1] rfl
          have eW : ([(ad 1, .inr (1, [.ref (ad 2), .ref (ad 3), .ref (ad 4), .ref (ad 5), .ref (ad 6), .ref (ad 7), .int (am_st mm), .int (am_fl mm), .int (am_fe mm), .int (am_cr mm + 1)])), (ad 2, .inl (ks 0, 112, .inr (.inl (ls_va mm sd 112)))), (ad 3, .inl (ks 0, 112, .inr (.inl (ls_ke mm sd 112)))), (ad 4, .inl (ks 0, 112, .inr (.inl (am_lv mm)))), (ad 5, .inl (ks 1, 112, .inl (zl (am_lc mm) 112))), (ad 6, .inl (ks 2, 14, .inl (upd (zl (am_uf mm) j) j 0))), (ad 7, .inl (ks 2, 14, .inl (upd (zl (am_fd mm) j) j 0)))] : va_W) = [(ad 1, .inr (1, [.ref (ad 2), .ref (ad 3), .ref (ad 4), .ref (ad 5), .ref (ad 6), .ref (ad 7), .int (am_st mm), .int (am_fl mm), .int (am_fe mm), .int (am_cr mm + 1)])), (ad 2, .inl (ks 0, 112, .inr (.inl (ls_va mm sd 112)))), (ad 3, .inl (ks 0, 112, .inr (.inl (ls_ke mm sd 112)))), (ad 4, .inl (ks 0, 112, .inr (.inl (am_lv mm)))), (ad 5, .inl (ks 1, 112, .inl (zl (am_lc mm) 112))), (ad 6, .inl (ks 2, 14, .inl (zl (am_uf mm) (j + 1)))), (ad 7, .inl (ks 2, 14, .inl (zl (am_fd mm) (j + 1))))] := by
            rw [zl_s, zl_s]
          rw [eW] at hP hD
          exact ih (j + 1) (by omega) H locs ls hl hP hD hS
      exact LOOP2 (14 - 0) 0 (by omega) H _ _ hl hP hD hS
    | succ k9 ih =>
      intro n h9 H locs ls hl hP hD hS
      have hlt : n < 112 := by omega
      refine lv_iload_n hx hb dM_forget_14 rfl (lv_at hl 0 rfl) ?_
      refine lv_bipush (v := nI 112) hx hb dM_forget_15 (by decide) ?_
      refine lv_icmp_ge (tgt := 111) hx hb dM_forget_17 rfl (fun h => absurd h (nI_ge (by omega) (by omega))) (fun _ => ?_)
      refine lv_aload_n hx hb dM_forget_20 rfl (lv_at hl 2 rfl) ?_
      refine va_get (D := D) (ci := 1) (v := .ref (ad 5)) (C := RM) (T := TM) (N := 10) hx hb ht uw_M hown hK hP 0 rfl rfl 3 (by decide) (ht _ tb_31) (fun _ h => h) rfl dM_forget_21 ?_
      refine lv_iload_n hx hb dM_forget_24 rfl (lv_at hl 0 rfl) ?_
      refine ra_i hx hb hK hP 4 rfl n hlt (by decide) rfl dM_forget_25 ?_
      refine tp_i (am_lc mm n) (zl_n _ _) ?_
      refine lv_if_le (tgt := 93) hx hb dM_forget_26 rfl (fun h0 => ?_) (fun h1 => ?_)
      · skip
        have h0 : am_lc mm n = 0 := (hc n hlt).resolve_right (fun z => absurd h0 (by rw [z]; decide))
        refine lv_aload_n hx hb dM_forget_93 rfl (lv_at hl 2 rfl) ?_
        refine va_get (D := D) (ci := 1) (v := .ref (ad 2)) (C := RM) (T := TM) (N := 10) hx hb ht uw_M hown hK hP 0 rfl rfl 0 (by decide) (ht _ tb_27) (fun _ h => h) rfl dM_forget_94 ?_
        refine lv_iload_n hx hb dM_forget_97 rfl (lv_at hl 0 rfl) ?_
        refine lv_aload_n hx hb dM_forget_98 rfl (lv_at hl 2 rfl) ?_
        refine va_get (D := D) (ci := 1) (v := .ref (ad 3)) (C := RM) (T := TM) (N := 10) hx hb ht uw_M hown hK hP 0 rfl rfl 1 (by decide) (ht _ tb_29) (fun _ h => h) rfl dM_forget_99 ?_
        refine lv_iload_n hx hb dM_forget_102 rfl (lv_at hl 0 rfl) ?_
        refine ra_l hx hb hK hP 2 rfl n hlt (by decide) rfl dM_forget_103 ?_
        refine tp_l (ms_pick mm sd n) (by rw [ls_ke_n, pick_0 h0]) ?_
        refine wa_l hx hb hK hP hD hS 1 rfl n hlt (by decide) rfl dM_forget_104 (fun H locs hP hD hS => ?_)
        have hP : va_P D vwCl [(ad 1, .inr (1, [.ref (ad 2), .ref (ad 3), .ref (ad 4), .ref (ad 5), .ref (ad 6), .ref (ad 7), .int (am_st mm), .int (am_fl mm), .int (am_fe mm), .int (am_cr mm + 1)])), (ad 2, .inl (ks 0, 112, .inr (.inl (vp_updL (ls_va mm sd n) n (ms_pick mm sd n))))), (ad 3, .inl (ks 0, 112, .inr (.inl (ls_ke mm sd n)))), (ad 4, .inl (ks 0, 112, .inr (.inl (am_lv mm)))), (ad 5, .inl (ks 1, 112, .inl (zl (am_lc mm) n))), (ad 6, .inl (ks 2, 14, .inl (am_uf mm))), (ad 7, .inl (ks 2, 14, .inl (am_fd mm)))] H := hP
        have hD : va_D A [(ad 1, .inr (1, [.ref (ad 2), .ref (ad 3), .ref (ad 4), .ref (ad 5), .ref (ad 6), .ref (ad 7), .int (am_st mm), .int (am_fl mm), .int (am_fe mm), .int (am_cr mm + 1)])), (ad 2, .inl (ks 0, 112, .inr (.inl (vp_updL (ls_va mm sd n) n (ms_pick mm sd n))))), (ad 3, .inl (ks 0, 112, .inr (.inl (ls_ke mm sd n)))), (ad 4, .inl (ks 0, 112, .inr (.inl (am_lv mm)))), (ad 5, .inl (ks 1, 112, .inl (zl (am_lc mm) n))), (ad 6, .inl (ks 2, 14, .inl (am_uf mm))), (ad 7, .inl (ks 2, 14, .inl (am_fd mm)))] := hD
        rw [ms_x_k (lc := am_lc mm) (sd := sd) (n := n) (by rw [h0]; decide)] at hl
        refine lv_iinc (k := 0) (x := (nI n)) (v := (nI (n + 1))) (lv' := [(3, .int (nI (n + 1))), (2, .int (ms_x (am_lc mm) sd (n + 1))), (0, .ref (ad 1))]) hx hb dM_forget_105 hl rfl (nI_1 _) (by decide) rfl (fun ls hl => ?_)
        refine lv_goto (tgt := 14) hx hb dM_forget_108 rfl ?_
        have hl : lv_has ls 5 [(3, .int (nI (n + 1))), (2, .int (ms_x (am_lc mm) sd (n + 1))), (0, .ref (ad 1))] := lv_sub hl [0, 1, 2] rfl
        have eW : ([(ad 1, .inr (1, [.ref (ad 2), .ref (ad 3), .ref (ad 4), .ref (ad 5), .ref (ad 6), .ref (ad 7), .int (am_st mm), .int (am_fl mm), .int (am_fe mm), .int (am_cr mm + 1)])), (ad 2, .inl (ks 0, 112, .inr (.inl (vp_updL (ls_va mm sd n) n (ms_pick mm sd n))))), (ad 3, .inl (ks 0, 112, .inr (.inl (ls_ke mm sd n)))), (ad 4, .inl (ks 0, 112, .inr (.inl (am_lv mm)))), (ad 5, .inl (ks 1, 112, .inl (zl (am_lc mm) n))), (ad 6, .inl (ks 2, 14, .inl (am_uf mm))), (ad 7, .inl (ks 2, 14, .inl (am_fd mm)))] : va_W) = [(ad 1, .inr (1, [.ref (ad 2), .ref (ad 3), .ref (ad 4), .ref (ad 5), .ref (ad 6), .ref (ad 7), .int (am_st mm), .int (am_fl mm), .int (am_fe mm), .int (am_cr mm + 1)])), (ad 2, .inl (ks 0, 112, .inr (.inl (ls_va mm sd (n + 1))))), (ad 3, .inl (ks 0, 112, .inr (.inl (ls_ke mm sd (n + 1))))), (ad 4, .inl (ks 0, 112, .inr (.inl (am_lv mm)))), (ad 5, .inl (ks 1, 112, .inl (zl (am_lc mm) (n + 1)))), (ad 6, .inl (ks 2, 14, .inl (am_uf mm))), (ad 7, .inl (ks 2, 14, .inl (am_fd mm)))] := by
          rw [ls_va_s, ← ls_ke_k mm sd n h0, ← zl_k (am_lc mm) n h0]
        rw [eW] at hP hD
        exact ih (n + 1) (by omega) H locs ls hl hP hD hS
      · skip
        have h1 : am_lc mm n = 1 := (hc n hlt).resolve_left (fun z => h1 (by rw [z]; decide))
        refine lv_iload_n hx hb dM_forget_29 rfl (lv_at hl 1 rfl) ?_
        refine lv_ldc (v := 1103515245) hx hb hown (ht _ tb_276) dM_forget_30 ?_
        refine lv_imul hx hb dM_forget_32 ?_
        refine lv_sipush (v := 12345) hx hb dM_forget_33 (by decide) ?_
        refine lv_iadd hx hb dM_forget_36 ?_
        refine tp_i (ms_x (am_lc mm) sd (n + 1)) (ms_x_s (by rw [h1]; decide)) ?_
        refine lv_istore_n (lv' := [(2, .int (ms_x (am_lc mm) sd (n + 1))), (3, .int (nI n)), (0, .ref (ad 1))]) hx hb dM_forget_37 rfl hl (by decide) rfl (fun ls hl => ?_)
        refine lv_iload_n hx hb dM_forget_38 rfl (lv_at hl 0 rfl) ?_
        refine lv_bipush (v := (16 : Int32)) hx hb dM_forget_39 (by decide) ?_
        refine lv_iushr (v := ((ms_x (am_lc mm) sd (n + 1)).toUInt32 >>> (((16 : Int32)).toUInt32 &&& Int32.toUInt32 31)).toInt32) hx hb dM_forget_41 rfl ?_
        refine lv_aload_n hx hb dM_forget_42 rfl (lv_at hl 2 rfl) ?_
        refine va_get (D := D) (ci := 1) (v := .ref (ad 5)) (C := RM) (T := TM) (N := 10) hx hb ht uw_M hown hK hP 0 rfl rfl 3 (by decide) (ht _ tb_31) (fun _ h => h) rfl dM_forget_43 ?_
        refine lv_iload_n hx hb dM_forget_46 rfl (lv_at hl 1 rfl) ?_
        refine ra_i hx hb hK hP 4 rfl n hlt (by decide) rfl dM_forget_47 ?_
        refine tp_i (am_lc mm n) (zl_n _ _) ?_
        refine lv_iconst (v := 1) hx hb dM_forget_48 (by decide) ?_
        refine lv_iadd hx hb dM_forget_49 ?_
        refine lv_irem hx hb dM_forget_50 (by rw [h1]; decide) ?_
        refine tp_i (ms_r (am_lc mm) sd n) rfl ?_
        refine lv_istore (lv' := [(4, .int (ms_r (am_lc mm) sd n)), (2, .int (ms_x (am_lc mm) sd (n + 1))), (3, .int (nI n)), (0, .ref (ad 1))]) hx hb dM_forget_51 hl (by decide) rfl (fun ls hl => ?_)
        refine lv_aload_n hx hb dM_forget_53 rfl (lv_at hl 3 rfl) ?_
        refine va_get (D := D) (ci := 1) (v := .ref (ad 3)) (C := RM) (T := TM) (N := 10) hx hb ht uw_M hown hK hP 0 rfl rfl 1 (by decide) (ht _ tb_29) (fun _ h => h) rfl dM_forget_54 ?_
        refine lv_iload_n hx hb dM_forget_57 rfl (lv_at hl 2 rfl) ?_
        refine lv_iload hx hb dM_forget_58 (lv_at hl 0 rfl) ?_
        refine lv_if_ne (tgt := 72) hx hb dM_forget_60 rfl (fun hR => ?_) (fun hZ => ?_)
        · skip
          refine lv_aload_n hx hb dM_forget_72 rfl (lv_at hl 3 rfl) ?_
          refine va_get (D := D) (ci := 1) (v := .ref (ad 4)) (C := RM) (T := TM) (N := 10) hx hb ht uw_M hown hK hP 0 rfl rfl 2 (by decide) (ht _ tb_30) (fun _ h => h) rfl dM_forget_73 ?_
          refine lv_iload_n hx hb dM_forget_76 rfl (lv_at hl 2 rfl) ?_
          refine lv_iconst (v := nI 1) hx hb dM_forget_77 (by decide) ?_
          refine lv_imul hx hb dM_forget_78 ?_
          refine lv_iload hx hb dM_forget_79 (lv_at hl 0 rfl) ?_
          refine lv_iadd hx hb dM_forget_81 ?_
          refine lv_iconst (v := nI 1) hx hb dM_forget_82 (by decide) ?_
          refine lv_isub hx hb dM_forget_83 ?_
          refine tp_i (nI n) (by rw [(ms_r_01 h1).resolve_left hR, pk_mul, nI_add, pk_sub (by omega)]; congr 1; omega) ?_
          refine ra_l hx hb hK hP 3 rfl n hlt (by decide) rfl dM_forget_84 ?_
          refine tp_l (ms_pick mm sd n) (by rw [pick_v h1 hR]) ?_
          refine wa_l hx hb hK hP hD hS 2 rfl n hlt (by decide) rfl dM_forget_85 (fun H locs hP hD hS => ?_)
          have hP : va_P D vwCl [(ad 1, .inr (1, [.ref (ad 2), .ref (ad 3), .ref (ad 4), .ref (ad 5), .ref (ad 6), .ref (ad 7), .int (am_st mm), .int (am_fl mm), .int (am_fe mm), .int (am_cr mm + 1)])), (ad 2, .inl (ks 0, 112, .inr (.inl (ls_va mm sd n)))), (ad 3, .inl (ks 0, 112, .inr (.inl (vp_updL (ls_ke mm sd n) n (ms_pick mm sd n))))), (ad 4, .inl (ks 0, 112, .inr (.inl (am_lv mm)))), (ad 5, .inl (ks 1, 112, .inl (zl (am_lc mm) n))), (ad 6, .inl (ks 2, 14, .inl (am_uf mm))), (ad 7, .inl (ks 2, 14, .inl (am_fd mm)))] H := hP
          have hD : va_D A [(ad 1, .inr (1, [.ref (ad 2), .ref (ad 3), .ref (ad 4), .ref (ad 5), .ref (ad 6), .ref (ad 7), .int (am_st mm), .int (am_fl mm), .int (am_fe mm), .int (am_cr mm + 1)])), (ad 2, .inl (ks 0, 112, .inr (.inl (ls_va mm sd n)))), (ad 3, .inl (ks 0, 112, .inr (.inl (vp_updL (ls_ke mm sd n) n (ms_pick mm sd n))))), (ad 4, .inl (ks 0, 112, .inr (.inl (am_lv mm)))), (ad 5, .inl (ks 1, 112, .inl (zl (am_lc mm) n))), (ad 6, .inl (ks 2, 14, .inl (am_uf mm))), (ad 7, .inl (ks 2, 14, .inl (am_fd mm)))] := hD
          refine lv_aload_n hx hb dM_forget_86 rfl (lv_at hl 3 rfl) ?_
          refine va_get (D := D) (ci := 1) (v := .ref (ad 5)) (C := RM) (T := TM) (N := 10) hx hb ht uw_M hown hK hP 0 rfl rfl 3 (by decide) (ht _ tb_31) (fun _ h => h) rfl dM_forget_87 ?_
          refine lv_iload_n hx hb dM_forget_90 rfl (lv_at hl 2 rfl) ?_
          refine lv_iconst (v := 0) hx hb dM_forget_91 (by decide) ?_
          refine wa_i hx hb hK hP hD hS 4 rfl n hlt (by decide) rfl dM_forget_92 (fun H locs hP hD hS => ?_)
          have hP : va_P D vwCl [(ad 1, .inr (1, [.ref (ad 2), .ref (ad 3), .ref (ad 4), .ref (ad 5), .ref (ad 6), .ref (ad 7), .int (am_st mm), .int (am_fl mm), .int (am_fe mm), .int (am_cr mm + 1)])), (ad 2, .inl (ks 0, 112, .inr (.inl (ls_va mm sd n)))), (ad 3, .inl (ks 0, 112, .inr (.inl (vp_updL (ls_ke mm sd n) n (ms_pick mm sd n))))), (ad 4, .inl (ks 0, 112, .inr (.inl (am_lv mm)))), (ad 5, .inl (ks 1, 112, .inl (upd (zl (am_lc mm) n) n 0))), (ad 6, .inl (ks 2, 14, .inl (am_uf mm))), (ad 7, .inl (ks 2, 14, .inl (am_fd mm)))] H := hP
          have hD : va_D A [(ad 1, .inr (1, [.ref (ad 2), .ref (ad 3), .ref (ad 4), .ref (ad 5), .ref (ad 6), .ref (ad 7), .int (am_st mm), .int (am_fl mm), .int (am_fe mm), .int (am_cr mm + 1)])), (ad 2, .inl (ks 0, 112, .inr (.inl (ls_va mm sd n)))), (ad 3, .inl (ks 0, 112, .inr (.inl (vp_updL (ls_ke mm sd n) n (ms_pick mm sd n))))), (ad 4, .inl (ks 0, 112, .inr (.inl (am_lv mm)))), (ad 5, .inl (ks 1, 112, .inl (upd (zl (am_lc mm) n) n 0))), (ad 6, .inl (ks 2, 14, .inl (am_uf mm))), (ad 7, .inl (ks 2, 14, .inl (am_fd mm)))] := hD
          refine lv_aload_n hx hb dM_forget_93 rfl (lv_at hl 3 rfl) ?_
          refine va_get (D := D) (ci := 1) (v := .ref (ad 2)) (C := RM) (T := TM) (N := 10) hx hb ht uw_M hown hK hP 0 rfl rfl 0 (by decide) (ht _ tb_27) (fun _ h => h) rfl dM_forget_94 ?_
          refine lv_iload_n hx hb dM_forget_97 rfl (lv_at hl 2 rfl) ?_
          refine lv_aload_n hx hb dM_forget_98 rfl (lv_at hl 3 rfl) ?_
          refine va_get (D := D) (ci := 1) (v := .ref (ad 3)) (C := RM) (T := TM) (N := 10) hx hb ht uw_M hown hK hP 0 rfl rfl 1 (by decide) (ht _ tb_29) (fun _ h => h) rfl dM_forget_99 ?_
          refine lv_iload_n hx hb dM_forget_102 rfl (lv_at hl 2 rfl) ?_
          refine ra_l hx hb hK hP 2 rfl n hlt (by decide) rfl dM_forget_103 ?_
          refine tp_l (ms_pick mm sd n) pk_uLs ?_
          refine wa_l hx hb hK hP hD hS 1 rfl n hlt (by decide) rfl dM_forget_104 (fun H locs hP hD hS => ?_)
          have hP : va_P D vwCl [(ad 1, .inr (1, [.ref (ad 2), .ref (ad 3), .ref (ad 4), .ref (ad 5), .ref (ad 6), .ref (ad 7), .int (am_st mm), .int (am_fl mm), .int (am_fe mm), .int (am_cr mm + 1)])), (ad 2, .inl (ks 0, 112, .inr (.inl (vp_updL (ls_va mm sd n) n (ms_pick mm sd n))))), (ad 3, .inl (ks 0, 112, .inr (.inl (vp_updL (ls_ke mm sd n) n (ms_pick mm sd n))))), (ad 4, .inl (ks 0, 112, .inr (.inl (am_lv mm)))), (ad 5, .inl (ks 1, 112, .inl (upd (zl (am_lc mm) n) n 0))), (ad 6, .inl (ks 2, 14, .inl (am_uf mm))), (ad 7, .inl (ks 2, 14, .inl (am_fd mm)))] H := hP
          have hD : va_D A [(ad 1, .inr (1, [.ref (ad 2), .ref (ad 3), .ref (ad 4), .ref (ad 5), .ref (ad 6), .ref (ad 7), .int (am_st mm), .int (am_fl mm), .int (am_fe mm), .int (am_cr mm + 1)])), (ad 2, .inl (ks 0, 112, .inr (.inl (vp_updL (ls_va mm sd n) n (ms_pick mm sd n))))), (ad 3, .inl (ks 0, 112, .inr (.inl (vp_updL (ls_ke mm sd n) n (ms_pick mm sd n))))), (ad 4, .inl (ks 0, 112, .inr (.inl (am_lv mm)))), (ad 5, .inl (ks 1, 112, .inl (upd (zl (am_lc mm) n) n 0))), (ad 6, .inl (ks 2, 14, .inl (am_uf mm))), (ad 7, .inl (ks 2, 14, .inl (am_fd mm)))] := hD
          refine lv_iinc (k := 2) (x := (nI n)) (v := (nI (n + 1))) (lv' := [(3, .int (nI (n + 1))), (4, .int (ms_r (am_lc mm) sd n)), (2, .int (ms_x (am_lc mm) sd (n + 1))), (0, .ref (ad 1))]) hx hb dM_forget_105 hl rfl (nI_1 _) (by decide) rfl (fun ls hl => ?_)
          refine lv_goto (tgt := 14) hx hb dM_forget_108 rfl ?_
          have hl : lv_has ls 5 [(3, .int (nI (n + 1))), (2, .int (ms_x (am_lc mm) sd (n + 1))), (0, .ref (ad 1))] := lv_sub hl [0, 2, 3] rfl
          have eW : ([(ad 1, .inr (1, [.ref (ad 2), .ref (ad 3), .ref (ad 4), .ref (ad 5), .ref (ad 6), .ref (ad 7), .int (am_st mm), .int (am_fl mm), .int (am_fe mm), .int (am_cr mm + 1)])), (ad 2, .inl (ks 0, 112, .inr (.inl (vp_updL (ls_va mm sd n) n (ms_pick mm sd n))))), (ad 3, .inl (ks 0, 112, .inr (.inl (vp_updL (ls_ke mm sd n) n (ms_pick mm sd n))))), (ad 4, .inl (ks 0, 112, .inr (.inl (am_lv mm)))), (ad 5, .inl (ks 1, 112, .inl (upd (zl (am_lc mm) n) n 0))), (ad 6, .inl (ks 2, 14, .inl (am_uf mm))), (ad 7, .inl (ks 2, 14, .inl (am_fd mm)))] : va_W) = [(ad 1, .inr (1, [.ref (ad 2), .ref (ad 3), .ref (ad 4), .ref (ad 5), .ref (ad 6), .ref (ad 7), .int (am_st mm), .int (am_fl mm), .int (am_fe mm), .int (am_cr mm + 1)])), (ad 2, .inl (ks 0, 112, .inr (.inl (ls_va mm sd (n + 1))))), (ad 3, .inl (ks 0, 112, .inr (.inl (ls_ke mm sd (n + 1))))), (ad 4, .inl (ks 0, 112, .inr (.inl (am_lv mm)))), (ad 5, .inl (ks 1, 112, .inl (zl (am_lc mm) (n + 1)))), (ad 6, .inl (ks 2, 14, .inl (am_uf mm))), (ad 7, .inl (ks 2, 14, .inl (am_fd mm)))] := by
            rw [ls_va_s, ls_ke_s, zl_s]
          rw [eW] at hP hD
          exact ih (n + 1) (by omega) H locs ls hl hP hD hS
        · skip
          refine lv_aload_n hx hb dM_forget_63 rfl (lv_at hl 3 rfl) ?_
          refine va_get (D := D) (ci := 1) (v := .ref (ad 3)) (C := RM) (T := TM) (N := 10) hx hb ht uw_M hown hK hP 0 rfl rfl 1 (by decide) (ht _ tb_29) (fun _ h => h) rfl dM_forget_64 ?_
          refine lv_iload_n hx hb dM_forget_67 rfl (lv_at hl 2 rfl) ?_
          refine ra_l hx hb hK hP 2 rfl n hlt (by decide) rfl dM_forget_68 ?_
          refine lv_goto (tgt := 85) hx hb dM_forget_69 rfl ?_
          refine tp_l (ms_pick mm sd n) (by rw [ls_ke_n, pick_k h1 hZ]) ?_
          refine wa_l hx hb hK hP hD hS 2 rfl n hlt (by decide) rfl dM_forget_85 (fun H locs hP hD hS => ?_)
          have hP : va_P D vwCl [(ad 1, .inr (1, [.ref (ad 2), .ref (ad 3), .ref (ad 4), .ref (ad 5), .ref (ad 6), .ref (ad 7), .int (am_st mm), .int (am_fl mm), .int (am_fe mm), .int (am_cr mm + 1)])), (ad 2, .inl (ks 0, 112, .inr (.inl (ls_va mm sd n)))), (ad 3, .inl (ks 0, 112, .inr (.inl (vp_updL (ls_ke mm sd n) n (ms_pick mm sd n))))), (ad 4, .inl (ks 0, 112, .inr (.inl (am_lv mm)))), (ad 5, .inl (ks 1, 112, .inl (zl (am_lc mm) n))), (ad 6, .inl (ks 2, 14, .inl (am_uf mm))), (ad 7, .inl (ks 2, 14, .inl (am_fd mm)))] H := hP
          have hD : va_D A [(ad 1, .inr (1, [.ref (ad 2), .ref (ad 3), .ref (ad 4), .ref (ad 5), .ref (ad 6), .ref (ad 7), .int (am_st mm), .int (am_fl mm), .int (am_fe mm), .int (am_cr mm + 1)])), (ad 2, .inl (ks 0, 112, .inr (.inl (ls_va mm sd n)))), (ad 3, .inl (ks 0, 112, .inr (.inl (vp_updL (ls_ke mm sd n) n (ms_pick mm sd n))))), (ad 4, .inl (ks 0, 112, .inr (.inl (am_lv mm)))), (ad 5, .inl (ks 1, 112, .inl (zl (am_lc mm) n))), (ad 6, .inl (ks 2, 14, .inl (am_uf mm))), (ad 7, .inl (ks 2, 14, .inl (am_fd mm)))] := hD
          refine lv_aload_n hx hb dM_forget_86 rfl (lv_at hl 3 rfl) ?_
          refine va_get (D := D) (ci := 1) (v := .ref (ad 5)) (C := RM) (T := TM) (N := 10) hx hb ht uw_M hown hK hP 0 rfl rfl 3 (by decide) (ht _ tb_31) (fun _ h => h) rfl dM_forget_87 ?_
          refine lv_iload_n hx hb dM_forget_90 rfl (lv_at hl 2 rfl) ?_
          refine lv_iconst (v := 0) hx hb dM_forget_91 (by decide) ?_
          refine wa_i hx hb hK hP hD hS 4 rfl n hlt (by decide) rfl dM_forget_92 (fun H locs hP hD hS => ?_)
          have hP : va_P D vwCl [(ad 1, .inr (1, [.ref (ad 2), .ref (ad 3), .ref (ad 4), .ref (ad 5), .ref (ad 6), .ref (ad 7), .int (am_st mm), .int (am_fl mm), .int (am_fe mm), .int (am_cr mm + 1)])), (ad 2, .inl (ks 0, 112, .inr (.inl (ls_va mm sd n)))), (ad 3, .inl (ks 0, 112, .inr (.inl (vp_updL (ls_ke mm sd n) n (ms_pick mm sd n))))), (ad 4, .inl (ks 0, 112, .inr (.inl (am_lv mm)))), (ad 5, .inl (ks 1, 112, .inl (upd (zl (am_lc mm) n) n 0))), (ad 6, .inl (ks 2, 14, .inl (am_uf mm))), (ad 7, .inl (ks 2, 14, .inl (am_fd mm)))] H := hP
          have hD : va_D A [(ad 1, .inr (1, [.ref (ad 2), .ref (ad 3), .ref (ad 4), .ref (ad 5), .ref (ad 6), .ref (ad 7), .int (am_st mm), .int (am_fl mm), .int (am_fe mm), .int (am_cr mm + 1)])), (ad 2, .inl (ks 0, 112, .inr (.inl (ls_va mm sd n)))), (ad 3, .inl (ks 0, 112, .inr (.inl (vp_updL (ls_ke mm sd n) n (ms_pick mm sd n))))), (ad 4, .inl (ks 0, 112, .inr (.inl (am_lv mm)))), (ad 5, .inl (ks 1, 112, .inl (upd (zl (am_lc mm) n) n 0))), (ad 6, .inl (ks 2, 14, .inl (am_uf mm))), (ad 7, .inl (ks 2, 14, .inl (am_fd mm)))] := hD
          refine lv_aload_n hx hb dM_forget_93 rfl (lv_at hl 3 rfl) ?_
          refine va_get (D := D) (ci := 1) (v := .ref (ad 2)) (C := RM) (T := TM) (N := 10) hx hb ht uw_M hown hK hP 0 rfl rfl 0 (by decide) (ht _ tb_27) (fun _ h => h) rfl dM_forget_94 ?_
          refine lv_iload_n hx hb dM_forget_97 rfl (lv_at hl 2 rfl) ?_
          refine lv_aload_n hx hb dM_forget_98 rfl (lv_at hl 3 rfl) ?_
          refine va_get (D := D) (ci := 1) (v := .ref (ad 3)) (C := RM) (T := TM) (N := 10) hx hb ht uw_M hown hK hP 0 rfl rfl 1 (by decide) (ht _ tb_29) (fun _ h => h) rfl dM_forget_99 ?_
          refine lv_iload_n hx hb dM_forget_102 rfl (lv_at hl 2 rfl) ?_
          refine ra_l hx hb hK hP 2 rfl n hlt (by decide) rfl dM_forget_103 ?_
          refine tp_l (ms_pick mm sd n) pk_uLs ?_
          refine wa_l hx hb hK hP hD hS 1 rfl n hlt (by decide) rfl dM_forget_104 (fun H locs hP hD hS => ?_)
          have hP : va_P D vwCl [(ad 1, .inr (1, [.ref (ad 2), .ref (ad 3), .ref (ad 4), .ref (ad 5), .ref (ad 6), .ref (ad 7), .int (am_st mm), .int (am_fl mm), .int (am_fe mm), .int (am_cr mm + 1)])), (ad 2, .inl (ks 0, 112, .inr (.inl (vp_updL (ls_va mm sd n) n (ms_pick mm sd n))))), (ad 3, .inl (ks 0, 112, .inr (.inl (vp_updL (ls_ke mm sd n) n (ms_pick mm sd n))))), (ad 4, .inl (ks 0, 112, .inr (.inl (am_lv mm)))), (ad 5, .inl (ks 1, 112, .inl (upd (zl (am_lc mm) n) n 0))), (ad 6, .inl (ks 2, 14, .inl (am_uf mm))), (ad 7, .inl (ks 2, 14, .inl (am_fd mm)))] H := hP
          have hD : va_D A [(ad 1, .inr (1, [.ref (ad 2), .ref (ad 3), .ref (ad 4), .ref (ad 5), .ref (ad 6), .ref (ad 7), .int (am_st mm), .int (am_fl mm), .int (am_fe mm), .int (am_cr mm + 1)])), (ad 2, .inl (ks 0, 112, .inr (.inl (vp_updL (ls_va mm sd n) n (ms_pick mm sd n))))), (ad 3, .inl (ks 0, 112, .inr (.inl (vp_updL (ls_ke mm sd n) n (ms_pick mm sd n))))), (ad 4, .inl (ks 0, 112, .inr (.inl (am_lv mm)))), (ad 5, .inl (ks 1, 112, .inl (upd (zl (am_lc mm) n) n 0))), (ad 6, .inl (ks 2, 14, .inl (am_uf mm))), (ad 7, .inl (ks 2, 14, .inl (am_fd mm)))] := hD
          refine lv_iinc (k := 2) (x := (nI n)) (v := (nI (n + 1))) (lv' := [(3, .int (nI (n + 1))), (4, .int (ms_r (am_lc mm) sd n)), (2, .int (ms_x (am_lc mm) sd (n + 1))), (0, .ref (ad 1))]) hx hb dM_forget_105 hl rfl (nI_1 _) (by decide) rfl (fun ls hl => ?_)
          refine lv_goto (tgt := 14) hx hb dM_forget_108 rfl ?_
          have hl : lv_has ls 5 [(3, .int (nI (n + 1))), (2, .int (ms_x (am_lc mm) sd (n + 1))), (0, .ref (ad 1))] := lv_sub hl [0, 2, 3] rfl
          have eW : ([(ad 1, .inr (1, [.ref (ad 2), .ref (ad 3), .ref (ad 4), .ref (ad 5), .ref (ad 6), .ref (ad 7), .int (am_st mm), .int (am_fl mm), .int (am_fe mm), .int (am_cr mm + 1)])), (ad 2, .inl (ks 0, 112, .inr (.inl (vp_updL (ls_va mm sd n) n (ms_pick mm sd n))))), (ad 3, .inl (ks 0, 112, .inr (.inl (vp_updL (ls_ke mm sd n) n (ms_pick mm sd n))))), (ad 4, .inl (ks 0, 112, .inr (.inl (am_lv mm)))), (ad 5, .inl (ks 1, 112, .inl (upd (zl (am_lc mm) n) n 0))), (ad 6, .inl (ks 2, 14, .inl (am_uf mm))), (ad 7, .inl (ks 2, 14, .inl (am_fd mm)))] : va_W) = [(ad 1, .inr (1, [.ref (ad 2), .ref (ad 3), .ref (ad 4), .ref (ad 5), .ref (ad 6), .ref (ad 7), .int (am_st mm), .int (am_fl mm), .int (am_fe mm), .int (am_cr mm + 1)])), (ad 2, .inl (ks 0, 112, .inr (.inl (ls_va mm sd (n + 1))))), (ad 3, .inl (ks 0, 112, .inr (.inl (ls_ke mm sd (n + 1))))), (ad 4, .inl (ks 0, 112, .inr (.inl (am_lv mm)))), (ad 5, .inl (ks 1, 112, .inl (zl (am_lc mm) (n + 1)))), (ad 6, .inl (ks 2, 14, .inl (am_uf mm))), (ad 7, .inl (ks 2, 14, .inl (am_fd mm)))] := by
            rw [ls_va_s, ls_ke_s, zl_s]
          rw [eW] at hP hD
          exact ih (n + 1) (by omega) H locs ls hl hP hD hS
  exact LOOP1 (112 - 0) 0 (by omega) H _ _ hl hP hD hS

