set_option maxHeartbeats 4000000 in
set_option maxRecDepth 100000 in
theorem kR_changed (l : Launch) (D : va_G) (ks : Nat → ClassId) (bd : Nat → Nat) (r0 : MS) (sz : Nat)  : Met l yR_changed (.code yR_changed cR_changed 3 (some .int) :: TB) ({ frames := 0, cells := 0, slots := 0, locals := 0 } : Room) (Pcw D ks [.ref (bd 0)] sz [(bd 0, .inr (3, [.int (rs_th r0), .ref (bd 1), .ref (bd 2), .ref (bd 3), .ref (bd 4), .ref (bd 5), .int (rs_dn r0), .int (rs_wi r0), .ref (bd 6), .int (rs_st r0), .int (rs_fl r0), .int (rs_fe r0), .int (rs_cr r0), .int (rs_sp r0), .int (rs_sd r0), .int (rs_so r0), .ref (bd 7), .ref (bd 8), .ref (bd 9), .ref (bd 10), .ref (bd 11)])), (bd 1, .inl (ks 0, 112, .inr (.inl (rs_va r0)))), (bd 2, .inl (ks 0, 112, .inr (.inl (rs_ke r0)))), (bd 3, .inl (ks 0, 448, .inr (.inl (rs_lo r0)))), (bd 4, .inl (ks 1, 112, .inl (rs_ls r0))), (bd 5, .inl (ks 2, 14, .inl (rs_fd r0))), (bd 6, .inl (ks 0, 31, .inr (.inl (rs_wk r0)))), (bd 7, .inl (ks 2, 2, .inl (rs_tk r0))), (bd 8, .inl (ks 0, 8, .inr (.inl (rs_co r0)))), (bd 9, .inl (ks 1, 2, .inl (rs_pr r0))), (bd 10, .inl (ks 0, 16, .inr (.inl (rs_ky r0)))), (bd 11, .inl (ks 0, 16, .inr (.inl (rs_nu r0))))]) (va_Qi (S := Unit) (fun r _ => r = (sb (chl (rs_wk r0) (rs_va r0) 31))) (fun u t => Bw D ks (va_A [(bd 0, .inr (3, [.int (rs_th r0), .ref (bd 1), .ref (bd 2), .ref (bd 3), .ref (bd 4), .ref (bd 5), .int (rs_dn r0), .int (rs_wi r0), .ref (bd 6), .int (rs_st r0), .int (rs_fl r0), .int (rs_fe r0), .int (rs_cr r0), .int (rs_sp r0), .int (rs_sd r0), .int (rs_so r0), .ref (bd 7), .ref (bd 8), .ref (bd 9), .ref (bd 10), .ref (bd 11)])), (bd 1, .inl (ks 0, 112, .inr (.inl (rs_va r0)))), (bd 2, .inl (ks 0, 112, .inr (.inl (rs_ke r0)))), (bd 3, .inl (ks 0, 448, .inr (.inl (rs_lo r0)))), (bd 4, .inl (ks 1, 112, .inl (rs_ls r0))), (bd 5, .inl (ks 2, 14, .inl (rs_fd r0))), (bd 6, .inl (ks 0, 31, .inr (.inl (rs_wk r0)))), (bd 7, .inl (ks 2, 2, .inl (rs_tk r0))), (bd 8, .inl (ks 0, 8, .inr (.inl (rs_co r0)))), (bd 9, .inl (ks 1, 2, .inl (rs_pr r0))), (bd 10, .inl (ks 0, 16, .inr (.inl (rs_ky r0)))), (bd 11, .inl (ks 0, 16, .inr (.inl (rs_nu r0))))] sz) ((fun _ => wR ks bd r0) u) t) (va_A [(bd 0, .inr (3, [.int (rs_th r0), .ref (bd 1), .ref (bd 2), .ref (bd 3), .ref (bd 4), .ref (bd 5), .int (rs_dn r0), .int (rs_wi r0), .ref (bd 6), .int (rs_st r0), .int (rs_fl r0), .int (rs_fe r0), .int (rs_cr r0), .int (rs_sp r0), .int (rs_sd r0), .int (rs_so r0), .ref (bd 7), .ref (bd 8), .ref (bd 9), .ref (bd 10), .ref (bd 11)])), (bd 1, .inl (ks 0, 112, .inr (.inl (rs_va r0)))), (bd 2, .inl (ks 0, 112, .inr (.inl (rs_ke r0)))), (bd 3, .inl (ks 0, 448, .inr (.inl (rs_lo r0)))), (bd 4, .inl (ks 1, 112, .inl (rs_ls r0))), (bd 5, .inl (ks 2, 14, .inl (rs_fd r0))), (bd 6, .inl (ks 0, 31, .inr (.inl (rs_wk r0)))), (bd 7, .inl (ks 2, 2, .inl (rs_tk r0))), (bd 8, .inl (ks 0, 8, .inr (.inl (rs_co r0)))), (bd 9, .inl (ks 1, 2, .inl (rs_pr r0))), (bd 10, .inl (ks 0, 16, .inr (.inl (rs_ky r0)))), (bd 11, .inl (ks 0, 16, .inr (.inl (rs_nu r0))))] sz)) 0 0 (va_A [(bd 0, .inr (3, [.int (rs_th r0), .ref (bd 1), .ref (bd 2), .ref (bd 3), .ref (bd 4), .ref (bd 5), .int (rs_dn r0), .int (rs_wi r0), .ref (bd 6), .int (rs_st r0), .int (rs_fl r0), .int (rs_fe r0), .int (rs_cr r0), .int (rs_sp r0), .int (rs_sd r0), .int (rs_so r0), .ref (bd 7), .ref (bd 8), .ref (bd 9), .ref (bd 10), .ref (bd 11)])), (bd 1, .inl (ks 0, 112, .inr (.inl (rs_va r0)))), (bd 2, .inl (ks 0, 112, .inr (.inl (rs_ke r0)))), (bd 3, .inl (ks 0, 448, .inr (.inl (rs_lo r0)))), (bd 4, .inl (ks 1, 112, .inl (rs_ls r0))), (bd 5, .inl (ks 2, 14, .inl (rs_fd r0))), (bd 6, .inl (ks 0, 31, .inr (.inl (rs_wk r0)))), (bd 7, .inl (ks 2, 2, .inl (rs_tk r0))), (bd 8, .inl (ks 0, 8, .inr (.inl (rs_co r0)))), (bd 9, .inl (ks 1, 2, .inl (rs_pr r0))), (bd 10, .inl (ks 0, 16, .inr (.inl (rs_ky r0)))), (bd 11, .inl (ks 0, 16, .inr (.inl (rs_nu r0))))] sz) := by
  refine bodyI (S := Unit) (wN := (fun _ => wR ks bd r0)) (post := (fun r _ => r = (sb (chl (rs_wk r0) (rs_va r0) 31)))) (by decide) (Nat.le_of_ble_eq_true rfl) (fun p e s m below meth c A ls F hr hlk hK hN hA hsz hP hD hS hl => ?_)
  obtain ⟨hx, hb, hml, hown, ht⟩ := F
  have hown : s.vm.findClass RR = some m.cls := hown
  have F : CallFix p m c cR_changed 3 s ([.ref (bd 0)] : List Value).toArray TB RR := ⟨hx, hb, hml, hown, ht⟩
  have hl : lv_has ls 3 [(0, .ref (bd 0))] := hl
  refine lv_iconst (v := nI 0) hx hb dR_changed_0 (by decide) ?_
  refine lv_istore_n (lv' := [(1, .int (nI 0)), (0, .ref (bd 0))]) hx hb dR_changed_1 rfl hl (by decide) rfl (fun ls hl => ?_)
  refine lv_iconst (v := nI 0) hx hb dR_changed_2 (by decide) ?_
  refine lv_istore_n (lv' := [(2, .int (nI 0)), (1, .int (nI 0)), (0, .ref (bd 0))]) hx hb dR_changed_3 rfl hl (by decide) rfl (fun ls hl => ?_)
  have hl : lv_has ls 3 [(2, .int (nI 0)), (1, .int (sb (chl (rs_wk r0) (rs_va r0) 0))), (0, .ref (bd 0))] := lv_sub hl [0, 1, 2] rfl
  have LOOP : ∀ (k9 n : Nat), n + k9 = 31 → ∀ (H : Heap) (locs : List Loc) (ls : Array Slot), lv_has ls 3 [(2, .int (nI n)), (1, .int (sb (chl (rs_wk r0) (rs_va r0) n))), (0, .ref (bd 0))] → va_P D vwCl [(bd 0, .inr (3, [.int (rs_th r0), .ref (bd 1), .ref (bd 2), .ref (bd 3), .ref (bd 4), .ref (bd 5), .int (rs_dn r0), .int (rs_wi r0), .ref (bd 6), .int (rs_st r0), .int (rs_fl r0), .int (rs_fe r0), .int (rs_cr r0), .int (rs_sp r0), .int (rs_sd r0), .int (rs_so r0), .ref (bd 7), .ref (bd 8), .ref (bd 9), .ref (bd 10), .ref (bd 11)])), (bd 1, .inl (ks 0, 112, .inr (.inl (rs_va r0)))), (bd 2, .inl (ks 0, 112, .inr (.inl (rs_ke r0)))), (bd 3, .inl (ks 0, 448, .inr (.inl (rs_lo r0)))), (bd 4, .inl (ks 1, 112, .inl (rs_ls r0))), (bd 5, .inl (ks 2, 14, .inl (rs_fd r0))), (bd 6, .inl (ks 0, 31, .inr (.inl (rs_wk r0)))), (bd 7, .inl (ks 2, 2, .inl (rs_tk r0))), (bd 8, .inl (ks 0, 8, .inr (.inl (rs_co r0)))), (bd 9, .inl (ks 1, 2, .inl (rs_pr r0))), (bd 10, .inl (ks 0, 16, .inr (.inl (rs_ky r0)))), (bd 11, .inl (ks 0, 16, .inr (.inl (rs_nu r0))))] H → va_D A [(bd 0, .inr (3, [.int (rs_th r0), .ref (bd 1), .ref (bd 2), .ref (bd 3), .ref (bd 4), .ref (bd 5), .int (rs_dn r0), .int (rs_wi r0), .ref (bd 6), .int (rs_st r0), .int (rs_fl r0), .int (rs_fe r0), .int (rs_cr r0), .int (rs_sp r0), .int (rs_sd r0), .int (rs_so r0), .ref (bd 7), .ref (bd 8), .ref (bd 9), .ref (bd 10), .ref (bd 11)])), (bd 1, .inl (ks 0, 112, .inr (.inl (rs_va r0)))), (bd 2, .inl (ks 0, 112, .inr (.inl (rs_ke r0)))), (bd 3, .inl (ks 0, 448, .inr (.inl (rs_lo r0)))), (bd 4, .inl (ks 1, 112, .inl (rs_ls r0))), (bd 5, .inl (ks 2, 14, .inl (rs_fd r0))), (bd 6, .inl (ks 0, 31, .inr (.inl (rs_wk r0)))), (bd 7, .inl (ks 2, 2, .inl (rs_tk r0))), (bd 8, .inl (ks 0, 8, .inr (.inl (rs_co r0)))), (bd 9, .inl (ks 1, 2, .inl (rs_pr r0))), (bd 10, .inl (ks 0, 16, .inr (.inl (rs_ky r0)))), (bd 11, .inl (ks 0, 16, .inr (.inl (rs_nu r0))))] → va_S A s.heap H locs → W p l e ({ frames := 0, cells := 0, slots := 0, locals := 0 } : Room) s m ([.ref (bd 0)] : List Value).toArray below meth c H locs 0 0 (MQ below (va_Qi (S := Unit) (fun r _ => r = (sb (chl (rs_wk r0) (rs_va r0) 31))) (fun u t => Bw D ks A ((fun _ => wR ks bd r0) u) t) A) ([.ref (bd 0)] : List Value).toArray s 0 0 A) (F0 m 4 ls []) := by
    intro k9
    induction k9 with
    | zero =>
      intro n h9 H locs ls hl hP hD hS
      have h9 : n = 31 := h9
      subst h9
      refine lv_iload_n hx hb dR_changed_4 rfl (lv_at hl 0 rfl) ?_
      refine lv_bipush (v := nI 31) hx hb dR_changed_5 (by decide) ?_
      refine lv_icmp_ge (tgt := 42) hx hb dR_changed_7 rfl (fun _ => ?_) (fun h => absurd (by first | exact Int32.le_refl _ | (rw [h9]; exact Int32.le_refl _)) h)
      refine lv_iload_n hx hb dR_changed_42 rfl (lv_at hl 1 rfl) ?_
      exact endI hx hb hr hlk hK () rfl hP hD hS dR_changed_43
    | succ k9 ih =>
      intro n h9 H locs ls hl hP hD hS
      have hlt : n < 31 := by omega
      refine lv_iload_n hx hb dR_changed_4 rfl (lv_at hl 0 rfl) ?_
      refine lv_bipush (v := nI 31) hx hb dR_changed_5 (by decide) ?_
      refine lv_icmp_ge (tgt := 42) hx hb dR_changed_7 rfl (fun h => absurd h (nI_ge (by omega) (by omega))) (fun _ => ?_)
      refine lv_aload_n hx hb dR_changed_10 rfl (lv_at hl 2 rfl) ?_
      refine va_get (D := D) (ci := 3) (v := .ref (bd 6)) (C := RR) (T := TR) (N := 21) hx hb ht uw_R hown hK hP 0 rfl rfl 8 (by decide) (ht _ tb_547) (fun _ h => h) rfl dR_changed_11 ?_
      refine lv_iload_n hx hb dR_changed_14 rfl (lv_at hl 0 rfl) ?_
      refine ra_l hx hb hK hP 6 rfl n hlt (by decide) rfl dR_changed_15 ?_
      refine lv_aload_n hx hb dR_changed_16 rfl (lv_at hl 2 rfl) ?_
      refine va_get (D := D) (ci := 3) (v := .ref (bd 1)) (C := RR) (T := TR) (N := 21) hx hb ht uw_R hown hK hP 0 rfl rfl 1 (by decide) (ht _ tb_540) (fun _ h => h) rfl dR_changed_17 ?_
      refine lv_iload_n hx hb dR_changed_20 rfl (lv_at hl 0 rfl) ?_
      refine ra_l hx hb hK hP 1 rfl n (by omega) (by decide) rfl dR_changed_21 ?_
      refine W.lcmp hx hb dR_changed_22 ?_
      refine lv_if_eq (tgt := 34) hx hb dR_changed_23 rfl (fun h1 => ?_) (fun h2 => ?_)
      · skip
        rw [lg_cmp_eq] at h1
        refine lv_iload_n hx hb dR_changed_34 rfl (lv_at hl 1 rfl) ?_
        refine tp_i (sb (chl (rs_wk r0) (rs_va r0) (n + 1))) (by rw [chl_k h1]) ?_
        refine lv_istore_n (lv' := [(1, .int (sb (chl (rs_wk r0) (rs_va r0) (n + 1)))), (2, .int (nI n)), (0, .ref (bd 0))]) hx hb dR_changed_35 rfl hl (by decide) rfl (fun ls hl => ?_)
        refine lv_iinc (k := 1) (x := (nI n)) (v := (nI (n + 1))) (lv' := [(2, .int (nI (n + 1))), (1, .int (sb (chl (rs_wk r0) (rs_va r0) (n + 1)))), (0, .ref (bd 0))]) hx hb dR_changed_36 hl rfl (nI_1 _) (by decide) rfl (fun ls hl => ?_)
        refine lv_goto (tgt := 4) hx hb dR_changed_39 rfl ?_
        have hl : lv_has ls 3 [(2, .int (nI (n + 1))), (1, .int (sb (chl (rs_wk r0) (rs_va r0) (n + 1)))), (0, .ref (bd 0))] := lv_sub hl [0, 1, 2] rfl
        exact ih (n + 1) (by omega) H locs ls hl hP hD hS
      · skip
        rw [lg_cmp_eq] at h2
        refine lv_iload_n hx hb dR_changed_26 rfl (lv_at hl 1 rfl) ?_
        refine lv_iconst (v := 1) hx hb dR_changed_27 (by decide) ?_
        refine lv_iload_n hx hb dR_changed_28 rfl (lv_at hl 0 rfl) ?_
        refine lv_ishl hx hb dR_changed_29 ?_
        refine lv_ior hx hb dR_changed_30 ?_
        refine lv_goto (tgt := 35) hx hb dR_changed_31 rfl ?_
        refine tp_i (sb (chl (rs_wk r0) (rs_va r0) (n + 1))) (by rw [chl_s h2]; exact sb_s _ _) ?_
        refine lv_istore_n (lv' := [(1, .int (sb (chl (rs_wk r0) (rs_va r0) (n + 1)))), (2, .int (nI n)), (0, .ref (bd 0))]) hx hb dR_changed_35 rfl hl (by decide) rfl (fun ls hl => ?_)
        refine lv_iinc (k := 1) (x := (nI n)) (v := (nI (n + 1))) (lv' := [(2, .int (nI (n + 1))), (1, .int (sb (chl (rs_wk r0) (rs_va r0) (n + 1)))), (0, .ref (bd 0))]) hx hb dR_changed_36 hl rfl (nI_1 _) (by decide) rfl (fun ls hl => ?_)
        refine lv_goto (tgt := 4) hx hb dR_changed_39 rfl ?_
        have hl : lv_has ls 3 [(2, .int (nI (n + 1))), (1, .int (sb (chl (rs_wk r0) (rs_va r0) (n + 1)))), (0, .ref (bd 0))] := lv_sub hl [0, 1, 2] rfl
        exact ih (n + 1) (by omega) H locs ls hl hP hD hS
  exact LOOP (31 - 0) 0 (by omega) s.heap _ _ hl hP hD hS

/-- the flushes that a set of words asks for, from line i on, k lines; the fence -/
def slo (s : Int32) : Nat → Nat → List OP
  | _, 0 => [(2, 0, 0)]
  | i, k + 1 => if ((s >>> (nI (8 * i) &&& 31)) &&& 255) = 0 then slo s (i + 1) k else (1, i, 0) :: slo s (i + 1) k
def SlI (r0 c1 : MS) (s : Int32) (i k : Nat) : Prop := LS01 c1 ∧ ro_run (slo s i k) c1 = ro_run (slo s 0 4) r0
theorem SlI.z {r0 c1 : MS} {s : Int32} {i k : Nat} (h : SlI r0 c1 s i (k + 1)) (hz : ((s >>> (nI (8 * i) &&& 31)) &&& 255) = 0) : SlI r0 c1 s (i + 1) k :=
  ⟨h.1, by rw [← h.2]; show _ = ro_run (if _ then _ else _) c1; rw [if_pos hz]⟩
theorem SlI.s {r0 c1 : MS} {s : Int32} {i k : Nat} (h : SlI r0 c1 s i (k + 1)) (hz : ¬ ((s >>> (nI (8 * i) &&& 31)) &&& 255) = 0) : SlI r0 (rg c1 (fun z => rs_flu z i)) s (i + 1) k :=
  ⟨rg_flu_lc h.1, by rw [← h.2]; show _ = ro_run (if _ then _ else _) c1; rw [if_neg hz]; rfl⟩
theorem slo_eq {S : List Nat} (hS : ∀ w ∈ S, w < 31) : ∀ (k i : Nat), i + k = 4 → slo (sb S) i k = (((List.range' i k).filter (fun k => S.any (fun q => q / 8 == k))).map (fun k => ((1, k, 0) : OP))) ++ [(2, 0, 0)] := by
  intro k
  induction k with
  | zero => intro i _; rfl
  | succ k ih =>
    intro i hi
    have h1 := ih (i + 1) (by omega)
    show (if ((sb S >>> (nI (8 * i) &&& 31)) &&& 255) = 0 then slo (sb S) (i + 1) k else (1, i, 0) :: slo (sb S) (i + 1) k) = _
    rw [List.range'_succ, List.filter_cons]
    by_cases hp : ((sb S >>> (nI (8 * i) &&& 31)) &&& 255) = 0
    · have hq := (sb_line (by omega) hS).mp hp
      rw [if_pos hp, if_neg (fun z => by obtain ⟨w, hw, e⟩ := List.any_eq_true.mp z; exact hq w hw (beq_iff_eq.mp e)), h1]
    · have hq : S.any (fun q => q / 8 == i) = true := by
        apply Classical.byContradiction
        intro z
        exact hp ((sb_line (by omega) hS).mpr (fun w hw e => z (List.any_eq_true.mpr ⟨w, hw, beq_iff_eq.mpr e⟩)))
      rw [if_neg hp, if_pos hq, h1]; rfl
theorem any_map_fst (L : List (Nat × Int64)) (k : Nat) : L.any (fun q => q.1 / 8 == k) = (L.map Prod.fst).any (fun q => q / 8 == k) := by
  rw [List.any_map]; rfl
theorem rn_low {L : List (Nat × Int64)} (h : ∀ q ∈ L, q.1 < 31) : rn_lines L = (List.range' 0 4).filter (fun k => (L.map Prod.fst).any (fun q => q / 8 == k)) := by
  unfold rn_lines
  have e : (fun k => L.any (fun q => q.1 / 8 == k)) = (fun k => (L.map Prod.fst).any (fun q => q / 8 == k)) := funext (any_map_fst L)
  rw [e, show List.range 14 = List.range' 0 4 ++ List.range' 4 10 from rfl, List.filter_append]
  have e2 : (List.range' 4 10).filter (fun k => (L.map Prod.fst).any (fun q => q / 8 == k)) = [] := by
    rw [List.filter_eq_nil_iff]
    intro k hk z
    obtain ⟨w, hw, e3⟩ := List.any_eq_true.mp z
    obtain ⟨q, hq, e4⟩ := List.mem_map.mp hw
    have h1 := h q hq
    have h2 := beq_iff_eq.mp e3
    have h3 := (List.mem_range'_1.mp hk).1
    omega
  rw [e2, List.append_nil]
theorem slo_any {S : List Nat} {L : List (Nat × Int64)} (hS : ∀ w ∈ S, w < 31) (h : ∀ w, w ∈ S ↔ w ∈ L.map Prod.fst) : slo (sb S) 0 4 = (rn_lines L).map (fun k => ((1, k, 0) : OP)) ++ [(2, 0, 0)] := by
  rw [slo_eq hS 4 0 rfl, rn_low (fun q hq => hS _ ((h _).mpr (List.mem_map.mpr ⟨q, hq, rfl⟩)))]
  have e : (fun k => S.any (fun q => q / 8 == k)) = (fun k => (L.map Prod.fst).any (fun q => q / 8 == k)) := funext fun k => by
    rw [Bool.eq_iff_iff, List.any_eq_true, List.any_eq_true]
    exact ⟨fun ⟨w, a, b⟩ => ⟨w, (h w).mp a, b⟩, fun ⟨w, a, b⟩ => ⟨w, (h w).mpr a, b⟩⟩
  rw [e]
theorem lg_cov (v : Nat → Int64) : ∀ (l : List Nat) (e w : Nat), 48 + 2 * e ≤ w → w < 48 + 2 * (e + l.length) → w ∈ (lg_l v e l).map Prod.fst := by
  intro l
  induction l with
  | nil => intro e w h1 h2; rw [List.length_nil] at h2; omega
  | cons a l ih =>
    intro e w h1 h2
    rw [List.length_cons] at h2
    show w ∈ ((48 + 2 * e, lN a) :: (49 + 2 * e, v a) :: lg_l v (e + 1) l).map Prod.fst
    rw [List.map_cons, List.map_cons]
    by_cases q1 : w = 48 + 2 * e
    · rw [q1]; exact List.mem_cons_self
    · by_cases q2 : w = 49 + 2 * e
      · rw [q2]; exact List.mem_cons_of_mem _ List.mem_cons_self
      · exact List.mem_cons_of_mem _ (List.mem_cons_of_mem _ (ih (e + 1) w (by omega) (by omega)))
theorem flt_mid (p : Nat → Bool) (k : Nat) (h6 : 6 ≤ k) (h14 : k ≤ 14) (h : ∀ j, j < 14 → (p j = true ↔ 6 ≤ j ∧ j < k)) : (List.range 14).filter p = List.range' 6 (k - 6) := by
  have e : List.range 14 = List.range' 0 6 ++ (List.range' 6 (k - 6) ++ List.range' k (14 - k)) := by
    have e1 : List.range' 6 (k - 6) ++ List.range' k (14 - k) = List.range' 6 8 := by
      have := List.range'_append (s := 6) (m := k - 6) (n := 14 - k) (step := 1)
      rw [show 6 + 1 * (k - 6) = k by omega, show k - 6 + (14 - k) = 8 by omega] at this
      exact this
    rw [e1]; rfl
  rw [e, List.filter_append, List.filter_append]
  have a1 : (List.range' 0 6).filter p = [] := by
    rw [List.filter_eq_nil_iff]
    intro j hj z
    have := List.mem_range'_1.mp hj
    have := (h j (by omega)).mp z
    omega
  have a2 : (List.range' 6 (k - 6)).filter p = List.range' 6 (k - 6) := by
    rw [List.filter_eq_self]
    intro j hj
    have := List.mem_range'_1.mp hj
    exact (h j (by omega)).mpr (by omega)
  have a3 : (List.range' k (14 - k)).filter p = [] := by
    rw [List.filter_eq_nil_iff]
    intro j hj z
    have := List.mem_range'_1.mp hj
    have := (h j (by omega)).mp z
    omega
  rw [a1, a2, a3, List.append_nil, List.nil_append]
theorem rn_log (v : Nat → Int64) {l : List Nat} (hn : l.length ≤ 31) (h0 : l.length ≠ 0) : rn_lines (lg_l v 0 l) = List.range' 6 ((47 + 2 * l.length) / 8 + 1 - 6) := by
  refine flt_mid _ _ (by omega) (by omega) (fun j hj => ?_)
  rw [List.any_eq_true]
  constructor
  · rintro ⟨q, hq, e⟩
    have h1 := lg_fst v l 0 q hq
    have h2 := beq_iff_eq.mp e
    omega
  · rintro ⟨h6, hk⟩
    have h1 : 8 * j < 48 + 2 * l.length := by omega
    obtain ⟨q, hq, e⟩ := List.mem_map.mp (lg_cov v l 0 (8 * j) (by omega) (by omega))
    exact ⟨q, hq, beq_iff_eq.mpr (by rw [e]; omega)⟩
/-- a run on its way: the steps to come, its end, the work -/
def RWy (os : List OP) (rr : MS) (g : Nat → Int64) (m : MS) : Prop := rGd os m ∧ ro_run os m = rr ∧ rs_wk m = g
theorem RWy.lc {os : List OP} {rr m : MS} {g : Nat → Int64} (h : RWy os rr g m) : LS01 m := h.1.lc
theorem RWy.go {o : OP} {os : List OP} {rr m : MS} {g : Nat → Int64} (h : RWy (o :: os) rr g m) : RWy os rr g (ro_step m o) := ⟨h.1.2.2.2, h.2.1, (ro_step_wk m o).trans h.2.2⟩
theorem RWy.app {a b : List OP} {rr m : MS} {g : Nat → Int64} (h : RWy (a ++ b) rr g m) : RWy b rr g (ro_run a m) := ⟨h.1.app, by rw [← h.2.1, ro_app], (ro_wk a m).trans h.2.2⟩
theorem RWy.st {k : Nat} {x : Int64} {os : List OP} {rr m : MS} {g : Nat → Int64} (h : RWy ((0, k, x) :: os) rr g m) : k < 112 ∧ rs_ls m k = 0 := h.1.2.1 rfl
theorem rnd_40 (x : Int64) : rnd [(40, x)] = [(0, 40, x), (1, 5, 0), (2, 0, 0)] := by
  unfold rnd
  rw [rn_40]; rfl
theorem RWy.cnt {x : Int64} {os : List OP} {rr m : MS} {g : Nat → Int64} (h : RWy (rnd [(40, x)] ++ os) rr g m) : rs_ls m 40 = 0 := by
  rw [rnd_40] at h
  exact (RWy.st (k := 40) (x := x) (os := (1, 5, 0) :: (2, 0, 0) :: os) h).2
abbrev stO (L : List (Nat × Int64)) : List OP := L.map (fun q => ((0, q.1, q.2) : OP))
abbrev flO (L : List Nat) : List OP := L.map (fun k => ((1, k, 0) : OP))
theorem flt_k {g v : Nat → Int64} {w k : Nat} (e : g w = v w) : (List.range' w (k + 1)).filter (fun w => !(g w == v w)) = (List.range' (w + 1) k).filter (fun w => !(g w == v w)) := by
  rw [List.range'_succ, List.filter_cons, if_neg (by rw [e, beq_self_eq_true]; decide)]
theorem flt_s {g v : Nat → Int64} {w k : Nat} (e : ¬ g w = v w) : (List.range' w (k + 1)).filter (fun w => !(g w == v w)) = w :: (List.range' (w + 1) k).filter (fun w => !(g w == v w)) := by
  rw [List.range'_succ, List.filter_cons, if_pos (by rw [beq_eq_false_iff_ne.mpr e]; rfl)]
/-- the log's stores, from word w on -/
def RL1 (v g : Nat → Int64) (tl : List OP) (rr : MS) (w k : Nat) (m : MS) : Prop := RWy (stO (lg_l v (chl g v w).length ((List.range' w k).filter (fun w => !(g w == v w)))) ++ tl) rr g m ∧ rLow v m
theorem RL1.k {v g : Nat → Int64} {tl : List OP} {rr m : MS} {w k : Nat} (h : RL1 v g tl rr w (k + 1) m) (e : g w = v w) : RL1 v g tl rr (w + 1) k m := by
  unfold RL1 at h ⊢
  rw [flt_k e] at h
  rw [chl_k e]
  exact h
theorem RL1.s {v g : Nat → Int64} {tl : List OP} {rr m u1 u2 : MS} {w k : Nat} (h : RL1 v g tl rr w (k + 1) m) (e : ¬ g w = v w) (h1 : u1 = rg m (fun z => rs_sto z (48 + 2 * (chl g v w).length) (lN w))) (h2 : u2 = ro_step u1 (0, 49 + 2 * (chl g v w).length, v w)) : RL1 v g tl rr (w + 1) k u2 := by
  unfold RL1 at h ⊢
  rw [flt_s e] at h
  rw [chl_s e, List.length_append]
  rw [h2, h1]
  exact ⟨h.1.go.go, (h.2.sto (by omega)).sto (by omega)⟩
theorem RL1.a {v g : Nat → Int64} {tl : List OP} {rr m : MS} {w k : Nat} (h : RL1 v g tl rr w (k + 1) m) (e : ¬ g w = v w) : 48 + 2 * (chl g v w).length < 112 ∧ rs_ls m (48 + 2 * (chl g v w).length) = 0 := by
  unfold RL1 at h
  rw [flt_s e] at h
  exact h.1.st
theorem RL1.b {v g : Nat → Int64} {tl : List OP} {rr m u1 : MS} {w k : Nat} (h : RL1 v g tl rr w (k + 1) m) (e : ¬ g w = v w) (h1 : u1 = rg m (fun z => rs_sto z (48 + 2 * (chl g v w).length) (lN w))) : (49 + 2 * (chl g v w).length < 112 ∧ rs_ls u1 (49 + 2 * (chl g v w).length) = 0) ∧ LS01 u1 ∧ rLow v u1 := by
  unfold RL1 at h
  rw [flt_s e] at h
  rw [h1]
  exact ⟨h.1.go.st, h.1.go.lc, h.2.sto (by omega)⟩
/-- the words' stores, from word w on -/
def RL3 (v g : Nat → Int64) (tl : List OP) (rr : MS) (w k : Nat) (m : MS) : Prop := RWy (stO (nw_l g ((List.range' w k).filter (fun w => !(g w == v w)))) ++ tl) rr g m
theorem RL3.k {v g : Nat → Int64} {tl : List OP} {rr m : MS} {w k : Nat} (h : RL3 v g tl rr w (k + 1) m) (e : g w = v w) : RL3 v g tl rr (w + 1) k m := by
  unfold RL3 at h ⊢
  rw [flt_k e] at h
  exact h
theorem RL3.a {v g : Nat → Int64} {tl : List OP} {rr m : MS} {w k : Nat} (h : RL3 v g tl rr w (k + 1) m) (e : ¬ g w = v w) : w < 112 ∧ rs_ls m w = 0 := by
  unfold RL3 at h
  rw [flt_s e] at h
  exact h.st
theorem RL3.s {v g : Nat → Int64} {tl : List OP} {rr m u1 : MS} {w k : Nat} (h : RL3 v g tl rr w (k + 1) m) (e : ¬ g w = v w) (h1 : u1 = rg m (fun z => rs_sto z w (g w))) : RL3 v g tl rr (w + 1) k u1 := by
  unfold RL3 at h ⊢
  rw [flt_s e] at h
  rw [h1]
  exact h.go
theorem chl_in {g v : Nat → Int64} {n w : Nat} (hw : w < n) : w ∈ chl g v n ↔ ¬ g w = v w := by
  unfold chl
  rw [List.mem_filter, List.mem_range]
  constructor
  · rintro ⟨_, h⟩ e
    rw [e, beq_self_eq_true] at h
    exact absurd h (by decide)
  · intro h
    exact ⟨hw, by rw [beq_eq_false_iff_ne.mpr h]; rfl⟩
theorem chl_bit {g v : Nat → Int64} {w : Nat} (hw : w < 31) : ((sb (chl g v 31) >>> (nI w &&& 31)) &&& 1) = nI 1 ↔ ¬ g w = v w := (sb_in hw (fun _ h => chl_mem h)).trans (chl_in hw)
set_option maxHeartbeats 4000000 in
set_option maxRecDepth 100000 in
theorem kR_settle (l : Launch) (D : va_G) (ks : Nat → ClassId) (bd : Nat → Nat) (r0 : MS) (s9 : Int32) (sz : Nat) (hc : ∀ w, w < 112 → rs_ls r0 w = 0 ∨ rs_ls r0 w = 1) : Met l yR_settle (.code yR_settle cR_settle 3 none :: TB) ({ frames := 3, cells := 0, slots := 0, locals := 65 } : Room) (Pcw D ks [.ref (bd 0), .int s9] sz [(bd 0, .inr (3, [.int (rs_th r0), .ref (bd 1), .ref (bd 2), .ref (bd 3), .ref (bd 4), .ref (bd 5), .int (rs_dn r0), .int (rs_wi r0), .ref (bd 6), .int (rs_st r0), .int (rs_fl r0), .int (rs_fe r0), .int (rs_cr r0), .int (rs_sp r0), .int (rs_sd r0), .int (rs_so r0), .ref (bd 7), .ref (bd 8), .ref (bd 9), .ref (bd 10), .ref (bd 11)])), (bd 1, .inl (ks 0, 112, .inr (.inl (rs_va r0)))), (bd 2, .inl (ks 0, 112, .inr (.inl (rs_ke r0)))), (bd 3, .inl (ks 0, 448, .inr (.inl (rs_lo r0)))), (bd 4, .inl (ks 1, 112, .inl (rs_ls r0))), (bd 5, .inl (ks 2, 14, .inl (rs_fd r0))), (bd 6, .inl (ks 0, 31, .inr (.inl (rs_wk r0)))), (bd 7, .inl (ks 2, 2, .inl (rs_tk r0))), (bd 8, .inl (ks 0, 8, .inr (.inl (rs_co r0)))), (bd 9, .inl (ks 1, 2, .inl (rs_pr r0))), (bd 10, .inl (ks 0, 16, .inr (.inl (rs_ky r0)))), (bd 11, .inl (ks 0, 16, .inr (.inl (rs_nu r0))))]) (va_Qv (S := MS) (fun u => u = ro_run (slo s9 0 4) r0) (fun u t => Bw D ks (va_A [(bd 0, .inr (3, [.int (rs_th r0), .ref (bd 1), .ref (bd 2), .ref (bd 3), .ref (bd 4), .ref (bd 5), .int (rs_dn r0), .int (rs_wi r0), .ref (bd 6), .int (rs_st r0), .int (rs_fl r0), .int (rs_fe r0), .int (rs_cr r0), .int (rs_sp r0), .int (rs_sd r0), .int (rs_so r0), .ref (bd 7), .ref (bd 8), .ref (bd 9), .ref (bd 10), .ref (bd 11)])), (bd 1, .inl (ks 0, 112, .inr (.inl (rs_va r0)))), (bd 2, .inl (ks 0, 112, .inr (.inl (rs_ke r0)))), (bd 3, .inl (ks 0, 448, .inr (.inl (rs_lo r0)))), (bd 4, .inl (ks 1, 112, .inl (rs_ls r0))), (bd 5, .inl (ks 2, 14, .inl (rs_fd r0))), (bd 6, .inl (ks 0, 31, .inr (.inl (rs_wk r0)))), (bd 7, .inl (ks 2, 2, .inl (rs_tk r0))), (bd 8, .inl (ks 0, 8, .inr (.inl (rs_co r0)))), (bd 9, .inl (ks 1, 2, .inl (rs_pr r0))), (bd 10, .inl (ks 0, 16, .inr (.inl (rs_ky r0)))), (bd 11, .inl (ks 0, 16, .inr (.inl (rs_nu r0))))] sz) ((fun u => wR ks bd u) u) t) (va_A [(bd 0, .inr (3, [.int (rs_th r0), .ref (bd 1), .ref (bd 2), .ref (bd 3), .ref (bd 4), .ref (bd 5), .int (rs_dn r0), .int (rs_wi r0), .ref (bd 6), .int (rs_st r0), .int (rs_fl r0), .int (rs_fe r0), .int (rs_cr r0), .int (rs_sp r0), .int (rs_sd r0), .int (rs_so r0), .ref (bd 7), .ref (bd 8), .ref (bd 9), .ref (bd 10), .ref (bd 11)])), (bd 1, .inl (ks 0, 112, .inr (.inl (rs_va r0)))), (bd 2, .inl (ks 0, 112, .inr (.inl (rs_ke r0)))), (bd 3, .inl (ks 0, 448, .inr (.inl (rs_lo r0)))), (bd 4, .inl (ks 1, 112, .inl (rs_ls r0))), (bd 5, .inl (ks 2, 14, .inl (rs_fd r0))), (bd 6, .inl (ks 0, 31, .inr (.inl (rs_wk r0)))), (bd 7, .inl (ks 2, 2, .inl (rs_tk r0))), (bd 8, .inl (ks 0, 8, .inr (.inl (rs_co r0)))), (bd 9, .inl (ks 1, 2, .inl (rs_pr r0))), (bd 10, .inl (ks 0, 16, .inr (.inl (rs_ky r0)))), (bd 11, .inl (ks 0, 16, .inr (.inl (rs_nu r0))))] sz)) 0 0 (va_A [(bd 0, .inr (3, [.int (rs_th r0), .ref (bd 1), .ref (bd 2), .ref (bd 3), .ref (bd 4), .ref (bd 5), .int (rs_dn r0), .int (rs_wi r0), .ref (bd 6), .int (rs_st r0), .int (rs_fl r0), .int (rs_fe r0), .int (rs_cr r0), .int (rs_sp r0), .int (rs_sd r0), .int (rs_so r0), .ref (bd 7), .ref (bd 8), .ref (bd 9), .ref (bd 10), .ref (bd 11)])), (bd 1, .inl (ks 0, 112, .inr (.inl (rs_va r0)))), (bd 2, .inl (ks 0, 112, .inr (.inl (rs_ke r0)))), (bd 3, .inl (ks 0, 448, .inr (.inl (rs_lo r0)))), (bd 4, .inl (ks 1, 112, .inl (rs_ls r0))), (bd 5, .inl (ks 2, 14, .inl (rs_fd r0))), (bd 6, .inl (ks 0, 31, .inr (.inl (rs_wk r0)))), (bd 7, .inl (ks 2, 2, .inl (rs_tk r0))), (bd 8, .inl (ks 0, 8, .inr (.inl (rs_co r0)))), (bd 9, .inl (ks 1, 2, .inl (rs_pr r0))), (bd 10, .inl (ks 0, 16, .inr (.inl (rs_ky r0)))), (bd 11, .inl (ks 0, 16, .inr (.inl (rs_nu r0))))] sz) := by
  refine bodyV (S := MS) (wN := (fun u => wR ks bd u)) (post := (fun u => u = ro_run (slo s9 0 4) r0)) (by decide) (Nat.le_of_ble_eq_true rfl) (fun p e s m below meth c A ls F hr hlk hK hN hA hsz hP hD hS hl => ?_)
  obtain ⟨hx, hb, hml, hown, ht⟩ := F
  have hown : s.vm.findClass RR = some m.cls := hown
  have F : CallFix p m c cR_settle 3 s ([.ref (bd 0), .int s9] : List Value).toArray TB RR := ⟨hx, hb, hml, hown, ht⟩
  have hl : lv_has ls 3 [(0, .ref (bd 0)), (1, .int s9)] := hl
  refine lv_iconst (v := nI 0) hx hb dR_settle_0 (by decide) ?_
  refine lv_istore_n (lv' := [(2, .int (nI 0)), (0, .ref (bd 0)), (1, .int s9)]) hx hb dR_settle_1 rfl hl (by decide) rfl (fun ls hl => ?_)
  have LOOP : ∀ (k9 i : Nat), i + k9 = 4 → ∀ c1 : MS, SlI r0 c1 s9 i k9 → ∀ (H : Heap) (locs : List Loc) (ls : Array Slot), lv_has ls 3 [(2, .int (nI i)), (0, .ref (bd 0)), (1, .int s9)] → va_P D vwCl [(bd 0, .inr (3, [.int (rs_th c1), .ref (bd 1), .ref (bd 2), .ref (bd 3), .ref (bd 4), .ref (bd 5), .int (rs_dn c1), .int (rs_wi c1), .ref (bd 6), .int (rs_st c1), .int (rs_fl c1), .int (rs_fe c1), .int (rs_cr c1), .int (rs_sp c1), .int (rs_sd c1), .int (rs_so c1), .ref (bd 7), .ref (bd 8), .ref (bd 9), .ref (bd 10), .ref (bd 11)])), (bd 1, .inl (ks 0, 112, .inr (.inl (rs_va c1)))), (bd 2, .inl (ks 0, 112, .inr (.inl (rs_ke c1)))), (bd 3, .inl (ks 0, 448, .inr (.inl (rs_lo c1)))), (bd 4, .inl (ks 1, 112, .inl (rs_ls c1))), (bd 5, .inl (ks 2, 14, .inl (rs_fd c1))), (bd 6, .inl (ks 0, 31, .inr (.inl (rs_wk c1)))), (bd 7, .inl (ks 2, 2, .inl (rs_tk c1))), (bd 8, .inl (ks 0, 8, .inr (.inl (rs_co c1)))), (bd 9, .inl (ks 1, 2, .inl (rs_pr c1))), (bd 10, .inl (ks 0, 16, .inr (.inl (rs_ky c1)))), (bd 11, .inl (ks 0, 16, .inr (.inl (rs_nu c1))))] H → va_D A [(bd 0, .inr (3, [.int (rs_th c1), .ref (bd 1), .ref (bd 2), .ref (bd 3), .ref (bd 4), .ref (bd 5), .int (rs_dn c1), .int (rs_wi c1), .ref (bd 6), .int (rs_st c1), .int (rs_fl c1), .int (rs_fe c1), .int (rs_cr c1), .int (rs_sp c1), .int (rs_sd c1), .int (rs_so c1), .ref (bd 7), .ref (bd 8), .ref (bd 9), .ref (bd 10), .ref (bd 11)])), (bd 1, .inl (ks 0, 112, .inr (.inl (rs_va c1)))), (bd 2, .inl (ks 0, 112, .inr (.inl (rs_ke c1)))), (bd 3, .inl (ks 0, 448, .inr (.inl (rs_lo c1)))), (bd 4, .inl (ks 1, 112, .inl (rs_ls c1))), (bd 5, .inl (ks 2, 14, .inl (rs_fd c1))), (bd 6, .inl (ks 0, 31, .inr (.inl (rs_wk c1)))), (bd 7, .inl (ks 2, 2, .inl (rs_tk c1))), (bd 8, .inl (ks 0, 8, .inr (.inl (rs_co c1)))), (bd 9, .inl (ks 1, 2, .inl (rs_pr c1))), (bd 10, .inl (ks 0, 16, .inr (.inl (rs_ky c1)))), (bd 11, .inl (ks 0, 16, .inr (.inl (rs_nu c1))))] → va_S A s.heap H locs → W p l e ({ frames := 3, cells := 0, slots := 0, locals := 65 } : Room) s m ([.ref (bd 0), .int s9] : List Value).toArray below meth c H locs 0 0 (MQ below (va_Qv (S := MS) (fun u => u = ro_run (slo s9 0 4) r0) (fun u t => Bw D ks A ((fun u => wR ks bd u) u) t) A) ([.ref (bd 0), .int s9] : List Value).toArray s 0 0 A) (F0 m 2 ls []) := by
    intro k9
    induction k9 with
    | zero =>
      intro i h9 c1 hI H locs ls hl hP hD hS
      have h9 : i = 4 := h9
      subst h9
      refine lv_iload_n hx hb dR_settle_2 rfl (lv_at hl 0 rfl) ?_
      refine lv_iconst (v := nI 4) hx hb dR_settle_3 (by decide) ?_
      refine lv_icmp_ge (tgt := 31) hx hb dR_settle_4 rfl (fun _ => ?_) (fun h => absurd (by first | exact Int32.le_refl _ | (rw [h9]; exact Int32.le_refl _)) h)
      refine lv_aload_n hx hb dR_settle_31 rfl (lv_at hl 1 rfl) ?_
      refine gcv (wr := []) [0, 1, 2, 3, 4, 5, 6, 7, 8, 9, 10, 11] [] rfl rfl rfl (by decide) (va_runV (As := []) (rest := []) F (kR_fence l D ks bd c1 H.size hI.1) (cwV (C := RR) 0 ht (tb_v tb_644 tb_646 tb_sR_fence tb_4 tb_647) rfl rfl rfl ⟨rfl, by decide, by decide, by decide +kernel⟩ ⟨by decide, by decide⟩) (preV 0 3 rfl rfl rfl hK hN hP hD [0, 1, 2, 3, 4, 5, 6, 7, 8, 9, 10, 11] rfl rfl) rfl rfl hl.1 rfl (lv_room (Nat.le_of_ble_eq_true rfl)) dR_settle_32 (by decide)) hP hD hS hA (fun u1 H locs q1 hP hD hS => ?_)
      have hP : va_P D vwCl [(bd 0, .inr (3, [.int (rs_th u1), .ref (bd 1), .ref (bd 2), .ref (bd 3), .ref (bd 4), .ref (bd 5), .int (rs_dn u1), .int (rs_wi u1), .ref (bd 6), .int (rs_st u1), .int (rs_fl u1), .int (rs_fe u1), .int (rs_cr u1), .int (rs_sp u1), .int (rs_sd u1), .int (rs_so u1), .ref (bd 7), .ref (bd 8), .ref (bd 9), .ref (bd 10), .ref (bd 11)])), (bd 1, .inl (ks 0, 112, .inr (.inl (rs_va u1)))), (bd 2, .inl (ks 0, 112, .inr (.inl (rs_ke u1)))), (bd 3, .inl (ks 0, 448, .inr (.inl (rs_lo u1)))), (bd 4, .inl (ks 1, 112, .inl (rs_ls u1))), (bd 5, .inl (ks 2, 14, .inl (rs_fd u1))), (bd 6, .inl (ks 0, 31, .inr (.inl (rs_wk u1)))), (bd 7, .inl (ks 2, 2, .inl (rs_tk u1))), (bd 8, .inl (ks 0, 8, .inr (.inl (rs_co u1)))), (bd 9, .inl (ks 1, 2, .inl (rs_pr u1))), (bd 10, .inl (ks 0, 16, .inr (.inl (rs_ky u1)))), (bd 11, .inl (ks 0, 16, .inr (.inl (rs_nu u1))))] H := hP
      have hD : va_D A [(bd 0, .inr (3, [.int (rs_th u1), .ref (bd 1), .ref (bd 2), .ref (bd 3), .ref (bd 4), .ref (bd 5), .int (rs_dn u1), .int (rs_wi u1), .ref (bd 6), .int (rs_st u1), .int (rs_fl u1), .int (rs_fe u1), .int (rs_cr u1), .int (rs_sp u1), .int (rs_sd u1), .int (rs_so u1), .ref (bd 7), .ref (bd 8), .ref (bd 9), .ref (bd 10), .ref (bd 11)])), (bd 1, .inl (ks 0, 112, .inr (.inl (rs_va u1)))), (bd 2, .inl (ks 0, 112, .inr (.inl (rs_ke u1)))), (bd 3, .inl (ks 0, 448, .inr (.inl (rs_lo u1)))), (bd 4, .inl (ks 1, 112, .inl (rs_ls u1))), (bd 5, .inl (ks 2, 14, .inl (rs_fd u1))), (bd 6, .inl (ks 0, 31, .inr (.inl (rs_wk u1)))), (bd 7, .inl (ks 2, 2, .inl (rs_tk u1))), (bd 8, .inl (ks 0, 8, .inr (.inl (rs_co u1)))), (bd 9, .inl (ks 1, 2, .inl (rs_pr u1))), (bd 10, .inl (ks 0, 16, .inr (.inl (rs_ky u1)))), (bd 11, .inl (ks 0, 16, .inr (.inl (rs_nu u1))))] := hD
      exact endV hx hb hr hlk hK u1 (by rw [q1]; exact hI.2) hP hD hS dR_settle_35
    | succ k9 ih =>
      intro i h9 c1 hI H locs ls hl hP hD hS
      have hlt : i < 4 := by omega
      refine lv_iload_n hx hb dR_settle_2 rfl (lv_at hl 0 rfl) ?_
      refine lv_iconst (v := nI 4) hx hb dR_settle_3 (by decide) ?_
      refine lv_icmp_ge (tgt := 31) hx hb dR_settle_4 rfl (fun h => absurd h (nI_ge (by omega) (by omega))) (fun _ => ?_)
      refine lv_iload_n hx hb dR_settle_7 rfl (lv_at hl 2 rfl) ?_
      refine lv_bipush (v := nI 8) hx hb dR_settle_8 (by decide) ?_
      refine lv_iload_n hx hb dR_settle_10 rfl (lv_at hl 0 rfl) ?_
      refine lv_imul hx hb dR_settle_11 ?_
      refine tp_i (nI (8 * i)) (pk_mul _ _) ?_
      refine lv_ishr hx hb dR_settle_12 ?_
      refine lv_sipush (v := (255 : Int32)) hx hb dR_settle_13 (by decide) ?_
      refine lv_iand hx hb dR_settle_16 ?_
      refine lv_if_eq (tgt := 25) hx hb dR_settle_17 rfl (fun h1 => ?_) (fun h2 => ?_)
      · skip
        refine lv_iinc (k := 0) (x := (nI i)) (v := (nI (i + 1))) (lv' := [(2, .int (nI (i + 1))), (0, .ref (bd 0)), (1, .int s9)]) hx hb dR_settle_25 hl rfl (nI_1 _) (by decide) rfl (fun ls hl => ?_)
        refine lv_goto (tgt := 2) hx hb dR_settle_28 rfl ?_
        have hl : lv_has ls 3 [(2, .int (nI (i + 1))), (0, .ref (bd 0)), (1, .int s9)] := lv_sub hl [0, 1, 2] rfl
        exact ih (i + 1) (by omega) c1 (hI.z h1) H locs ls hl hP hD hS
      · skip
        refine lv_aload_n hx hb dR_settle_20 rfl (lv_at hl 1 rfl) ?_
        refine lv_iload_n hx hb dR_settle_21 rfl (lv_at hl 0 rfl) ?_
        refine gcv (wr := []) [0, 1, 2, 3, 4, 5, 6, 7, 8, 9, 10, 11] [] rfl rfl rfl (by decide) (va_runV (As := [.int (nI i)]) (rest := []) F (kR_flush l D ks bd c1 i H.size (by omega) hI.1) (cwV (C := RR) 1 ht (tb_v tb_640 tb_642 tb_sR_flush tb_4 tb_643) rfl rfl rfl ⟨rfl, by decide, by decide, by decide +kernel⟩ ⟨by decide, by decide⟩) (preV 0 3 rfl rfl rfl hK hN hP hD [0, 1, 2, 3, 4, 5, 6, 7, 8, 9, 10, 11] rfl rfl) rfl rfl hl.1 rfl (lv_room (Nat.le_of_ble_eq_true rfl)) dR_settle_22 (by decide)) hP hD hS hA (fun u2 H locs q2 hP hD hS => ?_)
        have hP : va_P D vwCl [(bd 0, .inr (3, [.int (rs_th u2), .ref (bd 1), .ref (bd 2), .ref (bd 3), .ref (bd 4), .ref (bd 5), .int (rs_dn u2), .int (rs_wi u2), .ref (bd 6), .int (rs_st u2), .int (rs_fl u2), .int (rs_fe u2), .int (rs_cr u2), .int (rs_sp u2), .int (rs_sd u2), .int (rs_so u2), .ref (bd 7), .ref (bd 8), .ref (bd 9), .ref (bd 10), .ref (bd 11)])), (bd 1, .inl (ks 0, 112, .inr (.inl (rs_va u2)))), (bd 2, .inl (ks 0, 112, .inr (.inl (rs_ke u2)))), (bd 3, .inl (ks 0, 448, .inr (.inl (rs_lo u2)))), (bd 4, .inl (ks 1, 112, .inl (rs_ls u2))), (bd 5, .inl (ks 2, 14, .inl (rs_fd u2))), (bd 6, .inl (ks 0, 31, .inr (.inl (rs_wk u2)))), (bd 7, .inl (ks 2, 2, .inl (rs_tk u2))), (bd 8, .inl (ks 0, 8, .inr (.inl (rs_co u2)))), (bd 9, .inl (ks 1, 2, .inl (rs_pr u2))), (bd 10, .inl (ks 0, 16, .inr (.inl (rs_ky u2)))), (bd 11, .inl (ks 0, 16, .inr (.inl (rs_nu u2))))] H := hP
        have hD : va_D A [(bd 0, .inr (3, [.int (rs_th u2), .ref (bd 1), .ref (bd 2), .ref (bd 3), .ref (bd 4), .ref (bd 5), .int (rs_dn u2), .int (rs_wi u2), .ref (bd 6), .int (rs_st u2), .int (rs_fl u2), .int (rs_fe u2), .int (rs_cr u2), .int (rs_sp u2), .int (rs_sd u2), .int (rs_so u2), .ref (bd 7), .ref (bd 8), .ref (bd 9), .ref (bd 10), .ref (bd 11)])), (bd 1, .inl (ks 0, 112, .inr (.inl (rs_va u2)))), (bd 2, .inl (ks 0, 112, .inr (.inl (rs_ke u2)))), (bd 3, .inl (ks 0, 448, .inr (.inl (rs_lo u2)))), (bd 4, .inl (ks 1, 112, .inl (rs_ls u2))), (bd 5, .inl (ks 2, 14, .inl (rs_fd u2))), (bd 6, .inl (ks 0, 31, .inr (.inl (rs_wk u2)))), (bd 7, .inl (ks 2, 2, .inl (rs_tk u2))), (bd 8, .inl (ks 0, 8, .inr (.inl (rs_co u2)))), (bd 9, .inl (ks 1, 2, .inl (rs_pr u2))), (bd 10, .inl (ks 0, 16, .inr (.inl (rs_ky u2)))), (bd 11, .inl (ks 0, 16, .inr (.inl (rs_nu u2))))] := hD
        refine lv_iinc (k := 0) (x := (nI i)) (v := (nI (i + 1))) (lv' := [(2, .int (nI (i + 1))), (0, .ref (bd 0)), (1, .int s9)]) hx hb dR_settle_25 hl rfl (nI_1 _) (by decide) rfl (fun ls hl => ?_)
        refine lv_goto (tgt := 2) hx hb dR_settle_28 rfl ?_
        have hl : lv_has ls 3 [(2, .int (nI (i + 1))), (0, .ref (bd 0)), (1, .int s9)] := lv_sub hl [0, 1, 2] rfl
        exact ih (i + 1) (by omega) u2 (by rw [q2]; exact hI.s h2) H locs ls hl hP hD hS
  have hl : lv_has ls 3 [(2, .int (nI 0)), (0, .ref (bd 0)), (1, .int s9)] := lv_sub hl [0, 1, 2] rfl
  exact LOOP (4 - 0) 0 (by omega) r0 (⟨hc, rfl⟩) s.heap _ _ hl hP hD hS

def rs_c0 (r0 : MS) : MS := (rs_th r0, rs_va r0, rs_ke r0, rs_lo r0, rs_ls r0, rs_fd r0, rs_dn r0, 0, rs_wk r0, rs_st r0, rs_fl r0, rs_fe r0, rs_cr r0, rs_sp r0, rs_sd r0, 0, rs_tk r0, rs_co r0, rs_pr r0, rs_ky r0, rs_nu r0)
def rs_fin (r0 : MS) : MS := ((if rs_so r0 = 0 then 0 else 1), rs_va r0, rs_ke r0, rs_lo r0, rs_ls r0, rs_fd r0, rs_dn r0, rs_wi r0, rs_wk r0, rs_st r0, rs_fl r0, rs_fe r0, rs_cr r0, rs_sp r0, rs_sd r0, rs_so r0, rs_tk r0, rs_co r0, rs_pr r0, rs_ky r0, rs_nu r0)
/-- what commitAll() leaves -/
def CmQ (r0 : MS) (r : Int32) (u : MS) : Prop := ((chl (rs_wk r0) (rs_va r0) 31).length = 0 ∧ r = 0 ∧ u = rs_c0 r0) ∨ ((chl (rs_wk r0) (rs_va r0) 31).length ≠ 0 ∧ u = rs_fin (ro_run (cm_ops (rs_va r0) (rs_wk r0) (chl (rs_wk r0) (rs_va r0) 31)) (rs_c0 r0)) ∧ r = if rs_so (ro_run (cm_ops (rs_va r0) (rs_wk r0) (chl (rs_wk r0) (rs_va r0) 31)) (rs_c0 r0)) = 0 then nI (chl (rs_wk r0) (rs_va r0) 31).length else 0)
set_option maxHeartbeats 4000000 in
set_option maxRecDepth 100000 in
theorem kR_commitAll (l : Launch) (D : va_G) (ks : Nat → ClassId) (bd : Nat → Nat) (r0 : MS) (sz : Nat) (hG : rGd (cm_ops (rs_va r0) (rs_wk r0) (chl (rs_wk r0) (rs_va r0) 31)) (rs_c0 r0)) : Met l yR_commitAll (.code yR_commitAll cR_commitAll 4 (some .int) :: TB) ({ frames := 4, cells := 0, slots := 0, locals := 89 } : Room) (Pcw D ks [.ref (bd 0)] sz [(bd 0, .inr (3, [.int (rs_th r0), .ref (bd 1), .ref (bd 2), .ref (bd 3), .ref (bd 4), .ref (bd 5), .int (rs_dn r0), .int (rs_wi r0), .ref (bd 6), .int (rs_st r0), .int (rs_fl r0), .int (rs_fe r0), .int (rs_cr r0), .int (rs_sp r0), .int (rs_sd r0), .int (rs_so r0), .ref (bd 7), .ref (bd 8), .ref (bd 9), .ref (bd 10), .ref (bd 11)])), (bd 1, .inl (ks 0, 112, .inr (.inl (rs_va r0)))), (bd 2, .inl (ks 0, 112, .inr (.inl (rs_ke r0)))), (bd 3, .inl (ks 0, 448, .inr (.inl (rs_lo r0)))), (bd 4, .inl (ks 1, 112, .inl (rs_ls r0))), (bd 5, .inl (ks 2, 14, .inl (rs_fd r0))), (bd 6, .inl (ks 0, 31, .inr (.inl (rs_wk r0)))), (bd 7, .inl (ks 2, 2, .inl (rs_tk r0))), (bd 8, .inl (ks 0, 8, .inr (.inl (rs_co r0)))), (bd 9, .inl (ks 1, 2, .inl (rs_pr r0))), (bd 10, .inl (ks 0, 16, .inr (.inl (rs_ky r0)))), (bd 11, .inl (ks 0, 16, .inr (.inl (rs_nu r0))))]) (va_Qi (S := MS) (fun r u => CmQ r0 r u) (fun u t => Bw D ks (va_A [(bd 0, .inr (3, [.int (rs_th r0), .ref (bd 1), .ref (bd 2), .ref (bd 3), .ref (bd 4), .ref (bd 5), .int (rs_dn r0), .int (rs_wi r0), .ref (bd 6), .int (rs_st r0), .int (rs_fl r0), .int (rs_fe r0), .int (rs_cr r0), .int (rs_sp r0), .int (rs_sd r0), .int (rs_so r0), .ref (bd 7), .ref (bd 8), .ref (bd 9), .ref (bd 10), .ref (bd 11)])), (bd 1, .inl (ks 0, 112, .inr (.inl (rs_va r0)))), (bd 2, .inl (ks 0, 112, .inr (.inl (rs_ke r0)))), (bd 3, .inl (ks 0, 448, .inr (.inl (rs_lo r0)))), (bd 4, .inl (ks 1, 112, .inl (rs_ls r0))), (bd 5, .inl (ks 2, 14, .inl (rs_fd r0))), (bd 6, .inl (ks 0, 31, .inr (.inl (rs_wk r0)))), (bd 7, .inl (ks 2, 2, .inl (rs_tk r0))), (bd 8, .inl (ks 0, 8, .inr (.inl (rs_co r0)))), (bd 9, .inl (ks 1, 2, .inl (rs_pr r0))), (bd 10, .inl (ks 0, 16, .inr (.inl (rs_ky r0)))), (bd 11, .inl (ks 0, 16, .inr (.inl (rs_nu r0))))] sz) ((fun u => wR ks bd u) u) t) (va_A [(bd 0, .inr (3, [.int (rs_th r0), .ref (bd 1), .ref (bd 2), .ref (bd 3), .ref (bd 4), .ref (bd 5), .int (rs_dn r0), .int (rs_wi r0), .ref (bd 6), .int (rs_st r0), .int (rs_fl r0), .int (rs_fe r0), .int (rs_cr r0), .int (rs_sp r0), .int (rs_sd r0), .int (rs_so r0), .ref (bd 7), .ref (bd 8), .ref (bd 9), .ref (bd 10), .ref (bd 11)])), (bd 1, .inl (ks 0, 112, .inr (.inl (rs_va r0)))), (bd 2, .inl (ks 0, 112, .inr (.inl (rs_ke r0)))), (bd 3, .inl (ks 0, 448, .inr (.inl (rs_lo r0)))), (bd 4, .inl (ks 1, 112, .inl (rs_ls r0))), (bd 5, .inl (ks 2, 14, .inl (rs_fd r0))), (bd 6, .inl (ks 0, 31, .inr (.inl (rs_wk r0)))), (bd 7, .inl (ks 2, 2, .inl (rs_tk r0))), (bd 8, .inl (ks 0, 8, .inr (.inl (rs_co r0)))), (bd 9, .inl (ks 1, 2, .inl (rs_pr r0))), (bd 10, .inl (ks 0, 16, .inr (.inl (rs_ky r0)))), (bd 11, .inl (ks 0, 16, .inr (.inl (rs_nu r0))))] sz)) 0 0 (va_A [(bd 0, .inr (3, [.int (rs_th r0), .ref (bd 1), .ref (bd 2), .ref (bd 3), .ref (bd 4), .ref (bd 5), .int (rs_dn r0), .int (rs_wi r0), .ref (bd 6), .int (rs_st r0), .int (rs_fl r0), .int (rs_fe r0), .int (rs_cr r0), .int (rs_sp r0), .int (rs_sd r0), .int (rs_so r0), .ref (bd 7), .ref (bd 8), .ref (bd 9), .ref (bd 10), .ref (bd 11)])), (bd 1, .inl (ks 0, 112, .inr (.inl (rs_va r0)))), (bd 2, .inl (ks 0, 112, .inr (.inl (rs_ke r0)))), (bd 3, .inl (ks 0, 448, .inr (.inl (rs_lo r0)))), (bd 4, .inl (ks 1, 112, .inl (rs_ls r0))), (bd 5, .inl (ks 2, 14, .inl (rs_fd r0))), (bd 6, .inl (ks 0, 31, .inr (.inl (rs_wk r0)))), (bd 7, .inl (ks 2, 2, .inl (rs_tk r0))), (bd 8, .inl (ks 0, 8, .inr (.inl (rs_co r0)))), (bd 9, .inl (ks 1, 2, .inl (rs_pr r0))), (bd 10, .inl (ks 0, 16, .inr (.inl (rs_ky r0)))), (bd 11, .inl (ks 0, 16, .inr (.inl (rs_nu r0))))] sz) := by
  refine bodyI (S := MS) (wN := (fun u => wR ks bd u)) (post := (fun r u => CmQ r0 r u)) (by decide) (Nat.le_of_ble_eq_true rfl) (fun p e s m below meth c A ls F hr hlk hK hN hA hsz hP hD hS hl => ?_)
  obtain ⟨hx, hb, hml, hown, ht⟩ := F
  have hown : s.vm.findClass RR = some m.cls := hown
  have F : CallFix p m c cR_commitAll 4 s ([.ref (bd 0)] : List Value).toArray TB RR := ⟨hx, hb, hml, hown, ht⟩
  have hl : lv_has ls 4 [(0, .ref (bd 0))] := hl
  refine lv_aload_n hx hb dR_commitAll_0 rfl (lv_at hl 0 rfl) ?_
  refine gci (wr := []) [0, 1, 2, 3, 4, 5, 6, 7, 8, 9, 10, 11] [] rfl rfl rfl (by decide) (va_runV (As := []) (rest := []) F (kR_changed l D ks bd r0 s.heap.size ) (cwV (C := RR) 0 ht (tb_v tb_623 tb_625 tb_sR_changed tb_4 tb_626) rfl rfl rfl ⟨rfl, by decide, by decide, by decide +kernel⟩ ⟨by decide, by decide⟩) (preV 0 3 rfl rfl rfl hK hN hP hD [0, 1, 2, 3, 4, 5, 6, 7, 8, 9, 10, 11] rfl rfl) rfl rfl hl.1 rfl (lv_room (Nat.le_of_ble_eq_true rfl)) dR_commitAll_1 (by decide)) hP hD hS hA (fun r1 u1 H locs q1 hP hD hS => ?_)
  have hP : va_P D vwCl [(bd 0, .inr (3, [.int (rs_th r0), .ref (bd 1), .ref (bd 2), .ref (bd 3), .ref (bd 4), .ref (bd 5), .int (rs_dn r0), .int (rs_wi r0), .ref (bd 6), .int (rs_st r0), .int (rs_fl r0), .int (rs_fe r0), .int (rs_cr r0), .int (rs_sp r0), .int (rs_sd r0), .int (rs_so r0), .ref (bd 7), .ref (bd 8), .ref (bd 9), .ref (bd 10), .ref (bd 11)])), (bd 1, .inl (ks 0, 112, .inr (.inl (rs_va r0)))), (bd 2, .inl (ks 0, 112, .inr (.inl (rs_ke r0)))), (bd 3, .inl (ks 0, 448, .inr (.inl (rs_lo r0)))), (bd 4, .inl (ks 1, 112, .inl (rs_ls r0))), (bd 5, .inl (ks 2, 14, .inl (rs_fd r0))), (bd 6, .inl (ks 0, 31, .inr (.inl (rs_wk r0)))), (bd 7, .inl (ks 2, 2, .inl (rs_tk r0))), (bd 8, .inl (ks 0, 8, .inr (.inl (rs_co r0)))), (bd 9, .inl (ks 1, 2, .inl (rs_pr r0))), (bd 10, .inl (ks 0, 16, .inr (.inl (rs_ky r0)))), (bd 11, .inl (ks 0, 16, .inr (.inl (rs_nu r0))))] H := hP
  have hD : va_D A [(bd 0, .inr (3, [.int (rs_th r0), .ref (bd 1), .ref (bd 2), .ref (bd 3), .ref (bd 4), .ref (bd 5), .int (rs_dn r0), .int (rs_wi r0), .ref (bd 6), .int (rs_st r0), .int (rs_fl r0), .int (rs_fe r0), .int (rs_cr r0), .int (rs_sp r0), .int (rs_sd r0), .int (rs_so r0), .ref (bd 7), .ref (bd 8), .ref (bd 9), .ref (bd 10), .ref (bd 11)])), (bd 1, .inl (ks 0, 112, .inr (.inl (rs_va r0)))), (bd 2, .inl (ks 0, 112, .inr (.inl (rs_ke r0)))), (bd 3, .inl (ks 0, 448, .inr (.inl (rs_lo r0)))), (bd 4, .inl (ks 1, 112, .inl (rs_ls r0))), (bd 5, .inl (ks 2, 14, .inl (rs_fd r0))), (bd 6, .inl (ks 0, 31, .inr (.inl (rs_wk r0)))), (bd 7, .inl (ks 2, 2, .inl (rs_tk r0))), (bd 8, .inl (ks 0, 8, .inr (.inl (rs_co r0)))), (bd 9, .inl (ks 1, 2, .inl (rs_pr r0))), (bd 10, .inl (ks 0, 16, .inr (.inl (rs_ky r0)))), (bd 11, .inl (ks 0, 16, .inr (.inl (rs_nu r0))))] := hD
  obtain ⟨ll, hll⟩ : ∃ z, z = (chl (rs_wk r0) (rs_va r0) 31) := ⟨_, rfl⟩
  have hln : ll.length ≤ 31 := by rw [hll]; exact chl_len _ _ _
  have h31 : ∀ w ∈ ll, w < 31 := fun w h => chl_mem (hll ▸ h)
  refine tp_i (sb ll) (by rw [q1, hll]) ?_
  refine lv_istore_n (lv' := [(1, .int (sb ll)), (0, .ref (bd 0))]) hx hb dR_commitAll_4 rfl hl (by decide) rfl (fun ls hl => ?_)
  refine lv_aload_n hx hb dR_commitAll_5 rfl (lv_at hl 1 rfl) ?_
  refine lv_iconst (v := 0) hx hb dR_commitAll_6 (by decide) ?_
  refine va_put (D := D) (ci := 3) (v := .int 0) (ty := .boolean) (C := RR) (T := TR) (N := 21) hx hb ht uw_R ty_R ty_R_ok nm_R hown hK hP hD hS 0 rfl rfl 7 (by decide) (ht _ tb_546) (fun _ h => h) rfl (by decide +kernel) (by decide) rfl (Nat.le_of_ble_eq_true rfl) dR_commitAll_7 (fun H locs hP hD hS => ?_)
  have hP : va_P D vwCl [(bd 0, .inr (3, [.int (rs_th r0), .ref (bd 1), .ref (bd 2), .ref (bd 3), .ref (bd 4), .ref (bd 5), .int (rs_dn r0), .int 0, .ref (bd 6), .int (rs_st r0), .int (rs_fl r0), .int (rs_fe r0), .int (rs_cr r0), .int (rs_sp r0), .int (rs_sd r0), .int (rs_so r0), .ref (bd 7), .ref (bd 8), .ref (bd 9), .ref (bd 10), .ref (bd 11)])), (bd 1, .inl (ks 0, 112, .inr (.inl (rs_va r0)))), (bd 2, .inl (ks 0, 112, .inr (.inl (rs_ke r0)))), (bd 3, .inl (ks 0, 448, .inr (.inl (rs_lo r0)))), (bd 4, .inl (ks 1, 112, .inl (rs_ls r0))), (bd 5, .inl (ks 2, 14, .inl (rs_fd r0))), (bd 6, .inl (ks 0, 31, .inr (.inl (rs_wk r0)))), (bd 7, .inl (ks 2, 2, .inl (rs_tk r0))), (bd 8, .inl (ks 0, 8, .inr (.inl (rs_co r0)))), (bd 9, .inl (ks 1, 2, .inl (rs_pr r0))), (bd 10, .inl (ks 0, 16, .inr (.inl (rs_ky r0)))), (bd 11, .inl (ks 0, 16, .inr (.inl (rs_nu r0))))] H := hP
  have hD : va_D A [(bd 0, .inr (3, [.int (rs_th r0), .ref (bd 1), .ref (bd 2), .ref (bd 3), .ref (bd 4), .ref (bd 5), .int (rs_dn r0), .int 0, .ref (bd 6), .int (rs_st r0), .int (rs_fl r0), .int (rs_fe r0), .int (rs_cr r0), .int (rs_sp r0), .int (rs_sd r0), .int (rs_so r0), .ref (bd 7), .ref (bd 8), .ref (bd 9), .ref (bd 10), .ref (bd 11)])), (bd 1, .inl (ks 0, 112, .inr (.inl (rs_va r0)))), (bd 2, .inl (ks 0, 112, .inr (.inl (rs_ke r0)))), (bd 3, .inl (ks 0, 448, .inr (.inl (rs_lo r0)))), (bd 4, .inl (ks 1, 112, .inl (rs_ls r0))), (bd 5, .inl (ks 2, 14, .inl (rs_fd r0))), (bd 6, .inl (ks 0, 31, .inr (.inl (rs_wk r0)))), (bd 7, .inl (ks 2, 2, .inl (rs_tk r0))), (bd 8, .inl (ks 0, 8, .inr (.inl (rs_co r0)))), (bd 9, .inl (ks 1, 2, .inl (rs_pr r0))), (bd 10, .inl (ks 0, 16, .inr (.inl (rs_ky r0)))), (bd 11, .inl (ks 0, 16, .inr (.inl (rs_nu r0))))] := hD
  refine lv_aload_n hx hb dR_commitAll_10 rfl (lv_at hl 1 rfl) ?_
  refine lv_iconst (v := 0) hx hb dR_commitAll_11 (by decide) ?_
  refine va_put (D := D) (ci := 3) (v := .int 0) (ty := .boolean) (C := RR) (T := TR) (N := 21) hx hb ht uw_R ty_R ty_R_ok nm_R hown hK hP hD hS 0 rfl rfl 15 (by decide) (ht _ tb_554) (fun _ h => h) rfl (by decide +kernel) (by decide) rfl (Nat.le_of_ble_eq_true rfl) dR_commitAll_12 (fun H locs hP hD hS => ?_)
  have hP : va_P D vwCl [(bd 0, .inr (3, [.int (rs_th r0), .ref (bd 1), .ref (bd 2), .ref (bd 3), .ref (bd 4), .ref (bd 5), .int (rs_dn r0), .int 0, .ref (bd 6), .int (rs_st r0), .int (rs_fl r0), .int (rs_fe r0), .int (rs_cr r0), .int (rs_sp r0), .int (rs_sd r0), .int 0, .ref (bd 7), .ref (bd 8), .ref (bd 9), .ref (bd 10), .ref (bd 11)])), (bd 1, .inl (ks 0, 112, .inr (.inl (rs_va r0)))), (bd 2, .inl (ks 0, 112, .inr (.inl (rs_ke r0)))), (bd 3, .inl (ks 0, 448, .inr (.inl (rs_lo r0)))), (bd 4, .inl (ks 1, 112, .inl (rs_ls r0))), (bd 5, .inl (ks 2, 14, .inl (rs_fd r0))), (bd 6, .inl (ks 0, 31, .inr (.inl (rs_wk r0)))), (bd 7, .inl (ks 2, 2, .inl (rs_tk r0))), (bd 8, .inl (ks 0, 8, .inr (.inl (rs_co r0)))), (bd 9, .inl (ks 1, 2, .inl (rs_pr r0))), (bd 10, .inl (ks 0, 16, .inr (.inl (rs_ky r0)))), (bd 11, .inl (ks 0, 16, .inr (.inl (rs_nu r0))))] H := hP
  have hD : va_D A [(bd 0, .inr (3, [.int (rs_th r0), .ref (bd 1), .ref (bd 2), .ref (bd 3), .ref (bd 4), .ref (bd 5), .int (rs_dn r0), .int 0, .ref (bd 6), .int (rs_st r0), .int (rs_fl r0), .int (rs_fe r0), .int (rs_cr r0), .int (rs_sp r0), .int (rs_sd r0), .int 0, .ref (bd 7), .ref (bd 8), .ref (bd 9), .ref (bd 10), .ref (bd 11)])), (bd 1, .inl (ks 0, 112, .inr (.inl (rs_va r0)))), (bd 2, .inl (ks 0, 112, .inr (.inl (rs_ke r0)))), (bd 3, .inl (ks 0, 448, .inr (.inl (rs_lo r0)))), (bd 4, .inl (ks 1, 112, .inl (rs_ls r0))), (bd 5, .inl (ks 2, 14, .inl (rs_fd r0))), (bd 6, .inl (ks 0, 31, .inr (.inl (rs_wk r0)))), (bd 7, .inl (ks 2, 2, .inl (rs_tk r0))), (bd 8, .inl (ks 0, 8, .inr (.inl (rs_co r0)))), (bd 9, .inl (ks 1, 2, .inl (rs_pr r0))), (bd 10, .inl (ks 0, 16, .inr (.inl (rs_ky r0)))), (bd 11, .inl (ks 0, 16, .inr (.inl (rs_nu r0))))] := hD
  refine lv_iconst (v := nI 0) hx hb dR_commitAll_15 (by decide) ?_
  refine lv_istore_n (lv' := [(2, .int (nI 0)), (1, .int (sb ll)), (0, .ref (bd 0))]) hx hb dR_commitAll_16 rfl hl (by decide) rfl (fun ls hl => ?_)
  refine lv_iload_n hx hb dR_commitAll_17 rfl (lv_at hl 1 rfl) ?_
  refine lv_if_ne (tgt := 23) hx hb dR_commitAll_18 rfl (fun hnz => ?_) (fun hz0 => ?_)
  · skip
    have hn0 : ll.length ≠ 0 := fun z => hnz ((sb_zero h31).mpr (List.eq_nil_of_length_eq_zero z))
    refine lv_iconst (v := nI 0) hx hb dR_commitAll_23 (by decide) ?_
    refine lv_istore_n (lv' := [(3, .int (nI 0)), (2, .int (nI 0)), (1, .int (sb ll)), (0, .ref (bd 0))]) hx hb dR_commitAll_24 rfl hl (by decide) rfl (fun ls hl => ?_)
    have hP : va_P D vwCl [(bd 0, .inr (3, [.int (rs_th (rs_c0 r0)), .ref (bd 1), .ref (bd 2), .ref (bd 3), .ref (bd 4), .ref (bd 5), .int (rs_dn (rs_c0 r0)), .int (rs_wi (rs_c0 r0)), .ref (bd 6), .int (rs_st (rs_c0 r0)), .int (rs_fl (rs_c0 r0)), .int (rs_fe (rs_c0 r0)), .int (rs_cr (rs_c0 r0)), .int (rs_sp (rs_c0 r0)), .int (rs_sd (rs_c0 r0)), .int (rs_so (rs_c0 r0)), .ref (bd 7), .ref (bd 8), .ref (bd 9), .ref (bd 10), .ref (bd 11)])), (bd 1, .inl (ks 0, 112, .inr (.inl (rs_va (rs_c0 r0))))), (bd 2, .inl (ks 0, 112, .inr (.inl (rs_ke (rs_c0 r0))))), (bd 3, .inl (ks 0, 448, .inr (.inl (rs_lo (rs_c0 r0))))), (bd 4, .inl (ks 1, 112, .inl (rs_ls (rs_c0 r0)))), (bd 5, .inl (ks 2, 14, .inl (rs_fd (rs_c0 r0)))), (bd 6, .inl (ks 0, 31, .inr (.inl (rs_wk (rs_c0 r0))))), (bd 7, .inl (ks 2, 2, .inl (rs_tk (rs_c0 r0)))), (bd 8, .inl (ks 0, 8, .inr (.inl (rs_co (rs_c0 r0))))), (bd 9, .inl (ks 1, 2, .inl (rs_pr (rs_c0 r0)))), (bd 10, .inl (ks 0, 16, .inr (.inl (rs_ky (rs_c0 r0))))), (bd 11, .inl (ks 0, 16, .inr (.inl (rs_nu (rs_c0 r0)))))] H := hP
    have hD : va_D A [(bd 0, .inr (3, [.int (rs_th (rs_c0 r0)), .ref (bd 1), .ref (bd 2), .ref (bd 3), .ref (bd 4), .ref (bd 5), .int (rs_dn (rs_c0 r0)), .int (rs_wi (rs_c0 r0)), .ref (bd 6), .int (rs_st (rs_c0 r0)), .int (rs_fl (rs_c0 r0)), .int (rs_fe (rs_c0 r0)), .int (rs_cr (rs_c0 r0)), .int (rs_sp (rs_c0 r0)), .int (rs_sd (rs_c0 r0)), .int (rs_so (rs_c0 r0)), .ref (bd 7), .ref (bd 8), .ref (bd 9), .ref (bd 10), .ref (bd 11)])), (bd 1, .inl (ks 0, 112, .inr (.inl (rs_va (rs_c0 r0))))), (bd 2, .inl (ks 0, 112, .inr (.inl (rs_ke (rs_c0 r0))))), (bd 3, .inl (ks 0, 448, .inr (.inl (rs_lo (rs_c0 r0))))), (bd 4, .inl (ks 1, 112, .inl (rs_ls (rs_c0 r0)))), (bd 5, .inl (ks 2, 14, .inl (rs_fd (rs_c0 r0)))), (bd 6, .inl (ks 0, 31, .inr (.inl (rs_wk (rs_c0 r0))))), (bd 7, .inl (ks 2, 2, .inl (rs_tk (rs_c0 r0)))), (bd 8, .inl (ks 0, 8, .inr (.inl (rs_co (rs_c0 r0))))), (bd 9, .inl (ks 1, 2, .inl (rs_pr (rs_c0 r0)))), (bd 10, .inl (ks 0, 16, .inr (.inl (rs_ky (rs_c0 r0))))), (bd 11, .inl (ks 0, 16, .inr (.inl (rs_nu (rs_c0 r0)))))] := hD
    obtain ⟨rr, hrr⟩ : ∃ z, z = ro_run (cm_ops (rs_va r0) (rs_wk r0) (chl (rs_wk r0) (rs_va r0) 31)) (rs_c0 r0) := ⟨_, rfl⟩
    have hI0 : RL1 (rs_va r0) (rs_wk r0) (flO (rn_lines (lg_l (rs_va r0) 0 ll)) ++ [(2, 0, 0)] ++ (rnd [(40, lN ll.length)] ++ (rnd (nw_l (rs_wk r0) ll) ++ (rnd [(40, 0)])))) rr 0 31 (rs_c0 r0) := by
      have e2 : ((List.range' 0 31).filter (fun w => !((rs_wk r0) w == (rs_va r0) w))) = ll := by rw [hll]; unfold chl; rw [List.range_eq_range']
      have e0 : (cm_ops (rs_va r0) (rs_wk r0) (chl (rs_wk r0) (rs_va r0) 31)) = stO (lg_l (rs_va r0) (chl (rs_wk r0) (rs_va r0) 0).length ((List.range' 0 31).filter (fun w => !((rs_wk r0) w == (rs_va r0) w)))) ++ (flO (rn_lines (lg_l (rs_va r0) 0 ll)) ++ [(2, 0, 0)] ++ (rnd [(40, lN ll.length)] ++ (rnd (nw_l (rs_wk r0) ll) ++ (rnd [(40, 0)])))) := by rw [e2, ← hll]; exact List.append_assoc _ _ _
      refine ⟨⟨?_, ?_, rfl⟩, fun _ _ _ => rfl⟩
      · rw [← e0]; exact hG
      · rw [← e0]; exact hrr.symm
    have LOOP1 : ∀ (k9 n : Nat), n + k9 = 31 → ∀ c1 : MS, RL1 (rs_va r0) (rs_wk r0) (flO (rn_lines (lg_l (rs_va r0) 0 ll)) ++ [(2, 0, 0)] ++ (rnd [(40, lN ll.length)] ++ (rnd (nw_l (rs_wk r0) ll) ++ (rnd [(40, 0)])))) rr n k9 c1 → ∀ (H : Heap) (locs : List Loc) (ls : Array Slot), lv_has ls 4 [(3, .int (nI n)), (2, .int (nI (chl (rs_wk r0) (rs_va r0) n).length)), (0, .ref (bd 0)), (1, .int (sb ll))] → va_P D vwCl [(bd 0, .inr (3, [.int (rs_th c1), .ref (bd 1), .ref (bd 2), .ref (bd 3), .ref (bd 4), .ref (bd 5), .int (rs_dn c1), .int (rs_wi c1), .ref (bd 6), .int (rs_st c1), .int (rs_fl c1), .int (rs_fe c1), .int (rs_cr c1), .int (rs_sp c1), .int (rs_sd c1), .int (rs_so c1), .ref (bd 7), .ref (bd 8), .ref (bd 9), .ref (bd 10), .ref (bd 11)])), (bd 1, .inl (ks 0, 112, .inr (.inl (rs_va c1)))), (bd 2, .inl (ks 0, 112, .inr (.inl (rs_ke c1)))), (bd 3, .inl (ks 0, 448, .inr (.inl (rs_lo c1)))), (bd 4, .inl (ks 1, 112, .inl (rs_ls c1))), (bd 5, .inl (ks 2, 14, .inl (rs_fd c1))), (bd 6, .inl (ks 0, 31, .inr (.inl (rs_wk c1)))), (bd 7, .inl (ks 2, 2, .inl (rs_tk c1))), (bd 8, .inl (ks 0, 8, .inr (.inl (rs_co c1)))), (bd 9, .inl (ks 1, 2, .inl (rs_pr c1))), (bd 10, .inl (ks 0, 16, .inr (.inl (rs_ky c1)))), (bd 11, .inl (ks 0, 16, .inr (.inl (rs_nu c1))))] H → va_D A [(bd 0, .inr (3, [.int (rs_th c1), .ref (bd 1), .ref (bd 2), .ref (bd 3), .ref (bd 4), .ref (bd 5), .int (rs_dn c1), .int (rs_wi c1), .ref (bd 6), .int (rs_st c1), .int (rs_fl c1), .int (rs_fe c1), .int (rs_cr c1), .int (rs_sp c1), .int (rs_sd c1), .int (rs_so c1), .ref (bd 7), .ref (bd 8), .ref (bd 9), .ref (bd 10), .ref (bd 11)])), (bd 1, .inl (ks 0, 112, .inr (.inl (rs_va c1)))), (bd 2, .inl (ks 0, 112, .inr (.inl (rs_ke c1)))), (bd 3, .inl (ks 0, 448, .inr (.inl (rs_lo c1)))), (bd 4, .inl (ks 1, 112, .inl (rs_ls c1))), (bd 5, .inl (ks 2, 14, .inl (rs_fd c1))), (bd 6, .inl (ks 0, 31, .inr (.inl (rs_wk c1)))), (bd 7, .inl (ks 2, 2, .inl (rs_tk c1))), (bd 8, .inl (ks 0, 8, .inr (.inl (rs_co c1)))), (bd 9, .inl (ks 1, 2, .inl (rs_pr c1))), (bd 10, .inl (ks 0, 16, .inr (.inl (rs_ky c1)))), (bd 11, .inl (ks 0, 16, .inr (.inl (rs_nu c1))))] → va_S A s.heap H locs → W p l e ({ frames := 4, cells := 0, slots := 0, locals := 89 } : Room) s m ([.ref (bd 0)] : List Value).toArray below meth c H locs 0 0 (MQ below (va_Qi (S := MS) (fun r u => CmQ r0 r u) (fun u t => Bw D ks A ((fun u => wR ks bd u) u) t) A) ([.ref (bd 0)] : List Value).toArray s 0 0 A) (F0 m 25 ls []) := by
      intro k9
      induction k9 with
      | zero =>
        intro n h9 c1 hI H locs ls hl hP hD hS
        have h9 : n = 31 := h9
        subst h9
        refine lv_iload_n hx hb dR_commitAll_25 rfl (lv_at hl 0 rfl) ?_
        refine lv_bipush (v := nI 31) hx hb dR_commitAll_26 (by decide) ?_
        refine lv_icmp_ge (tgt := 77) hx hb dR_commitAll_28 rfl (fun _ => ?_) (fun h => absurd (by first | exact Int32.le_refl _ | (rw [h9]; exact Int32.le_refl _)) h)
        have hl : lv_has ls 4 [(3, .int (nI 31)), (2, .int (nI ll.length)), (0, .ref (bd 0)), (1, .int (sb ll))] := by rw [hll]; rw [hll] at hl; exact hl
        have hI : RWy (flO (List.range' 6 (((47 + 2 * ll.length) / 8 + 1) - 6)) ++ [(2, 0, 0)] ++ (rnd [(40, lN ll.length)] ++ (rnd (nw_l (rs_wk r0) ll) ++ (rnd [(40, 0)])))) rr (rs_wk r0) c1 := by
          have h8 := hI.1
          rw [rn_log _ hln hn0] at h8
          exact h8
        refine lv_bipush (v := nI 6) hx hb dR_commitAll_77 (by decide) ?_
        refine lv_istore_n (lv' := [(3, .int (nI 6)), (2, .int (nI ll.length)), (0, .ref (bd 0)), (1, .int (sb ll))]) hx hb dR_commitAll_79 rfl hl (by decide) rfl (fun ls hl => ?_)
        have LOOP2 : ∀ (k9 j : Nat), j + k9 = ((47 + 2 * ll.length) / 8 + 1) → ∀ c1 : MS, RWy (flO (List.range' j k9) ++ [(2, 0, 0)] ++ (rnd [(40, lN ll.length)] ++ (rnd (nw_l (rs_wk r0) ll) ++ (rnd [(40, 0)])))) rr (rs_wk r0) c1 → ∀ (H : Heap) (locs : List Loc) (ls : Array Slot), lv_has ls 4 [(3, .int (nI j)), (2, .int (nI ll.length)), (0, .ref (bd 0)), (1, .int (sb ll))] → va_P D vwCl [(bd 0, .inr (3, [.int (rs_th c1), .ref (bd 1), .ref (bd 2), .ref (bd 3), .ref (bd 4), .ref (bd 5), .int (rs_dn c1), .int (rs_wi c1), .ref (bd 6), .int (rs_st c1), .int (rs_fl c1), .int (rs_fe c1), .int (rs_cr c1), .int (rs_sp c1), .int (rs_sd c1), .int (rs_so c1), .ref (bd 7), .ref (bd 8), .ref (bd 9), .ref (bd 10), .ref (bd 11)])), (bd 1, .inl (ks 0, 112, .inr (.inl (rs_va c1)))), (bd 2, .inl (ks 0, 112, .inr (.inl (rs_ke c1)))), (bd 3, .inl (ks 0, 448, .inr (.inl (rs_lo c1)))), (bd 4, .inl (ks 1, 112, .inl (rs_ls c1))), (bd 5, .inl (ks 2, 14, .inl (rs_fd c1))), (bd 6, .inl (ks 0, 31, .inr (.inl (rs_wk c1)))), (bd 7, .inl (ks 2, 2, .inl (rs_tk c1))), (bd 8, .inl (ks 0, 8, .inr (.inl (rs_co c1)))), (bd 9, .inl (ks 1, 2, .inl (rs_pr c1))), (bd 10, .inl (ks 0, 16, .inr (.inl (rs_ky c1)))), (bd 11, .inl (ks 0, 16, .inr (.inl (rs_nu c1))))] H → va_D A [(bd 0, .inr (3, [.int (rs_th c1), .ref (bd 1), .ref (bd 2), .ref (bd 3), .ref (bd 4), .ref (bd 5), .int (rs_dn c1), .int (rs_wi c1), .ref (bd 6), .int (rs_st c1), .int (rs_fl c1), .int (rs_fe c1), .int (rs_cr c1), .int (rs_sp c1), .int (rs_sd c1), .int (rs_so c1), .ref (bd 7), .ref (bd 8), .ref (bd 9), .ref (bd 10), .ref (bd 11)])), (bd 1, .inl (ks 0, 112, .inr (.inl (rs_va c1)))), (bd 2, .inl (ks 0, 112, .inr (.inl (rs_ke c1)))), (bd 3, .inl (ks 0, 448, .inr (.inl (rs_lo c1)))), (bd 4, .inl (ks 1, 112, .inl (rs_ls c1))), (bd 5, .inl (ks 2, 14, .inl (rs_fd c1))), (bd 6, .inl (ks 0, 31, .inr (.inl (rs_wk c1)))), (bd 7, .inl (ks 2, 2, .inl (rs_tk c1))), (bd 8, .inl (ks 0, 8, .inr (.inl (rs_co c1)))), (bd 9, .inl (ks 1, 2, .inl (rs_pr c1))), (bd 10, .inl (ks 0, 16, .inr (.inl (rs_ky c1)))), (bd 11, .inl (ks 0, 16, .inr (.inl (rs_nu c1))))] → va_S A s.heap H locs → W p l e ({ frames := 4, cells := 0, slots := 0, locals := 89 } : Room) s m ([.ref (bd 0)] : List Value).toArray below meth c H locs 0 0 (MQ below (va_Qi (S := MS) (fun r u => CmQ r0 r u) (fun u t => Bw D ks A ((fun u => wR ks bd u) u) t) A) ([.ref (bd 0)] : List Value).toArray s 0 0 A) (F0 m 80 ls []) := by
          intro k9
          induction k9 with
          | zero =>
            intro j h9 c1 hI H locs ls hl hP hD hS
            have h9 : j = ((47 + 2 * ll.length) / 8 + 1) := h9
            subst h9
            refine lv_iload_n hx hb dR_commitAll_80 rfl (lv_at hl 0 rfl) ?_
            refine lv_bipush (v := nI 48) hx hb dR_commitAll_81 (by decide) ?_
            refine lv_iconst (v := nI 2) hx hb dR_commitAll_83 (by decide) ?_
            refine lv_iload_n hx hb dR_commitAll_84 rfl (lv_at hl 1 rfl) ?_
            refine lv_imul hx hb dR_commitAll_85 ?_
            refine lv_iadd hx hb dR_commitAll_86 ?_
            refine tp_i (nI (48 + 2 * ll.length)) (by rw [pk_mul, nI_add]) ?_
            refine lv_iconst (v := nI 1) hx hb dR_commitAll_87 (by decide) ?_
            refine lv_isub hx hb dR_commitAll_88 ?_
            refine tp_i (nI (47 + 2 * ll.length)) (by rw [pk_sub (by omega), show 48 + 2 * ll.length - 1 = 47 + 2 * ll.length by omega]) ?_
            refine lv_bipush (v := nI 8) hx hb dR_commitAll_89 (by decide) ?_
            refine lv_idiv hx hb dR_commitAll_91 (by decide) ?_
            refine tp_i (nI ((47 + 2 * ll.length) / 8)) (pk_div (by omega) (by decide) (by decide)) ?_
            refine lv_icmp_gt (tgt := 106) hx hb dR_commitAll_92 rfl (fun _ => ?_) (fun h => absurd (nI_lt (by omega) (by omega)) h)
            refine lv_aload_n hx hb dR_commitAll_106 rfl (lv_at hl 2 rfl) ?_
            refine gcv (wr := []) [0, 1, 2, 3, 4, 5, 6, 7, 8, 9, 10, 11] [] rfl rfl rfl (by decide) (va_runV (As := []) (rest := []) F (kR_fence l D ks bd c1 H.size hI.lc) (cwV (C := RR) 0 ht (tb_v tb_644 tb_646 tb_sR_fence tb_4 tb_647) rfl rfl rfl ⟨rfl, by decide, by decide, by decide +kernel⟩ ⟨by decide, by decide⟩) (preV 0 3 rfl rfl rfl hK hN hP hD [0, 1, 2, 3, 4, 5, 6, 7, 8, 9, 10, 11] rfl rfl) rfl rfl hl.1 rfl (lv_room (Nat.le_of_ble_eq_true rfl)) dR_commitAll_107 (by decide)) hP hD hS hA (fun u2 H locs q2 hP hD hS => ?_)
            have hP : va_P D vwCl [(bd 0, .inr (3, [.int (rs_th u2), .ref (bd 1), .ref (bd 2), .ref (bd 3), .ref (bd 4), .ref (bd 5), .int (rs_dn u2), .int (rs_wi u2), .ref (bd 6), .int (rs_st u2), .int (rs_fl u2), .int (rs_fe u2), .int (rs_cr u2), .int (rs_sp u2), .int (rs_sd u2), .int (rs_so u2), .ref (bd 7), .ref (bd 8), .ref (bd 9), .ref (bd 10), .ref (bd 11)])), (bd 1, .inl (ks 0, 112, .inr (.inl (rs_va u2)))), (bd 2, .inl (ks 0, 112, .inr (.inl (rs_ke u2)))), (bd 3, .inl (ks 0, 448, .inr (.inl (rs_lo u2)))), (bd 4, .inl (ks 1, 112, .inl (rs_ls u2))), (bd 5, .inl (ks 2, 14, .inl (rs_fd u2))), (bd 6, .inl (ks 0, 31, .inr (.inl (rs_wk u2)))), (bd 7, .inl (ks 2, 2, .inl (rs_tk u2))), (bd 8, .inl (ks 0, 8, .inr (.inl (rs_co u2)))), (bd 9, .inl (ks 1, 2, .inl (rs_pr u2))), (bd 10, .inl (ks 0, 16, .inr (.inl (rs_ky u2)))), (bd 11, .inl (ks 0, 16, .inr (.inl (rs_nu u2))))] H := hP
            have hD : va_D A [(bd 0, .inr (3, [.int (rs_th u2), .ref (bd 1), .ref (bd 2), .ref (bd 3), .ref (bd 4), .ref (bd 5), .int (rs_dn u2), .int (rs_wi u2), .ref (bd 6), .int (rs_st u2), .int (rs_fl u2), .int (rs_fe u2), .int (rs_cr u2), .int (rs_sp u2), .int (rs_sd u2), .int (rs_so u2), .ref (bd 7), .ref (bd 8), .ref (bd 9), .ref (bd 10), .ref (bd 11)])), (bd 1, .inl (ks 0, 112, .inr (.inl (rs_va u2)))), (bd 2, .inl (ks 0, 112, .inr (.inl (rs_ke u2)))), (bd 3, .inl (ks 0, 448, .inr (.inl (rs_lo u2)))), (bd 4, .inl (ks 1, 112, .inl (rs_ls u2))), (bd 5, .inl (ks 2, 14, .inl (rs_fd u2))), (bd 6, .inl (ks 0, 31, .inr (.inl (rs_wk u2)))), (bd 7, .inl (ks 2, 2, .inl (rs_tk u2))), (bd 8, .inl (ks 0, 8, .inr (.inl (rs_co u2)))), (bd 9, .inl (ks 1, 2, .inl (rs_pr u2))), (bd 10, .inl (ks 0, 16, .inr (.inl (rs_ky u2)))), (bd 11, .inl (ks 0, 16, .inr (.inl (rs_nu u2))))] := hD
            have hI : RWy (rnd [(40, lN ll.length)] ++ (rnd (nw_l (rs_wk r0) ll) ++ (rnd [(40, 0)]))) rr (rs_wk r0) u2 := by rw [q2]; exact RWy.go (o := (2, 0, 0)) hI
            refine lv_aload_n hx hb dR_commitAll_110 rfl (lv_at hl 2 rfl) ?_
            refine lv_iload_n hx hb dR_commitAll_111 rfl (lv_at hl 1 rfl) ?_
            refine lv_i2l (v := (lN ll.length)) hx hb dR_commitAll_112 (nI_l (by omega)) ?_
            refine gcv (wr := []) [0, 1, 2, 3, 4, 5, 6, 7, 8, 9, 10, 11] [] rfl rfl rfl (by decide) (va_runV (As := [.long (lN ll.length)]) (rest := []) F (kR_storeCount l D ks bd u2 (lN ll.length) H.size hI.cnt hI.lc) (cwV (C := RR) 1 ht (tb_v tb_648 tb_650 tb_sR_storeCount tb_4 tb_651) rfl rfl rfl ⟨rfl, by decide, by decide, by decide +kernel⟩ ⟨by decide, by decide⟩) (preV 0 3 rfl rfl rfl hK hN hP hD [0, 1, 2, 3, 4, 5, 6, 7, 8, 9, 10, 11] rfl rfl) rfl rfl hl.1 rfl (lv_room (Nat.le_of_ble_eq_true rfl)) dR_commitAll_113 (by decide)) hP hD hS hA (fun u3 H locs q3 hP hD hS => ?_)
            have hP : va_P D vwCl [(bd 0, .inr (3, [.int (rs_th u3), .ref (bd 1), .ref (bd 2), .ref (bd 3), .ref (bd 4), .ref (bd 5), .int (rs_dn u3), .int (rs_wi u3), .ref (bd 6), .int (rs_st u3), .int (rs_fl u3), .int (rs_fe u3), .int (rs_cr u3), .int (rs_sp u3), .int (rs_sd u3), .int (rs_so u3), .ref (bd 7), .ref (bd 8), .ref (bd 9), .ref (bd 10), .ref (bd 11)])), (bd 1, .inl (ks 0, 112, .inr (.inl (rs_va u3)))), (bd 2, .inl (ks 0, 112, .inr (.inl (rs_ke u3)))), (bd 3, .inl (ks 0, 448, .inr (.inl (rs_lo u3)))), (bd 4, .inl (ks 1, 112, .inl (rs_ls u3))), (bd 5, .inl (ks 2, 14, .inl (rs_fd u3))), (bd 6, .inl (ks 0, 31, .inr (.inl (rs_wk u3)))), (bd 7, .inl (ks 2, 2, .inl (rs_tk u3))), (bd 8, .inl (ks 0, 8, .inr (.inl (rs_co u3)))), (bd 9, .inl (ks 1, 2, .inl (rs_pr u3))), (bd 10, .inl (ks 0, 16, .inr (.inl (rs_ky u3)))), (bd 11, .inl (ks 0, 16, .inr (.inl (rs_nu u3))))] H := hP
            have hD : va_D A [(bd 0, .inr (3, [.int (rs_th u3), .ref (bd 1), .ref (bd 2), .ref (bd 3), .ref (bd 4), .ref (bd 5), .int (rs_dn u3), .int (rs_wi u3), .ref (bd 6), .int (rs_st u3), .int (rs_fl u3), .int (rs_fe u3), .int (rs_cr u3), .int (rs_sp u3), .int (rs_sd u3), .int (rs_so u3), .ref (bd 7), .ref (bd 8), .ref (bd 9), .ref (bd 10), .ref (bd 11)])), (bd 1, .inl (ks 0, 112, .inr (.inl (rs_va u3)))), (bd 2, .inl (ks 0, 112, .inr (.inl (rs_ke u3)))), (bd 3, .inl (ks 0, 448, .inr (.inl (rs_lo u3)))), (bd 4, .inl (ks 1, 112, .inl (rs_ls u3))), (bd 5, .inl (ks 2, 14, .inl (rs_fd u3))), (bd 6, .inl (ks 0, 31, .inr (.inl (rs_wk u3)))), (bd 7, .inl (ks 2, 2, .inl (rs_tk u3))), (bd 8, .inl (ks 0, 8, .inr (.inl (rs_co u3)))), (bd 9, .inl (ks 1, 2, .inl (rs_pr u3))), (bd 10, .inl (ks 0, 16, .inr (.inl (rs_ky u3)))), (bd 11, .inl (ks 0, 16, .inr (.inl (rs_nu u3))))] := hD
            have hI : RWy (rnd (nw_l (rs_wk r0) ll) ++ (rnd [(40, 0)])) rr (rs_wk r0) u3 := by rw [q3, ro_cnt]; exact RWy.app hI
            refine lv_iconst (v := nI 0) hx hb dR_commitAll_116 (by decide) ?_
            refine lv_istore_n (lv' := [(3, .int (nI 0)), (2, .int (nI ll.length)), (0, .ref (bd 0)), (1, .int (sb ll))]) hx hb dR_commitAll_117 rfl hl (by decide) rfl (fun ls hl => ?_)
            have hI0 : RL3 (rs_va r0) (rs_wk r0) (flO (rn_lines (nw_l (rs_wk r0) ll)) ++ [(2, 0, 0)] ++ (rnd [(40, 0)])) rr 0 31 u3 := by
              have e2 : ((List.range' 0 31).filter (fun w => !((rs_wk r0) w == (rs_va r0) w))) = ll := by rw [hll]; unfold chl; rw [List.range_eq_range']
              have e0 : (rnd (nw_l (rs_wk r0) ll) ++ (rnd [(40, 0)])) = stO (nw_l (rs_wk r0) ((List.range' 0 31).filter (fun w => !((rs_wk r0) w == (rs_va r0) w)))) ++ (flO (rn_lines (nw_l (rs_wk r0) ll)) ++ [(2, 0, 0)] ++ (rnd [(40, 0)])) := by rw [e2]; exact List.append_assoc _ _ _
              unfold RL3; rw [← e0]; exact hI
            have LOOP3 : ∀ (k9 n : Nat), n + k9 = 31 → ∀ c1 : MS, RL3 (rs_va r0) (rs_wk r0) (flO (rn_lines (nw_l (rs_wk r0) ll)) ++ [(2, 0, 0)] ++ (rnd [(40, 0)])) rr n k9 c1 → ∀ (H : Heap) (locs : List Loc) (ls : Array Slot), lv_has ls 4 [(3, .int (nI n)), (2, .int (nI ll.length)), (0, .ref (bd 0)), (1, .int (sb ll))] → va_P D vwCl [(bd 0, .inr (3, [.int (rs_th c1), .ref (bd 1), .ref (bd 2), .ref (bd 3), .ref (bd 4), .ref (bd 5), .int (rs_dn c1), .int (rs_wi c1), .ref (bd 6), .int (rs_st c1), .int (rs_fl c1), .int (rs_fe c1), .int (rs_cr c1), .int (rs_sp c1), .int (rs_sd c1), .int (rs_so c1), .ref (bd 7), .ref (bd 8), .ref (bd 9), .ref (bd 10), .ref (bd 11)])), (bd 1, .inl (ks 0, 112, .inr (.inl (rs_va c1)))), (bd 2, .inl (ks 0, 112, .inr (.inl (rs_ke c1)))), (bd 3, .inl (ks 0, 448, .inr (.inl (rs_lo c1)))), (bd 4, .inl (ks 1, 112, .inl (rs_ls c1))), (bd 5, .inl (ks 2, 14, .inl (rs_fd c1))), (bd 6, .inl (ks 0, 31, .inr (.inl (rs_wk c1)))), (bd 7, .inl (ks 2, 2, .inl (rs_tk c1))), (bd 8, .inl (ks 0, 8, .inr (.inl (rs_co c1)))), (bd 9, .inl (ks 1, 2, .inl (rs_pr c1))), (bd 10, .inl (ks 0, 16, .inr (.inl (rs_ky c1)))), (bd 11, .inl (ks 0, 16, .inr (.inl (rs_nu c1))))] H → va_D A [(bd 0, .inr (3, [.int (rs_th c1), .ref (bd 1), .ref (bd 2), .ref (bd 3), .ref (bd 4), .ref (bd 5), .int (rs_dn c1), .int (rs_wi c1), .ref (bd 6), .int (rs_st c1), .int (rs_fl c1), .int (rs_fe c1), .int (rs_cr c1), .int (rs_sp c1), .int (rs_sd c1), .int (rs_so c1), .ref (bd 7), .ref (bd 8), .ref (bd 9), .ref (bd 10), .ref (bd 11)])), (bd 1, .inl (ks 0, 112, .inr (.inl (rs_va c1)))), (bd 2, .inl (ks 0, 112, .inr (.inl (rs_ke c1)))), (bd 3, .inl (ks 0, 448, .inr (.inl (rs_lo c1)))), (bd 4, .inl (ks 1, 112, .inl (rs_ls c1))), (bd 5, .inl (ks 2, 14, .inl (rs_fd c1))), (bd 6, .inl (ks 0, 31, .inr (.inl (rs_wk c1)))), (bd 7, .inl (ks 2, 2, .inl (rs_tk c1))), (bd 8, .inl (ks 0, 8, .inr (.inl (rs_co c1)))), (bd 9, .inl (ks 1, 2, .inl (rs_pr c1))), (bd 10, .inl (ks 0, 16, .inr (.inl (rs_ky c1)))), (bd 11, .inl (ks 0, 16, .inr (.inl (rs_nu c1))))] → va_S A s.heap H locs → W p l e ({ frames := 4, cells := 0, slots := 0, locals := 89 } : Room) s m ([.ref (bd 0)] : List Value).toArray below meth c H locs 0 0 (MQ below (va_Qi (S := MS) (fun r u => CmQ r0 r u) (fun u t => Bw D ks A ((fun u => wR ks bd u) u) t) A) ([.ref (bd 0)] : List Value).toArray s 0 0 A) (F0 m 118 ls []) := by
              intro k9
              induction k9 with
              | zero =>
                intro n h9 c1 hI H locs ls hl hP hD hS
                have h9 : n = 31 := h9
                subst h9
                refine lv_iload_n hx hb dR_commitAll_118 rfl (lv_at hl 0 rfl) ?_
                refine lv_bipush (v := nI 31) hx hb dR_commitAll_119 (by decide) ?_
                refine lv_icmp_ge (tgt := 150) hx hb dR_commitAll_121 rfl (fun _ => ?_) (fun h => absurd (by first | exact Int32.le_refl _ | (rw [h9]; exact Int32.le_refl _)) h)
                have hI : RWy (flO (rn_lines (nw_l (rs_wk r0) ll)) ++ [(2, 0, 0)] ++ (rnd [(40, 0)])) rr (rs_wk r0) c1 := hI
                refine lv_aload_n hx hb dR_commitAll_150 rfl (lv_at hl 2 rfl) ?_
                refine lv_iload_n hx hb dR_commitAll_151 rfl (lv_at hl 3 rfl) ?_
                refine gcv (wr := []) [0, 1, 2, 3, 4, 5, 6, 7, 8, 9, 10, 11] [] rfl rfl rfl (by decide) (va_runV (As := [.int (sb ll)]) (rest := []) F (kR_settle l D ks bd c1 (sb ll) H.size hI.lc) (cwV (C := RR) 1 ht (tb_v tb_652 tb_654 tb_sR_settle tb_4 tb_655) rfl rfl rfl ⟨rfl, by decide, by decide, by decide +kernel⟩ ⟨by decide, by decide⟩) (preV 0 3 rfl rfl rfl hK hN hP hD [0, 1, 2, 3, 4, 5, 6, 7, 8, 9, 10, 11] rfl rfl) rfl rfl hl.1 rfl (lv_room (Nat.le_of_ble_eq_true rfl)) dR_commitAll_152 (by decide)) hP hD hS hA (fun u4 H locs q4 hP hD hS => ?_)
                have hP : va_P D vwCl [(bd 0, .inr (3, [.int (rs_th u4), .ref (bd 1), .ref (bd 2), .ref (bd 3), .ref (bd 4), .ref (bd 5), .int (rs_dn u4), .int (rs_wi u4), .ref (bd 6), .int (rs_st u4), .int (rs_fl u4), .int (rs_fe u4), .int (rs_cr u4), .int (rs_sp u4), .int (rs_sd u4), .int (rs_so u4), .ref (bd 7), .ref (bd 8), .ref (bd 9), .ref (bd 10), .ref (bd 11)])), (bd 1, .inl (ks 0, 112, .inr (.inl (rs_va u4)))), (bd 2, .inl (ks 0, 112, .inr (.inl (rs_ke u4)))), (bd 3, .inl (ks 0, 448, .inr (.inl (rs_lo u4)))), (bd 4, .inl (ks 1, 112, .inl (rs_ls u4))), (bd 5, .inl (ks 2, 14, .inl (rs_fd u4))), (bd 6, .inl (ks 0, 31, .inr (.inl (rs_wk u4)))), (bd 7, .inl (ks 2, 2, .inl (rs_tk u4))), (bd 8, .inl (ks 0, 8, .inr (.inl (rs_co u4)))), (bd 9, .inl (ks 1, 2, .inl (rs_pr u4))), (bd 10, .inl (ks 0, 16, .inr (.inl (rs_ky u4)))), (bd 11, .inl (ks 0, 16, .inr (.inl (rs_nu u4))))] H := hP
                have hD : va_D A [(bd 0, .inr (3, [.int (rs_th u4), .ref (bd 1), .ref (bd 2), .ref (bd 3), .ref (bd 4), .ref (bd 5), .int (rs_dn u4), .int (rs_wi u4), .ref (bd 6), .int (rs_st u4), .int (rs_fl u4), .int (rs_fe u4), .int (rs_cr u4), .int (rs_sp u4), .int (rs_sd u4), .int (rs_so u4), .ref (bd 7), .ref (bd 8), .ref (bd 9), .ref (bd 10), .ref (bd 11)])), (bd 1, .inl (ks 0, 112, .inr (.inl (rs_va u4)))), (bd 2, .inl (ks 0, 112, .inr (.inl (rs_ke u4)))), (bd 3, .inl (ks 0, 448, .inr (.inl (rs_lo u4)))), (bd 4, .inl (ks 1, 112, .inl (rs_ls u4))), (bd 5, .inl (ks 2, 14, .inl (rs_fd u4))), (bd 6, .inl (ks 0, 31, .inr (.inl (rs_wk u4)))), (bd 7, .inl (ks 2, 2, .inl (rs_tk u4))), (bd 8, .inl (ks 0, 8, .inr (.inl (rs_co u4)))), (bd 9, .inl (ks 1, 2, .inl (rs_pr u4))), (bd 10, .inl (ks 0, 16, .inr (.inl (rs_ky u4)))), (bd 11, .inl (ks 0, 16, .inr (.inl (rs_nu u4))))] := hD
                have hI : RWy (rnd [(40, 0)]) rr (rs_wk r0) u4 := by rw [q4, slo_any (L := nw_l (rs_wk r0) ll) h31 (fun w => by rw [nw_fst])]; exact hI.app
                refine lv_aload_n hx hb dR_commitAll_155 rfl (lv_at hl 2 rfl) ?_
                refine lv_lconst (v := 0) hx hb dR_commitAll_156 (by decide) ?_
                refine gcv (wr := []) [0, 1, 2, 3, 4, 5, 6, 7, 8, 9, 10, 11] [] rfl rfl rfl (by decide) (va_runV (As := [.long (0 : Int64)]) (rest := []) F (kR_storeCount l D ks bd u4 0 H.size hI.cnt hI.lc) (cwV (C := RR) 1 ht (tb_v tb_648 tb_650 tb_sR_storeCount tb_4 tb_651) rfl rfl rfl ⟨rfl, by decide, by decide, by decide +kernel⟩ ⟨by decide, by decide⟩) (preV 0 3 rfl rfl rfl hK hN hP hD [0, 1, 2, 3, 4, 5, 6, 7, 8, 9, 10, 11] rfl rfl) rfl rfl hl.1 rfl (lv_room (Nat.le_of_ble_eq_true rfl)) dR_commitAll_157 (by decide)) hP hD hS hA (fun u5 H locs q5 hP hD hS => ?_)
                have hP : va_P D vwCl [(bd 0, .inr (3, [.int (rs_th u5), .ref (bd 1), .ref (bd 2), .ref (bd 3), .ref (bd 4), .ref (bd 5), .int (rs_dn u5), .int (rs_wi u5), .ref (bd 6), .int (rs_st u5), .int (rs_fl u5), .int (rs_fe u5), .int (rs_cr u5), .int (rs_sp u5), .int (rs_sd u5), .int (rs_so u5), .ref (bd 7), .ref (bd 8), .ref (bd 9), .ref (bd 10), .ref (bd 11)])), (bd 1, .inl (ks 0, 112, .inr (.inl (rs_va u5)))), (bd 2, .inl (ks 0, 112, .inr (.inl (rs_ke u5)))), (bd 3, .inl (ks 0, 448, .inr (.inl (rs_lo u5)))), (bd 4, .inl (ks 1, 112, .inl (rs_ls u5))), (bd 5, .inl (ks 2, 14, .inl (rs_fd u5))), (bd 6, .inl (ks 0, 31, .inr (.inl (rs_wk u5)))), (bd 7, .inl (ks 2, 2, .inl (rs_tk u5))), (bd 8, .inl (ks 0, 8, .inr (.inl (rs_co u5)))), (bd 9, .inl (ks 1, 2, .inl (rs_pr u5))), (bd 10, .inl (ks 0, 16, .inr (.inl (rs_ky u5)))), (bd 11, .inl (ks 0, 16, .inr (.inl (rs_nu u5))))] H := hP
                have hD : va_D A [(bd 0, .inr (3, [.int (rs_th u5), .ref (bd 1), .ref (bd 2), .ref (bd 3), .ref (bd 4), .ref (bd 5), .int (rs_dn u5), .int (rs_wi u5), .ref (bd 6), .int (rs_st u5), .int (rs_fl u5), .int (rs_fe u5), .int (rs_cr u5), .int (rs_sp u5), .int (rs_sd u5), .int (rs_so u5), .ref (bd 7), .ref (bd 8), .ref (bd 9), .ref (bd 10), .ref (bd 11)])), (bd 1, .inl (ks 0, 112, .inr (.inl (rs_va u5)))), (bd 2, .inl (ks 0, 112, .inr (.inl (rs_ke u5)))), (bd 3, .inl (ks 0, 448, .inr (.inl (rs_lo u5)))), (bd 4, .inl (ks 1, 112, .inl (rs_ls u5))), (bd 5, .inl (ks 2, 14, .inl (rs_fd u5))), (bd 6, .inl (ks 0, 31, .inr (.inl (rs_wk u5)))), (bd 7, .inl (ks 2, 2, .inl (rs_tk u5))), (bd 8, .inl (ks 0, 8, .inr (.inl (rs_co u5)))), (bd 9, .inl (ks 1, 2, .inl (rs_pr u5))), (bd 10, .inl (ks 0, 16, .inr (.inl (rs_ky u5)))), (bd 11, .inl (ks 0, 16, .inr (.inl (rs_nu u5))))] := hD
                have hI : RWy [] rr (rs_wk r0) u5 := by rw [q5, ro_cnt]; exact RWy.app (by rw [List.append_nil]; exact hI)
                refine lv_aload_n hx hb dR_commitAll_160 rfl (lv_at hl 2 rfl) ?_
                refine lv_aload_n hx hb dR_commitAll_161 rfl (lv_at hl 2 rfl) ?_
                refine va_get (D := D) (ci := 3) (v := .int (rs_so u5)) (C := RR) (T := TR) (N := 21) hx hb ht uw_R hown hK hP 0 rfl rfl 15 (by decide) (ht _ tb_554) (fun _ h => h) rfl dR_commitAll_162 ?_
                refine lv_if_eq (tgt := 172) hx hb dR_commitAll_165 rfl (fun h5 => ?_) (fun h6 => ?_)
                · skip
                  refine lv_iconst (v := 0) hx hb dR_commitAll_172 (by decide) ?_
                  refine va_put (D := D) (ci := 3) (v := .int 0) (ty := .int) (C := RR) (T := TR) (N := 21) hx hb ht uw_R ty_R ty_R_ok nm_R hown hK hP hD hS 0 rfl rfl 0 (by decide) (ht _ tb_539) (fun _ h => h) rfl (by decide +kernel) rfl rfl (Nat.le_of_ble_eq_true rfl) dR_commitAll_173 (fun H locs hP hD hS => ?_)
                  have hP : va_P D vwCl [(bd 0, .inr (3, [.int 0, .ref (bd 1), .ref (bd 2), .ref (bd 3), .ref (bd 4), .ref (bd 5), .int (rs_dn u5), .int (rs_wi u5), .ref (bd 6), .int (rs_st u5), .int (rs_fl u5), .int (rs_fe u5), .int (rs_cr u5), .int (rs_sp u5), .int (rs_sd u5), .int (rs_so u5), .ref (bd 7), .ref (bd 8), .ref (bd 9), .ref (bd 10), .ref (bd 11)])), (bd 1, .inl (ks 0, 112, .inr (.inl (rs_va u5)))), (bd 2, .inl (ks 0, 112, .inr (.inl (rs_ke u5)))), (bd 3, .inl (ks 0, 448, .inr (.inl (rs_lo u5)))), (bd 4, .inl (ks 1, 112, .inl (rs_ls u5))), (bd 5, .inl (ks 2, 14, .inl (rs_fd u5))), (bd 6, .inl (ks 0, 31, .inr (.inl (rs_wk u5)))), (bd 7, .inl (ks 2, 2, .inl (rs_tk u5))), (bd 8, .inl (ks 0, 8, .inr (.inl (rs_co u5)))), (bd 9, .inl (ks 1, 2, .inl (rs_pr u5))), (bd 10, .inl (ks 0, 16, .inr (.inl (rs_ky u5)))), (bd 11, .inl (ks 0, 16, .inr (.inl (rs_nu u5))))] H := hP
                  have hD : va_D A [(bd 0, .inr (3, [.int 0, .ref (bd 1), .ref (bd 2), .ref (bd 3), .ref (bd 4), .ref (bd 5), .int (rs_dn u5), .int (rs_wi u5), .ref (bd 6), .int (rs_st u5), .int (rs_fl u5), .int (rs_fe u5), .int (rs_cr u5), .int (rs_sp u5), .int (rs_sd u5), .int (rs_so u5), .ref (bd 7), .ref (bd 8), .ref (bd 9), .ref (bd 10), .ref (bd 11)])), (bd 1, .inl (ks 0, 112, .inr (.inl (rs_va u5)))), (bd 2, .inl (ks 0, 112, .inr (.inl (rs_ke u5)))), (bd 3, .inl (ks 0, 448, .inr (.inl (rs_lo u5)))), (bd 4, .inl (ks 1, 112, .inl (rs_ls u5))), (bd 5, .inl (ks 2, 14, .inl (rs_fd u5))), (bd 6, .inl (ks 0, 31, .inr (.inl (rs_wk u5)))), (bd 7, .inl (ks 2, 2, .inl (rs_tk u5))), (bd 8, .inl (ks 0, 8, .inr (.inl (rs_co u5)))), (bd 9, .inl (ks 1, 2, .inl (rs_pr u5))), (bd 10, .inl (ks 0, 16, .inr (.inl (rs_ky u5)))), (bd 11, .inl (ks 0, 16, .inr (.inl (rs_nu u5))))] := hD
                  refine lv_aload_n hx hb dR_commitAll_176 rfl (lv_at hl 2 rfl) ?_
                  refine va_get (D := D) (ci := 3) (v := .int (rs_so u5)) (C := RR) (T := TR) (N := 21) hx hb ht uw_R hown hK hP 0 rfl rfl 15 (by decide) (ht _ tb_554) (fun _ h => h) rfl dR_commitAll_177 ?_
                  refine lv_if_eq (tgt := 187) hx hb dR_commitAll_180 rfl (fun _ => ?_) (fun h => absurd h5 h)
                  refine lv_iload_n hx hb dR_commitAll_187 rfl (lv_at hl 1 rfl) ?_
                  exact endI hx hb hr hlk hK (0, rs_va u5, rs_ke u5, rs_lo u5, rs_ls u5, rs_fd u5, rs_dn u5, rs_wi u5, rs_wk u5, rs_st u5, rs_fl u5, rs_fe u5, rs_cr u5, rs_sp u5, rs_sd u5, rs_so u5, rs_tk u5, rs_co u5, rs_pr u5, rs_ky u5, rs_nu u5) (Or.inr ⟨by rw [← hll]; exact hn0, by rw [← hrr, ← hI.2.1]; show _ = rs_fin u5; unfold rs_fin; rw [if_pos h5], by rw [← hrr, ← hI.2.1, ← hll]; exact (if_pos h5).symm⟩) hP hD hS dR_commitAll_188
                · skip
                  refine lv_iconst (v := 1) hx hb dR_commitAll_168 (by decide) ?_
                  refine lv_goto (tgt := 173) hx hb dR_commitAll_169 rfl ?_
                  refine va_put (D := D) (ci := 3) (v := .int 1) (ty := .int) (C := RR) (T := TR) (N := 21) hx hb ht uw_R ty_R ty_R_ok nm_R hown hK hP hD hS 0 rfl rfl 0 (by decide) (ht _ tb_539) (fun _ h => h) rfl (by decide +kernel) rfl rfl (Nat.le_of_ble_eq_true rfl) dR_commitAll_173 (fun H locs hP hD hS => ?_)
                  have hP : va_P D vwCl [(bd 0, .inr (3, [.int 1, .ref (bd 1), .ref (bd 2), .ref (bd 3), .ref (bd 4), .ref (bd 5), .int (rs_dn u5), .int (rs_wi u5), .ref (bd 6), .int (rs_st u5), .int (rs_fl u5), .int (rs_fe u5), .int (rs_cr u5), .int (rs_sp u5), .int (rs_sd u5), .int (rs_so u5), .ref (bd 7), .ref (bd 8), .ref (bd 9), .ref (bd 10), .ref (bd 11)])), (bd 1, .inl (ks 0, 112, .inr (.inl (rs_va u5)))), (bd 2, .inl (ks 0, 112, .inr (.inl (rs_ke u5)))), (bd 3, .inl (ks 0, 448, .inr (.inl (rs_lo u5)))), (bd 4, .inl (ks 1, 112, .inl (rs_ls u5))), (bd 5, .inl (ks 2, 14, .inl (rs_fd u5))), (bd 6, .inl (ks 0, 31, .inr (.inl (rs_wk u5)))), (bd 7, .inl (ks 2, 2, .inl (rs_tk u5))), (bd 8, .inl (ks 0, 8, .inr (.inl (rs_co u5)))), (bd 9, .inl (ks 1, 2, .inl (rs_pr u5))), (bd 10, .inl (ks 0, 16, .inr (.inl (rs_ky u5)))), (bd 11, .inl (ks 0, 16, .inr (.inl (rs_nu u5))))] H := hP
                  have hD : va_D A [(bd 0, .inr (3, [.int 1, .ref (bd 1), .ref (bd 2), .ref (bd 3), .ref (bd 4), .ref (bd 5), .int (rs_dn u5), .int (rs_wi u5), .ref (bd 6), .int (rs_st u5), .int (rs_fl u5), .int (rs_fe u5), .int (rs_cr u5), .int (rs_sp u5), .int (rs_sd u5), .int (rs_so u5), .ref (bd 7), .ref (bd 8), .ref (bd 9), .ref (bd 10), .ref (bd 11)])), (bd 1, .inl (ks 0, 112, .inr (.inl (rs_va u5)))), (bd 2, .inl (ks 0, 112, .inr (.inl (rs_ke u5)))), (bd 3, .inl (ks 0, 448, .inr (.inl (rs_lo u5)))), (bd 4, .inl (ks 1, 112, .inl (rs_ls u5))), (bd 5, .inl (ks 2, 14, .inl (rs_fd u5))), (bd 6, .inl (ks 0, 31, .inr (.inl (rs_wk u5)))), (bd 7, .inl (ks 2, 2, .inl (rs_tk u5))), (bd 8, .inl (ks 0, 8, .inr (.inl (rs_co u5)))), (bd 9, .inl (ks 1, 2, .inl (rs_pr u5))), (bd 10, .inl (ks 0, 16, .inr (.inl (rs_ky u5)))), (bd 11, .inl (ks 0, 16, .inr (.inl (rs_nu u5))))] := hD
                  refine lv_aload_n hx hb dR_commitAll_176 rfl (lv_at hl 2 rfl) ?_
                  refine va_get (D := D) (ci := 3) (v := .int (rs_so u5)) (C := RR) (T := TR) (N := 21) hx hb ht uw_R hown hK hP 0 rfl rfl 15 (by decide) (ht _ tb_554) (fun _ h => h) rfl dR_commitAll_177 ?_
                  refine lv_if_eq (tgt := 187) hx hb dR_commitAll_180 rfl (fun h => absurd h h6) (fun _ => ?_)
                  refine lv_iconst (v := 0) hx hb dR_commitAll_183 (by decide) ?_
                  refine lv_goto (tgt := 188) hx hb dR_commitAll_184 rfl ?_
                  exact endI hx hb hr hlk hK (1, rs_va u5, rs_ke u5, rs_lo u5, rs_ls u5, rs_fd u5, rs_dn u5, rs_wi u5, rs_wk u5, rs_st u5, rs_fl u5, rs_fe u5, rs_cr u5, rs_sp u5, rs_sd u5, rs_so u5, rs_tk u5, rs_co u5, rs_pr u5, rs_ky u5, rs_nu u5) (Or.inr ⟨by rw [← hll]; exact hn0, by rw [← hrr, ← hI.2.1]; show _ = rs_fin u5; unfold rs_fin; rw [if_neg h6], by rw [← hrr, ← hI.2.1]; exact (if_neg h6).symm⟩) hP hD hS dR_commitAll_188
              | succ k9 ih =>
                intro n h9 c1 hI H locs ls hl hP hD hS
                have hlt : n < 31 := by omega
                refine lv_iload_n hx hb dR_commitAll_118 rfl (lv_at hl 0 rfl) ?_
                refine lv_bipush (v := nI 31) hx hb dR_commitAll_119 (by decide) ?_
                refine lv_icmp_ge (tgt := 150) hx hb dR_commitAll_121 rfl (fun h => absurd h (nI_ge (by omega) (by omega))) (fun _ => ?_)
                refine lv_iload_n hx hb dR_commitAll_124 rfl (lv_at hl 3 rfl) ?_
                refine lv_iload_n hx hb dR_commitAll_125 rfl (lv_at hl 0 rfl) ?_
                refine lv_ishr hx hb dR_commitAll_126 ?_
                refine lv_iconst (v := (1 : Int32)) hx hb dR_commitAll_127 (by decide) ?_
                refine lv_iand hx hb dR_commitAll_128 ?_
                refine lv_iconst (v := nI 1) hx hb dR_commitAll_129 (by decide) ?_
                refine lv_icmp_ne (tgt := 144) hx hb dR_commitAll_130 rfl (fun hK => ?_) (fun hB => ?_)
                · skip
                  rw [hll] at hK
                  have hK : (rs_wk r0) n = (rs_va r0) n := Decidable.byContradiction (fun z => hK ((chl_bit hlt).mpr z))
                  refine lv_iinc (k := 0) (x := (nI n)) (v := (nI (n + 1))) (lv' := [(3, .int (nI (n + 1))), (2, .int (nI ll.length)), (0, .ref (bd 0)), (1, .int (sb ll))]) hx hb dR_commitAll_144 hl rfl (nI_1 _) (by decide) rfl (fun ls hl => ?_)
                  refine lv_goto (tgt := 118) hx hb dR_commitAll_147 rfl ?_
                  have hl : lv_has ls 4 [(3, .int (nI (n + 1))), (2, .int (nI ll.length)), (0, .ref (bd 0)), (1, .int (sb ll))] := lv_sub hl [0, 1, 2, 3] rfl
                  exact ih (n + 1) (by omega) c1 (hI.k hK) H locs ls hl hP hD hS
                · skip
                  have hB : ¬ (rs_wk r0) n = (rs_va r0) n := (chl_bit hlt).mp (by rw [← hll]; exact hB)
                  refine lv_aload_n hx hb dR_commitAll_133 rfl (lv_at hl 2 rfl) ?_
                  refine lv_iload_n hx hb dR_commitAll_134 rfl (lv_at hl 0 rfl) ?_
                  refine lv_aload_n hx hb dR_commitAll_135 rfl (lv_at hl 2 rfl) ?_
                  refine va_get (D := D) (ci := 3) (v := .ref (bd 6)) (C := RR) (T := TR) (N := 21) hx hb ht uw_R hown hK hP 0 rfl rfl 8 (by decide) (ht _ tb_547) (fun _ h => h) rfl dR_commitAll_136 ?_
                  refine lv_iload_n hx hb dR_commitAll_139 rfl (lv_at hl 0 rfl) ?_
                  refine ra_l hx hb hK hP 6 rfl n hlt (by decide) rfl dR_commitAll_140 ?_
                  refine tp_l (rs_wk r0 n) (congrFun hI.2.2 n) ?_
                  have hQ1 := hI.a hB
                  refine gcv (wr := []) [0, 1, 2, 3, 4, 5, 6, 7, 8, 9, 10, 11] [] rfl rfl rfl (by decide) (va_runV (As := [.int (nI n), .long (rs_wk r0 n)]) (rest := []) F (kR_store l D ks bd c1 n (rs_wk r0 n) H.size hQ1.1 hQ1.2 hI.lc) (cwV (C := RR) 2 ht (tb_v tb_627 tb_629 tb_sR_store tb_4 tb_630) rfl rfl rfl ⟨rfl, by decide, by decide, by decide +kernel⟩ ⟨by decide, by decide⟩) (preV 0 3 rfl rfl rfl hK hN hP hD [0, 1, 2, 3, 4, 5, 6, 7, 8, 9, 10, 11] rfl rfl) rfl rfl hl.1 rfl (lv_room (Nat.le_of_ble_eq_true rfl)) dR_commitAll_141 (by decide)) hP hD hS hA (fun u6 H locs q6 hP hD hS => ?_)
                  have hP : va_P D vwCl [(bd 0, .inr (3, [.int (rs_th u6), .ref (bd 1), .ref (bd 2), .ref (bd 3), .ref (bd 4), .ref (bd 5), .int (rs_dn u6), .int (rs_wi u6), .ref (bd 6), .int (rs_st u6), .int (rs_fl u6), .int (rs_fe u6), .int (rs_cr u6), .int (rs_sp u6), .int (rs_sd u6), .int (rs_so u6), .ref (bd 7), .ref (bd 8), .ref (bd 9), .ref (bd 10), .ref (bd 11)])), (bd 1, .inl (ks 0, 112, .inr (.inl (rs_va u6)))), (bd 2, .inl (ks 0, 112, .inr (.inl (rs_ke u6)))), (bd 3, .inl (ks 0, 448, .inr (.inl (rs_lo u6)))), (bd 4, .inl (ks 1, 112, .inl (rs_ls u6))), (bd 5, .inl (ks 2, 14, .inl (rs_fd u6))), (bd 6, .inl (ks 0, 31, .inr (.inl (rs_wk u6)))), (bd 7, .inl (ks 2, 2, .inl (rs_tk u6))), (bd 8, .inl (ks 0, 8, .inr (.inl (rs_co u6)))), (bd 9, .inl (ks 1, 2, .inl (rs_pr u6))), (bd 10, .inl (ks 0, 16, .inr (.inl (rs_ky u6)))), (bd 11, .inl (ks 0, 16, .inr (.inl (rs_nu u6))))] H := hP
                  have hD : va_D A [(bd 0, .inr (3, [.int (rs_th u6), .ref (bd 1), .ref (bd 2), .ref (bd 3), .ref (bd 4), .ref (bd 5), .int (rs_dn u6), .int (rs_wi u6), .ref (bd 6), .int (rs_st u6), .int (rs_fl u6), .int (rs_fe u6), .int (rs_cr u6), .int (rs_sp u6), .int (rs_sd u6), .int (rs_so u6), .ref (bd 7), .ref (bd 8), .ref (bd 9), .ref (bd 10), .ref (bd 11)])), (bd 1, .inl (ks 0, 112, .inr (.inl (rs_va u6)))), (bd 2, .inl (ks 0, 112, .inr (.inl (rs_ke u6)))), (bd 3, .inl (ks 0, 448, .inr (.inl (rs_lo u6)))), (bd 4, .inl (ks 1, 112, .inl (rs_ls u6))), (bd 5, .inl (ks 2, 14, .inl (rs_fd u6))), (bd 6, .inl (ks 0, 31, .inr (.inl (rs_wk u6)))), (bd 7, .inl (ks 2, 2, .inl (rs_tk u6))), (bd 8, .inl (ks 0, 8, .inr (.inl (rs_co u6)))), (bd 9, .inl (ks 1, 2, .inl (rs_pr u6))), (bd 10, .inl (ks 0, 16, .inr (.inl (rs_ky u6)))), (bd 11, .inl (ks 0, 16, .inr (.inl (rs_nu u6))))] := hD
                  have hI := hI.s hB q6
                  refine lv_iinc (k := 0) (x := (nI n)) (v := (nI (n + 1))) (lv' := [(3, .int (nI (n + 1))), (2, .int (nI ll.length)), (0, .ref (bd 0)), (1, .int (sb ll))]) hx hb dR_commitAll_144 hl rfl (nI_1 _) (by decide) rfl (fun ls hl => ?_)
                  refine lv_goto (tgt := 118) hx hb dR_commitAll_147 rfl ?_
                  have hl : lv_has ls 4 [(3, .int (nI (n + 1))), (2, .int (nI ll.length)), (0, .ref (bd 0)), (1, .int (sb ll))] := lv_sub hl [0, 1, 2, 3] rfl
                  exact ih (n + 1) (by omega) u6 hI H locs ls hl hP hD hS
            have hl : lv_has ls 4 [(3, .int (nI 0)), (2, .int (nI ll.length)), (0, .ref (bd 0)), (1, .int (sb ll))] := lv_sub hl [0, 1, 2, 3] rfl
            exact LOOP3 (31 - 0) 0 (by omega) u3 hI0 H _ _ hl hP hD hS
          | succ k9 ih =>
            intro j h9 c1 hI H locs ls hl hP hD hS
            have hlt : j < ((47 + 2 * ll.length) / 8 + 1) := by omega
            refine lv_iload_n hx hb dR_commitAll_80 rfl (lv_at hl 0 rfl) ?_
            refine lv_bipush (v := nI 48) hx hb dR_commitAll_81 (by decide) ?_
            refine lv_iconst (v := nI 2) hx hb dR_commitAll_83 (by decide) ?_
            refine lv_iload_n hx hb dR_commitAll_84 rfl (lv_at hl 1 rfl) ?_
            refine lv_imul hx hb dR_commitAll_85 ?_
            refine lv_iadd hx hb dR_commitAll_86 ?_
            refine tp_i (nI (48 + 2 * ll.length)) (by rw [pk_mul, nI_add]) ?_
            refine lv_iconst (v := nI 1) hx hb dR_commitAll_87 (by decide) ?_
            refine lv_isub hx hb dR_commitAll_88 ?_
            refine tp_i (nI (47 + 2 * ll.length)) (by rw [pk_sub (by omega), show 48 + 2 * ll.length - 1 = 47 + 2 * ll.length by omega]) ?_
            refine lv_bipush (v := nI 8) hx hb dR_commitAll_89 (by decide) ?_
            refine lv_idiv hx hb dR_commitAll_91 (by decide) ?_
            refine tp_i (nI ((47 + 2 * ll.length) / 8)) (pk_div (by omega) (by decide) (by decide)) ?_
            refine lv_icmp_gt (tgt := 106) hx hb dR_commitAll_92 rfl (fun h => absurd h (fun z => absurd ((nI_ltI (by omega) (by omega)).mp z) (by omega))) (fun _ => ?_)
            refine lv_aload_n hx hb dR_commitAll_95 rfl (lv_at hl 2 rfl) ?_
            refine lv_iload_n hx hb dR_commitAll_96 rfl (lv_at hl 0 rfl) ?_
            have hI : RWy ((1, j, 0) :: (flO (List.range' (j + 1) k9) ++ [(2, 0, 0)] ++ (rnd [(40, lN ll.length)] ++ (rnd (nw_l (rs_wk r0) ll) ++ (rnd [(40, 0)]))))) rr (rs_wk r0) c1 := by rw [List.range'_succ] at hI; exact hI
            refine gcv (wr := []) [0, 1, 2, 3, 4, 5, 6, 7, 8, 9, 10, 11] [] rfl rfl rfl (by decide) (va_runV (As := [.int (nI j)]) (rest := []) F (kR_flush l D ks bd c1 j H.size (by omega) hI.lc) (cwV (C := RR) 1 ht (tb_v tb_640 tb_642 tb_sR_flush tb_4 tb_643) rfl rfl rfl ⟨rfl, by decide, by decide, by decide +kernel⟩ ⟨by decide, by decide⟩) (preV 0 3 rfl rfl rfl hK hN hP hD [0, 1, 2, 3, 4, 5, 6, 7, 8, 9, 10, 11] rfl rfl) rfl rfl hl.1 rfl (lv_room (Nat.le_of_ble_eq_true rfl)) dR_commitAll_97 (by decide)) hP hD hS hA (fun u7 H locs q7 hP hD hS => ?_)
            have hP : va_P D vwCl [(bd 0, .inr (3, [.int (rs_th u7), .ref (bd 1), .ref (bd 2), .ref (bd 3), .ref (bd 4), .ref (bd 5), .int (rs_dn u7), .int (rs_wi u7), .ref (bd 6), .int (rs_st u7), .int (rs_fl u7), .int (rs_fe u7), .int (rs_cr u7), .int (rs_sp u7), .int (rs_sd u7), .int (rs_so u7), .ref (bd 7), .ref (bd 8), .ref (bd 9), .ref (bd 10), .ref (bd 11)])), (bd 1, .inl (ks 0, 112, .inr (.inl (rs_va u7)))), (bd 2, .inl (ks 0, 112, .inr (.inl (rs_ke u7)))), (bd 3, .inl (ks 0, 448, .inr (.inl (rs_lo u7)))), (bd 4, .inl (ks 1, 112, .inl (rs_ls u7))), (bd 5, .inl (ks 2, 14, .inl (rs_fd u7))), (bd 6, .inl (ks 0, 31, .inr (.inl (rs_wk u7)))), (bd 7, .inl (ks 2, 2, .inl (rs_tk u7))), (bd 8, .inl (ks 0, 8, .inr (.inl (rs_co u7)))), (bd 9, .inl (ks 1, 2, .inl (rs_pr u7))), (bd 10, .inl (ks 0, 16, .inr (.inl (rs_ky u7)))), (bd 11, .inl (ks 0, 16, .inr (.inl (rs_nu u7))))] H := hP
            have hD : va_D A [(bd 0, .inr (3, [.int (rs_th u7), .ref (bd 1), .ref (bd 2), .ref (bd 3), .ref (bd 4), .ref (bd 5), .int (rs_dn u7), .int (rs_wi u7), .ref (bd 6), .int (rs_st u7), .int (rs_fl u7), .int (rs_fe u7), .int (rs_cr u7), .int (rs_sp u7), .int (rs_sd u7), .int (rs_so u7), .ref (bd 7), .ref (bd 8), .ref (bd 9), .ref (bd 10), .ref (bd 11)])), (bd 1, .inl (ks 0, 112, .inr (.inl (rs_va u7)))), (bd 2, .inl (ks 0, 112, .inr (.inl (rs_ke u7)))), (bd 3, .inl (ks 0, 448, .inr (.inl (rs_lo u7)))), (bd 4, .inl (ks 1, 112, .inl (rs_ls u7))), (bd 5, .inl (ks 2, 14, .inl (rs_fd u7))), (bd 6, .inl (ks 0, 31, .inr (.inl (rs_wk u7)))), (bd 7, .inl (ks 2, 2, .inl (rs_tk u7))), (bd 8, .inl (ks 0, 8, .inr (.inl (rs_co u7)))), (bd 9, .inl (ks 1, 2, .inl (rs_pr u7))), (bd 10, .inl (ks 0, 16, .inr (.inl (rs_ky u7)))), (bd 11, .inl (ks 0, 16, .inr (.inl (rs_nu u7))))] := hD
            refine lv_iinc (k := 0) (x := (nI j)) (v := (nI (j + 1))) (lv' := [(3, .int (nI (j + 1))), (2, .int (nI ll.length)), (0, .ref (bd 0)), (1, .int (sb ll))]) hx hb dR_commitAll_100 hl rfl (nI_1 _) (by decide) rfl (fun ls hl => ?_)
            refine lv_goto (tgt := 80) hx hb dR_commitAll_103 rfl ?_
            have hl : lv_has ls 4 [(3, .int (nI (j + 1))), (2, .int (nI ll.length)), (0, .ref (bd 0)), (1, .int (sb ll))] := lv_sub hl [0, 1, 2, 3] rfl
            exact ih (j + 1) (by omega) u7 (by rw [q7]; exact hI.go) H locs ls hl hP hD hS
        have hl : lv_has ls 4 [(3, .int (nI 6)), (2, .int (nI ll.length)), (0, .ref (bd 0)), (1, .int (sb ll))] := lv_sub hl [0, 1, 2, 3] rfl
        exact LOOP2 (((47 + 2 * ll.length) / 8 + 1) - 6) 6 (by omega) c1 hI H _ _ hl hP hD hS
      | succ k9 ih =>
        intro n h9 c1 hI H locs ls hl hP hD hS
        have hlt : n < 31 := by omega
        refine lv_iload_n hx hb dR_commitAll_25 rfl (lv_at hl 0 rfl) ?_
        refine lv_bipush (v := nI 31) hx hb dR_commitAll_26 (by decide) ?_
        refine lv_icmp_ge (tgt := 77) hx hb dR_commitAll_28 rfl (fun h => absurd h (nI_ge (by omega) (by omega))) (fun _ => ?_)
        refine lv_iload_n hx hb dR_commitAll_31 rfl (lv_at hl 3 rfl) ?_
        refine lv_iload_n hx hb dR_commitAll_32 rfl (lv_at hl 0 rfl) ?_
        refine lv_ishr hx hb dR_commitAll_33 ?_
        refine lv_iconst (v := (1 : Int32)) hx hb dR_commitAll_34 (by decide) ?_
        refine lv_iand hx hb dR_commitAll_35 ?_
        refine lv_iconst (v := nI 1) hx hb dR_commitAll_36 (by decide) ?_
        refine lv_icmp_ne (tgt := 71) hx hb dR_commitAll_37 rfl (fun hK => ?_) (fun hB => ?_)
        · skip
          rw [hll] at hK
          have hK : (rs_wk r0) n = (rs_va r0) n := Decidable.byContradiction (fun z => hK ((chl_bit hlt).mpr z))
          rw [← chl_k hK] at hl
          refine lv_iinc (k := 0) (x := (nI n)) (v := (nI (n + 1))) (lv' := [(3, .int (nI (n + 1))), (2, .int (nI (chl (rs_wk r0) (rs_va r0) (n + 1)).length)), (0, .ref (bd 0)), (1, .int (sb ll))]) hx hb dR_commitAll_71 hl rfl (nI_1 _) (by decide) rfl (fun ls hl => ?_)
          refine lv_goto (tgt := 25) hx hb dR_commitAll_74 rfl ?_
          have hl : lv_has ls 4 [(3, .int (nI (n + 1))), (2, .int (nI (chl (rs_wk r0) (rs_va r0) (n + 1)).length)), (0, .ref (bd 0)), (1, .int (sb ll))] := lv_sub hl [0, 1, 2, 3] rfl
          exact ih (n + 1) (by omega) c1 (hI.k hK) H locs ls hl hP hD hS
        · skip
          have hB : ¬ (rs_wk r0) n = (rs_va r0) n := (chl_bit hlt).mp (by rw [← hll]; exact hB)
          refine lv_aload_n hx hb dR_commitAll_40 rfl (lv_at hl 2 rfl) ?_
          refine lv_bipush (v := nI 48) hx hb dR_commitAll_41 (by decide) ?_
          refine lv_iconst (v := nI 2) hx hb dR_commitAll_43 (by decide) ?_
          refine lv_iload_n hx hb dR_commitAll_44 rfl (lv_at hl 1 rfl) ?_
          refine lv_imul hx hb dR_commitAll_45 ?_
          refine lv_iadd hx hb dR_commitAll_46 ?_
          refine tp_i (nI (48 + 2 * (chl (rs_wk r0) (rs_va r0) n).length)) (by rw [pk_mul, nI_add]) ?_
          refine lv_iload_n hx hb dR_commitAll_47 rfl (lv_at hl 0 rfl) ?_
          refine lv_i2l (v := (lN n)) hx hb dR_commitAll_48 (nI_l (by omega)) ?_
          have hQ1 := hI.a hB
          refine gcv (wr := []) [0, 1, 2, 3, 4, 5, 6, 7, 8, 9, 10, 11] [] rfl rfl rfl (by decide) (va_runV (As := [.int (nI (48 + 2 * (chl (rs_wk r0) (rs_va r0) n).length)), .long (lN n)]) (rest := []) F (kR_store l D ks bd c1 (48 + 2 * (chl (rs_wk r0) (rs_va r0) n).length) (lN n) H.size hQ1.1 hQ1.2 hI.1.lc) (cwV (C := RR) 2 ht (tb_v tb_627 tb_629 tb_sR_store tb_4 tb_630) rfl rfl rfl ⟨rfl, by decide, by decide, by decide +kernel⟩ ⟨by decide, by decide⟩) (preV 0 3 rfl rfl rfl hK hN hP hD [0, 1, 2, 3, 4, 5, 6, 7, 8, 9, 10, 11] rfl rfl) rfl rfl hl.1 rfl (lv_room (Nat.le_of_ble_eq_true rfl)) dR_commitAll_49 (by decide)) hP hD hS hA (fun u8 H locs q8 hP hD hS => ?_)
          have hP : va_P D vwCl [(bd 0, .inr (3, [.int (rs_th u8), .ref (bd 1), .ref (bd 2), .ref (bd 3), .ref (bd 4), .ref (bd 5), .int (rs_dn u8), .int (rs_wi u8), .ref (bd 6), .int (rs_st u8), .int (rs_fl u8), .int (rs_fe u8), .int (rs_cr u8), .int (rs_sp u8), .int (rs_sd u8), .int (rs_so u8), .ref (bd 7), .ref (bd 8), .ref (bd 9), .ref (bd 10), .ref (bd 11)])), (bd 1, .inl (ks 0, 112, .inr (.inl (rs_va u8)))), (bd 2, .inl (ks 0, 112, .inr (.inl (rs_ke u8)))), (bd 3, .inl (ks 0, 448, .inr (.inl (rs_lo u8)))), (bd 4, .inl (ks 1, 112, .inl (rs_ls u8))), (bd 5, .inl (ks 2, 14, .inl (rs_fd u8))), (bd 6, .inl (ks 0, 31, .inr (.inl (rs_wk u8)))), (bd 7, .inl (ks 2, 2, .inl (rs_tk u8))), (bd 8, .inl (ks 0, 8, .inr (.inl (rs_co u8)))), (bd 9, .inl (ks 1, 2, .inl (rs_pr u8))), (bd 10, .inl (ks 0, 16, .inr (.inl (rs_ky u8)))), (bd 11, .inl (ks 0, 16, .inr (.inl (rs_nu u8))))] H := hP
          have hD : va_D A [(bd 0, .inr (3, [.int (rs_th u8), .ref (bd 1), .ref (bd 2), .ref (bd 3), .ref (bd 4), .ref (bd 5), .int (rs_dn u8), .int (rs_wi u8), .ref (bd 6), .int (rs_st u8), .int (rs_fl u8), .int (rs_fe u8), .int (rs_cr u8), .int (rs_sp u8), .int (rs_sd u8), .int (rs_so u8), .ref (bd 7), .ref (bd 8), .ref (bd 9), .ref (bd 10), .ref (bd 11)])), (bd 1, .inl (ks 0, 112, .inr (.inl (rs_va u8)))), (bd 2, .inl (ks 0, 112, .inr (.inl (rs_ke u8)))), (bd 3, .inl (ks 0, 448, .inr (.inl (rs_lo u8)))), (bd 4, .inl (ks 1, 112, .inl (rs_ls u8))), (bd 5, .inl (ks 2, 14, .inl (rs_fd u8))), (bd 6, .inl (ks 0, 31, .inr (.inl (rs_wk u8)))), (bd 7, .inl (ks 2, 2, .inl (rs_tk u8))), (bd 8, .inl (ks 0, 8, .inr (.inl (rs_co u8)))), (bd 9, .inl (ks 1, 2, .inl (rs_pr u8))), (bd 10, .inl (ks 0, 16, .inr (.inl (rs_ky u8)))), (bd 11, .inl (ks 0, 16, .inr (.inl (rs_nu u8))))] := hD
          obtain ⟨hQ1, hc1, hlw⟩ := hI.b hB q8
          refine lv_aload_n hx hb dR_commitAll_52 rfl (lv_at hl 2 rfl) ?_
          refine lv_bipush (v := nI 49) hx hb dR_commitAll_53 (by decide) ?_
          refine lv_iconst (v := nI 2) hx hb dR_commitAll_55 (by decide) ?_
          refine lv_iload_n hx hb dR_commitAll_56 rfl (lv_at hl 1 rfl) ?_
          refine lv_imul hx hb dR_commitAll_57 ?_
          refine lv_iadd hx hb dR_commitAll_58 ?_
          refine tp_i (nI (49 + 2 * (chl (rs_wk r0) (rs_va r0) n).length)) (by rw [pk_mul, nI_add]) ?_
          refine lv_aload_n hx hb dR_commitAll_59 rfl (lv_at hl 2 rfl) ?_
          refine va_get (D := D) (ci := 3) (v := .ref (bd 1)) (C := RR) (T := TR) (N := 21) hx hb ht uw_R hown hK hP 0 rfl rfl 1 (by decide) (ht _ tb_540) (fun _ h => h) rfl dR_commitAll_60 ?_
          refine lv_iload_n hx hb dR_commitAll_63 rfl (lv_at hl 0 rfl) ?_
          refine ra_l hx hb hK hP 1 rfl n (by omega) (by decide) rfl dR_commitAll_64 ?_
          refine gcv (wr := []) [0, 1, 2, 3, 4, 5, 6, 7, 8, 9, 10, 11] [] rfl rfl rfl (by decide) (va_runV (As := [.int (nI (49 + 2 * (chl (rs_wk r0) (rs_va r0) n).length)), .long ((rs_va u8) n)]) (rest := []) F (kR_store l D ks bd u8 (49 + 2 * (chl (rs_wk r0) (rs_va r0) n).length) (rs_va u8 n) H.size hQ1.1 hQ1.2 hc1) (cwV (C := RR) 2 ht (tb_v tb_627 tb_629 tb_sR_store tb_4 tb_630) rfl rfl rfl ⟨rfl, by decide, by decide, by decide +kernel⟩ ⟨by decide, by decide⟩) (preV 0 3 rfl rfl rfl hK hN hP hD [0, 1, 2, 3, 4, 5, 6, 7, 8, 9, 10, 11] rfl rfl) rfl rfl hl.1 rfl (lv_room (Nat.le_of_ble_eq_true rfl)) dR_commitAll_65 (by decide)) hP hD hS hA (fun u9 H locs q9 hP hD hS => ?_)
          have hP : va_P D vwCl [(bd 0, .inr (3, [.int (rs_th u9), .ref (bd 1), .ref (bd 2), .ref (bd 3), .ref (bd 4), .ref (bd 5), .int (rs_dn u9), .int (rs_wi u9), .ref (bd 6), .int (rs_st u9), .int (rs_fl u9), .int (rs_fe u9), .int (rs_cr u9), .int (rs_sp u9), .int (rs_sd u9), .int (rs_so u9), .ref (bd 7), .ref (bd 8), .ref (bd 9), .ref (bd 10), .ref (bd 11)])), (bd 1, .inl (ks 0, 112, .inr (.inl (rs_va u9)))), (bd 2, .inl (ks 0, 112, .inr (.inl (rs_ke u9)))), (bd 3, .inl (ks 0, 448, .inr (.inl (rs_lo u9)))), (bd 4, .inl (ks 1, 112, .inl (rs_ls u9))), (bd 5, .inl (ks 2, 14, .inl (rs_fd u9))), (bd 6, .inl (ks 0, 31, .inr (.inl (rs_wk u9)))), (bd 7, .inl (ks 2, 2, .inl (rs_tk u9))), (bd 8, .inl (ks 0, 8, .inr (.inl (rs_co u9)))), (bd 9, .inl (ks 1, 2, .inl (rs_pr u9))), (bd 10, .inl (ks 0, 16, .inr (.inl (rs_ky u9)))), (bd 11, .inl (ks 0, 16, .inr (.inl (rs_nu u9))))] H := hP
          have hD : va_D A [(bd 0, .inr (3, [.int (rs_th u9), .ref (bd 1), .ref (bd 2), .ref (bd 3), .ref (bd 4), .ref (bd 5), .int (rs_dn u9), .int (rs_wi u9), .ref (bd 6), .int (rs_st u9), .int (rs_fl u9), .int (rs_fe u9), .int (rs_cr u9), .int (rs_sp u9), .int (rs_sd u9), .int (rs_so u9), .ref (bd 7), .ref (bd 8), .ref (bd 9), .ref (bd 10), .ref (bd 11)])), (bd 1, .inl (ks 0, 112, .inr (.inl (rs_va u9)))), (bd 2, .inl (ks 0, 112, .inr (.inl (rs_ke u9)))), (bd 3, .inl (ks 0, 448, .inr (.inl (rs_lo u9)))), (bd 4, .inl (ks 1, 112, .inl (rs_ls u9))), (bd 5, .inl (ks 2, 14, .inl (rs_fd u9))), (bd 6, .inl (ks 0, 31, .inr (.inl (rs_wk u9)))), (bd 7, .inl (ks 2, 2, .inl (rs_tk u9))), (bd 8, .inl (ks 0, 8, .inr (.inl (rs_co u9)))), (bd 9, .inl (ks 1, 2, .inl (rs_pr u9))), (bd 10, .inl (ks 0, 16, .inr (.inl (rs_ky u9)))), (bd 11, .inl (ks 0, 16, .inr (.inl (rs_nu u9))))] := hD
          have hI := hI.s hB q8 (q9.trans (hlw.val (by omega)))
          refine lv_iinc (k := 1) (x := (nI (chl (rs_wk r0) (rs_va r0) n).length)) (v := (nI (chl (rs_wk r0) (rs_va r0) (n + 1)).length)) (lv' := [(2, .int (nI (chl (rs_wk r0) (rs_va r0) (n + 1)).length)), (3, .int (nI n)), (0, .ref (bd 0)), (1, .int (sb ll))]) hx hb dR_commitAll_68 hl rfl (by rw [chl_s hB, List.length_append]; exact nI_1 _) (by decide) rfl (fun ls hl => ?_)
          refine lv_iinc (k := 1) (x := (nI n)) (v := (nI (n + 1))) (lv' := [(3, .int (nI (n + 1))), (2, .int (nI (chl (rs_wk r0) (rs_va r0) (n + 1)).length)), (0, .ref (bd 0)), (1, .int (sb ll))]) hx hb dR_commitAll_71 hl rfl (nI_1 _) (by decide) rfl (fun ls hl => ?_)
          refine lv_goto (tgt := 25) hx hb dR_commitAll_74 rfl ?_
          have hl : lv_has ls 4 [(3, .int (nI (n + 1))), (2, .int (nI (chl (rs_wk r0) (rs_va r0) (n + 1)).length)), (0, .ref (bd 0)), (1, .int (sb ll))] := lv_sub hl [0, 1, 2, 3] rfl
          exact ih (n + 1) (by omega) u9 hI H locs ls hl hP hD hS
    have hl : lv_has ls 4 [(3, .int (nI 0)), (2, .int (nI (chl (rs_wk r0) (rs_va r0) 0).length)), (0, .ref (bd 0)), (1, .int (sb ll))] := lv_sub hl [0, 1, 3, 2] rfl
    exact LOOP1 (31 - 0) 0 (by omega) (rs_c0 r0) hI0 H _ _ hl hP hD hS
  · skip
    have hz0 : ll.length = 0 := by rw [(sb_zero h31).mp hz0]; rfl
    refine lv_iconst (v := 0) hx hb dR_commitAll_21 (by decide) ?_
    exact endI hx hb hr hlk hK (rs_c0 r0) (Or.inl ⟨by rw [← hll]; exact hz0, rfl, rfl⟩) hP hD hS dR_commitAll_22

