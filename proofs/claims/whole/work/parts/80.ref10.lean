/-- the keys rise, as far as i -/
def GdA (v : Nat → Int64) (i : Nat) : Prop := (0 ≤ v 14 ∧ v 14 ≤ (nI 8).toInt64) ∧ ∀ j, j < i → (v 14 ≤ lN (j + 1) ∨ v (15 + j) < v (15 + j + 1))
def GdI (v : Nat → Int64) (i : Nat) (g : Int32) : Prop := (g = 1 ∧ GdA v i) ∨ (g = 0 ∧ ¬ GdA v i)
theorem GdI.z {v : Nat → Int64} {i : Nat} {g : Int32} (h : GdI v i g) (hg : g = 0) : GdI v (i + 1) 0 := by
  rcases h with ⟨e, h⟩ | ⟨e, h⟩
  · rw [e] at hg; exact absurd hg (by decide)
  · exact Or.inr ⟨rfl, fun z => h ⟨z.1, fun j hj => z.2 j (by omega)⟩⟩
theorem GdI.t {v : Nat → Int64} {i : Nat} {g : Int32} (h : GdI v i g) (hg : ¬ g = 0) : GdA v i := by
  rcases h with ⟨e, h⟩ | ⟨e, h⟩
  · exact h
  · exact absurd e hg
theorem GdI.f {v : Nat → Int64} {i : Nat} {g : Int32} (h : GdI v i g) (hg : g = 0) : ¬ GdA v i := by
  rcases h with ⟨e, h⟩ | ⟨e, h⟩
  · rw [e] at hg; exact absurd hg (by decide)
  · exact h
theorem GdI.a {v : Nat → Int64} {i : Nat} {g : Int32} (h : GdI v i g) (hg : ¬ g = 0) (hi : v 14 ≤ lN (i + 1) ∨ v (15 + i) < v (15 + i + 1)) : GdI v (i + 1) 1 :=
  Or.inl ⟨rfl, (h.t hg).1, fun j hj => by
    by_cases e : j = i
    · rw [e]; exact hi
    · exact (h.t hg).2 j (by omega)⟩
theorem GdI.b {v : Nat → Int64} {i : Nat} {g : Int32} (hi : ¬ (v 14 ≤ lN (i + 1) ∨ v (15 + i) < v (15 + i + 1))) : GdI v (i + 1) 0 :=
  Or.inr ⟨rfl, fun z => hi (z.2 i (by omega))⟩
theorem gda_iff {v : Nat → Int64} {p : Nat} (hp : p ≤ 8) (e : v 14 = lN p) : GdA v 7 ↔ ∀ j, 1 ≤ j → j < p → v (14 + j) < v (15 + j) := by
  constructor
  · intro h j h1 h2
    rcases h.2 (j - 1) (by omega) with z | z
    · rw [e, lN_le (by omega) (by omega)] at z; omega
    · rw [show 15 + (j - 1) = 14 + j by omega, show 14 + j + 1 = 15 + j by omega] at z; exact z
  · intro h
    refine ⟨by rw [e]; exact ⟨(lN_le (a := 0) (by decide) (by omega)).mpr (by omega), by rw [nI_l (by decide)]; exact (lN_le (by omega) (by decide)).mpr hp⟩, fun j hj => ?_⟩
    by_cases z : p ≤ j + 1
    · exact Or.inl (by rw [e]; exact (lN_le (by omega) (by omega)).mpr z)
    · have := h (j + 1) (by omega) (by omega)
      rw [show 14 + (j + 1) = 15 + j by omega] at this
      exact Or.inr this
theorem aud_2 {v : Nat → Int64} (hA : (0 ≤ v 4 ∧ v 4 ≤ (nI 7).toInt64) ∧ (0 ≤ v 5 ∧ v 5 ≤ (nI 8).toInt64)) (h : ¬ GdA v 7) : AudQ v (nI 2) := by
  by_cases hr : 0 ≤ v 14 ∧ v 14 ≤ (nI 8).toInt64
  · obtain ⟨p, hp, e⟩ := inL_of (by decide) hr
    exact Or.inr ⟨hA, Or.inr ⟨p, hp, e, Or.inl ⟨fun z => h ((gda_iff hp e).mpr z), rfl⟩⟩⟩
  · exact Or.inr ⟨hA, Or.inl ⟨hr, rfl⟩⟩
theorem aud_3 {v : Nat → Int64} (hA : (0 ≤ v 4 ∧ v 4 ≤ (nI 7).toInt64) ∧ (0 ≤ v 5 ∧ v 5 ≤ (nI 8).toInt64)) (h : GdA v 7) (hz : ¬ v 40 = 0) : AudQ v (nI 3) := by
  obtain ⟨p, hp, e⟩ := inL_of (by decide) h.1
  exact Or.inr ⟨hA, Or.inr ⟨p, hp, e, Or.inr ⟨(gda_iff hp e).mp h, Or.inl ⟨hz, rfl⟩⟩⟩⟩
theorem aud_0 {v : Nat → Int64} (hA : (0 ≤ v 4 ∧ v 4 ≤ (nI 7).toInt64) ∧ (0 ≤ v 5 ∧ v 5 ≤ (nI 8).toInt64)) (h : GdA v 7) (hz : v 40 = 0) : AudQ v (nI 0) := by
  obtain ⟨p, hp, e⟩ := inL_of (by decide) h.1
  exact Or.inr ⟨hA, Or.inr ⟨p, hp, e, Or.inr ⟨(gda_iff hp e).mp h, Or.inr ⟨hz, rfl⟩⟩⟩⟩
/-- audit() has one answer -/
theorem aud_one {v : Nat → Int64} {r q : Int32} (h : AudQ v r) (g : AudQ v q) : r = q := by
  rcases h with ⟨h1, h2⟩ | ⟨h1, h2⟩
  · rcases g with ⟨_, g2⟩ | ⟨g1, _⟩
    · rw [h2, g2]
    · exact absurd g1 h1
  · rcases g with ⟨g1, _⟩ | ⟨_, g2⟩
    · exact absurd h1 g1
    · have rg : ∀ p, p ≤ 8 → v 14 = lN p → (0 ≤ v 14 ∧ v 14 ≤ (nI 8).toInt64) := fun p hp e => by
        rw [e]; exact ⟨(lN_le (a := 0) (by decide) (by omega)).mpr (by omega), by rw [nI_l (by decide)]; exact (lN_le (by omega) (by decide)).mpr hp⟩
      rcases h2 with ⟨h3, h4⟩ | ⟨p, hp, he, h3⟩
      · rcases g2 with ⟨_, g4⟩ | ⟨q', hq, ge, _⟩
        · rw [h4, g4]
        · exact absurd (rg _ hq ge) h3
      · rcases g2 with ⟨g3, _⟩ | ⟨q', hq, ge, g3⟩
        · exact absurd (rg _ hp he) g3
        · have e : p = q' := (lN_eq (by omega) (by omega)).mp (he.symm.trans ge)
          subst e
          rcases h3 with ⟨h5, h6⟩ | ⟨h5, h6⟩
          · rcases g3 with ⟨_, g6⟩ | ⟨g5, _⟩
            · rw [h6, g6]
            · exact absurd g5 h5
          · rcases g3 with ⟨g5, _⟩ | ⟨_, g6⟩
            · exact absurd h5 g5
            · rcases h6 with ⟨h7, h8⟩ | ⟨h7, h8⟩
              · rcases g6 with ⟨_, g8⟩ | ⟨g7, _⟩
                · rw [h8, g8]
                · exact absurd g7 h7
              · rcases g6 with ⟨g7, _⟩ | ⟨_, g8⟩
                · exact absurd h7 g7
                · rw [h8, g8]
set_option maxHeartbeats 4000000 in
set_option maxRecDepth 100000 in
theorem kR_audit (l : Launch) (D : va_G) (ks : Nat → ClassId) (bd : Nat → Nat) (r0 : MS) (sz : Nat)  : Met l yR_audit (.code yR_audit cR_audit 3 (some .int) :: TB) ({ frames := 0, cells := 0, slots := 0, locals := 0 } : Room) (Pcw D ks [.ref (bd 0)] sz [(bd 0, .inr (3, [.int (rs_th r0), .ref (bd 1), .ref (bd 2), .ref (bd 3), .ref (bd 4), .ref (bd 5), .int (rs_dn r0), .int (rs_wi r0), .ref (bd 6), .int (rs_st r0), .int (rs_fl r0), .int (rs_fe r0), .int (rs_cr r0), .int (rs_sp r0), .int (rs_sd r0), .int (rs_so r0), .ref (bd 7), .ref (bd 8), .ref (bd 9), .ref (bd 10), .ref (bd 11)])), (bd 1, .inl (ks 0, 112, .inr (.inl (rs_va r0)))), (bd 2, .inl (ks 0, 112, .inr (.inl (rs_ke r0)))), (bd 3, .inl (ks 0, 448, .inr (.inl (rs_lo r0)))), (bd 4, .inl (ks 1, 112, .inl (rs_ls r0))), (bd 5, .inl (ks 2, 14, .inl (rs_fd r0))), (bd 6, .inl (ks 0, 31, .inr (.inl (rs_wk r0)))), (bd 7, .inl (ks 2, 2, .inl (rs_tk r0))), (bd 8, .inl (ks 0, 8, .inr (.inl (rs_co r0)))), (bd 9, .inl (ks 1, 2, .inl (rs_pr r0))), (bd 10, .inl (ks 0, 16, .inr (.inl (rs_ky r0)))), (bd 11, .inl (ks 0, 16, .inr (.inl (rs_nu r0))))]) (va_Qi (S := MS) (fun r u => u = rs_thr r0 0 ∧ AudQ (rs_va r0) r) (fun u t => Bw D ks (va_A [(bd 0, .inr (3, [.int (rs_th r0), .ref (bd 1), .ref (bd 2), .ref (bd 3), .ref (bd 4), .ref (bd 5), .int (rs_dn r0), .int (rs_wi r0), .ref (bd 6), .int (rs_st r0), .int (rs_fl r0), .int (rs_fe r0), .int (rs_cr r0), .int (rs_sp r0), .int (rs_sd r0), .int (rs_so r0), .ref (bd 7), .ref (bd 8), .ref (bd 9), .ref (bd 10), .ref (bd 11)])), (bd 1, .inl (ks 0, 112, .inr (.inl (rs_va r0)))), (bd 2, .inl (ks 0, 112, .inr (.inl (rs_ke r0)))), (bd 3, .inl (ks 0, 448, .inr (.inl (rs_lo r0)))), (bd 4, .inl (ks 1, 112, .inl (rs_ls r0))), (bd 5, .inl (ks 2, 14, .inl (rs_fd r0))), (bd 6, .inl (ks 0, 31, .inr (.inl (rs_wk r0)))), (bd 7, .inl (ks 2, 2, .inl (rs_tk r0))), (bd 8, .inl (ks 0, 8, .inr (.inl (rs_co r0)))), (bd 9, .inl (ks 1, 2, .inl (rs_pr r0))), (bd 10, .inl (ks 0, 16, .inr (.inl (rs_ky r0)))), (bd 11, .inl (ks 0, 16, .inr (.inl (rs_nu r0))))] sz) ((fun u => wR ks bd u) u) t) (va_A [(bd 0, .inr (3, [.int (rs_th r0), .ref (bd 1), .ref (bd 2), .ref (bd 3), .ref (bd 4), .ref (bd 5), .int (rs_dn r0), .int (rs_wi r0), .ref (bd 6), .int (rs_st r0), .int (rs_fl r0), .int (rs_fe r0), .int (rs_cr r0), .int (rs_sp r0), .int (rs_sd r0), .int (rs_so r0), .ref (bd 7), .ref (bd 8), .ref (bd 9), .ref (bd 10), .ref (bd 11)])), (bd 1, .inl (ks 0, 112, .inr (.inl (rs_va r0)))), (bd 2, .inl (ks 0, 112, .inr (.inl (rs_ke r0)))), (bd 3, .inl (ks 0, 448, .inr (.inl (rs_lo r0)))), (bd 4, .inl (ks 1, 112, .inl (rs_ls r0))), (bd 5, .inl (ks 2, 14, .inl (rs_fd r0))), (bd 6, .inl (ks 0, 31, .inr (.inl (rs_wk r0)))), (bd 7, .inl (ks 2, 2, .inl (rs_tk r0))), (bd 8, .inl (ks 0, 8, .inr (.inl (rs_co r0)))), (bd 9, .inl (ks 1, 2, .inl (rs_pr r0))), (bd 10, .inl (ks 0, 16, .inr (.inl (rs_ky r0)))), (bd 11, .inl (ks 0, 16, .inr (.inl (rs_nu r0))))] sz)) 0 0 (va_A [(bd 0, .inr (3, [.int (rs_th r0), .ref (bd 1), .ref (bd 2), .ref (bd 3), .ref (bd 4), .ref (bd 5), .int (rs_dn r0), .int (rs_wi r0), .ref (bd 6), .int (rs_st r0), .int (rs_fl r0), .int (rs_fe r0), .int (rs_cr r0), .int (rs_sp r0), .int (rs_sd r0), .int (rs_so r0), .ref (bd 7), .ref (bd 8), .ref (bd 9), .ref (bd 10), .ref (bd 11)])), (bd 1, .inl (ks 0, 112, .inr (.inl (rs_va r0)))), (bd 2, .inl (ks 0, 112, .inr (.inl (rs_ke r0)))), (bd 3, .inl (ks 0, 448, .inr (.inl (rs_lo r0)))), (bd 4, .inl (ks 1, 112, .inl (rs_ls r0))), (bd 5, .inl (ks 2, 14, .inl (rs_fd r0))), (bd 6, .inl (ks 0, 31, .inr (.inl (rs_wk r0)))), (bd 7, .inl (ks 2, 2, .inl (rs_tk r0))), (bd 8, .inl (ks 0, 8, .inr (.inl (rs_co r0)))), (bd 9, .inl (ks 1, 2, .inl (rs_pr r0))), (bd 10, .inl (ks 0, 16, .inr (.inl (rs_ky r0)))), (bd 11, .inl (ks 0, 16, .inr (.inl (rs_nu r0))))] sz) := by
  refine bodyI (S := MS) (wN := (fun u => wR ks bd u)) (post := (fun r u => u = rs_thr r0 0 ∧ AudQ (rs_va r0) r)) (by decide) (Nat.le_of_ble_eq_true rfl) (fun p e s m below meth c A ls F hr hlk hK hN hA hsz hP hD hS hl => ?_)
  obtain ⟨hx, hb, hml, hown, ht⟩ := F
  have hown : s.vm.findClass RR = some m.cls := hown
  have F : CallFix p m c cR_audit 3 s ([.ref (bd 0)] : List Value).toArray TB RR := ⟨hx, hb, hml, hown, ht⟩
  have hl : lv_has ls 3 [(0, .ref (bd 0))] := hl
  refine lv_aload_n hx hb dR_audit_0 rfl (lv_at hl 0 rfl) ?_
  refine lv_iconst (v := 0) hx hb dR_audit_1 (by decide) ?_
  refine va_put (D := D) (ci := 3) (v := .int 0) (ty := .int) (C := RR) (T := TR) (N := 21) hx hb ht uw_R ty_R ty_R_ok nm_R hown hK hP hD hS 0 rfl rfl 0 (by decide) (ht _ tb_539) (fun _ h => h) rfl (by decide +kernel) rfl rfl (Nat.le_of_ble_eq_true rfl) dR_audit_2 (fun H locs hP hD hS => ?_)
  have hP : va_P D vwCl [(bd 0, .inr (3, [.int 0, .ref (bd 1), .ref (bd 2), .ref (bd 3), .ref (bd 4), .ref (bd 5), .int (rs_dn r0), .int (rs_wi r0), .ref (bd 6), .int (rs_st r0), .int (rs_fl r0), .int (rs_fe r0), .int (rs_cr r0), .int (rs_sp r0), .int (rs_sd r0), .int (rs_so r0), .ref (bd 7), .ref (bd 8), .ref (bd 9), .ref (bd 10), .ref (bd 11)])), (bd 1, .inl (ks 0, 112, .inr (.inl (rs_va r0)))), (bd 2, .inl (ks 0, 112, .inr (.inl (rs_ke r0)))), (bd 3, .inl (ks 0, 448, .inr (.inl (rs_lo r0)))), (bd 4, .inl (ks 1, 112, .inl (rs_ls r0))), (bd 5, .inl (ks 2, 14, .inl (rs_fd r0))), (bd 6, .inl (ks 0, 31, .inr (.inl (rs_wk r0)))), (bd 7, .inl (ks 2, 2, .inl (rs_tk r0))), (bd 8, .inl (ks 0, 8, .inr (.inl (rs_co r0)))), (bd 9, .inl (ks 1, 2, .inl (rs_pr r0))), (bd 10, .inl (ks 0, 16, .inr (.inl (rs_ky r0)))), (bd 11, .inl (ks 0, 16, .inr (.inl (rs_nu r0))))] H := hP
  have hD : va_D A [(bd 0, .inr (3, [.int 0, .ref (bd 1), .ref (bd 2), .ref (bd 3), .ref (bd 4), .ref (bd 5), .int (rs_dn r0), .int (rs_wi r0), .ref (bd 6), .int (rs_st r0), .int (rs_fl r0), .int (rs_fe r0), .int (rs_cr r0), .int (rs_sp r0), .int (rs_sd r0), .int (rs_so r0), .ref (bd 7), .ref (bd 8), .ref (bd 9), .ref (bd 10), .ref (bd 11)])), (bd 1, .inl (ks 0, 112, .inr (.inl (rs_va r0)))), (bd 2, .inl (ks 0, 112, .inr (.inl (rs_ke r0)))), (bd 3, .inl (ks 0, 448, .inr (.inl (rs_lo r0)))), (bd 4, .inl (ks 1, 112, .inl (rs_ls r0))), (bd 5, .inl (ks 2, 14, .inl (rs_fd r0))), (bd 6, .inl (ks 0, 31, .inr (.inl (rs_wk r0)))), (bd 7, .inl (ks 2, 2, .inl (rs_tk r0))), (bd 8, .inl (ks 0, 8, .inr (.inl (rs_co r0)))), (bd 9, .inl (ks 1, 2, .inl (rs_pr r0))), (bd 10, .inl (ks 0, 16, .inr (.inl (rs_ky r0)))), (bd 11, .inl (ks 0, 16, .inr (.inl (rs_nu r0))))] := hD
  refine lv_aload_n hx hb dR_audit_5 rfl (lv_at hl 0 rfl) ?_
  refine va_get (D := D) (ci := 3) (v := .ref (bd 1)) (C := RR) (T := TR) (N := 21) hx hb ht uw_R hown hK hP 0 rfl rfl 1 (by decide) (ht _ tb_540) (fun _ h => h) rfl dR_audit_6 ?_
  refine lv_iconst (v := nI 4) hx hb dR_audit_9 (by decide) ?_
  refine ra_l hx hb hK hP 1 rfl 4 (by decide) (by decide) rfl dR_audit_10 ?_
  refine lv_lconst (v := 0) hx hb dR_audit_11 (by decide) ?_
  refine W.lcmp hx hb dR_audit_12 ?_
  refine lv_if_lt (tgt := 53) hx hb dR_audit_13 rfl (fun a1 => ?_) (fun a2 => ?_)
  · skip
    rw [lg_cmp_lt] at a1
    refine lv_iconst (v := nI 1) hx hb dR_audit_53 (by decide) ?_
    exact endI hx hb hr hlk hK (0, rs_va r0, rs_ke r0, rs_lo r0, rs_ls r0, rs_fd r0, rs_dn r0, rs_wi r0, rs_wk r0, rs_st r0, rs_fl r0, rs_fe r0, rs_cr r0, rs_sp r0, rs_sd r0, rs_so r0, rs_tk r0, rs_co r0, rs_pr r0, rs_ky r0, rs_nu r0) (⟨rfl, Or.inl ⟨fun z => absurd a1 (Int64.not_lt.mpr z.1.1), rfl⟩⟩) hP hD hS dR_audit_54
  · skip
    rw [lg_cmp_lt] at a2
    refine lv_aload_n hx hb dR_audit_16 rfl (lv_at hl 0 rfl) ?_
    refine va_get (D := D) (ci := 3) (v := .ref (bd 1)) (C := RR) (T := TR) (N := 21) hx hb ht uw_R hown hK hP 0 rfl rfl 1 (by decide) (ht _ tb_540) (fun _ h => h) rfl dR_audit_17 ?_
    refine lv_iconst (v := nI 4) hx hb dR_audit_20 (by decide) ?_
    refine ra_l hx hb hK hP 1 rfl 4 (by decide) (by decide) rfl dR_audit_21 ?_
    refine lv_ldc2 (v := 7) hx hb hown (ht _ tb_751) dR_audit_22 ?_
    refine W.lcmp hx hb dR_audit_25 ?_
    refine lv_if_gt (tgt := 53) hx hb dR_audit_26 rfl (fun a3 => ?_) (fun a4 => ?_)
    · skip
      rw [lg_cmp_gt] at a3
      refine lv_iconst (v := nI 1) hx hb dR_audit_53 (by decide) ?_
      exact endI hx hb hr hlk hK (0, rs_va r0, rs_ke r0, rs_lo r0, rs_ls r0, rs_fd r0, rs_dn r0, rs_wi r0, rs_wk r0, rs_st r0, rs_fl r0, rs_fe r0, rs_cr r0, rs_sp r0, rs_sd r0, rs_so r0, rs_tk r0, rs_co r0, rs_pr r0, rs_ky r0, rs_nu r0) (⟨rfl, Or.inl ⟨fun z => absurd a3 (Int64.not_lt.mpr z.1.2), rfl⟩⟩) hP hD hS dR_audit_54
    · skip
      rw [lg_cmp_gt] at a4
      refine lv_aload_n hx hb dR_audit_29 rfl (lv_at hl 0 rfl) ?_
      refine va_get (D := D) (ci := 3) (v := .ref (bd 1)) (C := RR) (T := TR) (N := 21) hx hb ht uw_R hown hK hP 0 rfl rfl 1 (by decide) (ht _ tb_540) (fun _ h => h) rfl dR_audit_30 ?_
      refine lv_iconst (v := nI 5) hx hb dR_audit_33 (by decide) ?_
      refine ra_l hx hb hK hP 1 rfl 5 (by decide) (by decide) rfl dR_audit_34 ?_
      refine lv_lconst (v := 0) hx hb dR_audit_35 (by decide) ?_
      refine W.lcmp hx hb dR_audit_36 ?_
      refine lv_if_lt (tgt := 53) hx hb dR_audit_37 rfl (fun a5 => ?_) (fun a6 => ?_)
      · skip
        rw [lg_cmp_lt] at a5
        refine lv_iconst (v := nI 1) hx hb dR_audit_53 (by decide) ?_
        exact endI hx hb hr hlk hK (0, rs_va r0, rs_ke r0, rs_lo r0, rs_ls r0, rs_fd r0, rs_dn r0, rs_wi r0, rs_wk r0, rs_st r0, rs_fl r0, rs_fe r0, rs_cr r0, rs_sp r0, rs_sd r0, rs_so r0, rs_tk r0, rs_co r0, rs_pr r0, rs_ky r0, rs_nu r0) (⟨rfl, Or.inl ⟨fun z => absurd a5 (Int64.not_lt.mpr z.2.1), rfl⟩⟩) hP hD hS dR_audit_54
      · skip
        rw [lg_cmp_lt] at a6
        refine lv_aload_n hx hb dR_audit_40 rfl (lv_at hl 0 rfl) ?_
        refine va_get (D := D) (ci := 3) (v := .ref (bd 1)) (C := RR) (T := TR) (N := 21) hx hb ht uw_R hown hK hP 0 rfl rfl 1 (by decide) (ht _ tb_540) (fun _ h => h) rfl dR_audit_41 ?_
        refine lv_iconst (v := nI 5) hx hb dR_audit_44 (by decide) ?_
        refine ra_l hx hb hK hP 1 rfl 5 (by decide) (by decide) rfl dR_audit_45 ?_
        refine lv_ldc2 (v := 8) hx hb hown (ht _ tb_752) dR_audit_46 ?_
        refine W.lcmp hx hb dR_audit_49 ?_
        refine lv_if_le (tgt := 55) hx hb dR_audit_50 rfl (fun a7 => ?_) (fun a8 => ?_)
        · skip
          rw [lg_cmp_le] at a7
          refine lv_aload_n hx hb dR_audit_55 rfl (lv_at hl 0 rfl) ?_
          refine va_get (D := D) (ci := 3) (v := .ref (bd 1)) (C := RR) (T := TR) (N := 21) hx hb ht uw_R hown hK hP 0 rfl rfl 1 (by decide) (ht _ tb_540) (fun _ h => h) rfl dR_audit_56 ?_
          refine lv_bipush (v := nI 14) hx hb dR_audit_59 (by decide) ?_
          refine ra_l hx hb hK hP 1 rfl 14 (by decide) (by decide) rfl dR_audit_61 ?_
          refine lv_lconst (v := 0) hx hb dR_audit_62 (by decide) ?_
          refine W.lcmp hx hb dR_audit_63 ?_
          refine lv_if_lt (tgt := 85) hx hb dR_audit_64 rfl (fun b1 => ?_) (fun b2 => ?_)
          · skip
            rw [lg_cmp_lt] at b1
            refine lv_iconst (v := (0 : Int32)) hx hb dR_audit_85 (by decide) ?_
            refine lv_istore_n (lv' := [(1, .int (0 : Int32)), (0, .ref (bd 0))]) hx hb dR_audit_86 rfl hl (by decide) rfl (fun ls hl => ?_)
            refine lv_iconst (v := nI 0) hx hb dR_audit_87 (by decide) ?_
            refine lv_istore_n (lv' := [(2, .int (nI 0)), (1, .int (0 : Int32)), (0, .ref (bd 0))]) hx hb dR_audit_88 rfl hl (by decide) rfl (fun ls hl => ?_)
            have LOOP : ∀ (k9 i : Nat), i + k9 = 7 → ∀ g9 : Int32, GdI (rs_va r0) i g9 → ∀ (H : Heap) (locs : List Loc) (ls : Array Slot), lv_has ls 3 [(2, .int (nI i)), (1, .int g9), (0, .ref (bd 0))] → va_P D vwCl [(bd 0, .inr (3, [.int (0), .ref (bd 1), .ref (bd 2), .ref (bd 3), .ref (bd 4), .ref (bd 5), .int (rs_dn r0), .int (rs_wi r0), .ref (bd 6), .int (rs_st r0), .int (rs_fl r0), .int (rs_fe r0), .int (rs_cr r0), .int (rs_sp r0), .int (rs_sd r0), .int (rs_so r0), .ref (bd 7), .ref (bd 8), .ref (bd 9), .ref (bd 10), .ref (bd 11)])), (bd 1, .inl (ks 0, 112, .inr (.inl (rs_va r0)))), (bd 2, .inl (ks 0, 112, .inr (.inl (rs_ke r0)))), (bd 3, .inl (ks 0, 448, .inr (.inl (rs_lo r0)))), (bd 4, .inl (ks 1, 112, .inl (rs_ls r0))), (bd 5, .inl (ks 2, 14, .inl (rs_fd r0))), (bd 6, .inl (ks 0, 31, .inr (.inl (rs_wk r0)))), (bd 7, .inl (ks 2, 2, .inl (rs_tk r0))), (bd 8, .inl (ks 0, 8, .inr (.inl (rs_co r0)))), (bd 9, .inl (ks 1, 2, .inl (rs_pr r0))), (bd 10, .inl (ks 0, 16, .inr (.inl (rs_ky r0)))), (bd 11, .inl (ks 0, 16, .inr (.inl (rs_nu r0))))] H → va_D A [(bd 0, .inr (3, [.int (0), .ref (bd 1), .ref (bd 2), .ref (bd 3), .ref (bd 4), .ref (bd 5), .int (rs_dn r0), .int (rs_wi r0), .ref (bd 6), .int (rs_st r0), .int (rs_fl r0), .int (rs_fe r0), .int (rs_cr r0), .int (rs_sp r0), .int (rs_sd r0), .int (rs_so r0), .ref (bd 7), .ref (bd 8), .ref (bd 9), .ref (bd 10), .ref (bd 11)])), (bd 1, .inl (ks 0, 112, .inr (.inl (rs_va r0)))), (bd 2, .inl (ks 0, 112, .inr (.inl (rs_ke r0)))), (bd 3, .inl (ks 0, 448, .inr (.inl (rs_lo r0)))), (bd 4, .inl (ks 1, 112, .inl (rs_ls r0))), (bd 5, .inl (ks 2, 14, .inl (rs_fd r0))), (bd 6, .inl (ks 0, 31, .inr (.inl (rs_wk r0)))), (bd 7, .inl (ks 2, 2, .inl (rs_tk r0))), (bd 8, .inl (ks 0, 8, .inr (.inl (rs_co r0)))), (bd 9, .inl (ks 1, 2, .inl (rs_pr r0))), (bd 10, .inl (ks 0, 16, .inr (.inl (rs_ky r0)))), (bd 11, .inl (ks 0, 16, .inr (.inl (rs_nu r0))))] → va_S A s.heap H locs → W p l e ({ frames := 0, cells := 0, slots := 0, locals := 0 } : Room) s m ([.ref (bd 0)] : List Value).toArray below meth c H locs 0 0 (MQ below (va_Qi (S := MS) (fun r u => u = rs_thr r0 0 ∧ AudQ (rs_va r0) r) (fun u t => Bw D ks A ((fun u => wR ks bd u) u) t) A) ([.ref (bd 0)] : List Value).toArray s 0 0 A) (F0 m 89 ls []) := by
              intro k9
              induction k9 with
              | zero =>
                intro i h9 g9 hI H locs ls hl hP hD hS
                have h9 : i = 7 := h9
                subst h9
                refine lv_iload_n hx hb dR_audit_89 rfl (lv_at hl 0 rfl) ?_
                refine lv_bipush (v := nI 7) hx hb dR_audit_90 (by decide) ?_
                refine lv_icmp_ge (tgt := 150) hx hb dR_audit_92 rfl (fun _ => ?_) (fun h => absurd (by first | exact Int32.le_refl _ | (rw [h9]; exact Int32.le_refl _)) h)
                refine lv_iload_n hx hb dR_audit_150 rfl (lv_at hl 1 rfl) ?_
                refine lv_if_ne (tgt := 158) hx hb dR_audit_151 rfl (fun y1 => ?_) (fun y0 => ?_)
                · skip
                  refine lv_aload_n hx hb dR_audit_158 rfl (lv_at hl 2 rfl) ?_
                  refine va_get (D := D) (ci := 3) (v := .ref (bd 1)) (C := RR) (T := TR) (N := 21) hx hb ht uw_R hown hK hP 0 rfl rfl 1 (by decide) (ht _ tb_540) (fun _ h => h) rfl dR_audit_159 ?_
                  refine lv_bipush (v := nI 40) hx hb dR_audit_162 (by decide) ?_
                  refine ra_l hx hb hK hP 1 rfl 40 (by decide) (by decide) rfl dR_audit_164 ?_
                  refine lv_lconst (v := 0) hx hb dR_audit_165 (by decide) ?_
                  refine W.lcmp hx hb dR_audit_166 ?_
                  refine lv_if_eq (tgt := 174) hx hb dR_audit_167 rfl (fun k0 => ?_) (fun kn => ?_)
                  · skip
                    rw [lg_cmp_eq] at k0
                    refine lv_iconst (v := nI 0) hx hb dR_audit_174 (by decide) ?_
                    exact endI hx hb hr hlk hK (0, rs_va r0, rs_ke r0, rs_lo r0, rs_ls r0, rs_fd r0, rs_dn r0, rs_wi r0, rs_wk r0, rs_st r0, rs_fl r0, rs_fe r0, rs_cr r0, rs_sp r0, rs_sd r0, rs_so r0, rs_tk r0, rs_co r0, rs_pr r0, rs_ky r0, rs_nu r0) (⟨rfl, aud_0 ⟨⟨Int64.not_lt.mp a2, Int64.not_lt.mp a4⟩, Int64.not_lt.mp a6, a7⟩ (hI.t y1) k0⟩) hP hD hS dR_audit_175
                  · skip
                    rw [lg_cmp_eq] at kn
                    refine lv_iconst (v := nI 3) hx hb dR_audit_170 (by decide) ?_
                    refine lv_goto (tgt := 175) hx hb dR_audit_171 rfl ?_
                    exact endI hx hb hr hlk hK (0, rs_va r0, rs_ke r0, rs_lo r0, rs_ls r0, rs_fd r0, rs_dn r0, rs_wi r0, rs_wk r0, rs_st r0, rs_fl r0, rs_fe r0, rs_cr r0, rs_sp r0, rs_sd r0, rs_so r0, rs_tk r0, rs_co r0, rs_pr r0, rs_ky r0, rs_nu r0) (⟨rfl, aud_3 ⟨⟨Int64.not_lt.mp a2, Int64.not_lt.mp a4⟩, Int64.not_lt.mp a6, a7⟩ (hI.t y1) kn⟩) hP hD hS dR_audit_175
                · skip
                  refine lv_iconst (v := nI 2) hx hb dR_audit_154 (by decide) ?_
                  refine lv_goto (tgt := 175) hx hb dR_audit_155 rfl ?_
                  exact endI hx hb hr hlk hK (0, rs_va r0, rs_ke r0, rs_lo r0, rs_ls r0, rs_fd r0, rs_dn r0, rs_wi r0, rs_wk r0, rs_st r0, rs_fl r0, rs_fe r0, rs_cr r0, rs_sp r0, rs_sd r0, rs_so r0, rs_tk r0, rs_co r0, rs_pr r0, rs_ky r0, rs_nu r0) (⟨rfl, aud_2 ⟨⟨Int64.not_lt.mp a2, Int64.not_lt.mp a4⟩, Int64.not_lt.mp a6, a7⟩ (hI.f y0)⟩) hP hD hS dR_audit_175
              | succ k9 ih =>
                intro i h9 g9 hI H locs ls hl hP hD hS
                have hlt : i < 7 := by omega
                refine lv_iload_n hx hb dR_audit_89 rfl (lv_at hl 0 rfl) ?_
                refine lv_bipush (v := nI 7) hx hb dR_audit_90 (by decide) ?_
                refine lv_icmp_ge (tgt := 150) hx hb dR_audit_92 rfl (fun h => absurd h (nI_ge (by omega) (by omega))) (fun _ => ?_)
                refine lv_iload_n hx hb dR_audit_95 rfl (lv_at hl 1 rfl) ?_
                refine lv_if_eq (tgt := 142) hx hb dR_audit_96 rfl (fun z0 => ?_) (fun z1 => ?_)
                · skip
                  refine lv_iconst (v := 0) hx hb dR_audit_142 (by decide) ?_
                  refine lv_istore_n (lv' := [(1, .int 0), (2, .int (nI i)), (0, .ref (bd 0))]) hx hb dR_audit_143 rfl hl (by decide) rfl (fun ls hl => ?_)
                  refine lv_iinc (k := 1) (x := (nI i)) (v := (nI (i + 1))) (lv' := [(2, .int (nI (i + 1))), (1, .int 0), (0, .ref (bd 0))]) hx hb dR_audit_144 hl rfl (nI_1 _) (by decide) rfl (fun ls hl => ?_)
                  refine lv_goto (tgt := 89) hx hb dR_audit_147 rfl ?_
                  have hl : lv_has ls 3 [(2, .int (nI (i + 1))), (1, .int 0), (0, .ref (bd 0))] := lv_sub hl [0, 1, 2] rfl
                  exact ih (i + 1) (by omega) 0 (hI.z z0) H locs ls hl hP hD hS
                · skip
                  refine lv_iload_n hx hb dR_audit_99 rfl (lv_at hl 0 rfl) ?_
                  refine lv_iconst (v := nI 1) hx hb dR_audit_100 (by decide) ?_
                  refine lv_iadd hx hb dR_audit_101 ?_
                  refine tp_i (nI (i + 1)) (nI_add _ _) ?_
                  refine lv_i2l (v := (lN (i + 1))) hx hb dR_audit_102 (nI_l (by omega)) ?_
                  refine lv_aload_n hx hb dR_audit_103 rfl (lv_at hl 2 rfl) ?_
                  refine va_get (D := D) (ci := 3) (v := .ref (bd 1)) (C := RR) (T := TR) (N := 21) hx hb ht uw_R hown hK hP 0 rfl rfl 1 (by decide) (ht _ tb_540) (fun _ h => h) rfl dR_audit_104 ?_
                  refine lv_bipush (v := nI 14) hx hb dR_audit_107 (by decide) ?_
                  refine ra_l hx hb hK hP 1 rfl 14 (by decide) (by decide) rfl dR_audit_109 ?_
                  refine W.lcmp hx hb dR_audit_110 ?_
                  refine lv_if_ge (tgt := 138) hx hb dR_audit_111 rfl (fun c1 => ?_) (fun c2 => ?_)
                  · skip
                    rw [lg_cmp_ge] at c1
                    refine lv_iconst (v := 1) hx hb dR_audit_138 (by decide) ?_
                    refine lv_goto (tgt := 143) hx hb dR_audit_139 rfl ?_
                    refine lv_istore_n (lv' := [(1, .int 1), (2, .int (nI i)), (0, .ref (bd 0))]) hx hb dR_audit_143 rfl hl (by decide) rfl (fun ls hl => ?_)
                    refine lv_iinc (k := 1) (x := (nI i)) (v := (nI (i + 1))) (lv' := [(2, .int (nI (i + 1))), (1, .int 1), (0, .ref (bd 0))]) hx hb dR_audit_144 hl rfl (nI_1 _) (by decide) rfl (fun ls hl => ?_)
                    refine lv_goto (tgt := 89) hx hb dR_audit_147 rfl ?_
                    have hl : lv_has ls 3 [(2, .int (nI (i + 1))), (1, .int 1), (0, .ref (bd 0))] := lv_sub hl [0, 1, 2] rfl
                    exact ih (i + 1) (by omega) 1 (hI.a z1 (Or.inl c1)) H locs ls hl hP hD hS
                  · skip
                    rw [lg_cmp_ge] at c2
                    refine lv_aload_n hx hb dR_audit_114 rfl (lv_at hl 2 rfl) ?_
                    refine va_get (D := D) (ci := 3) (v := .ref (bd 1)) (C := RR) (T := TR) (N := 21) hx hb ht uw_R hown hK hP 0 rfl rfl 1 (by decide) (ht _ tb_540) (fun _ h => h) rfl dR_audit_115 ?_
                    refine lv_bipush (v := nI 15) hx hb dR_audit_118 (by decide) ?_
                    refine lv_iload_n hx hb dR_audit_120 rfl (lv_at hl 0 rfl) ?_
                    refine lv_iadd hx hb dR_audit_121 ?_
                    refine tp_i (nI (15 + i)) (nI_add _ _) ?_
                    refine ra_l hx hb hK hP 1 rfl (15 + i) (by omega) (by decide) rfl dR_audit_122 ?_
                    refine lv_aload_n hx hb dR_audit_123 rfl (lv_at hl 2 rfl) ?_
                    refine va_get (D := D) (ci := 3) (v := .ref (bd 1)) (C := RR) (T := TR) (N := 21) hx hb ht uw_R hown hK hP 0 rfl rfl 1 (by decide) (ht _ tb_540) (fun _ h => h) rfl dR_audit_124 ?_
                    refine lv_bipush (v := nI 15) hx hb dR_audit_127 (by decide) ?_
                    refine lv_iload_n hx hb dR_audit_129 rfl (lv_at hl 0 rfl) ?_
                    refine lv_iadd hx hb dR_audit_130 ?_
                    refine tp_i (nI (15 + i)) (nI_add _ _) ?_
                    refine lv_iconst (v := nI 1) hx hb dR_audit_131 (by decide) ?_
                    refine lv_iadd hx hb dR_audit_132 ?_
                    refine tp_i (nI (15 + i + 1)) (nI_add _ _) ?_
                    refine ra_l hx hb hK hP 1 rfl (15 + i + 1) (by omega) (by decide) rfl dR_audit_133 ?_
                    refine W.lcmp hx hb dR_audit_134 ?_
                    refine lv_if_ge (tgt := 142) hx hb dR_audit_135 rfl (fun k1 => ?_) (fun k2 => ?_)
                    · skip
                      rw [lg_cmp_ge] at k1
                      refine lv_iconst (v := 0) hx hb dR_audit_142 (by decide) ?_
                      refine lv_istore_n (lv' := [(1, .int 0), (2, .int (nI i)), (0, .ref (bd 0))]) hx hb dR_audit_143 rfl hl (by decide) rfl (fun ls hl => ?_)
                      refine lv_iinc (k := 1) (x := (nI i)) (v := (nI (i + 1))) (lv' := [(2, .int (nI (i + 1))), (1, .int 0), (0, .ref (bd 0))]) hx hb dR_audit_144 hl rfl (nI_1 _) (by decide) rfl (fun ls hl => ?_)
                      refine lv_goto (tgt := 89) hx hb dR_audit_147 rfl ?_
                      have hl : lv_has ls 3 [(2, .int (nI (i + 1))), (1, .int 0), (0, .ref (bd 0))] := lv_sub hl [0, 1, 2] rfl
                      exact ih (i + 1) (by omega) 0 (GdI.b (g := g9) (fun z => z.elim c2 (fun y => absurd y (Int64.not_lt.mpr k1)))) H locs ls hl hP hD hS
                    · skip
                      rw [lg_cmp_ge] at k2
                      refine lv_iconst (v := 1) hx hb dR_audit_138 (by decide) ?_
                      refine lv_goto (tgt := 143) hx hb dR_audit_139 rfl ?_
                      refine lv_istore_n (lv' := [(1, .int 1), (2, .int (nI i)), (0, .ref (bd 0))]) hx hb dR_audit_143 rfl hl (by decide) rfl (fun ls hl => ?_)
                      refine lv_iinc (k := 1) (x := (nI i)) (v := (nI (i + 1))) (lv' := [(2, .int (nI (i + 1))), (1, .int 1), (0, .ref (bd 0))]) hx hb dR_audit_144 hl rfl (nI_1 _) (by decide) rfl (fun ls hl => ?_)
                      refine lv_goto (tgt := 89) hx hb dR_audit_147 rfl ?_
                      have hl : lv_has ls 3 [(2, .int (nI (i + 1))), (1, .int 1), (0, .ref (bd 0))] := lv_sub hl [0, 1, 2] rfl
                      exact ih (i + 1) (by omega) 1 (hI.a z1 (Or.inr (Int64.not_le.mp k2))) H locs ls hl hP hD hS
            have hl : lv_has ls 3 [(2, .int (nI 0)), (1, .int (0 : Int32)), (0, .ref (bd 0))] := lv_sub hl [0, 1, 2] rfl
            exact LOOP (7 - 0) 0 (by omega) (0 : Int32) (Or.inr ⟨rfl, fun z => absurd b1 (Int64.not_lt.mpr z.1.1)⟩) H _ _ hl hP hD hS
          · skip
            rw [lg_cmp_lt] at b2
            refine lv_aload_n hx hb dR_audit_67 rfl (lv_at hl 0 rfl) ?_
            refine va_get (D := D) (ci := 3) (v := .ref (bd 1)) (C := RR) (T := TR) (N := 21) hx hb ht uw_R hown hK hP 0 rfl rfl 1 (by decide) (ht _ tb_540) (fun _ h => h) rfl dR_audit_68 ?_
            refine lv_bipush (v := nI 14) hx hb dR_audit_71 (by decide) ?_
            refine ra_l hx hb hK hP 1 rfl 14 (by decide) (by decide) rfl dR_audit_73 ?_
            refine lv_ldc2 (v := 8) hx hb hown (ht _ tb_752) dR_audit_74 ?_
            refine W.lcmp hx hb dR_audit_77 ?_
            refine lv_if_gt (tgt := 85) hx hb dR_audit_78 rfl (fun b3 => ?_) (fun b4 => ?_)
            · skip
              rw [lg_cmp_gt] at b3
              refine lv_iconst (v := (0 : Int32)) hx hb dR_audit_85 (by decide) ?_
              refine lv_istore_n (lv' := [(1, .int (0 : Int32)), (0, .ref (bd 0))]) hx hb dR_audit_86 rfl hl (by decide) rfl (fun ls hl => ?_)
              refine lv_iconst (v := nI 0) hx hb dR_audit_87 (by decide) ?_
              refine lv_istore_n (lv' := [(2, .int (nI 0)), (1, .int (0 : Int32)), (0, .ref (bd 0))]) hx hb dR_audit_88 rfl hl (by decide) rfl (fun ls hl => ?_)
              have LOOP : ∀ (k9 i : Nat), i + k9 = 7 → ∀ g9 : Int32, GdI (rs_va r0) i g9 → ∀ (H : Heap) (locs : List Loc) (ls : Array Slot), lv_has ls 3 [(2, .int (nI i)), (1, .int g9), (0, .ref (bd 0))] → va_P D vwCl [(bd 0, .inr (3, [.int (0), .ref (bd 1), .ref (bd 2), .ref (bd 3), .ref (bd 4), .ref (bd 5), .int (rs_dn r0), .int (rs_wi r0), .ref (bd 6), .int (rs_st r0), .int (rs_fl r0), .int (rs_fe r0), .int (rs_cr r0), .int (rs_sp r0), .int (rs_sd r0), .int (rs_so r0), .ref (bd 7), .ref (bd 8), .ref (bd 9), .ref (bd 10), .ref (bd 11)])), (bd 1, .inl (ks 0, 112, .inr (.inl (rs_va r0)))), (bd 2, .inl (ks 0, 112, .inr (.inl (rs_ke r0)))), (bd 3, .inl (ks 0, 448, .inr (.inl (rs_lo r0)))), (bd 4, .inl (ks 1, 112, .inl (rs_ls r0))), (bd 5, .inl (ks 2, 14, .inl (rs_fd r0))), (bd 6, .inl (ks 0, 31, .inr (.inl (rs_wk r0)))), (bd 7, .inl (ks 2, 2, .inl (rs_tk r0))), (bd 8, .inl (ks 0, 8, .inr (.inl (rs_co r0)))), (bd 9, .inl (ks 1, 2, .inl (rs_pr r0))), (bd 10, .inl (ks 0, 16, .inr (.inl (rs_ky r0)))), (bd 11, .inl (ks 0, 16, .inr (.inl (rs_nu r0))))] H → va_D A [(bd 0, .inr (3, [.int (0), .ref (bd 1), .ref (bd 2), .ref (bd 3), .ref (bd 4), .ref (bd 5), .int (rs_dn r0), .int (rs_wi r0), .ref (bd 6), .int (rs_st r0), .int (rs_fl r0), .int (rs_fe r0), .int (rs_cr r0), .int (rs_sp r0), .int (rs_sd r0), .int (rs_so r0), .ref (bd 7), .ref (bd 8), .ref (bd 9), .ref (bd 10), .ref (bd 11)])), (bd 1, .inl (ks 0, 112, .inr (.inl (rs_va r0)))), (bd 2, .inl (ks 0, 112, .inr (.inl (rs_ke r0)))), (bd 3, .inl (ks 0, 448, .inr (.inl (rs_lo r0)))), (bd 4, .inl (ks 1, 112, .inl (rs_ls r0))), (bd 5, .inl (ks 2, 14, .inl (rs_fd r0))), (bd 6, .inl (ks 0, 31, .inr (.inl (rs_wk r0)))), (bd 7, .inl (ks 2, 2, .inl (rs_tk r0))), (bd 8, .inl (ks 0, 8, .inr (.inl (rs_co r0)))), (bd 9, .inl (ks 1, 2, .inl (rs_pr r0))), (bd 10, .inl (ks 0, 16, .inr (.inl (rs_ky r0)))), (bd 11, .inl (ks 0, 16, .inr (.inl (rs_nu r0))))] → va_S A s.heap H locs → W p l e ({ frames := 0, cells := 0, slots := 0, locals := 0 } : Room) s m ([.ref (bd 0)] : List Value).toArray below meth c H locs 0 0 (MQ below (va_Qi (S := MS) (fun r u => u = rs_thr r0 0 ∧ AudQ (rs_va r0) r) (fun u t => Bw D ks A ((fun u => wR ks bd u) u) t) A) ([.ref (bd 0)] : List Value).toArray s 0 0 A) (F0 m 89 ls []) := by
                intro k9
                induction k9 with
                | zero =>
                  intro i h9 g9 hI H locs ls hl hP hD hS
                  have h9 : i = 7 := h9
                  subst h9
                  refine lv_iload_n hx hb dR_audit_89 rfl (lv_at hl 0 rfl) ?_
                  refine lv_bipush (v := nI 7) hx hb dR_audit_90 (by decide) ?_
                  refine lv_icmp_ge (tgt := 150) hx hb dR_audit_92 rfl (fun _ => ?_) (fun h => absurd (by first | exact Int32.le_refl _ | (rw [h9]; exact Int32.le_refl _)) h)
                  refine lv_iload_n hx hb dR_audit_150 rfl (lv_at hl 1 rfl) ?_
                  refine lv_if_ne (tgt := 158) hx hb dR_audit_151 rfl (fun y1 => ?_) (fun y0 => ?_)
                  · skip
                    refine lv_aload_n hx hb dR_audit_158 rfl (lv_at hl 2 rfl) ?_
                    refine va_get (D := D) (ci := 3) (v := .ref (bd 1)) (C := RR) (T := TR) (N := 21) hx hb ht uw_R hown hK hP 0 rfl rfl 1 (by decide) (ht _ tb_540) (fun _ h => h) rfl dR_audit_159 ?_
                    refine lv_bipush (v := nI 40) hx hb dR_audit_162 (by decide) ?_
                    refine ra_l hx hb hK hP 1 rfl 40 (by decide) (by decide) rfl dR_audit_164 ?_
                    refine lv_lconst (v := 0) hx hb dR_audit_165 (by decide) ?_
                    refine W.lcmp hx hb dR_audit_166 ?_
                    refine lv_if_eq (tgt := 174) hx hb dR_audit_167 rfl (fun k0 => ?_) (fun kn => ?_)
                    · skip
                      rw [lg_cmp_eq] at k0
                      refine lv_iconst (v := nI 0) hx hb dR_audit_174 (by decide) ?_
                      exact endI hx hb hr hlk hK (0, rs_va r0, rs_ke r0, rs_lo r0, rs_ls r0, rs_fd r0, rs_dn r0, rs_wi r0, rs_wk r0, rs_st r0, rs_fl r0, rs_fe r0, rs_cr r0, rs_sp r0, rs_sd r0, rs_so r0, rs_tk r0, rs_co r0, rs_pr r0, rs_ky r0, rs_nu r0) (⟨rfl, aud_0 ⟨⟨Int64.not_lt.mp a2, Int64.not_lt.mp a4⟩, Int64.not_lt.mp a6, a7⟩ (hI.t y1) k0⟩) hP hD hS dR_audit_175
                    · skip
                      rw [lg_cmp_eq] at kn
                      refine lv_iconst (v := nI 3) hx hb dR_audit_170 (by decide) ?_
                      refine lv_goto (tgt := 175) hx hb dR_audit_171 rfl ?_
                      exact endI hx hb hr hlk hK (0, rs_va r0, rs_ke r0, rs_lo r0, rs_ls r0, rs_fd r0, rs_dn r0, rs_wi r0, rs_wk r0, rs_st r0, rs_fl r0, rs_fe r0, rs_cr r0, rs_sp r0, rs_sd r0, rs_so r0, rs_tk r0, rs_co r0, rs_pr r0, rs_ky r0, rs_nu r0) (⟨rfl, aud_3 ⟨⟨Int64.not_lt.mp a2, Int64.not_lt.mp a4⟩, Int64.not_lt.mp a6, a7⟩ (hI.t y1) kn⟩) hP hD hS dR_audit_175
                  · skip
                    refine lv_iconst (v := nI 2) hx hb dR_audit_154 (by decide) ?_
                    refine lv_goto (tgt := 175) hx hb dR_audit_155 rfl ?_
                    exact endI hx hb hr hlk hK (0, rs_va r0, rs_ke r0, rs_lo r0, rs_ls r0, rs_fd r0, rs_dn r0, rs_wi r0, rs_wk r0, rs_st r0, rs_fl r0, rs_fe r0, rs_cr r0, rs_sp r0, rs_sd r0, rs_so r0, rs_tk r0, rs_co r0, rs_pr r0, rs_ky r0, rs_nu r0) (⟨rfl, aud_2 ⟨⟨Int64.not_lt.mp a2, Int64.not_lt.mp a4⟩, Int64.not_lt.mp a6, a7⟩ (hI.f y0)⟩) hP hD hS dR_audit_175
                | succ k9 ih =>
                  intro i h9 g9 hI H locs ls hl hP hD hS
                  have hlt : i < 7 := by omega
                  refine lv_iload_n hx hb dR_audit_89 rfl (lv_at hl 0 rfl) ?_
                  refine lv_bipush (v := nI 7) hx hb dR_audit_90 (by decide) ?_
                  refine lv_icmp_ge (tgt := 150) hx hb dR_audit_92 rfl (fun h => absurd h (nI_ge (by omega) (by omega))) (fun _ => ?_)
                  refine lv_iload_n hx hb dR_audit_95 rfl (lv_at hl 1 rfl) ?_
                  refine lv_if_eq (tgt := 142) hx hb dR_audit_96 rfl (fun z0 => ?_) (fun z1 => ?_)
                  · skip
                    refine lv_iconst (v := 0) hx hb dR_audit_142 (by decide) ?_
                    refine lv_istore_n (lv' := [(1, .int 0), (2, .int (nI i)), (0, .ref (bd 0))]) hx hb dR_audit_143 rfl hl (by decide) rfl (fun ls hl => ?_)
                    refine lv_iinc (k := 1) (x := (nI i)) (v := (nI (i + 1))) (lv' := [(2, .int (nI (i + 1))), (1, .int 0), (0, .ref (bd 0))]) hx hb dR_audit_144 hl rfl (nI_1 _) (by decide) rfl (fun ls hl => ?_)
                    refine lv_goto (tgt := 89) hx hb dR_audit_147 rfl ?_
                    have hl : lv_has ls 3 [(2, .int (nI (i + 1))), (1, .int 0), (0, .ref (bd 0))] := lv_sub hl [0, 1, 2] rfl
                    exact ih (i + 1) (by omega) 0 (hI.z z0) H locs ls hl hP hD hS
                  · skip
                    refine lv_iload_n hx hb dR_audit_99 rfl (lv_at hl 0 rfl) ?_
                    refine lv_iconst (v := nI 1) hx hb dR_audit_100 (by decide) ?_
                    refine lv_iadd hx hb dR_audit_101 ?_
                    refine tp_i (nI (i + 1)) (nI_add _ _) ?_
                    refine lv_i2l (v := (lN (i + 1))) hx hb dR_audit_102 (nI_l (by omega)) ?_
                    refine lv_aload_n hx hb dR_audit_103 rfl (lv_at hl 2 rfl) ?_
                    refine va_get (D := D) (ci := 3) (v := .ref (bd 1)) (C := RR) (T := TR) (N := 21) hx hb ht uw_R hown hK hP 0 rfl rfl 1 (by decide) (ht _ tb_540) (fun _ h => h) rfl dR_audit_104 ?_
                    refine lv_bipush (v := nI 14) hx hb dR_audit_107 (by decide) ?_
                    refine ra_l hx hb hK hP 1 rfl 14 (by decide) (by decide) rfl dR_audit_109 ?_
                    refine W.lcmp hx hb dR_audit_110 ?_
                    refine lv_if_ge (tgt := 138) hx hb dR_audit_111 rfl (fun c1 => ?_) (fun c2 => ?_)
                    · skip
                      rw [lg_cmp_ge] at c1
                      refine lv_iconst (v := 1) hx hb dR_audit_138 (by decide) ?_
                      refine lv_goto (tgt := 143) hx hb dR_audit_139 rfl ?_
                      refine lv_istore_n (lv' := [(1, .int 1), (2, .int (nI i)), (0, .ref (bd 0))]) hx hb dR_audit_143 rfl hl (by decide) rfl (fun ls hl => ?_)
                      refine lv_iinc (k := 1) (x := (nI i)) (v := (nI (i + 1))) (lv' := [(2, .int (nI (i + 1))), (1, .int 1), (0, .ref (bd 0))]) hx hb dR_audit_144 hl rfl (nI_1 _) (by decide) rfl (fun ls hl => ?_)
                      refine lv_goto (tgt := 89) hx hb dR_audit_147 rfl ?_
                      have hl : lv_has ls 3 [(2, .int (nI (i + 1))), (1, .int 1), (0, .ref (bd 0))] := lv_sub hl [0, 1, 2] rfl
                      exact ih (i + 1) (by omega) 1 (hI.a z1 (Or.inl c1)) H locs ls hl hP hD hS
                    · skip
                      rw [lg_cmp_ge] at c2
                      refine lv_aload_n hx hb dR_audit_114 rfl (lv_at hl 2 rfl) ?_
                      refine va_get (D := D) (ci := 3) (v := .ref (bd 1)) (C := RR) (T := TR) (N := 21) hx hb ht uw_R hown hK hP 0 rfl rfl 1 (by decide) (ht _ tb_540) (fun _ h => h) rfl dR_audit_115 ?_
                      refine lv_bipush (v := nI 15) hx hb dR_audit_118 (by decide) ?_
                      refine lv_iload_n hx hb dR_audit_120 rfl (lv_at hl 0 rfl) ?_
                      refine lv_iadd hx hb dR_audit_121 ?_
                      refine tp_i (nI (15 + i)) (nI_add _ _) ?_
                      refine ra_l hx hb hK hP 1 rfl (15 + i) (by omega) (by decide) rfl dR_audit_122 ?_
                      refine lv_aload_n hx hb dR_audit_123 rfl (lv_at hl 2 rfl) ?_
                      refine va_get (D := D) (ci := 3) (v := .ref (bd 1)) (C := RR) (T := TR) (N := 21) hx hb ht uw_R hown hK hP 0 rfl rfl 1 (by decide) (ht _ tb_540) (fun _ h => h) rfl dR_audit_124 ?_
                      refine lv_bipush (v := nI 15) hx hb dR_audit_127 (by decide) ?_
                      refine lv_iload_n hx hb dR_audit_129 rfl (lv_at hl 0 rfl) ?_
                      refine lv_iadd hx hb dR_audit_130 ?_
                      refine tp_i (nI (15 + i)) (nI_add _ _) ?_
                      refine lv_iconst (v := nI 1) hx hb dR_audit_131 (by decide) ?_
                      refine lv_iadd hx hb dR_audit_132 ?_
                      refine tp_i (nI (15 + i + 1)) (nI_add _ _) ?_
                      refine ra_l hx hb hK hP 1 rfl (15 + i + 1) (by omega) (by decide) rfl dR_audit_133 ?_
                      refine W.lcmp hx hb dR_audit_134 ?_
                      refine lv_if_ge (tgt := 142) hx hb dR_audit_135 rfl (fun k1 => ?_) (fun k2 => ?_)
                      · skip
                        rw [lg_cmp_ge] at k1
                        refine lv_iconst (v := 0) hx hb dR_audit_142 (by decide) ?_
                        refine lv_istore_n (lv' := [(1, .int 0), (2, .int (nI i)), (0, .ref (bd 0))]) hx hb dR_audit_143 rfl hl (by decide) rfl (fun ls hl => ?_)
                        refine lv_iinc (k := 1) (x := (nI i)) (v := (nI (i + 1))) (lv' := [(2, .int (nI (i + 1))), (1, .int 0), (0, .ref (bd 0))]) hx hb dR_audit_144 hl rfl (nI_1 _) (by decide) rfl (fun ls hl => ?_)
                        refine lv_goto (tgt := 89) hx hb dR_audit_147 rfl ?_
                        have hl : lv_has ls 3 [(2, .int (nI (i + 1))), (1, .int 0), (0, .ref (bd 0))] := lv_sub hl [0, 1, 2] rfl
                        exact ih (i + 1) (by omega) 0 (GdI.b (g := g9) (fun z => z.elim c2 (fun y => absurd y (Int64.not_lt.mpr k1)))) H locs ls hl hP hD hS
                      · skip
                        rw [lg_cmp_ge] at k2
                        refine lv_iconst (v := 1) hx hb dR_audit_138 (by decide) ?_
                        refine lv_goto (tgt := 143) hx hb dR_audit_139 rfl ?_
                        refine lv_istore_n (lv' := [(1, .int 1), (2, .int (nI i)), (0, .ref (bd 0))]) hx hb dR_audit_143 rfl hl (by decide) rfl (fun ls hl => ?_)
                        refine lv_iinc (k := 1) (x := (nI i)) (v := (nI (i + 1))) (lv' := [(2, .int (nI (i + 1))), (1, .int 1), (0, .ref (bd 0))]) hx hb dR_audit_144 hl rfl (nI_1 _) (by decide) rfl (fun ls hl => ?_)
                        refine lv_goto (tgt := 89) hx hb dR_audit_147 rfl ?_
                        have hl : lv_has ls 3 [(2, .int (nI (i + 1))), (1, .int 1), (0, .ref (bd 0))] := lv_sub hl [0, 1, 2] rfl
                        exact ih (i + 1) (by omega) 1 (hI.a z1 (Or.inr (Int64.not_le.mp k2))) H locs ls hl hP hD hS
              have hl : lv_has ls 3 [(2, .int (nI 0)), (1, .int (0 : Int32)), (0, .ref (bd 0))] := lv_sub hl [0, 1, 2] rfl
              exact LOOP (7 - 0) 0 (by omega) (0 : Int32) (Or.inr ⟨rfl, fun z => absurd b3 (Int64.not_lt.mpr z.1.2)⟩) H _ _ hl hP hD hS
            · skip
              rw [lg_cmp_gt] at b4
              refine lv_iconst (v := (1 : Int32)) hx hb dR_audit_81 (by decide) ?_
              refine lv_goto (tgt := 86) hx hb dR_audit_82 rfl ?_
              refine lv_istore_n (lv' := [(1, .int (1 : Int32)), (0, .ref (bd 0))]) hx hb dR_audit_86 rfl hl (by decide) rfl (fun ls hl => ?_)
              refine lv_iconst (v := nI 0) hx hb dR_audit_87 (by decide) ?_
              refine lv_istore_n (lv' := [(2, .int (nI 0)), (1, .int (1 : Int32)), (0, .ref (bd 0))]) hx hb dR_audit_88 rfl hl (by decide) rfl (fun ls hl => ?_)
              have LOOP : ∀ (k9 i : Nat), i + k9 = 7 → ∀ g9 : Int32, GdI (rs_va r0) i g9 → ∀ (H : Heap) (locs : List Loc) (ls : Array Slot), lv_has ls 3 [(2, .int (nI i)), (1, .int g9), (0, .ref (bd 0))] → va_P D vwCl [(bd 0, .inr (3, [.int (0), .ref (bd 1), .ref (bd 2), .ref (bd 3), .ref (bd 4), .ref (bd 5), .int (rs_dn r0), .int (rs_wi r0), .ref (bd 6), .int (rs_st r0), .int (rs_fl r0), .int (rs_fe r0), .int (rs_cr r0), .int (rs_sp r0), .int (rs_sd r0), .int (rs_so r0), .ref (bd 7), .ref (bd 8), .ref (bd 9), .ref (bd 10), .ref (bd 11)])), (bd 1, .inl (ks 0, 112, .inr (.inl (rs_va r0)))), (bd 2, .inl (ks 0, 112, .inr (.inl (rs_ke r0)))), (bd 3, .inl (ks 0, 448, .inr (.inl (rs_lo r0)))), (bd 4, .inl (ks 1, 112, .inl (rs_ls r0))), (bd 5, .inl (ks 2, 14, .inl (rs_fd r0))), (bd 6, .inl (ks 0, 31, .inr (.inl (rs_wk r0)))), (bd 7, .inl (ks 2, 2, .inl (rs_tk r0))), (bd 8, .inl (ks 0, 8, .inr (.inl (rs_co r0)))), (bd 9, .inl (ks 1, 2, .inl (rs_pr r0))), (bd 10, .inl (ks 0, 16, .inr (.inl (rs_ky r0)))), (bd 11, .inl (ks 0, 16, .inr (.inl (rs_nu r0))))] H → va_D A [(bd 0, .inr (3, [.int (0), .ref (bd 1), .ref (bd 2), .ref (bd 3), .ref (bd 4), .ref (bd 5), .int (rs_dn r0), .int (rs_wi r0), .ref (bd 6), .int (rs_st r0), .int (rs_fl r0), .int (rs_fe r0), .int (rs_cr r0), .int (rs_sp r0), .int (rs_sd r0), .int (rs_so r0), .ref (bd 7), .ref (bd 8), .ref (bd 9), .ref (bd 10), .ref (bd 11)])), (bd 1, .inl (ks 0, 112, .inr (.inl (rs_va r0)))), (bd 2, .inl (ks 0, 112, .inr (.inl (rs_ke r0)))), (bd 3, .inl (ks 0, 448, .inr (.inl (rs_lo r0)))), (bd 4, .inl (ks 1, 112, .inl (rs_ls r0))), (bd 5, .inl (ks 2, 14, .inl (rs_fd r0))), (bd 6, .inl (ks 0, 31, .inr (.inl (rs_wk r0)))), (bd 7, .inl (ks 2, 2, .inl (rs_tk r0))), (bd 8, .inl (ks 0, 8, .inr (.inl (rs_co r0)))), (bd 9, .inl (ks 1, 2, .inl (rs_pr r0))), (bd 10, .inl (ks 0, 16, .inr (.inl (rs_ky r0)))), (bd 11, .inl (ks 0, 16, .inr (.inl (rs_nu r0))))] → va_S A s.heap H locs → W p l e ({ frames := 0, cells := 0, slots := 0, locals := 0 } : Room) s m ([.ref (bd 0)] : List Value).toArray below meth c H locs 0 0 (MQ below (va_Qi (S := MS) (fun r u => u = rs_thr r0 0 ∧ AudQ (rs_va r0) r) (fun u t => Bw D ks A ((fun u => wR ks bd u) u) t) A) ([.ref (bd 0)] : List Value).toArray s 0 0 A) (F0 m 89 ls []) := by
                intro k9
                induction k9 with
                | zero =>
                  intro i h9 g9 hI H locs ls hl hP hD hS
                  have h9 : i = 7 := h9
                  subst h9
                  refine lv_iload_n hx hb dR_audit_89 rfl (lv_at hl 0 rfl) ?_
                  refine lv_bipush (v := nI 7) hx hb dR_audit_90 (by decide) ?_
                  refine lv_icmp_ge (tgt := 150) hx hb dR_audit_92 rfl (fun _ => ?_) (fun h => absurd (by first | exact Int32.le_refl _ | (rw [h9]; exact Int32.le_refl _)) h)
                  refine lv_iload_n hx hb dR_audit_150 rfl (lv_at hl 1 rfl) ?_
                  refine lv_if_ne (tgt := 158) hx hb dR_audit_151 rfl (fun y1 => ?_) (fun y0 => ?_)
                  · skip
                    refine lv_aload_n hx hb dR_audit_158 rfl (lv_at hl 2 rfl) ?_
                    refine va_get (D := D) (ci := 3) (v := .ref (bd 1)) (C := RR) (T := TR) (N := 21) hx hb ht uw_R hown hK hP 0 rfl rfl 1 (by decide) (ht _ tb_540) (fun _ h => h) rfl dR_audit_159 ?_
                    refine lv_bipush (v := nI 40) hx hb dR_audit_162 (by decide) ?_
                    refine ra_l hx hb hK hP 1 rfl 40 (by decide) (by decide) rfl dR_audit_164 ?_
                    refine lv_lconst (v := 0) hx hb dR_audit_165 (by decide) ?_
                    refine W.lcmp hx hb dR_audit_166 ?_
                    refine lv_if_eq (tgt := 174) hx hb dR_audit_167 rfl (fun k0 => ?_) (fun kn => ?_)
                    · skip
                      rw [lg_cmp_eq] at k0
                      refine lv_iconst (v := nI 0) hx hb dR_audit_174 (by decide) ?_
                      exact endI hx hb hr hlk hK (0, rs_va r0, rs_ke r0, rs_lo r0, rs_ls r0, rs_fd r0, rs_dn r0, rs_wi r0, rs_wk r0, rs_st r0, rs_fl r0, rs_fe r0, rs_cr r0, rs_sp r0, rs_sd r0, rs_so r0, rs_tk r0, rs_co r0, rs_pr r0, rs_ky r0, rs_nu r0) (⟨rfl, aud_0 ⟨⟨Int64.not_lt.mp a2, Int64.not_lt.mp a4⟩, Int64.not_lt.mp a6, a7⟩ (hI.t y1) k0⟩) hP hD hS dR_audit_175
                    · skip
                      rw [lg_cmp_eq] at kn
                      refine lv_iconst (v := nI 3) hx hb dR_audit_170 (by decide) ?_
                      refine lv_goto (tgt := 175) hx hb dR_audit_171 rfl ?_
                      exact endI hx hb hr hlk hK (0, rs_va r0, rs_ke r0, rs_lo r0, rs_ls r0, rs_fd r0, rs_dn r0, rs_wi r0, rs_wk r0, rs_st r0, rs_fl r0, rs_fe r0, rs_cr r0, rs_sp r0, rs_sd r0, rs_so r0, rs_tk r0, rs_co r0, rs_pr r0, rs_ky r0, rs_nu r0) (⟨rfl, aud_3 ⟨⟨Int64.not_lt.mp a2, Int64.not_lt.mp a4⟩, Int64.not_lt.mp a6, a7⟩ (hI.t y1) kn⟩) hP hD hS dR_audit_175
                  · skip
                    refine lv_iconst (v := nI 2) hx hb dR_audit_154 (by decide) ?_
                    refine lv_goto (tgt := 175) hx hb dR_audit_155 rfl ?_
                    exact endI hx hb hr hlk hK (0, rs_va r0, rs_ke r0, rs_lo r0, rs_ls r0, rs_fd r0, rs_dn r0, rs_wi r0, rs_wk r0, rs_st r0, rs_fl r0, rs_fe r0, rs_cr r0, rs_sp r0, rs_sd r0, rs_so r0, rs_tk r0, rs_co r0, rs_pr r0, rs_ky r0, rs_nu r0) (⟨rfl, aud_2 ⟨⟨Int64.not_lt.mp a2, Int64.not_lt.mp a4⟩, Int64.not_lt.mp a6, a7⟩ (hI.f y0)⟩) hP hD hS dR_audit_175
                | succ k9 ih =>
                  intro i h9 g9 hI H locs ls hl hP hD hS
                  have hlt : i < 7 := by omega
                  refine lv_iload_n hx hb dR_audit_89 rfl (lv_at hl 0 rfl) ?_
                  refine lv_bipush (v := nI 7) hx hb dR_audit_90 (by decide) ?_
                  refine lv_icmp_ge (tgt := 150) hx hb dR_audit_92 rfl (fun h => absurd h (nI_ge (by omega) (by omega))) (fun _ => ?_)
                  refine lv_iload_n hx hb dR_audit_95 rfl (lv_at hl 1 rfl) ?_
                  refine lv_if_eq (tgt := 142) hx hb dR_audit_96 rfl (fun z0 => ?_) (fun z1 => ?_)
                  · skip
                    refine lv_iconst (v := 0) hx hb dR_audit_142 (by decide) ?_
                    refine lv_istore_n (lv' := [(1, .int 0), (2, .int (nI i)), (0, .ref (bd 0))]) hx hb dR_audit_143 rfl hl (by decide) rfl (fun ls hl => ?_)
                    refine lv_iinc (k := 1) (x := (nI i)) (v := (nI (i + 1))) (lv' := [(2, .int (nI (i + 1))), (1, .int 0), (0, .ref (bd 0))]) hx hb dR_audit_144 hl rfl (nI_1 _) (by decide) rfl (fun ls hl => ?_)
                    refine lv_goto (tgt := 89) hx hb dR_audit_147 rfl ?_
                    have hl : lv_has ls 3 [(2, .int (nI (i + 1))), (1, .int 0), (0, .ref (bd 0))] := lv_sub hl [0, 1, 2] rfl
                    exact ih (i + 1) (by omega) 0 (hI.z z0) H locs ls hl hP hD hS
                  · skip
                    refine lv_iload_n hx hb dR_audit_99 rfl (lv_at hl 0 rfl) ?_
                    refine lv_iconst (v := nI 1) hx hb dR_audit_100 (by decide) ?_
                    refine lv_iadd hx hb dR_audit_101 ?_
                    refine tp_i (nI (i + 1)) (nI_add _ _) ?_
                    refine lv_i2l (v := (lN (i + 1))) hx hb dR_audit_102 (nI_l (by omega)) ?_
                    refine lv_aload_n hx hb dR_audit_103 rfl (lv_at hl 2 rfl) ?_
                    refine va_get (D := D) (ci := 3) (v := .ref (bd 1)) (C := RR) (T := TR) (N := 21) hx hb ht uw_R hown hK hP 0 rfl rfl 1 (by decide) (ht _ tb_540) (fun _ h => h) rfl dR_audit_104 ?_
                    refine lv_bipush (v := nI 14) hx hb dR_audit_107 (by decide) ?_
                    refine ra_l hx hb hK hP 1 rfl 14 (by decide) (by decide) rfl dR_audit_109 ?_
                    refine W.lcmp hx hb dR_audit_110 ?_
                    refine lv_if_ge (tgt := 138) hx hb dR_audit_111 rfl (fun c1 => ?_) (fun c2 => ?_)
                    · skip
                      rw [lg_cmp_ge] at c1
                      refine lv_iconst (v := 1) hx hb dR_audit_138 (by decide) ?_
                      refine lv_goto (tgt := 143) hx hb dR_audit_139 rfl ?_
                      refine lv_istore_n (lv' := [(1, .int 1), (2, .int (nI i)), (0, .ref (bd 0))]) hx hb dR_audit_143 rfl hl (by decide) rfl (fun ls hl => ?_)
                      refine lv_iinc (k := 1) (x := (nI i)) (v := (nI (i + 1))) (lv' := [(2, .int (nI (i + 1))), (1, .int 1), (0, .ref (bd 0))]) hx hb dR_audit_144 hl rfl (nI_1 _) (by decide) rfl (fun ls hl => ?_)
                      refine lv_goto (tgt := 89) hx hb dR_audit_147 rfl ?_
                      have hl : lv_has ls 3 [(2, .int (nI (i + 1))), (1, .int 1), (0, .ref (bd 0))] := lv_sub hl [0, 1, 2] rfl
                      exact ih (i + 1) (by omega) 1 (hI.a z1 (Or.inl c1)) H locs ls hl hP hD hS
                    · skip
                      rw [lg_cmp_ge] at c2
                      refine lv_aload_n hx hb dR_audit_114 rfl (lv_at hl 2 rfl) ?_
                      refine va_get (D := D) (ci := 3) (v := .ref (bd 1)) (C := RR) (T := TR) (N := 21) hx hb ht uw_R hown hK hP 0 rfl rfl 1 (by decide) (ht _ tb_540) (fun _ h => h) rfl dR_audit_115 ?_
                      refine lv_bipush (v := nI 15) hx hb dR_audit_118 (by decide) ?_
                      refine lv_iload_n hx hb dR_audit_120 rfl (lv_at hl 0 rfl) ?_
                      refine lv_iadd hx hb dR_audit_121 ?_
                      refine tp_i (nI (15 + i)) (nI_add _ _) ?_
                      refine ra_l hx hb hK hP 1 rfl (15 + i) (by omega) (by decide) rfl dR_audit_122 ?_
                      refine lv_aload_n hx hb dR_audit_123 rfl (lv_at hl 2 rfl) ?_
                      refine va_get (D := D) (ci := 3) (v := .ref (bd 1)) (C := RR) (T := TR) (N := 21) hx hb ht uw_R hown hK hP 0 rfl rfl 1 (by decide) (ht _ tb_540) (fun _ h => h) rfl dR_audit_124 ?_
                      refine lv_bipush (v := nI 15) hx hb dR_audit_127 (by decide) ?_
                      refine lv_iload_n hx hb dR_audit_129 rfl (lv_at hl 0 rfl) ?_
                      refine lv_iadd hx hb dR_audit_130 ?_
                      refine tp_i (nI (15 + i)) (nI_add _ _) ?_
                      refine lv_iconst (v := nI 1) hx hb dR_audit_131 (by decide) ?_
                      refine lv_iadd hx hb dR_audit_132 ?_
                      refine tp_i (nI (15 + i + 1)) (nI_add _ _) ?_
                      refine ra_l hx hb hK hP 1 rfl (15 + i + 1) (by omega) (by decide) rfl dR_audit_133 ?_
                      refine W.lcmp hx hb dR_audit_134 ?_
                      refine lv_if_ge (tgt := 142) hx hb dR_audit_135 rfl (fun k1 => ?_) (fun k2 => ?_)
                      · skip
                        rw [lg_cmp_ge] at k1
                        refine lv_iconst (v := 0) hx hb dR_audit_142 (by decide) ?_
                        refine lv_istore_n (lv' := [(1, .int 0), (2, .int (nI i)), (0, .ref (bd 0))]) hx hb dR_audit_143 rfl hl (by decide) rfl (fun ls hl => ?_)
                        refine lv_iinc (k := 1) (x := (nI i)) (v := (nI (i + 1))) (lv' := [(2, .int (nI (i + 1))), (1, .int 0), (0, .ref (bd 0))]) hx hb dR_audit_144 hl rfl (nI_1 _) (by decide) rfl (fun ls hl => ?_)
                        refine lv_goto (tgt := 89) hx hb dR_audit_147 rfl ?_
                        have hl : lv_has ls 3 [(2, .int (nI (i + 1))), (1, .int 0), (0, .ref (bd 0))] := lv_sub hl [0, 1, 2] rfl
                        exact ih (i + 1) (by omega) 0 (GdI.b (g := g9) (fun z => z.elim c2 (fun y => absurd y (Int64.not_lt.mpr k1)))) H locs ls hl hP hD hS
                      · skip
                        rw [lg_cmp_ge] at k2
                        refine lv_iconst (v := 1) hx hb dR_audit_138 (by decide) ?_
                        refine lv_goto (tgt := 143) hx hb dR_audit_139 rfl ?_
                        refine lv_istore_n (lv' := [(1, .int 1), (2, .int (nI i)), (0, .ref (bd 0))]) hx hb dR_audit_143 rfl hl (by decide) rfl (fun ls hl => ?_)
                        refine lv_iinc (k := 1) (x := (nI i)) (v := (nI (i + 1))) (lv' := [(2, .int (nI (i + 1))), (1, .int 1), (0, .ref (bd 0))]) hx hb dR_audit_144 hl rfl (nI_1 _) (by decide) rfl (fun ls hl => ?_)
                        refine lv_goto (tgt := 89) hx hb dR_audit_147 rfl ?_
                        have hl : lv_has ls 3 [(2, .int (nI (i + 1))), (1, .int 1), (0, .ref (bd 0))] := lv_sub hl [0, 1, 2] rfl
                        exact ih (i + 1) (by omega) 1 (hI.a z1 (Or.inr (Int64.not_le.mp k2))) H locs ls hl hP hD hS
              have hl : lv_has ls 3 [(2, .int (nI 0)), (1, .int (1 : Int32)), (0, .ref (bd 0))] := lv_sub hl [0, 1, 2] rfl
              exact LOOP (7 - 0) 0 (by omega) (1 : Int32) (Or.inl ⟨rfl, ⟨Int64.not_lt.mp b2, Int64.not_lt.mp b4⟩, fun j hj => absurd hj (Nat.not_lt_zero j)⟩) H _ _ hl hP hD hS
        · skip
          rw [lg_cmp_le] at a8
          refine lv_iconst (v := nI 1) hx hb dR_audit_53 (by decide) ?_
          exact endI hx hb hr hlk hK (0, rs_va r0, rs_ke r0, rs_lo r0, rs_ls r0, rs_fd r0, rs_dn r0, rs_wi r0, rs_wk r0, rs_st r0, rs_fl r0, rs_fe r0, rs_cr r0, rs_sp r0, rs_sd r0, rs_so r0, rs_tk r0, rs_co r0, rs_pr r0, rs_ky r0, rs_nu r0) (⟨rfl, Or.inl ⟨fun z => a8 z.2.2, rfl⟩⟩) hP hD hS dR_audit_54

def rs_rc (r0 : MS) : MS := (0, rs_va r0, rs_ke r0, rs_lo r0, rs_ls r0, rs_fd r0, rs_dn r0, rs_wi r0, rs_wk r0, rs_st r0, rs_fl r0, rs_fe r0, rs_cr r0, rs_sp r0, rs_sd r0, 0, rs_tk r0, rs_co r0, rs_pr r0, rs_ky r0, rs_nu r0)
def rs_rfin (r0 : MS) : MS := ((if rs_so r0 = 0 then 0 else 1), rs_va r0, rs_ke r0, rs_lo r0, rs_ls r0, rs_fd r0, rs_so r0, rs_wi r0, rs_wk r0, rs_st r0, rs_fl r0, rs_fe r0, rs_cr r0, rs_sp r0, rs_sd r0, rs_so r0, rs_tk r0, rs_co r0, rs_pr r0, rs_ky r0, rs_nu r0)
theorem rg_so {m : MS} {f : MS → MS} (h : rs_so (f (rs_tick m)) = rs_so m) (h0 : rs_so m = 0 ∨ rs_so m = 1) : rs_so (rg m f) = 0 ∨ rs_so (rg m f) = 1 := by
  unfold rg
  by_cases h1 : rs_so m = 0
  · rw [if_pos h1]
    by_cases h2 : rs_sp m = 0
    · rw [if_pos h2]; exact Or.inr rfl
    · rw [if_neg h2, h]; exact h0
  · rw [if_neg h1]; exact h0
theorem rs_do_so (m : MS) (o : OP) : rs_so (rs_do m o) = rs_so m := by
  unfold rs_do
  by_cases h1 : o.1 = 0
  · rw [if_pos h1]; rfl
  · rw [if_neg h1]
    by_cases h2 : o.1 = 1
    · rw [if_pos h2]; rfl
    · rw [if_neg h2]; rfl
theorem ro_so : ∀ (os : List OP) {m : MS}, (rs_so m = 0 ∨ rs_so m = 1) → rs_so (ro_run os m) = 0 ∨ rs_so (ro_run os m) = 1
  | [], _, h => h
  | o :: os, m, h => ro_so os (rg_so (rs_do_so (rs_tick m) o) h)
/-- the log's entries below k are still to be set back -/
def RRc (a : Nat → Nat) (v : Nat → Int64) (n : Nat) (m0 : MS) (tl : List OP) (rr : MS) (g : Nat → Int64) (k : Nat) (m : MS) (S : List Nat) : Prop :=
  RWy (stO (rc_l a v k) ++ tl) rr g m ∧ (rs_so m = 0 → ∀ w, 31 ≤ w → rs_va m w = v w) ∧ (rs_so m = 0 → ∀ w, w ∈ S ↔ ∃ e, k ≤ e ∧ e < n ∧ a e = w) ∧ (∀ w ∈ S, w < 31) ∧ (n = 0 → m = m0)
theorem RRc.stop {a : Nat → Nat} {v : Nat → Int64} {n k : Nat} {m0 rr m : MS} {tl : List OP} {g : Nat → Int64} {S : List Nat} (h : RRc a v n m0 tl rr g k m S) (hs : ¬ rs_so m = 0) : RRc a v n m0 tl rr g 0 m S := by
  refine ⟨?_, fun z => absurd z hs, fun z => absurd z hs, h.2.2.2.1, h.2.2.2.2⟩
  have := h.1.app
  rw [ro_stop _ hs] at this
  exact this
theorem RRc.go {a : Nat → Nat} {v : Nat → Int64} {n k : Nat} {m0 rr m u : MS} {tl : List OP} {g : Nat → Int64} {S : List Nat} (h : RRc a v n m0 tl rr g (k + 1) m S) (ha : a k < 31) (hk : k < n) (hu : u = rg m (fun z => rs_sto z (a k) (v (49 + 2 * k)))) : RRc a v n m0 tl rr g k u (S ++ [a k]) := by
  subst hu
  refine ⟨h.1.go, fun hs w hw => ?_, fun hs w => ?_, fun w hw => ?_, fun z => by omega⟩
  · obtain ⟨h1, _, e⟩ := rg_go hs
    rw [e]
    show vp_updL (rs_va m) (a k) _ w = v w
    rw [pk_uLn (by omega)]
    exact h.2.1 h1 w hw
  · obtain ⟨h1, _, _⟩ := rg_go hs
    rw [List.mem_append, h.2.2.1 h1 w, List.mem_singleton]
    constructor
    · rintro (⟨e, h2, h3, h4⟩ | h2)
      · exact ⟨e, by omega, h3, h4⟩
      · exact ⟨k, Nat.le_refl _, hk, h2.symm⟩
    · rintro ⟨e, h2, h3, h4⟩
      by_cases z : e = k
      · rw [z] at h4; exact Or.inr h4.symm
      · exact Or.inl ⟨e, by omega, h3, h4⟩
  · rcases List.mem_append.mp hw with z | z
    · exact h.2.2.2.1 w z
    · rw [List.mem_singleton.mp z]; exact ha
theorem RRc.se {a : Nat → Nat} {v : Nat → Int64} {n : Nat} {m0 rr m u : MS} {t : List OP} {g : Nat → Int64} {S : List Nat} (h : RRc a v n m0 (flO (rn_lines (rc_l a v n)) ++ [(2, 0, 0)] ++ t) rr g 0 m S) (hu : u = ro_run (slo (sb S) 0 4) m) : RWy t rr g u := by
  have h1 : RWy t rr g (ro_run (flO (rn_lines (rc_l a v n)) ++ [(2, 0, 0)]) m) := RWy.app h.1
  have e : u = ro_run (flO (rn_lines (rc_l a v n)) ++ [(2, 0, 0)]) m := by
    rw [hu]
    by_cases hs : rs_so m = 0
    · rw [slo_any (L := rc_l a v n) h.2.2.2.1 (fun w => by
        rw [h.2.2.1 hs w, rc_mem]
        exact ⟨fun ⟨e, _, h3, h4⟩ => ⟨e, h3, h4⟩, fun ⟨e, h3, h4⟩ => ⟨e, Nat.zero_le _, h3, h4⟩⟩)]
    · rw [ro_stop _ hs, ro_stop _ hs]
  rw [e]; exact h1
theorem so_nar {x : Int32} (h : x = 0 ∨ x = 1) : narrow .boolean (.int x) = .int x := by
  rcases h with h | h <;> rw [h] <;> decide
theorem so_fit {x : Int32} (h : x = 0 ∨ x = 1) : fits .boolean (.int x) = true := by
  rcases h with h | h <;> rw [h] <;> decide
set_option maxHeartbeats 4000000 in
set_option maxRecDepth 100000 in
theorem kR_recover (l : Launch) (D : va_G) (ks : Nat → ClassId) (bd : Nat → Nat) (r0 : MS) (n9 : Nat) (a9 : Nat → Nat) (y9 : Nat → Int64) (sz : Nat) (hlog : ¬ rs_dn r0 = 0 → LogOk n9 a9 y9 (rs_va r0)) (hG : ¬ rs_dn r0 = 0 → rGd (rc_ops a9 (rs_va r0) n9) (rs_rc r0))  : Met l yR_recover (.code yR_recover cR_recover 5 (some .int) :: TB) ({ frames := 4, cells := 0, slots := 0, locals := 89 } : Room) (Pcw D ks [.ref (bd 0)] sz [(bd 0, .inr (3, [.int (rs_th r0), .ref (bd 1), .ref (bd 2), .ref (bd 3), .ref (bd 4), .ref (bd 5), .int (rs_dn r0), .int (rs_wi r0), .ref (bd 6), .int (rs_st r0), .int (rs_fl r0), .int (rs_fe r0), .int (rs_cr r0), .int (rs_sp r0), .int (rs_sd r0), .int (rs_so r0), .ref (bd 7), .ref (bd 8), .ref (bd 9), .ref (bd 10), .ref (bd 11)])), (bd 1, .inl (ks 0, 112, .inr (.inl (rs_va r0)))), (bd 2, .inl (ks 0, 112, .inr (.inl (rs_ke r0)))), (bd 3, .inl (ks 0, 448, .inr (.inl (rs_lo r0)))), (bd 4, .inl (ks 1, 112, .inl (rs_ls r0))), (bd 5, .inl (ks 2, 14, .inl (rs_fd r0))), (bd 6, .inl (ks 0, 31, .inr (.inl (rs_wk r0)))), (bd 7, .inl (ks 2, 2, .inl (rs_tk r0))), (bd 8, .inl (ks 0, 8, .inr (.inl (rs_co r0)))), (bd 9, .inl (ks 1, 2, .inl (rs_pr r0))), (bd 10, .inl (ks 0, 16, .inr (.inl (rs_ky r0)))), (bd 11, .inl (ks 0, 16, .inr (.inl (rs_nu r0))))]) (va_Qi (S := MS) (fun r u => (rs_dn r0 = 0 ∧ u = rs_thr r0 1) ∨ (¬ rs_dn r0 = 0 ∧ n9 = 0 ∧ r = 0 ∧ u = (0, rs_va r0, rs_ke r0, rs_lo r0, rs_ls r0, rs_fd r0, 0, rs_wi r0, rs_wk r0, rs_st r0, rs_fl r0, rs_fe r0, rs_cr r0, rs_sp r0, rs_sd r0, 0, rs_tk r0, rs_co r0, rs_pr r0, rs_ky r0, rs_nu r0)) ∨ (¬ rs_dn r0 = 0 ∧ n9 ≠ 0 ∧ u = rs_rfin (ro_run (rc_ops a9 (rs_va r0) n9) (rs_rc r0)) ∧ r = if rs_so (ro_run (rc_ops a9 (rs_va r0) n9) (rs_rc r0)) = 0 then nI n9 else 0)) (fun u t => Bw D ks (va_A [(bd 0, .inr (3, [.int (rs_th r0), .ref (bd 1), .ref (bd 2), .ref (bd 3), .ref (bd 4), .ref (bd 5), .int (rs_dn r0), .int (rs_wi r0), .ref (bd 6), .int (rs_st r0), .int (rs_fl r0), .int (rs_fe r0), .int (rs_cr r0), .int (rs_sp r0), .int (rs_sd r0), .int (rs_so r0), .ref (bd 7), .ref (bd 8), .ref (bd 9), .ref (bd 10), .ref (bd 11)])), (bd 1, .inl (ks 0, 112, .inr (.inl (rs_va r0)))), (bd 2, .inl (ks 0, 112, .inr (.inl (rs_ke r0)))), (bd 3, .inl (ks 0, 448, .inr (.inl (rs_lo r0)))), (bd 4, .inl (ks 1, 112, .inl (rs_ls r0))), (bd 5, .inl (ks 2, 14, .inl (rs_fd r0))), (bd 6, .inl (ks 0, 31, .inr (.inl (rs_wk r0)))), (bd 7, .inl (ks 2, 2, .inl (rs_tk r0))), (bd 8, .inl (ks 0, 8, .inr (.inl (rs_co r0)))), (bd 9, .inl (ks 1, 2, .inl (rs_pr r0))), (bd 10, .inl (ks 0, 16, .inr (.inl (rs_ky r0)))), (bd 11, .inl (ks 0, 16, .inr (.inl (rs_nu r0))))] sz) ((fun u => wR ks bd u) u) t) (va_A [(bd 0, .inr (3, [.int (rs_th r0), .ref (bd 1), .ref (bd 2), .ref (bd 3), .ref (bd 4), .ref (bd 5), .int (rs_dn r0), .int (rs_wi r0), .ref (bd 6), .int (rs_st r0), .int (rs_fl r0), .int (rs_fe r0), .int (rs_cr r0), .int (rs_sp r0), .int (rs_sd r0), .int (rs_so r0), .ref (bd 7), .ref (bd 8), .ref (bd 9), .ref (bd 10), .ref (bd 11)])), (bd 1, .inl (ks 0, 112, .inr (.inl (rs_va r0)))), (bd 2, .inl (ks 0, 112, .inr (.inl (rs_ke r0)))), (bd 3, .inl (ks 0, 448, .inr (.inl (rs_lo r0)))), (bd 4, .inl (ks 1, 112, .inl (rs_ls r0))), (bd 5, .inl (ks 2, 14, .inl (rs_fd r0))), (bd 6, .inl (ks 0, 31, .inr (.inl (rs_wk r0)))), (bd 7, .inl (ks 2, 2, .inl (rs_tk r0))), (bd 8, .inl (ks 0, 8, .inr (.inl (rs_co r0)))), (bd 9, .inl (ks 1, 2, .inl (rs_pr r0))), (bd 10, .inl (ks 0, 16, .inr (.inl (rs_ky r0)))), (bd 11, .inl (ks 0, 16, .inr (.inl (rs_nu r0))))] sz)) 0 0 (va_A [(bd 0, .inr (3, [.int (rs_th r0), .ref (bd 1), .ref (bd 2), .ref (bd 3), .ref (bd 4), .ref (bd 5), .int (rs_dn r0), .int (rs_wi r0), .ref (bd 6), .int (rs_st r0), .int (rs_fl r0), .int (rs_fe r0), .int (rs_cr r0), .int (rs_sp r0), .int (rs_sd r0), .int (rs_so r0), .ref (bd 7), .ref (bd 8), .ref (bd 9), .ref (bd 10), .ref (bd 11)])), (bd 1, .inl (ks 0, 112, .inr (.inl (rs_va r0)))), (bd 2, .inl (ks 0, 112, .inr (.inl (rs_ke r0)))), (bd 3, .inl (ks 0, 448, .inr (.inl (rs_lo r0)))), (bd 4, .inl (ks 1, 112, .inl (rs_ls r0))), (bd 5, .inl (ks 2, 14, .inl (rs_fd r0))), (bd 6, .inl (ks 0, 31, .inr (.inl (rs_wk r0)))), (bd 7, .inl (ks 2, 2, .inl (rs_tk r0))), (bd 8, .inl (ks 0, 8, .inr (.inl (rs_co r0)))), (bd 9, .inl (ks 1, 2, .inl (rs_pr r0))), (bd 10, .inl (ks 0, 16, .inr (.inl (rs_ky r0)))), (bd 11, .inl (ks 0, 16, .inr (.inl (rs_nu r0))))] sz) := by
  refine bodyI (S := MS) (wN := (fun u => wR ks bd u)) (post := (fun r u => (rs_dn r0 = 0 ∧ u = rs_thr r0 1) ∨ (¬ rs_dn r0 = 0 ∧ n9 = 0 ∧ r = 0 ∧ u = (0, rs_va r0, rs_ke r0, rs_lo r0, rs_ls r0, rs_fd r0, 0, rs_wi r0, rs_wk r0, rs_st r0, rs_fl r0, rs_fe r0, rs_cr r0, rs_sp r0, rs_sd r0, 0, rs_tk r0, rs_co r0, rs_pr r0, rs_ky r0, rs_nu r0)) ∨ (¬ rs_dn r0 = 0 ∧ n9 ≠ 0 ∧ u = rs_rfin (ro_run (rc_ops a9 (rs_va r0) n9) (rs_rc r0)) ∧ r = if rs_so (ro_run (rc_ops a9 (rs_va r0) n9) (rs_rc r0)) = 0 then nI n9 else 0))) (by decide) (Nat.le_of_ble_eq_true rfl) (fun p e s m below meth c A ls F hr hlk hK hN hA hsz hP hD hS hl => ?_)
  obtain ⟨hx, hb, hml, hown, ht⟩ := F
  have hown : s.vm.findClass RR = some m.cls := hown
  have F : CallFix p m c cR_recover 5 s ([.ref (bd 0)] : List Value).toArray TB RR := ⟨hx, hb, hml, hown, ht⟩
  have hl : lv_has ls 5 [(0, .ref (bd 0))] := hl
  refine lv_aload_n hx hb dR_recover_0 rfl (lv_at hl 0 rfl) ?_
  refine lv_aload_n hx hb dR_recover_1 rfl (lv_at hl 0 rfl) ?_
  refine va_get (D := D) (ci := 3) (v := .int (rs_dn r0)) (C := RR) (T := TR) (N := 21) hx hb ht uw_R hown hK hP 0 rfl rfl 6 (by decide) (ht _ tb_545) (fun _ h => h) rfl dR_recover_2 ?_
  refine lv_if_eq (tgt := 12) hx hb dR_recover_5 rfl (fun hd0 => ?_) (fun hd1 => ?_)
  · skip
    refine lv_iconst (v := 1) hx hb dR_recover_12 (by decide) ?_
    refine va_put (D := D) (ci := 3) (v := .int 1) (ty := .int) (C := RR) (T := TR) (N := 21) hx hb ht uw_R ty_R ty_R_ok nm_R hown hK hP hD hS 0 rfl rfl 0 (by decide) (ht _ tb_539) (fun _ h => h) rfl (by decide +kernel) rfl rfl (Nat.le_of_ble_eq_true rfl) dR_recover_13 (fun H locs hP hD hS => ?_)
    have hP : va_P D vwCl [(bd 0, .inr (3, [.int 1, .ref (bd 1), .ref (bd 2), .ref (bd 3), .ref (bd 4), .ref (bd 5), .int (rs_dn r0), .int (rs_wi r0), .ref (bd 6), .int (rs_st r0), .int (rs_fl r0), .int (rs_fe r0), .int (rs_cr r0), .int (rs_sp r0), .int (rs_sd r0), .int (rs_so r0), .ref (bd 7), .ref (bd 8), .ref (bd 9), .ref (bd 10), .ref (bd 11)])), (bd 1, .inl (ks 0, 112, .inr (.inl (rs_va r0)))), (bd 2, .inl (ks 0, 112, .inr (.inl (rs_ke r0)))), (bd 3, .inl (ks 0, 448, .inr (.inl (rs_lo r0)))), (bd 4, .inl (ks 1, 112, .inl (rs_ls r0))), (bd 5, .inl (ks 2, 14, .inl (rs_fd r0))), (bd 6, .inl (ks 0, 31, .inr (.inl (rs_wk r0)))), (bd 7, .inl (ks 2, 2, .inl (rs_tk r0))), (bd 8, .inl (ks 0, 8, .inr (.inl (rs_co r0)))), (bd 9, .inl (ks 1, 2, .inl (rs_pr r0))), (bd 10, .inl (ks 0, 16, .inr (.inl (rs_ky r0)))), (bd 11, .inl (ks 0, 16, .inr (.inl (rs_nu r0))))] H := hP
    have hD : va_D A [(bd 0, .inr (3, [.int 1, .ref (bd 1), .ref (bd 2), .ref (bd 3), .ref (bd 4), .ref (bd 5), .int (rs_dn r0), .int (rs_wi r0), .ref (bd 6), .int (rs_st r0), .int (rs_fl r0), .int (rs_fe r0), .int (rs_cr r0), .int (rs_sp r0), .int (rs_sd r0), .int (rs_so r0), .ref (bd 7), .ref (bd 8), .ref (bd 9), .ref (bd 10), .ref (bd 11)])), (bd 1, .inl (ks 0, 112, .inr (.inl (rs_va r0)))), (bd 2, .inl (ks 0, 112, .inr (.inl (rs_ke r0)))), (bd 3, .inl (ks 0, 448, .inr (.inl (rs_lo r0)))), (bd 4, .inl (ks 1, 112, .inl (rs_ls r0))), (bd 5, .inl (ks 2, 14, .inl (rs_fd r0))), (bd 6, .inl (ks 0, 31, .inr (.inl (rs_wk r0)))), (bd 7, .inl (ks 2, 2, .inl (rs_tk r0))), (bd 8, .inl (ks 0, 8, .inr (.inl (rs_co r0)))), (bd 9, .inl (ks 1, 2, .inl (rs_pr r0))), (bd 10, .inl (ks 0, 16, .inr (.inl (rs_ky r0)))), (bd 11, .inl (ks 0, 16, .inr (.inl (rs_nu r0))))] := hD
    refine lv_aload_n hx hb dR_recover_16 rfl (lv_at hl 0 rfl) ?_
    refine va_get (D := D) (ci := 3) (v := .int 1) (C := RR) (T := TR) (N := 21) hx hb ht uw_R hown hK hP 0 rfl rfl 0 (by decide) (ht _ tb_539) (fun _ h => h) rfl dR_recover_17 ?_
    refine lv_if_le (tgt := 25) hx hb dR_recover_20 rfl (fun h => absurd h (by decide)) (fun _ => ?_)
    refine lv_iconst (v := 0) hx hb dR_recover_23 (by decide) ?_
    exact endI hx hb hr hlk hK (1, rs_va r0, rs_ke r0, rs_lo r0, rs_ls r0, rs_fd r0, rs_dn r0, rs_wi r0, rs_wk r0, rs_st r0, rs_fl r0, rs_fe r0, rs_cr r0, rs_sp r0, rs_sd r0, rs_so r0, rs_tk r0, rs_co r0, rs_pr r0, rs_ky r0, rs_nu r0) (Or.inl ⟨hd0, rfl⟩) hP hD hS dR_recover_24
  · skip
    refine lv_iconst (v := 0) hx hb dR_recover_8 (by decide) ?_
    refine lv_goto (tgt := 13) hx hb dR_recover_9 rfl ?_
    refine va_put (D := D) (ci := 3) (v := .int 0) (ty := .int) (C := RR) (T := TR) (N := 21) hx hb ht uw_R ty_R ty_R_ok nm_R hown hK hP hD hS 0 rfl rfl 0 (by decide) (ht _ tb_539) (fun _ h => h) rfl (by decide +kernel) rfl rfl (Nat.le_of_ble_eq_true rfl) dR_recover_13 (fun H locs hP hD hS => ?_)
    have hP : va_P D vwCl [(bd 0, .inr (3, [.int 0, .ref (bd 1), .ref (bd 2), .ref (bd 3), .ref (bd 4), .ref (bd 5), .int (rs_dn r0), .int (rs_wi r0), .ref (bd 6), .int (rs_st r0), .int (rs_fl r0), .int (rs_fe r0), .int (rs_cr r0), .int (rs_sp r0), .int (rs_sd r0), .int (rs_so r0), .ref (bd 7), .ref (bd 8), .ref (bd 9), .ref (bd 10), .ref (bd 11)])), (bd 1, .inl (ks 0, 112, .inr (.inl (rs_va r0)))), (bd 2, .inl (ks 0, 112, .inr (.inl (rs_ke r0)))), (bd 3, .inl (ks 0, 448, .inr (.inl (rs_lo r0)))), (bd 4, .inl (ks 1, 112, .inl (rs_ls r0))), (bd 5, .inl (ks 2, 14, .inl (rs_fd r0))), (bd 6, .inl (ks 0, 31, .inr (.inl (rs_wk r0)))), (bd 7, .inl (ks 2, 2, .inl (rs_tk r0))), (bd 8, .inl (ks 0, 8, .inr (.inl (rs_co r0)))), (bd 9, .inl (ks 1, 2, .inl (rs_pr r0))), (bd 10, .inl (ks 0, 16, .inr (.inl (rs_ky r0)))), (bd 11, .inl (ks 0, 16, .inr (.inl (rs_nu r0))))] H := hP
    have hD : va_D A [(bd 0, .inr (3, [.int 0, .ref (bd 1), .ref (bd 2), .ref (bd 3), .ref (bd 4), .ref (bd 5), .int (rs_dn r0), .int (rs_wi r0), .ref (bd 6), .int (rs_st r0), .int (rs_fl r0), .int (rs_fe r0), .int (rs_cr r0), .int (rs_sp r0), .int (rs_sd r0), .int (rs_so r0), .ref (bd 7), .ref (bd 8), .ref (bd 9), .ref (bd 10), .ref (bd 11)])), (bd 1, .inl (ks 0, 112, .inr (.inl (rs_va r0)))), (bd 2, .inl (ks 0, 112, .inr (.inl (rs_ke r0)))), (bd 3, .inl (ks 0, 448, .inr (.inl (rs_lo r0)))), (bd 4, .inl (ks 1, 112, .inl (rs_ls r0))), (bd 5, .inl (ks 2, 14, .inl (rs_fd r0))), (bd 6, .inl (ks 0, 31, .inr (.inl (rs_wk r0)))), (bd 7, .inl (ks 2, 2, .inl (rs_tk r0))), (bd 8, .inl (ks 0, 8, .inr (.inl (rs_co r0)))), (bd 9, .inl (ks 1, 2, .inl (rs_pr r0))), (bd 10, .inl (ks 0, 16, .inr (.inl (rs_ky r0)))), (bd 11, .inl (ks 0, 16, .inr (.inl (rs_nu r0))))] := hD
    refine lv_aload_n hx hb dR_recover_16 rfl (lv_at hl 0 rfl) ?_
    refine va_get (D := D) (ci := 3) (v := .int 0) (C := RR) (T := TR) (N := 21) hx hb ht uw_R hown hK hP 0 rfl rfl 0 (by decide) (ht _ tb_539) (fun _ h => h) rfl dR_recover_17 ?_
    refine lv_if_le (tgt := 25) hx hb dR_recover_20 rfl (fun _ => ?_) (fun h => absurd (by decide) h)
    refine lv_aload_n hx hb dR_recover_25 rfl (lv_at hl 0 rfl) ?_
    refine lv_iconst (v := 0) hx hb dR_recover_26 (by decide) ?_
    refine va_put (D := D) (ci := 3) (v := .int 0) (ty := .boolean) (C := RR) (T := TR) (N := 21) hx hb ht uw_R ty_R ty_R_ok nm_R hown hK hP hD hS 0 rfl rfl 15 (by decide) (ht _ tb_554) (fun _ h => h) rfl (by decide +kernel) (by decide) rfl (Nat.le_of_ble_eq_true rfl) dR_recover_27 (fun H locs hP hD hS => ?_)
    have hP : va_P D vwCl [(bd 0, .inr (3, [.int 0, .ref (bd 1), .ref (bd 2), .ref (bd 3), .ref (bd 4), .ref (bd 5), .int (rs_dn r0), .int (rs_wi r0), .ref (bd 6), .int (rs_st r0), .int (rs_fl r0), .int (rs_fe r0), .int (rs_cr r0), .int (rs_sp r0), .int (rs_sd r0), .int 0, .ref (bd 7), .ref (bd 8), .ref (bd 9), .ref (bd 10), .ref (bd 11)])), (bd 1, .inl (ks 0, 112, .inr (.inl (rs_va r0)))), (bd 2, .inl (ks 0, 112, .inr (.inl (rs_ke r0)))), (bd 3, .inl (ks 0, 448, .inr (.inl (rs_lo r0)))), (bd 4, .inl (ks 1, 112, .inl (rs_ls r0))), (bd 5, .inl (ks 2, 14, .inl (rs_fd r0))), (bd 6, .inl (ks 0, 31, .inr (.inl (rs_wk r0)))), (bd 7, .inl (ks 2, 2, .inl (rs_tk r0))), (bd 8, .inl (ks 0, 8, .inr (.inl (rs_co r0)))), (bd 9, .inl (ks 1, 2, .inl (rs_pr r0))), (bd 10, .inl (ks 0, 16, .inr (.inl (rs_ky r0)))), (bd 11, .inl (ks 0, 16, .inr (.inl (rs_nu r0))))] H := hP
    have hD : va_D A [(bd 0, .inr (3, [.int 0, .ref (bd 1), .ref (bd 2), .ref (bd 3), .ref (bd 4), .ref (bd 5), .int (rs_dn r0), .int (rs_wi r0), .ref (bd 6), .int (rs_st r0), .int (rs_fl r0), .int (rs_fe r0), .int (rs_cr r0), .int (rs_sp r0), .int (rs_sd r0), .int 0, .ref (bd 7), .ref (bd 8), .ref (bd 9), .ref (bd 10), .ref (bd 11)])), (bd 1, .inl (ks 0, 112, .inr (.inl (rs_va r0)))), (bd 2, .inl (ks 0, 112, .inr (.inl (rs_ke r0)))), (bd 3, .inl (ks 0, 448, .inr (.inl (rs_lo r0)))), (bd 4, .inl (ks 1, 112, .inl (rs_ls r0))), (bd 5, .inl (ks 2, 14, .inl (rs_fd r0))), (bd 6, .inl (ks 0, 31, .inr (.inl (rs_wk r0)))), (bd 7, .inl (ks 2, 2, .inl (rs_tk r0))), (bd 8, .inl (ks 0, 8, .inr (.inl (rs_co r0)))), (bd 9, .inl (ks 1, 2, .inl (rs_pr r0))), (bd 10, .inl (ks 0, 16, .inr (.inl (rs_ky r0)))), (bd 11, .inl (ks 0, 16, .inr (.inl (rs_nu r0))))] := hD
    refine lv_aload_n hx hb dR_recover_30 rfl (lv_at hl 0 rfl) ?_
    refine va_get (D := D) (ci := 3) (v := .ref (bd 1)) (C := RR) (T := TR) (N := 21) hx hb ht uw_R hown hK hP 0 rfl rfl 1 (by decide) (ht _ tb_540) (fun _ h => h) rfl dR_recover_31 ?_
    refine lv_bipush (v := nI 40) hx hb dR_recover_34 (by decide) ?_
    refine ra_l hx hb hK hP 1 rfl 40 (by decide) (by decide) rfl dR_recover_36 ?_
    refine tp_l (lN n9) ((hlog hd1).2.1) ?_
    refine lv_l2i (v := (nI n9)) hx hb dR_recover_37 (lN_i _) ?_
    refine lv_istore_n (lv' := [(1, .int (nI n9)), (0, .ref (bd 0))]) hx hb dR_recover_38 rfl hl (by decide) rfl (fun ls hl => ?_)
    refine lv_iconst (v := (sb [])) hx hb dR_recover_39 (by decide) ?_
    refine lv_istore_n (lv' := [(2, .int (sb [])), (1, .int (nI n9)), (0, .ref (bd 0))]) hx hb dR_recover_40 rfl hl (by decide) rfl (fun ls hl => ?_)
    refine lv_iload_n hx hb dR_recover_41 rfl (lv_at hl 1 rfl) ?_
    refine lv_iconst (v := nI 1) hx hb dR_recover_42 (by decide) ?_
    refine lv_isub hx hb dR_recover_43 ?_
    refine tp_i (nI n9 + (-1)) (by rw [Int32.sub_eq_add_neg]; rfl) ?_
    refine lv_istore_n (lv' := [(3, .int (nI n9 + (-1))), (2, .int (sb [])), (1, .int (nI n9)), (0, .ref (bd 0))]) hx hb dR_recover_44 rfl hl (by decide) rfl (fun ls hl => ?_)
    have hP : va_P D vwCl [(bd 0, .inr (3, [.int (rs_th (rs_rc r0)), .ref (bd 1), .ref (bd 2), .ref (bd 3), .ref (bd 4), .ref (bd 5), .int (rs_dn (rs_rc r0)), .int (rs_wi (rs_rc r0)), .ref (bd 6), .int (rs_st (rs_rc r0)), .int (rs_fl (rs_rc r0)), .int (rs_fe (rs_rc r0)), .int (rs_cr (rs_rc r0)), .int (rs_sp (rs_rc r0)), .int (rs_sd (rs_rc r0)), .int (rs_so (rs_rc r0)), .ref (bd 7), .ref (bd 8), .ref (bd 9), .ref (bd 10), .ref (bd 11)])), (bd 1, .inl (ks 0, 112, .inr (.inl (rs_va (rs_rc r0))))), (bd 2, .inl (ks 0, 112, .inr (.inl (rs_ke (rs_rc r0))))), (bd 3, .inl (ks 0, 448, .inr (.inl (rs_lo (rs_rc r0))))), (bd 4, .inl (ks 1, 112, .inl (rs_ls (rs_rc r0)))), (bd 5, .inl (ks 2, 14, .inl (rs_fd (rs_rc r0)))), (bd 6, .inl (ks 0, 31, .inr (.inl (rs_wk (rs_rc r0))))), (bd 7, .inl (ks 2, 2, .inl (rs_tk (rs_rc r0)))), (bd 8, .inl (ks 0, 8, .inr (.inl (rs_co (rs_rc r0))))), (bd 9, .inl (ks 1, 2, .inl (rs_pr (rs_rc r0)))), (bd 10, .inl (ks 0, 16, .inr (.inl (rs_ky (rs_rc r0))))), (bd 11, .inl (ks 0, 16, .inr (.inl (rs_nu (rs_rc r0)))))] H := hP
    have hD : va_D A [(bd 0, .inr (3, [.int (rs_th (rs_rc r0)), .ref (bd 1), .ref (bd 2), .ref (bd 3), .ref (bd 4), .ref (bd 5), .int (rs_dn (rs_rc r0)), .int (rs_wi (rs_rc r0)), .ref (bd 6), .int (rs_st (rs_rc r0)), .int (rs_fl (rs_rc r0)), .int (rs_fe (rs_rc r0)), .int (rs_cr (rs_rc r0)), .int (rs_sp (rs_rc r0)), .int (rs_sd (rs_rc r0)), .int (rs_so (rs_rc r0)), .ref (bd 7), .ref (bd 8), .ref (bd 9), .ref (bd 10), .ref (bd 11)])), (bd 1, .inl (ks 0, 112, .inr (.inl (rs_va (rs_rc r0))))), (bd 2, .inl (ks 0, 112, .inr (.inl (rs_ke (rs_rc r0))))), (bd 3, .inl (ks 0, 448, .inr (.inl (rs_lo (rs_rc r0))))), (bd 4, .inl (ks 1, 112, .inl (rs_ls (rs_rc r0)))), (bd 5, .inl (ks 2, 14, .inl (rs_fd (rs_rc r0)))), (bd 6, .inl (ks 0, 31, .inr (.inl (rs_wk (rs_rc r0))))), (bd 7, .inl (ks 2, 2, .inl (rs_tk (rs_rc r0)))), (bd 8, .inl (ks 0, 8, .inr (.inl (rs_co (rs_rc r0))))), (bd 9, .inl (ks 1, 2, .inl (rs_pr (rs_rc r0)))), (bd 10, .inl (ks 0, 16, .inr (.inl (rs_ky (rs_rc r0))))), (bd 11, .inl (ks 0, 16, .inr (.inl (rs_nu (rs_rc r0)))))] := hD
    obtain ⟨rr, hrr⟩ : ∃ z, z = ro_run (rc_ops a9 (rs_va r0) n9) (rs_rc r0) := ⟨_, rfl⟩
    have hI0 : RRc a9 (rs_va r0) n9 (rs_rc r0) (flO (rn_lines (rc_l a9 (rs_va r0) n9)) ++ [(2, 0, 0)] ++ (rnd [(40, 0)])) rr (rs_wk r0) n9 (rs_rc r0) ([]) := by
      have e0 : (rc_ops a9 (rs_va r0) n9) = stO (rc_l a9 (rs_va r0) n9) ++ (flO (rn_lines (rc_l a9 (rs_va r0) n9)) ++ [(2, 0, 0)] ++ (rnd [(40, 0)])) := List.append_assoc _ _ _
      refine ⟨⟨?_, ?_, rfl⟩, fun _ _ _ => rfl, fun _ w => ⟨fun z => absurd z List.not_mem_nil, fun ⟨e, z1, z2, _⟩ => absurd z1 (by omega)⟩, fun w z => absurd z List.not_mem_nil, fun _ => rfl⟩
      · rw [← e0]; exact hG hd1
      · rw [← e0]; exact hrr.symm
    have hsr : rs_so rr = 0 ∨ rs_so rr = 1 := by rw [hrr]; exact ro_so _ (Or.inl rfl)
    have hlg := hlog hd1
    have hn31 := hlg.1
    have LOOP : ∀ (k9 : Nat), k9 ≤ n9 → ∀ (c1 : MS) (S : List Nat), RRc a9 (rs_va r0) n9 (rs_rc r0) (flO (rn_lines (rc_l a9 (rs_va r0) n9)) ++ [(2, 0, 0)] ++ (rnd [(40, 0)])) rr (rs_wk r0) k9 c1 S → ∀ (H : Heap) (locs : List Loc) (ls : Array Slot), lv_has ls 5 [(3, .int (nI k9 + (-1))), (2, .int (sb S)), (1, .int (nI n9)), (0, .ref (bd 0))] → va_P D vwCl [(bd 0, .inr (3, [.int (rs_th c1), .ref (bd 1), .ref (bd 2), .ref (bd 3), .ref (bd 4), .ref (bd 5), .int (rs_dn c1), .int (rs_wi c1), .ref (bd 6), .int (rs_st c1), .int (rs_fl c1), .int (rs_fe c1), .int (rs_cr c1), .int (rs_sp c1), .int (rs_sd c1), .int (rs_so c1), .ref (bd 7), .ref (bd 8), .ref (bd 9), .ref (bd 10), .ref (bd 11)])), (bd 1, .inl (ks 0, 112, .inr (.inl (rs_va c1)))), (bd 2, .inl (ks 0, 112, .inr (.inl (rs_ke c1)))), (bd 3, .inl (ks 0, 448, .inr (.inl (rs_lo c1)))), (bd 4, .inl (ks 1, 112, .inl (rs_ls c1))), (bd 5, .inl (ks 2, 14, .inl (rs_fd c1))), (bd 6, .inl (ks 0, 31, .inr (.inl (rs_wk c1)))), (bd 7, .inl (ks 2, 2, .inl (rs_tk c1))), (bd 8, .inl (ks 0, 8, .inr (.inl (rs_co c1)))), (bd 9, .inl (ks 1, 2, .inl (rs_pr c1))), (bd 10, .inl (ks 0, 16, .inr (.inl (rs_ky c1)))), (bd 11, .inl (ks 0, 16, .inr (.inl (rs_nu c1))))] H → va_D A [(bd 0, .inr (3, [.int (rs_th c1), .ref (bd 1), .ref (bd 2), .ref (bd 3), .ref (bd 4), .ref (bd 5), .int (rs_dn c1), .int (rs_wi c1), .ref (bd 6), .int (rs_st c1), .int (rs_fl c1), .int (rs_fe c1), .int (rs_cr c1), .int (rs_sp c1), .int (rs_sd c1), .int (rs_so c1), .ref (bd 7), .ref (bd 8), .ref (bd 9), .ref (bd 10), .ref (bd 11)])), (bd 1, .inl (ks 0, 112, .inr (.inl (rs_va c1)))), (bd 2, .inl (ks 0, 112, .inr (.inl (rs_ke c1)))), (bd 3, .inl (ks 0, 448, .inr (.inl (rs_lo c1)))), (bd 4, .inl (ks 1, 112, .inl (rs_ls c1))), (bd 5, .inl (ks 2, 14, .inl (rs_fd c1))), (bd 6, .inl (ks 0, 31, .inr (.inl (rs_wk c1)))), (bd 7, .inl (ks 2, 2, .inl (rs_tk c1))), (bd 8, .inl (ks 0, 8, .inr (.inl (rs_co c1)))), (bd 9, .inl (ks 1, 2, .inl (rs_pr c1))), (bd 10, .inl (ks 0, 16, .inr (.inl (rs_ky c1)))), (bd 11, .inl (ks 0, 16, .inr (.inl (rs_nu c1))))] → va_S A s.heap H locs → W p l e ({ frames := 4, cells := 0, slots := 0, locals := 89 } : Room) s m ([.ref (bd 0)] : List Value).toArray below meth c H locs 0 0 (MQ below (va_Qi (S := MS) (fun r u => (rs_dn r0 = 0 ∧ u = rs_thr r0 1) ∨ (¬ rs_dn r0 = 0 ∧ n9 = 0 ∧ r = 0 ∧ u = (0, rs_va r0, rs_ke r0, rs_lo r0, rs_ls r0, rs_fd r0, 0, rs_wi r0, rs_wk r0, rs_st r0, rs_fl r0, rs_fe r0, rs_cr r0, rs_sp r0, rs_sd r0, 0, rs_tk r0, rs_co r0, rs_pr r0, rs_ky r0, rs_nu r0)) ∨ (¬ rs_dn r0 = 0 ∧ n9 ≠ 0 ∧ u = rs_rfin (ro_run (rc_ops a9 (rs_va r0) n9) (rs_rc r0)) ∧ r = if rs_so (ro_run (rc_ops a9 (rs_va r0) n9) (rs_rc r0)) = 0 then nI n9 else 0)) (fun u t => Bw D ks A ((fun u => wR ks bd u) u) t) A) ([.ref (bd 0)] : List Value).toArray s 0 0 A) (F0 m 45 ls []) := by
      intro k9
      induction k9 with
      | zero =>
        intro hk9 c1 S hI H locs ls hl hP hD hS
        refine lv_iload_n hx hb dR_recover_45 rfl (lv_at hl 0 rfl) ?_
        refine lv_if_lt (tgt := 100) hx hb dR_recover_46 rfl (fun _ => ?_) (fun h => absurd (by decide) h)
        refine lv_iload_n hx hb dR_recover_100 rfl (lv_at hl 2 rfl) ?_
        refine lv_if_le (tgt := 114) hx hb dR_recover_101 rfl (fun hn0 => ?_) (fun hn1 => ?_)
        · skip
          have hn0 : n9 = 0 := Nat.le_zero.mp ((nI_leI (b := 0) (by omega) (by decide)).mp hn0)
          have e9 : c1 = rs_rc r0 := hI.2.2.2.2 hn0
          have hso : rs_so c1 = 0 ∨ rs_so c1 = 1 := by rw [e9]; exact Or.inl rfl
          refine lv_aload_n hx hb dR_recover_114 rfl (lv_at hl 3 rfl) ?_
          refine lv_aload_n hx hb dR_recover_115 rfl (lv_at hl 3 rfl) ?_
          refine va_get (D := D) (ci := 3) (v := .int (rs_so c1)) (C := RR) (T := TR) (N := 21) hx hb ht uw_R hown hK hP 0 rfl rfl 15 (by decide) (ht _ tb_554) (fun _ h => h) rfl dR_recover_116 ?_
          refine va_put (D := D) (ci := 3) (v := .int (rs_so c1)) (ty := .boolean) (C := RR) (T := TR) (N := 21) hx hb ht uw_R ty_R ty_R_ok nm_R hown hK hP hD hS 0 rfl rfl 6 (by decide) (ht _ tb_545) (fun _ h => h) rfl (by decide +kernel) (so_nar hso) (so_fit hso) (Nat.le_of_ble_eq_true rfl) dR_recover_119 (fun H locs hP hD hS => ?_)
          have hP : va_P D vwCl [(bd 0, .inr (3, [.int (rs_th c1), .ref (bd 1), .ref (bd 2), .ref (bd 3), .ref (bd 4), .ref (bd 5), .int (rs_so c1), .int (rs_wi c1), .ref (bd 6), .int (rs_st c1), .int (rs_fl c1), .int (rs_fe c1), .int (rs_cr c1), .int (rs_sp c1), .int (rs_sd c1), .int (rs_so c1), .ref (bd 7), .ref (bd 8), .ref (bd 9), .ref (bd 10), .ref (bd 11)])), (bd 1, .inl (ks 0, 112, .inr (.inl (rs_va c1)))), (bd 2, .inl (ks 0, 112, .inr (.inl (rs_ke c1)))), (bd 3, .inl (ks 0, 448, .inr (.inl (rs_lo c1)))), (bd 4, .inl (ks 1, 112, .inl (rs_ls c1))), (bd 5, .inl (ks 2, 14, .inl (rs_fd c1))), (bd 6, .inl (ks 0, 31, .inr (.inl (rs_wk c1)))), (bd 7, .inl (ks 2, 2, .inl (rs_tk c1))), (bd 8, .inl (ks 0, 8, .inr (.inl (rs_co c1)))), (bd 9, .inl (ks 1, 2, .inl (rs_pr c1))), (bd 10, .inl (ks 0, 16, .inr (.inl (rs_ky c1)))), (bd 11, .inl (ks 0, 16, .inr (.inl (rs_nu c1))))] H := hP
          have hD : va_D A [(bd 0, .inr (3, [.int (rs_th c1), .ref (bd 1), .ref (bd 2), .ref (bd 3), .ref (bd 4), .ref (bd 5), .int (rs_so c1), .int (rs_wi c1), .ref (bd 6), .int (rs_st c1), .int (rs_fl c1), .int (rs_fe c1), .int (rs_cr c1), .int (rs_sp c1), .int (rs_sd c1), .int (rs_so c1), .ref (bd 7), .ref (bd 8), .ref (bd 9), .ref (bd 10), .ref (bd 11)])), (bd 1, .inl (ks 0, 112, .inr (.inl (rs_va c1)))), (bd 2, .inl (ks 0, 112, .inr (.inl (rs_ke c1)))), (bd 3, .inl (ks 0, 448, .inr (.inl (rs_lo c1)))), (bd 4, .inl (ks 1, 112, .inl (rs_ls c1))), (bd 5, .inl (ks 2, 14, .inl (rs_fd c1))), (bd 6, .inl (ks 0, 31, .inr (.inl (rs_wk c1)))), (bd 7, .inl (ks 2, 2, .inl (rs_tk c1))), (bd 8, .inl (ks 0, 8, .inr (.inl (rs_co c1)))), (bd 9, .inl (ks 1, 2, .inl (rs_pr c1))), (bd 10, .inl (ks 0, 16, .inr (.inl (rs_ky c1)))), (bd 11, .inl (ks 0, 16, .inr (.inl (rs_nu c1))))] := hD
          refine lv_aload_n hx hb dR_recover_122 rfl (lv_at hl 3 rfl) ?_
          refine lv_aload_n hx hb dR_recover_123 rfl (lv_at hl 3 rfl) ?_
          refine va_get (D := D) (ci := 3) (v := .int (rs_so c1)) (C := RR) (T := TR) (N := 21) hx hb ht uw_R hown hK hP 0 rfl rfl 15 (by decide) (ht _ tb_554) (fun _ h => h) rfl dR_recover_124 ?_
          refine lv_if_eq (tgt := 134) hx hb dR_recover_127 rfl (fun h5 => ?_) (fun h6 => ?_)
          · skip
            refine lv_iconst (v := 0) hx hb dR_recover_134 (by decide) ?_
            refine va_put (D := D) (ci := 3) (v := .int 0) (ty := .int) (C := RR) (T := TR) (N := 21) hx hb ht uw_R ty_R ty_R_ok nm_R hown hK hP hD hS 0 rfl rfl 0 (by decide) (ht _ tb_539) (fun _ h => h) rfl (by decide +kernel) rfl rfl (Nat.le_of_ble_eq_true rfl) dR_recover_135 (fun H locs hP hD hS => ?_)
            have hP : va_P D vwCl [(bd 0, .inr (3, [.int 0, .ref (bd 1), .ref (bd 2), .ref (bd 3), .ref (bd 4), .ref (bd 5), .int (rs_so c1), .int (rs_wi c1), .ref (bd 6), .int (rs_st c1), .int (rs_fl c1), .int (rs_fe c1), .int (rs_cr c1), .int (rs_sp c1), .int (rs_sd c1), .int (rs_so c1), .ref (bd 7), .ref (bd 8), .ref (bd 9), .ref (bd 10), .ref (bd 11)])), (bd 1, .inl (ks 0, 112, .inr (.inl (rs_va c1)))), (bd 2, .inl (ks 0, 112, .inr (.inl (rs_ke c1)))), (bd 3, .inl (ks 0, 448, .inr (.inl (rs_lo c1)))), (bd 4, .inl (ks 1, 112, .inl (rs_ls c1))), (bd 5, .inl (ks 2, 14, .inl (rs_fd c1))), (bd 6, .inl (ks 0, 31, .inr (.inl (rs_wk c1)))), (bd 7, .inl (ks 2, 2, .inl (rs_tk c1))), (bd 8, .inl (ks 0, 8, .inr (.inl (rs_co c1)))), (bd 9, .inl (ks 1, 2, .inl (rs_pr c1))), (bd 10, .inl (ks 0, 16, .inr (.inl (rs_ky c1)))), (bd 11, .inl (ks 0, 16, .inr (.inl (rs_nu c1))))] H := hP
            have hD : va_D A [(bd 0, .inr (3, [.int 0, .ref (bd 1), .ref (bd 2), .ref (bd 3), .ref (bd 4), .ref (bd 5), .int (rs_so c1), .int (rs_wi c1), .ref (bd 6), .int (rs_st c1), .int (rs_fl c1), .int (rs_fe c1), .int (rs_cr c1), .int (rs_sp c1), .int (rs_sd c1), .int (rs_so c1), .ref (bd 7), .ref (bd 8), .ref (bd 9), .ref (bd 10), .ref (bd 11)])), (bd 1, .inl (ks 0, 112, .inr (.inl (rs_va c1)))), (bd 2, .inl (ks 0, 112, .inr (.inl (rs_ke c1)))), (bd 3, .inl (ks 0, 448, .inr (.inl (rs_lo c1)))), (bd 4, .inl (ks 1, 112, .inl (rs_ls c1))), (bd 5, .inl (ks 2, 14, .inl (rs_fd c1))), (bd 6, .inl (ks 0, 31, .inr (.inl (rs_wk c1)))), (bd 7, .inl (ks 2, 2, .inl (rs_tk c1))), (bd 8, .inl (ks 0, 8, .inr (.inl (rs_co c1)))), (bd 9, .inl (ks 1, 2, .inl (rs_pr c1))), (bd 10, .inl (ks 0, 16, .inr (.inl (rs_ky c1)))), (bd 11, .inl (ks 0, 16, .inr (.inl (rs_nu c1))))] := hD
            refine lv_aload_n hx hb dR_recover_138 rfl (lv_at hl 3 rfl) ?_
            refine va_get (D := D) (ci := 3) (v := .int (rs_so c1)) (C := RR) (T := TR) (N := 21) hx hb ht uw_R hown hK hP 0 rfl rfl 15 (by decide) (ht _ tb_554) (fun _ h => h) rfl dR_recover_139 ?_
            refine lv_if_eq (tgt := 149) hx hb dR_recover_142 rfl (fun _ => ?_) (fun h => absurd h5 h)
            refine lv_iload_n hx hb dR_recover_149 rfl (lv_at hl 2 rfl) ?_
            exact endI hx hb hr hlk hK (0, rs_va c1, rs_ke c1, rs_lo c1, rs_ls c1, rs_fd c1, rs_so c1, rs_wi c1, rs_wk c1, rs_st c1, rs_fl c1, rs_fe c1, rs_cr c1, rs_sp c1, rs_sd c1, rs_so c1, rs_tk c1, rs_co c1, rs_pr c1, rs_ky c1, rs_nu c1) (Or.inr (Or.inl ⟨hd1, hn0, by rw [hn0]; rfl, by rw [e9]; rfl⟩)) hP hD hS dR_recover_150
          · skip
            refine lv_iconst (v := 1) hx hb dR_recover_130 (by decide) ?_
            refine lv_goto (tgt := 135) hx hb dR_recover_131 rfl ?_
            refine va_put (D := D) (ci := 3) (v := .int 1) (ty := .int) (C := RR) (T := TR) (N := 21) hx hb ht uw_R ty_R ty_R_ok nm_R hown hK hP hD hS 0 rfl rfl 0 (by decide) (ht _ tb_539) (fun _ h => h) rfl (by decide +kernel) rfl rfl (Nat.le_of_ble_eq_true rfl) dR_recover_135 (fun H locs hP hD hS => ?_)
            have hP : va_P D vwCl [(bd 0, .inr (3, [.int 1, .ref (bd 1), .ref (bd 2), .ref (bd 3), .ref (bd 4), .ref (bd 5), .int (rs_so c1), .int (rs_wi c1), .ref (bd 6), .int (rs_st c1), .int (rs_fl c1), .int (rs_fe c1), .int (rs_cr c1), .int (rs_sp c1), .int (rs_sd c1), .int (rs_so c1), .ref (bd 7), .ref (bd 8), .ref (bd 9), .ref (bd 10), .ref (bd 11)])), (bd 1, .inl (ks 0, 112, .inr (.inl (rs_va c1)))), (bd 2, .inl (ks 0, 112, .inr (.inl (rs_ke c1)))), (bd 3, .inl (ks 0, 448, .inr (.inl (rs_lo c1)))), (bd 4, .inl (ks 1, 112, .inl (rs_ls c1))), (bd 5, .inl (ks 2, 14, .inl (rs_fd c1))), (bd 6, .inl (ks 0, 31, .inr (.inl (rs_wk c1)))), (bd 7, .inl (ks 2, 2, .inl (rs_tk c1))), (bd 8, .inl (ks 0, 8, .inr (.inl (rs_co c1)))), (bd 9, .inl (ks 1, 2, .inl (rs_pr c1))), (bd 10, .inl (ks 0, 16, .inr (.inl (rs_ky c1)))), (bd 11, .inl (ks 0, 16, .inr (.inl (rs_nu c1))))] H := hP
            have hD : va_D A [(bd 0, .inr (3, [.int 1, .ref (bd 1), .ref (bd 2), .ref (bd 3), .ref (bd 4), .ref (bd 5), .int (rs_so c1), .int (rs_wi c1), .ref (bd 6), .int (rs_st c1), .int (rs_fl c1), .int (rs_fe c1), .int (rs_cr c1), .int (rs_sp c1), .int (rs_sd c1), .int (rs_so c1), .ref (bd 7), .ref (bd 8), .ref (bd 9), .ref (bd 10), .ref (bd 11)])), (bd 1, .inl (ks 0, 112, .inr (.inl (rs_va c1)))), (bd 2, .inl (ks 0, 112, .inr (.inl (rs_ke c1)))), (bd 3, .inl (ks 0, 448, .inr (.inl (rs_lo c1)))), (bd 4, .inl (ks 1, 112, .inl (rs_ls c1))), (bd 5, .inl (ks 2, 14, .inl (rs_fd c1))), (bd 6, .inl (ks 0, 31, .inr (.inl (rs_wk c1)))), (bd 7, .inl (ks 2, 2, .inl (rs_tk c1))), (bd 8, .inl (ks 0, 8, .inr (.inl (rs_co c1)))), (bd 9, .inl (ks 1, 2, .inl (rs_pr c1))), (bd 10, .inl (ks 0, 16, .inr (.inl (rs_ky c1)))), (bd 11, .inl (ks 0, 16, .inr (.inl (rs_nu c1))))] := hD
            refine lv_aload_n hx hb dR_recover_138 rfl (lv_at hl 3 rfl) ?_
            refine va_get (D := D) (ci := 3) (v := .int (rs_so c1)) (C := RR) (T := TR) (N := 21) hx hb ht uw_R hown hK hP 0 rfl rfl 15 (by decide) (ht _ tb_554) (fun _ h => h) rfl dR_recover_139 ?_
            refine lv_if_eq (tgt := 149) hx hb dR_recover_142 rfl (fun h => absurd h h6) (fun _ => ?_)
            refine lv_iconst (v := 0) hx hb dR_recover_145 (by decide) ?_
            refine lv_goto (tgt := 150) hx hb dR_recover_146 rfl ?_
            exact endI hx hb hr hlk hK (1, rs_va c1, rs_ke c1, rs_lo c1, rs_ls c1, rs_fd c1, rs_so c1, rs_wi c1, rs_wk c1, rs_st c1, rs_fl c1, rs_fe c1, rs_cr c1, rs_sp c1, rs_sd c1, rs_so c1, rs_tk c1, rs_co c1, rs_pr c1, rs_ky c1, rs_nu c1) (absurd (show rs_so c1 = 0 by rw [e9]; rfl) h6) hP hD hS dR_recover_150
        · skip
          have hn1 : n9 ≠ 0 := fun z => hn1 (by rw [z]; decide)
          refine lv_aload_n hx hb dR_recover_104 rfl (lv_at hl 3 rfl) ?_
          refine lv_iload_n hx hb dR_recover_105 rfl (lv_at hl 1 rfl) ?_
          refine gcv (wr := []) [0, 1, 2, 3, 4, 5, 6, 7, 8, 9, 10, 11] [] rfl rfl rfl (by decide) (va_runV (As := [.int (sb S)]) (rest := []) F (kR_settle l D ks bd c1 (sb S) H.size hI.1.lc) (cwV (C := RR) 1 ht (tb_v tb_652 tb_654 tb_sR_settle tb_4 tb_655) rfl rfl rfl ⟨rfl, by decide, by decide, by decide +kernel⟩ ⟨by decide, by decide⟩) (preV 0 3 rfl rfl rfl hK hN hP hD [0, 1, 2, 3, 4, 5, 6, 7, 8, 9, 10, 11] rfl rfl) rfl rfl hl.1 rfl (lv_room (Nat.le_of_ble_eq_true rfl)) dR_recover_106 (by decide)) hP hD hS hA (fun u1 H locs q1 hP hD hS => ?_)
          have hP : va_P D vwCl [(bd 0, .inr (3, [.int (rs_th u1), .ref (bd 1), .ref (bd 2), .ref (bd 3), .ref (bd 4), .ref (bd 5), .int (rs_dn u1), .int (rs_wi u1), .ref (bd 6), .int (rs_st u1), .int (rs_fl u1), .int (rs_fe u1), .int (rs_cr u1), .int (rs_sp u1), .int (rs_sd u1), .int (rs_so u1), .ref (bd 7), .ref (bd 8), .ref (bd 9), .ref (bd 10), .ref (bd 11)])), (bd 1, .inl (ks 0, 112, .inr (.inl (rs_va u1)))), (bd 2, .inl (ks 0, 112, .inr (.inl (rs_ke u1)))), (bd 3, .inl (ks 0, 448, .inr (.inl (rs_lo u1)))), (bd 4, .inl (ks 1, 112, .inl (rs_ls u1))), (bd 5, .inl (ks 2, 14, .inl (rs_fd u1))), (bd 6, .inl (ks 0, 31, .inr (.inl (rs_wk u1)))), (bd 7, .inl (ks 2, 2, .inl (rs_tk u1))), (bd 8, .inl (ks 0, 8, .inr (.inl (rs_co u1)))), (bd 9, .inl (ks 1, 2, .inl (rs_pr u1))), (bd 10, .inl (ks 0, 16, .inr (.inl (rs_ky u1)))), (bd 11, .inl (ks 0, 16, .inr (.inl (rs_nu u1))))] H := hP
          have hD : va_D A [(bd 0, .inr (3, [.int (rs_th u1), .ref (bd 1), .ref (bd 2), .ref (bd 3), .ref (bd 4), .ref (bd 5), .int (rs_dn u1), .int (rs_wi u1), .ref (bd 6), .int (rs_st u1), .int (rs_fl u1), .int (rs_fe u1), .int (rs_cr u1), .int (rs_sp u1), .int (rs_sd u1), .int (rs_so u1), .ref (bd 7), .ref (bd 8), .ref (bd 9), .ref (bd 10), .ref (bd 11)])), (bd 1, .inl (ks 0, 112, .inr (.inl (rs_va u1)))), (bd 2, .inl (ks 0, 112, .inr (.inl (rs_ke u1)))), (bd 3, .inl (ks 0, 448, .inr (.inl (rs_lo u1)))), (bd 4, .inl (ks 1, 112, .inl (rs_ls u1))), (bd 5, .inl (ks 2, 14, .inl (rs_fd u1))), (bd 6, .inl (ks 0, 31, .inr (.inl (rs_wk u1)))), (bd 7, .inl (ks 2, 2, .inl (rs_tk u1))), (bd 8, .inl (ks 0, 8, .inr (.inl (rs_co u1)))), (bd 9, .inl (ks 1, 2, .inl (rs_pr u1))), (bd 10, .inl (ks 0, 16, .inr (.inl (rs_ky u1)))), (bd 11, .inl (ks 0, 16, .inr (.inl (rs_nu u1))))] := hD
          have hI2 : RWy (rnd [(40, 0)]) rr (rs_wk r0) u1 := hI.se q1
          refine lv_aload_n hx hb dR_recover_109 rfl (lv_at hl 3 rfl) ?_
          refine lv_lconst (v := 0) hx hb dR_recover_110 (by decide) ?_
          refine gcv (wr := []) [0, 1, 2, 3, 4, 5, 6, 7, 8, 9, 10, 11] [] rfl rfl rfl (by decide) (va_runV (As := [.long (0 : Int64)]) (rest := []) F (kR_storeCount l D ks bd u1 0 H.size (RWy.cnt (x := 0) (os := []) (by rw [List.append_nil]; exact hI2)) hI2.lc) (cwV (C := RR) 1 ht (tb_v tb_648 tb_650 tb_sR_storeCount tb_4 tb_651) rfl rfl rfl ⟨rfl, by decide, by decide, by decide +kernel⟩ ⟨by decide, by decide⟩) (preV 0 3 rfl rfl rfl hK hN hP hD [0, 1, 2, 3, 4, 5, 6, 7, 8, 9, 10, 11] rfl rfl) rfl rfl hl.1 rfl (lv_room (Nat.le_of_ble_eq_true rfl)) dR_recover_111 (by decide)) hP hD hS hA (fun u2 H locs q2 hP hD hS => ?_)
          have hP : va_P D vwCl [(bd 0, .inr (3, [.int (rs_th u2), .ref (bd 1), .ref (bd 2), .ref (bd 3), .ref (bd 4), .ref (bd 5), .int (rs_dn u2), .int (rs_wi u2), .ref (bd 6), .int (rs_st u2), .int (rs_fl u2), .int (rs_fe u2), .int (rs_cr u2), .int (rs_sp u2), .int (rs_sd u2), .int (rs_so u2), .ref (bd 7), .ref (bd 8), .ref (bd 9), .ref (bd 10), .ref (bd 11)])), (bd 1, .inl (ks 0, 112, .inr (.inl (rs_va u2)))), (bd 2, .inl (ks 0, 112, .inr (.inl (rs_ke u2)))), (bd 3, .inl (ks 0, 448, .inr (.inl (rs_lo u2)))), (bd 4, .inl (ks 1, 112, .inl (rs_ls u2))), (bd 5, .inl (ks 2, 14, .inl (rs_fd u2))), (bd 6, .inl (ks 0, 31, .inr (.inl (rs_wk u2)))), (bd 7, .inl (ks 2, 2, .inl (rs_tk u2))), (bd 8, .inl (ks 0, 8, .inr (.inl (rs_co u2)))), (bd 9, .inl (ks 1, 2, .inl (rs_pr u2))), (bd 10, .inl (ks 0, 16, .inr (.inl (rs_ky u2)))), (bd 11, .inl (ks 0, 16, .inr (.inl (rs_nu u2))))] H := hP
          have hD : va_D A [(bd 0, .inr (3, [.int (rs_th u2), .ref (bd 1), .ref (bd 2), .ref (bd 3), .ref (bd 4), .ref (bd 5), .int (rs_dn u2), .int (rs_wi u2), .ref (bd 6), .int (rs_st u2), .int (rs_fl u2), .int (rs_fe u2), .int (rs_cr u2), .int (rs_sp u2), .int (rs_sd u2), .int (rs_so u2), .ref (bd 7), .ref (bd 8), .ref (bd 9), .ref (bd 10), .ref (bd 11)])), (bd 1, .inl (ks 0, 112, .inr (.inl (rs_va u2)))), (bd 2, .inl (ks 0, 112, .inr (.inl (rs_ke u2)))), (bd 3, .inl (ks 0, 448, .inr (.inl (rs_lo u2)))), (bd 4, .inl (ks 1, 112, .inl (rs_ls u2))), (bd 5, .inl (ks 2, 14, .inl (rs_fd u2))), (bd 6, .inl (ks 0, 31, .inr (.inl (rs_wk u2)))), (bd 7, .inl (ks 2, 2, .inl (rs_tk u2))), (bd 8, .inl (ks 0, 8, .inr (.inl (rs_co u2)))), (bd 9, .inl (ks 1, 2, .inl (rs_pr u2))), (bd 10, .inl (ks 0, 16, .inr (.inl (rs_ky u2)))), (bd 11, .inl (ks 0, 16, .inr (.inl (rs_nu u2))))] := hD
          have hI3 : u2 = rr := by rw [q2, ro_cnt]; exact hI2.2.1
          have hso : rs_so u2 = 0 ∨ rs_so u2 = 1 := by rw [hI3]; exact hsr
          refine lv_aload_n hx hb dR_recover_114 rfl (lv_at hl 3 rfl) ?_
          refine lv_aload_n hx hb dR_recover_115 rfl (lv_at hl 3 rfl) ?_
          refine va_get (D := D) (ci := 3) (v := .int (rs_so u2)) (C := RR) (T := TR) (N := 21) hx hb ht uw_R hown hK hP 0 rfl rfl 15 (by decide) (ht _ tb_554) (fun _ h => h) rfl dR_recover_116 ?_
          refine va_put (D := D) (ci := 3) (v := .int (rs_so u2)) (ty := .boolean) (C := RR) (T := TR) (N := 21) hx hb ht uw_R ty_R ty_R_ok nm_R hown hK hP hD hS 0 rfl rfl 6 (by decide) (ht _ tb_545) (fun _ h => h) rfl (by decide +kernel) (so_nar hso) (so_fit hso) (Nat.le_of_ble_eq_true rfl) dR_recover_119 (fun H locs hP hD hS => ?_)
          have hP : va_P D vwCl [(bd 0, .inr (3, [.int (rs_th u2), .ref (bd 1), .ref (bd 2), .ref (bd 3), .ref (bd 4), .ref (bd 5), .int (rs_so u2), .int (rs_wi u2), .ref (bd 6), .int (rs_st u2), .int (rs_fl u2), .int (rs_fe u2), .int (rs_cr u2), .int (rs_sp u2), .int (rs_sd u2), .int (rs_so u2), .ref (bd 7), .ref (bd 8), .ref (bd 9), .ref (bd 10), .ref (bd 11)])), (bd 1, .inl (ks 0, 112, .inr (.inl (rs_va u2)))), (bd 2, .inl (ks 0, 112, .inr (.inl (rs_ke u2)))), (bd 3, .inl (ks 0, 448, .inr (.inl (rs_lo u2)))), (bd 4, .inl (ks 1, 112, .inl (rs_ls u2))), (bd 5, .inl (ks 2, 14, .inl (rs_fd u2))), (bd 6, .inl (ks 0, 31, .inr (.inl (rs_wk u2)))), (bd 7, .inl (ks 2, 2, .inl (rs_tk u2))), (bd 8, .inl (ks 0, 8, .inr (.inl (rs_co u2)))), (bd 9, .inl (ks 1, 2, .inl (rs_pr u2))), (bd 10, .inl (ks 0, 16, .inr (.inl (rs_ky u2)))), (bd 11, .inl (ks 0, 16, .inr (.inl (rs_nu u2))))] H := hP
          have hD : va_D A [(bd 0, .inr (3, [.int (rs_th u2), .ref (bd 1), .ref (bd 2), .ref (bd 3), .ref (bd 4), .ref (bd 5), .int (rs_so u2), .int (rs_wi u2), .ref (bd 6), .int (rs_st u2), .int (rs_fl u2), .int (rs_fe u2), .int (rs_cr u2), .int (rs_sp u2), .int (rs_sd u2), .int (rs_so u2), .ref (bd 7), .ref (bd 8), .ref (bd 9), .ref (bd 10), .ref (bd 11)])), (bd 1, .inl (ks 0, 112, .inr (.inl (rs_va u2)))), (bd 2, .inl (ks 0, 112, .inr (.inl (rs_ke u2)))), (bd 3, .inl (ks 0, 448, .inr (.inl (rs_lo u2)))), (bd 4, .inl (ks 1, 112, .inl (rs_ls u2))), (bd 5, .inl (ks 2, 14, .inl (rs_fd u2))), (bd 6, .inl (ks 0, 31, .inr (.inl (rs_wk u2)))), (bd 7, .inl (ks 2, 2, .inl (rs_tk u2))), (bd 8, .inl (ks 0, 8, .inr (.inl (rs_co u2)))), (bd 9, .inl (ks 1, 2, .inl (rs_pr u2))), (bd 10, .inl (ks 0, 16, .inr (.inl (rs_ky u2)))), (bd 11, .inl (ks 0, 16, .inr (.inl (rs_nu u2))))] := hD
          refine lv_aload_n hx hb dR_recover_122 rfl (lv_at hl 3 rfl) ?_
          refine lv_aload_n hx hb dR_recover_123 rfl (lv_at hl 3 rfl) ?_
          refine va_get (D := D) (ci := 3) (v := .int (rs_so u2)) (C := RR) (T := TR) (N := 21) hx hb ht uw_R hown hK hP 0 rfl rfl 15 (by decide) (ht _ tb_554) (fun _ h => h) rfl dR_recover_124 ?_
          refine lv_if_eq (tgt := 134) hx hb dR_recover_127 rfl (fun h5 => ?_) (fun h6 => ?_)
          · skip
            refine lv_iconst (v := 0) hx hb dR_recover_134 (by decide) ?_
            refine va_put (D := D) (ci := 3) (v := .int 0) (ty := .int) (C := RR) (T := TR) (N := 21) hx hb ht uw_R ty_R ty_R_ok nm_R hown hK hP hD hS 0 rfl rfl 0 (by decide) (ht _ tb_539) (fun _ h => h) rfl (by decide +kernel) rfl rfl (Nat.le_of_ble_eq_true rfl) dR_recover_135 (fun H locs hP hD hS => ?_)
            have hP : va_P D vwCl [(bd 0, .inr (3, [.int 0, .ref (bd 1), .ref (bd 2), .ref (bd 3), .ref (bd 4), .ref (bd 5), .int (rs_so u2), .int (rs_wi u2), .ref (bd 6), .int (rs_st u2), .int (rs_fl u2), .int (rs_fe u2), .int (rs_cr u2), .int (rs_sp u2), .int (rs_sd u2), .int (rs_so u2), .ref (bd 7), .ref (bd 8), .ref (bd 9), .ref (bd 10), .ref (bd 11)])), (bd 1, .inl (ks 0, 112, .inr (.inl (rs_va u2)))), (bd 2, .inl (ks 0, 112, .inr (.inl (rs_ke u2)))), (bd 3, .inl (ks 0, 448, .inr (.inl (rs_lo u2)))), (bd 4, .inl (ks 1, 112, .inl (rs_ls u2))), (bd 5, .inl (ks 2, 14, .inl (rs_fd u2))), (bd 6, .inl (ks 0, 31, .inr (.inl (rs_wk u2)))), (bd 7, .inl (ks 2, 2, .inl (rs_tk u2))), (bd 8, .inl (ks 0, 8, .inr (.inl (rs_co u2)))), (bd 9, .inl (ks 1, 2, .inl (rs_pr u2))), (bd 10, .inl (ks 0, 16, .inr (.inl (rs_ky u2)))), (bd 11, .inl (ks 0, 16, .inr (.inl (rs_nu u2))))] H := hP
            have hD : va_D A [(bd 0, .inr (3, [.int 0, .ref (bd 1), .ref (bd 2), .ref (bd 3), .ref (bd 4), .ref (bd 5), .int (rs_so u2), .int (rs_wi u2), .ref (bd 6), .int (rs_st u2), .int (rs_fl u2), .int (rs_fe u2), .int (rs_cr u2), .int (rs_sp u2), .int (rs_sd u2), .int (rs_so u2), .ref (bd 7), .ref (bd 8), .ref (bd 9), .ref (bd 10), .ref (bd 11)])), (bd 1, .inl (ks 0, 112, .inr (.inl (rs_va u2)))), (bd 2, .inl (ks 0, 112, .inr (.inl (rs_ke u2)))), (bd 3, .inl (ks 0, 448, .inr (.inl (rs_lo u2)))), (bd 4, .inl (ks 1, 112, .inl (rs_ls u2))), (bd 5, .inl (ks 2, 14, .inl (rs_fd u2))), (bd 6, .inl (ks 0, 31, .inr (.inl (rs_wk u2)))), (bd 7, .inl (ks 2, 2, .inl (rs_tk u2))), (bd 8, .inl (ks 0, 8, .inr (.inl (rs_co u2)))), (bd 9, .inl (ks 1, 2, .inl (rs_pr u2))), (bd 10, .inl (ks 0, 16, .inr (.inl (rs_ky u2)))), (bd 11, .inl (ks 0, 16, .inr (.inl (rs_nu u2))))] := hD
            refine lv_aload_n hx hb dR_recover_138 rfl (lv_at hl 3 rfl) ?_
            refine va_get (D := D) (ci := 3) (v := .int (rs_so u2)) (C := RR) (T := TR) (N := 21) hx hb ht uw_R hown hK hP 0 rfl rfl 15 (by decide) (ht _ tb_554) (fun _ h => h) rfl dR_recover_139 ?_
            refine lv_if_eq (tgt := 149) hx hb dR_recover_142 rfl (fun _ => ?_) (fun h => absurd h5 h)
            refine lv_iload_n hx hb dR_recover_149 rfl (lv_at hl 2 rfl) ?_
            exact endI hx hb hr hlk hK (0, rs_va u2, rs_ke u2, rs_lo u2, rs_ls u2, rs_fd u2, rs_so u2, rs_wi u2, rs_wk u2, rs_st u2, rs_fl u2, rs_fe u2, rs_cr u2, rs_sp u2, rs_sd u2, rs_so u2, rs_tk u2, rs_co u2, rs_pr u2, rs_ky u2, rs_nu u2) (Or.inr (Or.inr ⟨hd1, hn1, by rw [← hrr, ← hI3]; unfold rs_rfin; rw [if_pos h5], by rw [← hrr, ← hI3]; exact (if_pos h5).symm⟩)) hP hD hS dR_recover_150
          · skip
            refine lv_iconst (v := 1) hx hb dR_recover_130 (by decide) ?_
            refine lv_goto (tgt := 135) hx hb dR_recover_131 rfl ?_
            refine va_put (D := D) (ci := 3) (v := .int 1) (ty := .int) (C := RR) (T := TR) (N := 21) hx hb ht uw_R ty_R ty_R_ok nm_R hown hK hP hD hS 0 rfl rfl 0 (by decide) (ht _ tb_539) (fun _ h => h) rfl (by decide +kernel) rfl rfl (Nat.le_of_ble_eq_true rfl) dR_recover_135 (fun H locs hP hD hS => ?_)
            have hP : va_P D vwCl [(bd 0, .inr (3, [.int 1, .ref (bd 1), .ref (bd 2), .ref (bd 3), .ref (bd 4), .ref (bd 5), .int (rs_so u2), .int (rs_wi u2), .ref (bd 6), .int (rs_st u2), .int (rs_fl u2), .int (rs_fe u2), .int (rs_cr u2), .int (rs_sp u2), .int (rs_sd u2), .int (rs_so u2), .ref (bd 7), .ref (bd 8), .ref (bd 9), .ref (bd 10), .ref (bd 11)])), (bd 1, .inl (ks 0, 112, .inr (.inl (rs_va u2)))), (bd 2, .inl (ks 0, 112, .inr (.inl (rs_ke u2)))), (bd 3, .inl (ks 0, 448, .inr (.inl (rs_lo u2)))), (bd 4, .inl (ks 1, 112, .inl (rs_ls u2))), (bd 5, .inl (ks 2, 14, .inl (rs_fd u2))), (bd 6, .inl (ks 0, 31, .inr (.inl (rs_wk u2)))), (bd 7, .inl (ks 2, 2, .inl (rs_tk u2))), (bd 8, .inl (ks 0, 8, .inr (.inl (rs_co u2)))), (bd 9, .inl (ks 1, 2, .inl (rs_pr u2))), (bd 10, .inl (ks 0, 16, .inr (.inl (rs_ky u2)))), (bd 11, .inl (ks 0, 16, .inr (.inl (rs_nu u2))))] H := hP
            have hD : va_D A [(bd 0, .inr (3, [.int 1, .ref (bd 1), .ref (bd 2), .ref (bd 3), .ref (bd 4), .ref (bd 5), .int (rs_so u2), .int (rs_wi u2), .ref (bd 6), .int (rs_st u2), .int (rs_fl u2), .int (rs_fe u2), .int (rs_cr u2), .int (rs_sp u2), .int (rs_sd u2), .int (rs_so u2), .ref (bd 7), .ref (bd 8), .ref (bd 9), .ref (bd 10), .ref (bd 11)])), (bd 1, .inl (ks 0, 112, .inr (.inl (rs_va u2)))), (bd 2, .inl (ks 0, 112, .inr (.inl (rs_ke u2)))), (bd 3, .inl (ks 0, 448, .inr (.inl (rs_lo u2)))), (bd 4, .inl (ks 1, 112, .inl (rs_ls u2))), (bd 5, .inl (ks 2, 14, .inl (rs_fd u2))), (bd 6, .inl (ks 0, 31, .inr (.inl (rs_wk u2)))), (bd 7, .inl (ks 2, 2, .inl (rs_tk u2))), (bd 8, .inl (ks 0, 8, .inr (.inl (rs_co u2)))), (bd 9, .inl (ks 1, 2, .inl (rs_pr u2))), (bd 10, .inl (ks 0, 16, .inr (.inl (rs_ky u2)))), (bd 11, .inl (ks 0, 16, .inr (.inl (rs_nu u2))))] := hD
            refine lv_aload_n hx hb dR_recover_138 rfl (lv_at hl 3 rfl) ?_
            refine va_get (D := D) (ci := 3) (v := .int (rs_so u2)) (C := RR) (T := TR) (N := 21) hx hb ht uw_R hown hK hP 0 rfl rfl 15 (by decide) (ht _ tb_554) (fun _ h => h) rfl dR_recover_139 ?_
            refine lv_if_eq (tgt := 149) hx hb dR_recover_142 rfl (fun h => absurd h h6) (fun _ => ?_)
            refine lv_iconst (v := 0) hx hb dR_recover_145 (by decide) ?_
            refine lv_goto (tgt := 150) hx hb dR_recover_146 rfl ?_
            exact endI hx hb hr hlk hK (1, rs_va u2, rs_ke u2, rs_lo u2, rs_ls u2, rs_fd u2, rs_so u2, rs_wi u2, rs_wk u2, rs_st u2, rs_fl u2, rs_fe u2, rs_cr u2, rs_sp u2, rs_sd u2, rs_so u2, rs_tk u2, rs_co u2, rs_pr u2, rs_ky u2, rs_nu u2) (Or.inr (Or.inr ⟨hd1, hn1, by rw [← hrr, ← hI3]; unfold rs_rfin; rw [if_neg h6], by rw [← hrr, ← hI3]; exact (if_neg h6).symm⟩)) hP hD hS dR_recover_150
      | succ k9 ih =>
        intro hk9 c1 S hI H locs ls hl hP hD hS
        rw [pk_m1] at hl
        have hlt : k9 < n9 := hk9
        have h31 := (hlg.2.2.1 k9 hlt).1
        refine lv_iload_n hx hb dR_recover_45 rfl (lv_at hl 0 rfl) ?_
        refine lv_if_lt (tgt := 100) hx hb dR_recover_46 rfl (fun h => absurd h (nI_pos (by omega))) (fun _ => ?_)
        refine lv_aload_n hx hb dR_recover_49 rfl (lv_at hl 3 rfl) ?_
        refine va_get (D := D) (ci := 3) (v := .int (rs_so c1)) (C := RR) (T := TR) (N := 21) hx hb ht uw_R hown hK hP 0 rfl rfl 15 (by decide) (ht _ tb_554) (fun _ h => h) rfl dR_recover_50 ?_
        refine lv_if_ne (tgt := 100) hx hb dR_recover_53 rfl (fun hs1 => ?_) (fun hs0 => ?_)
        · skip
          have hI := hI.stop hs1
          refine lv_iload_n hx hb dR_recover_100 rfl (lv_at hl 2 rfl) ?_
          refine lv_if_le (tgt := 114) hx hb dR_recover_101 rfl (fun hn0 => ?_) (fun hn1 => ?_)
          · skip
            have hn0 : n9 = 0 := Nat.le_zero.mp ((nI_leI (b := 0) (by omega) (by decide)).mp hn0)
            have e9 : c1 = rs_rc r0 := hI.2.2.2.2 hn0
            have hso : rs_so c1 = 0 ∨ rs_so c1 = 1 := by rw [e9]; exact Or.inl rfl
            refine lv_aload_n hx hb dR_recover_114 rfl (lv_at hl 3 rfl) ?_
            refine lv_aload_n hx hb dR_recover_115 rfl (lv_at hl 3 rfl) ?_
            refine va_get (D := D) (ci := 3) (v := .int (rs_so c1)) (C := RR) (T := TR) (N := 21) hx hb ht uw_R hown hK hP 0 rfl rfl 15 (by decide) (ht _ tb_554) (fun _ h => h) rfl dR_recover_116 ?_
            refine va_put (D := D) (ci := 3) (v := .int (rs_so c1)) (ty := .boolean) (C := RR) (T := TR) (N := 21) hx hb ht uw_R ty_R ty_R_ok nm_R hown hK hP hD hS 0 rfl rfl 6 (by decide) (ht _ tb_545) (fun _ h => h) rfl (by decide +kernel) (so_nar hso) (so_fit hso) (Nat.le_of_ble_eq_true rfl) dR_recover_119 (fun H locs hP hD hS => ?_)
            have hP : va_P D vwCl [(bd 0, .inr (3, [.int (rs_th c1), .ref (bd 1), .ref (bd 2), .ref (bd 3), .ref (bd 4), .ref (bd 5), .int (rs_so c1), .int (rs_wi c1), .ref (bd 6), .int (rs_st c1), .int (rs_fl c1), .int (rs_fe c1), .int (rs_cr c1), .int (rs_sp c1), .int (rs_sd c1), .int (rs_so c1), .ref (bd 7), .ref (bd 8), .ref (bd 9), .ref (bd 10), .ref (bd 11)])), (bd 1, .inl (ks 0, 112, .inr (.inl (rs_va c1)))), (bd 2, .inl (ks 0, 112, .inr (.inl (rs_ke c1)))), (bd 3, .inl (ks 0, 448, .inr (.inl (rs_lo c1)))), (bd 4, .inl (ks 1, 112, .inl (rs_ls c1))), (bd 5, .inl (ks 2, 14, .inl (rs_fd c1))), (bd 6, .inl (ks 0, 31, .inr (.inl (rs_wk c1)))), (bd 7, .inl (ks 2, 2, .inl (rs_tk c1))), (bd 8, .inl (ks 0, 8, .inr (.inl (rs_co c1)))), (bd 9, .inl (ks 1, 2, .inl (rs_pr c1))), (bd 10, .inl (ks 0, 16, .inr (.inl (rs_ky c1)))), (bd 11, .inl (ks 0, 16, .inr (.inl (rs_nu c1))))] H := hP
            have hD : va_D A [(bd 0, .inr (3, [.int (rs_th c1), .ref (bd 1), .ref (bd 2), .ref (bd 3), .ref (bd 4), .ref (bd 5), .int (rs_so c1), .int (rs_wi c1), .ref (bd 6), .int (rs_st c1), .int (rs_fl c1), .int (rs_fe c1), .int (rs_cr c1), .int (rs_sp c1), .int (rs_sd c1), .int (rs_so c1), .ref (bd 7), .ref (bd 8), .ref (bd 9), .ref (bd 10), .ref (bd 11)])), (bd 1, .inl (ks 0, 112, .inr (.inl (rs_va c1)))), (bd 2, .inl (ks 0, 112, .inr (.inl (rs_ke c1)))), (bd 3, .inl (ks 0, 448, .inr (.inl (rs_lo c1)))), (bd 4, .inl (ks 1, 112, .inl (rs_ls c1))), (bd 5, .inl (ks 2, 14, .inl (rs_fd c1))), (bd 6, .inl (ks 0, 31, .inr (.inl (rs_wk c1)))), (bd 7, .inl (ks 2, 2, .inl (rs_tk c1))), (bd 8, .inl (ks 0, 8, .inr (.inl (rs_co c1)))), (bd 9, .inl (ks 1, 2, .inl (rs_pr c1))), (bd 10, .inl (ks 0, 16, .inr (.inl (rs_ky c1)))), (bd 11, .inl (ks 0, 16, .inr (.inl (rs_nu c1))))] := hD
            refine lv_aload_n hx hb dR_recover_122 rfl (lv_at hl 3 rfl) ?_
            refine lv_aload_n hx hb dR_recover_123 rfl (lv_at hl 3 rfl) ?_
            refine va_get (D := D) (ci := 3) (v := .int (rs_so c1)) (C := RR) (T := TR) (N := 21) hx hb ht uw_R hown hK hP 0 rfl rfl 15 (by decide) (ht _ tb_554) (fun _ h => h) rfl dR_recover_124 ?_
            refine lv_if_eq (tgt := 134) hx hb dR_recover_127 rfl (fun h5 => ?_) (fun h6 => ?_)
            · skip
              refine lv_iconst (v := 0) hx hb dR_recover_134 (by decide) ?_
              refine va_put (D := D) (ci := 3) (v := .int 0) (ty := .int) (C := RR) (T := TR) (N := 21) hx hb ht uw_R ty_R ty_R_ok nm_R hown hK hP hD hS 0 rfl rfl 0 (by decide) (ht _ tb_539) (fun _ h => h) rfl (by decide +kernel) rfl rfl (Nat.le_of_ble_eq_true rfl) dR_recover_135 (fun H locs hP hD hS => ?_)
              have hP : va_P D vwCl [(bd 0, .inr (3, [.int 0, .ref (bd 1), .ref (bd 2), .ref (bd 3), .ref (bd 4), .ref (bd 5), .int (rs_so c1), .int (rs_wi c1), .ref (bd 6), .int (rs_st c1), .int (rs_fl c1), .int (rs_fe c1), .int (rs_cr c1), .int (rs_sp c1), .int (rs_sd c1), .int (rs_so c1), .ref (bd 7), .ref (bd 8), .ref (bd 9), .ref (bd 10), .ref (bd 11)])), (bd 1, .inl (ks 0, 112, .inr (.inl (rs_va c1)))), (bd 2, .inl (ks 0, 112, .inr (.inl (rs_ke c1)))), (bd 3, .inl (ks 0, 448, .inr (.inl (rs_lo c1)))), (bd 4, .inl (ks 1, 112, .inl (rs_ls c1))), (bd 5, .inl (ks 2, 14, .inl (rs_fd c1))), (bd 6, .inl (ks 0, 31, .inr (.inl (rs_wk c1)))), (bd 7, .inl (ks 2, 2, .inl (rs_tk c1))), (bd 8, .inl (ks 0, 8, .inr (.inl (rs_co c1)))), (bd 9, .inl (ks 1, 2, .inl (rs_pr c1))), (bd 10, .inl (ks 0, 16, .inr (.inl (rs_ky c1)))), (bd 11, .inl (ks 0, 16, .inr (.inl (rs_nu c1))))] H := hP
              have hD : va_D A [(bd 0, .inr (3, [.int 0, .ref (bd 1), .ref (bd 2), .ref (bd 3), .ref (bd 4), .ref (bd 5), .int (rs_so c1), .int (rs_wi c1), .ref (bd 6), .int (rs_st c1), .int (rs_fl c1), .int (rs_fe c1), .int (rs_cr c1), .int (rs_sp c1), .int (rs_sd c1), .int (rs_so c1), .ref (bd 7), .ref (bd 8), .ref (bd 9), .ref (bd 10), .ref (bd 11)])), (bd 1, .inl (ks 0, 112, .inr (.inl (rs_va c1)))), (bd 2, .inl (ks 0, 112, .inr (.inl (rs_ke c1)))), (bd 3, .inl (ks 0, 448, .inr (.inl (rs_lo c1)))), (bd 4, .inl (ks 1, 112, .inl (rs_ls c1))), (bd 5, .inl (ks 2, 14, .inl (rs_fd c1))), (bd 6, .inl (ks 0, 31, .inr (.inl (rs_wk c1)))), (bd 7, .inl (ks 2, 2, .inl (rs_tk c1))), (bd 8, .inl (ks 0, 8, .inr (.inl (rs_co c1)))), (bd 9, .inl (ks 1, 2, .inl (rs_pr c1))), (bd 10, .inl (ks 0, 16, .inr (.inl (rs_ky c1)))), (bd 11, .inl (ks 0, 16, .inr (.inl (rs_nu c1))))] := hD
              refine lv_aload_n hx hb dR_recover_138 rfl (lv_at hl 3 rfl) ?_
              refine va_get (D := D) (ci := 3) (v := .int (rs_so c1)) (C := RR) (T := TR) (N := 21) hx hb ht uw_R hown hK hP 0 rfl rfl 15 (by decide) (ht _ tb_554) (fun _ h => h) rfl dR_recover_139 ?_
              refine lv_if_eq (tgt := 149) hx hb dR_recover_142 rfl (fun _ => ?_) (fun h => absurd h5 h)
              refine lv_iload_n hx hb dR_recover_149 rfl (lv_at hl 2 rfl) ?_
              exact endI hx hb hr hlk hK (0, rs_va c1, rs_ke c1, rs_lo c1, rs_ls c1, rs_fd c1, rs_so c1, rs_wi c1, rs_wk c1, rs_st c1, rs_fl c1, rs_fe c1, rs_cr c1, rs_sp c1, rs_sd c1, rs_so c1, rs_tk c1, rs_co c1, rs_pr c1, rs_ky c1, rs_nu c1) (Or.inr (Or.inl ⟨hd1, hn0, by rw [hn0]; rfl, by rw [e9]; rfl⟩)) hP hD hS dR_recover_150
            · skip
              refine lv_iconst (v := 1) hx hb dR_recover_130 (by decide) ?_
              refine lv_goto (tgt := 135) hx hb dR_recover_131 rfl ?_
              refine va_put (D := D) (ci := 3) (v := .int 1) (ty := .int) (C := RR) (T := TR) (N := 21) hx hb ht uw_R ty_R ty_R_ok nm_R hown hK hP hD hS 0 rfl rfl 0 (by decide) (ht _ tb_539) (fun _ h => h) rfl (by decide +kernel) rfl rfl (Nat.le_of_ble_eq_true rfl) dR_recover_135 (fun H locs hP hD hS => ?_)
              have hP : va_P D vwCl [(bd 0, .inr (3, [.int 1, .ref (bd 1), .ref (bd 2), .ref (bd 3), .ref (bd 4), .ref (bd 5), .int (rs_so c1), .int (rs_wi c1), .ref (bd 6), .int (rs_st c1), .int (rs_fl c1), .int (rs_fe c1), .int (rs_cr c1), .int (rs_sp c1), .int (rs_sd c1), .int (rs_so c1), .ref (bd 7), .ref (bd 8), .ref (bd 9), .ref (bd 10), .ref (bd 11)])), (bd 1, .inl (ks 0, 112, .inr (.inl (rs_va c1)))), (bd 2, .inl (ks 0, 112, .inr (.inl (rs_ke c1)))), (bd 3, .inl (ks 0, 448, .inr (.inl (rs_lo c1)))), (bd 4, .inl (ks 1, 112, .inl (rs_ls c1))), (bd 5, .inl (ks 2, 14, .inl (rs_fd c1))), (bd 6, .inl (ks 0, 31, .inr (.inl (rs_wk c1)))), (bd 7, .inl (ks 2, 2, .inl (rs_tk c1))), (bd 8, .inl (ks 0, 8, .inr (.inl (rs_co c1)))), (bd 9, .inl (ks 1, 2, .inl (rs_pr c1))), (bd 10, .inl (ks 0, 16, .inr (.inl (rs_ky c1)))), (bd 11, .inl (ks 0, 16, .inr (.inl (rs_nu c1))))] H := hP
              have hD : va_D A [(bd 0, .inr (3, [.int 1, .ref (bd 1), .ref (bd 2), .ref (bd 3), .ref (bd 4), .ref (bd 5), .int (rs_so c1), .int (rs_wi c1), .ref (bd 6), .int (rs_st c1), .int (rs_fl c1), .int (rs_fe c1), .int (rs_cr c1), .int (rs_sp c1), .int (rs_sd c1), .int (rs_so c1), .ref (bd 7), .ref (bd 8), .ref (bd 9), .ref (bd 10), .ref (bd 11)])), (bd 1, .inl (ks 0, 112, .inr (.inl (rs_va c1)))), (bd 2, .inl (ks 0, 112, .inr (.inl (rs_ke c1)))), (bd 3, .inl (ks 0, 448, .inr (.inl (rs_lo c1)))), (bd 4, .inl (ks 1, 112, .inl (rs_ls c1))), (bd 5, .inl (ks 2, 14, .inl (rs_fd c1))), (bd 6, .inl (ks 0, 31, .inr (.inl (rs_wk c1)))), (bd 7, .inl (ks 2, 2, .inl (rs_tk c1))), (bd 8, .inl (ks 0, 8, .inr (.inl (rs_co c1)))), (bd 9, .inl (ks 1, 2, .inl (rs_pr c1))), (bd 10, .inl (ks 0, 16, .inr (.inl (rs_ky c1)))), (bd 11, .inl (ks 0, 16, .inr (.inl (rs_nu c1))))] := hD
              refine lv_aload_n hx hb dR_recover_138 rfl (lv_at hl 3 rfl) ?_
              refine va_get (D := D) (ci := 3) (v := .int (rs_so c1)) (C := RR) (T := TR) (N := 21) hx hb ht uw_R hown hK hP 0 rfl rfl 15 (by decide) (ht _ tb_554) (fun _ h => h) rfl dR_recover_139 ?_
              refine lv_if_eq (tgt := 149) hx hb dR_recover_142 rfl (fun h => absurd h h6) (fun _ => ?_)
              refine lv_iconst (v := 0) hx hb dR_recover_145 (by decide) ?_
              refine lv_goto (tgt := 150) hx hb dR_recover_146 rfl ?_
              exact endI hx hb hr hlk hK (1, rs_va c1, rs_ke c1, rs_lo c1, rs_ls c1, rs_fd c1, rs_so c1, rs_wi c1, rs_wk c1, rs_st c1, rs_fl c1, rs_fe c1, rs_cr c1, rs_sp c1, rs_sd c1, rs_so c1, rs_tk c1, rs_co c1, rs_pr c1, rs_ky c1, rs_nu c1) (absurd (show rs_so c1 = 0 by rw [e9]; rfl) h6) hP hD hS dR_recover_150
          · skip
            have hn1 : n9 ≠ 0 := fun z => hn1 (by rw [z]; decide)
            refine lv_aload_n hx hb dR_recover_104 rfl (lv_at hl 3 rfl) ?_
            refine lv_iload_n hx hb dR_recover_105 rfl (lv_at hl 1 rfl) ?_
            refine gcv (wr := []) [0, 1, 2, 3, 4, 5, 6, 7, 8, 9, 10, 11] [] rfl rfl rfl (by decide) (va_runV (As := [.int (sb S)]) (rest := []) F (kR_settle l D ks bd c1 (sb S) H.size hI.1.lc) (cwV (C := RR) 1 ht (tb_v tb_652 tb_654 tb_sR_settle tb_4 tb_655) rfl rfl rfl ⟨rfl, by decide, by decide, by decide +kernel⟩ ⟨by decide, by decide⟩) (preV 0 3 rfl rfl rfl hK hN hP hD [0, 1, 2, 3, 4, 5, 6, 7, 8, 9, 10, 11] rfl rfl) rfl rfl hl.1 rfl (lv_room (Nat.le_of_ble_eq_true rfl)) dR_recover_106 (by decide)) hP hD hS hA (fun u3 H locs q3 hP hD hS => ?_)
            have hP : va_P D vwCl [(bd 0, .inr (3, [.int (rs_th u3), .ref (bd 1), .ref (bd 2), .ref (bd 3), .ref (bd 4), .ref (bd 5), .int (rs_dn u3), .int (rs_wi u3), .ref (bd 6), .int (rs_st u3), .int (rs_fl u3), .int (rs_fe u3), .int (rs_cr u3), .int (rs_sp u3), .int (rs_sd u3), .int (rs_so u3), .ref (bd 7), .ref (bd 8), .ref (bd 9), .ref (bd 10), .ref (bd 11)])), (bd 1, .inl (ks 0, 112, .inr (.inl (rs_va u3)))), (bd 2, .inl (ks 0, 112, .inr (.inl (rs_ke u3)))), (bd 3, .inl (ks 0, 448, .inr (.inl (rs_lo u3)))), (bd 4, .inl (ks 1, 112, .inl (rs_ls u3))), (bd 5, .inl (ks 2, 14, .inl (rs_fd u3))), (bd 6, .inl (ks 0, 31, .inr (.inl (rs_wk u3)))), (bd 7, .inl (ks 2, 2, .inl (rs_tk u3))), (bd 8, .inl (ks 0, 8, .inr (.inl (rs_co u3)))), (bd 9, .inl (ks 1, 2, .inl (rs_pr u3))), (bd 10, .inl (ks 0, 16, .inr (.inl (rs_ky u3)))), (bd 11, .inl (ks 0, 16, .inr (.inl (rs_nu u3))))] H := hP
            have hD : va_D A [(bd 0, .inr (3, [.int (rs_th u3), .ref (bd 1), .ref (bd 2), .ref (bd 3), .ref (bd 4), .ref (bd 5), .int (rs_dn u3), .int (rs_wi u3), .ref (bd 6), .int (rs_st u3), .int (rs_fl u3), .int (rs_fe u3), .int (rs_cr u3), .int (rs_sp u3), .int (rs_sd u3), .int (rs_so u3), .ref (bd 7), .ref (bd 8), .ref (bd 9), .ref (bd 10), .ref (bd 11)])), (bd 1, .inl (ks 0, 112, .inr (.inl (rs_va u3)))), (bd 2, .inl (ks 0, 112, .inr (.inl (rs_ke u3)))), (bd 3, .inl (ks 0, 448, .inr (.inl (rs_lo u3)))), (bd 4, .inl (ks 1, 112, .inl (rs_ls u3))), (bd 5, .inl (ks 2, 14, .inl (rs_fd u3))), (bd 6, .inl (ks 0, 31, .inr (.inl (rs_wk u3)))), (bd 7, .inl (ks 2, 2, .inl (rs_tk u3))), (bd 8, .inl (ks 0, 8, .inr (.inl (rs_co u3)))), (bd 9, .inl (ks 1, 2, .inl (rs_pr u3))), (bd 10, .inl (ks 0, 16, .inr (.inl (rs_ky u3)))), (bd 11, .inl (ks 0, 16, .inr (.inl (rs_nu u3))))] := hD
            have hI2 : RWy (rnd [(40, 0)]) rr (rs_wk r0) u3 := hI.se q3
            refine lv_aload_n hx hb dR_recover_109 rfl (lv_at hl 3 rfl) ?_
            refine lv_lconst (v := 0) hx hb dR_recover_110 (by decide) ?_
            refine gcv (wr := []) [0, 1, 2, 3, 4, 5, 6, 7, 8, 9, 10, 11] [] rfl rfl rfl (by decide) (va_runV (As := [.long (0 : Int64)]) (rest := []) F (kR_storeCount l D ks bd u3 0 H.size (RWy.cnt (x := 0) (os := []) (by rw [List.append_nil]; exact hI2)) hI2.lc) (cwV (C := RR) 1 ht (tb_v tb_648 tb_650 tb_sR_storeCount tb_4 tb_651) rfl rfl rfl ⟨rfl, by decide, by decide, by decide +kernel⟩ ⟨by decide, by decide⟩) (preV 0 3 rfl rfl rfl hK hN hP hD [0, 1, 2, 3, 4, 5, 6, 7, 8, 9, 10, 11] rfl rfl) rfl rfl hl.1 rfl (lv_room (Nat.le_of_ble_eq_true rfl)) dR_recover_111 (by decide)) hP hD hS hA (fun u4 H locs q4 hP hD hS => ?_)
            have hP : va_P D vwCl [(bd 0, .inr (3, [.int (rs_th u4), .ref (bd 1), .ref (bd 2), .ref (bd 3), .ref (bd 4), .ref (bd 5), .int (rs_dn u4), .int (rs_wi u4), .ref (bd 6), .int (rs_st u4), .int (rs_fl u4), .int (rs_fe u4), .int (rs_cr u4), .int (rs_sp u4), .int (rs_sd u4), .int (rs_so u4), .ref (bd 7), .ref (bd 8), .ref (bd 9), .ref (bd 10), .ref (bd 11)])), (bd 1, .inl (ks 0, 112, .inr (.inl (rs_va u4)))), (bd 2, .inl (ks 0, 112, .inr (.inl (rs_ke u4)))), (bd 3, .inl (ks 0, 448, .inr (.inl (rs_lo u4)))), (bd 4, .inl (ks 1, 112, .inl (rs_ls u4))), (bd 5, .inl (ks 2, 14, .inl (rs_fd u4))), (bd 6, .inl (ks 0, 31, .inr (.inl (rs_wk u4)))), (bd 7, .inl (ks 2, 2, .inl (rs_tk u4))), (bd 8, .inl (ks 0, 8, .inr (.inl (rs_co u4)))), (bd 9, .inl (ks 1, 2, .inl (rs_pr u4))), (bd 10, .inl (ks 0, 16, .inr (.inl (rs_ky u4)))), (bd 11, .inl (ks 0, 16, .inr (.inl (rs_nu u4))))] H := hP
            have hD : va_D A [(bd 0, .inr (3, [.int (rs_th u4), .ref (bd 1), .ref (bd 2), .ref (bd 3), .ref (bd 4), .ref (bd 5), .int (rs_dn u4), .int (rs_wi u4), .ref (bd 6), .int (rs_st u4), .int (rs_fl u4), .int (rs_fe u4), .int (rs_cr u4), .int (rs_sp u4), .int (rs_sd u4), .int (rs_so u4), .ref (bd 7), .ref (bd 8), .ref (bd 9), .ref (bd 10), .ref (bd 11)])), (bd 1, .inl (ks 0, 112, .inr (.inl (rs_va u4)))), (bd 2, .inl (ks 0, 112, .inr (.inl (rs_ke u4)))), (bd 3, .inl (ks 0, 448, .inr (.inl (rs_lo u4)))), (bd 4, .inl (ks 1, 112, .inl (rs_ls u4))), (bd 5, .inl (ks 2, 14, .inl (rs_fd u4))), (bd 6, .inl (ks 0, 31, .inr (.inl (rs_wk u4)))), (bd 7, .inl (ks 2, 2, .inl (rs_tk u4))), (bd 8, .inl (ks 0, 8, .inr (.inl (rs_co u4)))), (bd 9, .inl (ks 1, 2, .inl (rs_pr u4))), (bd 10, .inl (ks 0, 16, .inr (.inl (rs_ky u4)))), (bd 11, .inl (ks 0, 16, .inr (.inl (rs_nu u4))))] := hD
            have hI3 : u4 = rr := by rw [q4, ro_cnt]; exact hI2.2.1
            have hso : rs_so u4 = 0 ∨ rs_so u4 = 1 := by rw [hI3]; exact hsr
            refine lv_aload_n hx hb dR_recover_114 rfl (lv_at hl 3 rfl) ?_
            refine lv_aload_n hx hb dR_recover_115 rfl (lv_at hl 3 rfl) ?_
            refine va_get (D := D) (ci := 3) (v := .int (rs_so u4)) (C := RR) (T := TR) (N := 21) hx hb ht uw_R hown hK hP 0 rfl rfl 15 (by decide) (ht _ tb_554) (fun _ h => h) rfl dR_recover_116 ?_
            refine va_put (D := D) (ci := 3) (v := .int (rs_so u4)) (ty := .boolean) (C := RR) (T := TR) (N := 21) hx hb ht uw_R ty_R ty_R_ok nm_R hown hK hP hD hS 0 rfl rfl 6 (by decide) (ht _ tb_545) (fun _ h => h) rfl (by decide +kernel) (so_nar hso) (so_fit hso) (Nat.le_of_ble_eq_true rfl) dR_recover_119 (fun H locs hP hD hS => ?_)
            have hP : va_P D vwCl [(bd 0, .inr (3, [.int (rs_th u4), .ref (bd 1), .ref (bd 2), .ref (bd 3), .ref (bd 4), .ref (bd 5), .int (rs_so u4), .int (rs_wi u4), .ref (bd 6), .int (rs_st u4), .int (rs_fl u4), .int (rs_fe u4), .int (rs_cr u4), .int (rs_sp u4), .int (rs_sd u4), .int (rs_so u4), .ref (bd 7), .ref (bd 8), .ref (bd 9), .ref (bd 10), .ref (bd 11)])), (bd 1, .inl (ks 0, 112, .inr (.inl (rs_va u4)))), (bd 2, .inl (ks 0, 112, .inr (.inl (rs_ke u4)))), (bd 3, .inl (ks 0, 448, .inr (.inl (rs_lo u4)))), (bd 4, .inl (ks 1, 112, .inl (rs_ls u4))), (bd 5, .inl (ks 2, 14, .inl (rs_fd u4))), (bd 6, .inl (ks 0, 31, .inr (.inl (rs_wk u4)))), (bd 7, .inl (ks 2, 2, .inl (rs_tk u4))), (bd 8, .inl (ks 0, 8, .inr (.inl (rs_co u4)))), (bd 9, .inl (ks 1, 2, .inl (rs_pr u4))), (bd 10, .inl (ks 0, 16, .inr (.inl (rs_ky u4)))), (bd 11, .inl (ks 0, 16, .inr (.inl (rs_nu u4))))] H := hP
            have hD : va_D A [(bd 0, .inr (3, [.int (rs_th u4), .ref (bd 1), .ref (bd 2), .ref (bd 3), .ref (bd 4), .ref (bd 5), .int (rs_so u4), .int (rs_wi u4), .ref (bd 6), .int (rs_st u4), .int (rs_fl u4), .int (rs_fe u4), .int (rs_cr u4), .int (rs_sp u4), .int (rs_sd u4), .int (rs_so u4), .ref (bd 7), .ref (bd 8), .ref (bd 9), .ref (bd 10), .ref (bd 11)])), (bd 1, .inl (ks 0, 112, .inr (.inl (rs_va u4)))), (bd 2, .inl (ks 0, 112, .inr (.inl (rs_ke u4)))), (bd 3, .inl (ks 0, 448, .inr (.inl (rs_lo u4)))), (bd 4, .inl (ks 1, 112, .inl (rs_ls u4))), (bd 5, .inl (ks 2, 14, .inl (rs_fd u4))), (bd 6, .inl (ks 0, 31, .inr (.inl (rs_wk u4)))), (bd 7, .inl (ks 2, 2, .inl (rs_tk u4))), (bd 8, .inl (ks 0, 8, .inr (.inl (rs_co u4)))), (bd 9, .inl (ks 1, 2, .inl (rs_pr u4))), (bd 10, .inl (ks 0, 16, .inr (.inl (rs_ky u4)))), (bd 11, .inl (ks 0, 16, .inr (.inl (rs_nu u4))))] := hD
            refine lv_aload_n hx hb dR_recover_122 rfl (lv_at hl 3 rfl) ?_
            refine lv_aload_n hx hb dR_recover_123 rfl (lv_at hl 3 rfl) ?_
            refine va_get (D := D) (ci := 3) (v := .int (rs_so u4)) (C := RR) (T := TR) (N := 21) hx hb ht uw_R hown hK hP 0 rfl rfl 15 (by decide) (ht _ tb_554) (fun _ h => h) rfl dR_recover_124 ?_
            refine lv_if_eq (tgt := 134) hx hb dR_recover_127 rfl (fun h5 => ?_) (fun h6 => ?_)
            · skip
              refine lv_iconst (v := 0) hx hb dR_recover_134 (by decide) ?_
              refine va_put (D := D) (ci := 3) (v := .int 0) (ty := .int) (C := RR) (T := TR) (N := 21) hx hb ht uw_R ty_R ty_R_ok nm_R hown hK hP hD hS 0 rfl rfl 0 (by decide) (ht _ tb_539) (fun _ h => h) rfl (by decide +kernel) rfl rfl (Nat.le_of_ble_eq_true rfl) dR_recover_135 (fun H locs hP hD hS => ?_)
              have hP : va_P D vwCl [(bd 0, .inr (3, [.int 0, .ref (bd 1), .ref (bd 2), .ref (bd 3), .ref (bd 4), .ref (bd 5), .int (rs_so u4), .int (rs_wi u4), .ref (bd 6), .int (rs_st u4), .int (rs_fl u4), .int (rs_fe u4), .int (rs_cr u4), .int (rs_sp u4), .int (rs_sd u4), .int (rs_so u4), .ref (bd 7), .ref (bd 8), .ref (bd 9), .ref (bd 10), .ref (bd 11)])), (bd 1, .inl (ks 0, 112, .inr (.inl (rs_va u4)))), (bd 2, .inl (ks 0, 112, .inr (.inl (rs_ke u4)))), (bd 3, .inl (ks 0, 448, .inr (.inl (rs_lo u4)))), (bd 4, .inl (ks 1, 112, .inl (rs_ls u4))), (bd 5, .inl (ks 2, 14, .inl (rs_fd u4))), (bd 6, .inl (ks 0, 31, .inr (.inl (rs_wk u4)))), (bd 7, .inl (ks 2, 2, .inl (rs_tk u4))), (bd 8, .inl (ks 0, 8, .inr (.inl (rs_co u4)))), (bd 9, .inl (ks 1, 2, .inl (rs_pr u4))), (bd 10, .inl (ks 0, 16, .inr (.inl (rs_ky u4)))), (bd 11, .inl (ks 0, 16, .inr (.inl (rs_nu u4))))] H := hP
              have hD : va_D A [(bd 0, .inr (3, [.int 0, .ref (bd 1), .ref (bd 2), .ref (bd 3), .ref (bd 4), .ref (bd 5), .int (rs_so u4), .int (rs_wi u4), .ref (bd 6), .int (rs_st u4), .int (rs_fl u4), .int (rs_fe u4), .int (rs_cr u4), .int (rs_sp u4), .int (rs_sd u4), .int (rs_so u4), .ref (bd 7), .ref (bd 8), .ref (bd 9), .ref (bd 10), .ref (bd 11)])), (bd 1, .inl (ks 0, 112, .inr (.inl (rs_va u4)))), (bd 2, .inl (ks 0, 112, .inr (.inl (rs_ke u4)))), (bd 3, .inl (ks 0, 448, .inr (.inl (rs_lo u4)))), (bd 4, .inl (ks 1, 112, .inl (rs_ls u4))), (bd 5, .inl (ks 2, 14, .inl (rs_fd u4))), (bd 6, .inl (ks 0, 31, .inr (.inl (rs_wk u4)))), (bd 7, .inl (ks 2, 2, .inl (rs_tk u4))), (bd 8, .inl (ks 0, 8, .inr (.inl (rs_co u4)))), (bd 9, .inl (ks 1, 2, .inl (rs_pr u4))), (bd 10, .inl (ks 0, 16, .inr (.inl (rs_ky u4)))), (bd 11, .inl (ks 0, 16, .inr (.inl (rs_nu u4))))] := hD
              refine lv_aload_n hx hb dR_recover_138 rfl (lv_at hl 3 rfl) ?_
              refine va_get (D := D) (ci := 3) (v := .int (rs_so u4)) (C := RR) (T := TR) (N := 21) hx hb ht uw_R hown hK hP 0 rfl rfl 15 (by decide) (ht _ tb_554) (fun _ h => h) rfl dR_recover_139 ?_
              refine lv_if_eq (tgt := 149) hx hb dR_recover_142 rfl (fun _ => ?_) (fun h => absurd h5 h)
              refine lv_iload_n hx hb dR_recover_149 rfl (lv_at hl 2 rfl) ?_
              exact endI hx hb hr hlk hK (0, rs_va u4, rs_ke u4, rs_lo u4, rs_ls u4, rs_fd u4, rs_so u4, rs_wi u4, rs_wk u4, rs_st u4, rs_fl u4, rs_fe u4, rs_cr u4, rs_sp u4, rs_sd u4, rs_so u4, rs_tk u4, rs_co u4, rs_pr u4, rs_ky u4, rs_nu u4) (Or.inr (Or.inr ⟨hd1, hn1, by rw [← hrr, ← hI3]; unfold rs_rfin; rw [if_pos h5], by rw [← hrr, ← hI3]; exact (if_pos h5).symm⟩)) hP hD hS dR_recover_150
            · skip
              refine lv_iconst (v := 1) hx hb dR_recover_130 (by decide) ?_
              refine lv_goto (tgt := 135) hx hb dR_recover_131 rfl ?_
              refine va_put (D := D) (ci := 3) (v := .int 1) (ty := .int) (C := RR) (T := TR) (N := 21) hx hb ht uw_R ty_R ty_R_ok nm_R hown hK hP hD hS 0 rfl rfl 0 (by decide) (ht _ tb_539) (fun _ h => h) rfl (by decide +kernel) rfl rfl (Nat.le_of_ble_eq_true rfl) dR_recover_135 (fun H locs hP hD hS => ?_)
              have hP : va_P D vwCl [(bd 0, .inr (3, [.int 1, .ref (bd 1), .ref (bd 2), .ref (bd 3), .ref (bd 4), .ref (bd 5), .int (rs_so u4), .int (rs_wi u4), .ref (bd 6), .int (rs_st u4), .int (rs_fl u4), .int (rs_fe u4), .int (rs_cr u4), .int (rs_sp u4), .int (rs_sd u4), .int (rs_so u4), .ref (bd 7), .ref (bd 8), .ref (bd 9), .ref (bd 10), .ref (bd 11)])), (bd 1, .inl (ks 0, 112, .inr (.inl (rs_va u4)))), (bd 2, .inl (ks 0, 112, .inr (.inl (rs_ke u4)))), (bd 3, .inl (ks 0, 448, .inr (.inl (rs_lo u4)))), (bd 4, .inl (ks 1, 112, .inl (rs_ls u4))), (bd 5, .inl (ks 2, 14, .inl (rs_fd u4))), (bd 6, .inl (ks 0, 31, .inr (.inl (rs_wk u4)))), (bd 7, .inl (ks 2, 2, .inl (rs_tk u4))), (bd 8, .inl (ks 0, 8, .inr (.inl (rs_co u4)))), (bd 9, .inl (ks 1, 2, .inl (rs_pr u4))), (bd 10, .inl (ks 0, 16, .inr (.inl (rs_ky u4)))), (bd 11, .inl (ks 0, 16, .inr (.inl (rs_nu u4))))] H := hP
              have hD : va_D A [(bd 0, .inr (3, [.int 1, .ref (bd 1), .ref (bd 2), .ref (bd 3), .ref (bd 4), .ref (bd 5), .int (rs_so u4), .int (rs_wi u4), .ref (bd 6), .int (rs_st u4), .int (rs_fl u4), .int (rs_fe u4), .int (rs_cr u4), .int (rs_sp u4), .int (rs_sd u4), .int (rs_so u4), .ref (bd 7), .ref (bd 8), .ref (bd 9), .ref (bd 10), .ref (bd 11)])), (bd 1, .inl (ks 0, 112, .inr (.inl (rs_va u4)))), (bd 2, .inl (ks 0, 112, .inr (.inl (rs_ke u4)))), (bd 3, .inl (ks 0, 448, .inr (.inl (rs_lo u4)))), (bd 4, .inl (ks 1, 112, .inl (rs_ls u4))), (bd 5, .inl (ks 2, 14, .inl (rs_fd u4))), (bd 6, .inl (ks 0, 31, .inr (.inl (rs_wk u4)))), (bd 7, .inl (ks 2, 2, .inl (rs_tk u4))), (bd 8, .inl (ks 0, 8, .inr (.inl (rs_co u4)))), (bd 9, .inl (ks 1, 2, .inl (rs_pr u4))), (bd 10, .inl (ks 0, 16, .inr (.inl (rs_ky u4)))), (bd 11, .inl (ks 0, 16, .inr (.inl (rs_nu u4))))] := hD
              refine lv_aload_n hx hb dR_recover_138 rfl (lv_at hl 3 rfl) ?_
              refine va_get (D := D) (ci := 3) (v := .int (rs_so u4)) (C := RR) (T := TR) (N := 21) hx hb ht uw_R hown hK hP 0 rfl rfl 15 (by decide) (ht _ tb_554) (fun _ h => h) rfl dR_recover_139 ?_
              refine lv_if_eq (tgt := 149) hx hb dR_recover_142 rfl (fun h => absurd h h6) (fun _ => ?_)
              refine lv_iconst (v := 0) hx hb dR_recover_145 (by decide) ?_
              refine lv_goto (tgt := 150) hx hb dR_recover_146 rfl ?_
              exact endI hx hb hr hlk hK (1, rs_va u4, rs_ke u4, rs_lo u4, rs_ls u4, rs_fd u4, rs_so u4, rs_wi u4, rs_wk u4, rs_st u4, rs_fl u4, rs_fe u4, rs_cr u4, rs_sp u4, rs_sd u4, rs_so u4, rs_tk u4, rs_co u4, rs_pr u4, rs_ky u4, rs_nu u4) (Or.inr (Or.inr ⟨hd1, hn1, by rw [← hrr, ← hI3]; unfold rs_rfin; rw [if_neg h6], by rw [← hrr, ← hI3]; exact (if_neg h6).symm⟩)) hP hD hS dR_recover_150
        · skip
          refine lv_aload_n hx hb dR_recover_56 rfl (lv_at hl 3 rfl) ?_
          refine va_get (D := D) (ci := 3) (v := .ref (bd 1)) (C := RR) (T := TR) (N := 21) hx hb ht uw_R hown hK hP 0 rfl rfl 1 (by decide) (ht _ tb_540) (fun _ h => h) rfl dR_recover_57 ?_
          refine lv_bipush (v := nI 48) hx hb dR_recover_60 (by decide) ?_
          refine lv_iconst (v := nI 2) hx hb dR_recover_62 (by decide) ?_
          refine lv_iload_n hx hb dR_recover_63 rfl (lv_at hl 0 rfl) ?_
          refine lv_imul hx hb dR_recover_64 ?_
          refine lv_iadd hx hb dR_recover_65 ?_
          refine tp_i (nI (48 + 2 * k9)) (by rw [pk_mul, nI_add]) ?_
          refine ra_l hx hb hK hP 1 rfl (48 + 2 * k9) (by omega) (by decide) rfl dR_recover_66 ?_
          refine tp_l (lN (a9 k9)) ((hI.2.1 hs0 _ (by omega)).trans (hlg.2.2.1 k9 hlt).2.1) ?_
          refine lv_l2i (v := (nI (a9 k9))) hx hb dR_recover_67 (lN_i _) ?_
          refine lv_istore (lv' := [(4, .int (nI (a9 k9))), (3, .int (nI k9)), (2, .int (sb S)), (1, .int (nI n9)), (0, .ref (bd 0))]) hx hb dR_recover_68 hl (by decide) rfl (fun ls hl => ?_)
          refine lv_iload_n hx hb dR_recover_70 rfl (lv_at hl 2 rfl) ?_
          refine lv_iconst (v := 1) hx hb dR_recover_71 (by decide) ?_
          refine lv_iload hx hb dR_recover_72 (lv_at hl 0 rfl) ?_
          refine lv_ishl hx hb dR_recover_74 ?_
          refine lv_ior hx hb dR_recover_75 ?_
          refine tp_i (sb (S ++ [a9 k9])) (sb_s _ _) ?_
          refine lv_istore_n (lv' := [(2, .int (sb (S ++ [a9 k9]))), (4, .int (nI (a9 k9))), (3, .int (nI k9)), (1, .int (nI n9)), (0, .ref (bd 0))]) hx hb dR_recover_76 rfl hl (by decide) rfl (fun ls hl => ?_)
          refine lv_aload_n hx hb dR_recover_77 rfl (lv_at hl 4 rfl) ?_
          refine lv_iload hx hb dR_recover_78 (lv_at hl 1 rfl) ?_
          refine lv_aload_n hx hb dR_recover_80 rfl (lv_at hl 4 rfl) ?_
          refine va_get (D := D) (ci := 3) (v := .ref (bd 1)) (C := RR) (T := TR) (N := 21) hx hb ht uw_R hown hK hP 0 rfl rfl 1 (by decide) (ht _ tb_540) (fun _ h => h) rfl dR_recover_81 ?_
          refine lv_bipush (v := nI 49) hx hb dR_recover_84 (by decide) ?_
          refine lv_iconst (v := nI 2) hx hb dR_recover_86 (by decide) ?_
          refine lv_iload_n hx hb dR_recover_87 rfl (lv_at hl 2 rfl) ?_
          refine lv_imul hx hb dR_recover_88 ?_
          refine lv_iadd hx hb dR_recover_89 ?_
          refine tp_i (nI (49 + 2 * k9)) (by rw [pk_mul, nI_add]) ?_
          refine ra_l hx hb hK hP 1 rfl (49 + 2 * k9) (by omega) (by decide) rfl dR_recover_90 ?_
          refine tp_l (rs_va r0 (49 + 2 * k9)) (hI.2.1 hs0 _ (by omega)) ?_
          have hQ := hI.1.st
          refine gcv (wr := []) [0, 1, 2, 3, 4, 5, 6, 7, 8, 9, 10, 11] [] rfl rfl rfl (by decide) (va_runV (As := [.int (nI (a9 k9)), .long (rs_va r0 (49 + 2 * k9))]) (rest := []) F (kR_store l D ks bd c1 (a9 k9) (rs_va r0 (49 + 2 * k9)) H.size hQ.1 hQ.2 hI.1.lc) (cwV (C := RR) 2 ht (tb_v tb_627 tb_629 tb_sR_store tb_4 tb_630) rfl rfl rfl ⟨rfl, by decide, by decide, by decide +kernel⟩ ⟨by decide, by decide⟩) (preV 0 3 rfl rfl rfl hK hN hP hD [0, 1, 2, 3, 4, 5, 6, 7, 8, 9, 10, 11] rfl rfl) rfl rfl hl.1 rfl (lv_room (Nat.le_of_ble_eq_true rfl)) dR_recover_91 (by decide)) hP hD hS hA (fun u5 H locs q5 hP hD hS => ?_)
          have hP : va_P D vwCl [(bd 0, .inr (3, [.int (rs_th u5), .ref (bd 1), .ref (bd 2), .ref (bd 3), .ref (bd 4), .ref (bd 5), .int (rs_dn u5), .int (rs_wi u5), .ref (bd 6), .int (rs_st u5), .int (rs_fl u5), .int (rs_fe u5), .int (rs_cr u5), .int (rs_sp u5), .int (rs_sd u5), .int (rs_so u5), .ref (bd 7), .ref (bd 8), .ref (bd 9), .ref (bd 10), .ref (bd 11)])), (bd 1, .inl (ks 0, 112, .inr (.inl (rs_va u5)))), (bd 2, .inl (ks 0, 112, .inr (.inl (rs_ke u5)))), (bd 3, .inl (ks 0, 448, .inr (.inl (rs_lo u5)))), (bd 4, .inl (ks 1, 112, .inl (rs_ls u5))), (bd 5, .inl (ks 2, 14, .inl (rs_fd u5))), (bd 6, .inl (ks 0, 31, .inr (.inl (rs_wk u5)))), (bd 7, .inl (ks 2, 2, .inl (rs_tk u5))), (bd 8, .inl (ks 0, 8, .inr (.inl (rs_co u5)))), (bd 9, .inl (ks 1, 2, .inl (rs_pr u5))), (bd 10, .inl (ks 0, 16, .inr (.inl (rs_ky u5)))), (bd 11, .inl (ks 0, 16, .inr (.inl (rs_nu u5))))] H := hP
          have hD : va_D A [(bd 0, .inr (3, [.int (rs_th u5), .ref (bd 1), .ref (bd 2), .ref (bd 3), .ref (bd 4), .ref (bd 5), .int (rs_dn u5), .int (rs_wi u5), .ref (bd 6), .int (rs_st u5), .int (rs_fl u5), .int (rs_fe u5), .int (rs_cr u5), .int (rs_sp u5), .int (rs_sd u5), .int (rs_so u5), .ref (bd 7), .ref (bd 8), .ref (bd 9), .ref (bd 10), .ref (bd 11)])), (bd 1, .inl (ks 0, 112, .inr (.inl (rs_va u5)))), (bd 2, .inl (ks 0, 112, .inr (.inl (rs_ke u5)))), (bd 3, .inl (ks 0, 448, .inr (.inl (rs_lo u5)))), (bd 4, .inl (ks 1, 112, .inl (rs_ls u5))), (bd 5, .inl (ks 2, 14, .inl (rs_fd u5))), (bd 6, .inl (ks 0, 31, .inr (.inl (rs_wk u5)))), (bd 7, .inl (ks 2, 2, .inl (rs_tk u5))), (bd 8, .inl (ks 0, 8, .inr (.inl (rs_co u5)))), (bd 9, .inl (ks 1, 2, .inl (rs_pr u5))), (bd 10, .inl (ks 0, 16, .inr (.inl (rs_ky u5)))), (bd 11, .inl (ks 0, 16, .inr (.inl (rs_nu u5))))] := hD
          refine lv_iinc (k := 2) (x := (nI k9)) (v := (nI k9 + (-1))) (lv' := [(3, .int (nI k9 + (-1))), (2, .int (sb (S ++ [a9 k9]))), (4, .int (nI (a9 k9))), (1, .int (nI n9)), (0, .ref (bd 0))]) hx hb dR_recover_94 hl rfl (congrArg (nI k9 + ·) (by decide)) (by decide) rfl (fun ls hl => ?_)
          refine lv_goto (tgt := 45) hx hb dR_recover_97 rfl ?_
          have hl : lv_has ls 5 [(3, .int (nI k9 + (-1))), (2, .int (sb (S ++ [a9 k9]))), (1, .int (nI n9)), (0, .ref (bd 0))] := lv_sub hl [0, 1, 3, 4] rfl
          exact ih (by omega) u5 (S ++ [a9 k9]) (hI.go h31 hlt q5) H locs ls hl hP hD hS
    have hl : lv_has ls 5 [(3, .int (nI n9 + (-1))), (2, .int (sb ([]))), (1, .int (nI n9)), (0, .ref (bd 0))] := lv_sub hl [0, 1, 2, 3] rfl
    exact LOOP n9 (Nat.le_refl _) (rs_rc r0) [] hI0 H _ _ hl hP hD hS

abbrev ms0 : MS := (0, fun _ => 0, fun _ => 0, fun _ => 0, fun _ => 0, fun _ => 0, 0, 0, fun _ => 0, 0, 0, 0, 0, -1, 0, 0, fun _ => 0, fun _ => 0, fun _ => 0, fun _ => 0, fun _ => 0)
set_option maxHeartbeats 4000000 in
set_option maxRecDepth 100000 in
theorem kR_init (l : Launch) (D : va_G) (ks : Nat → ClassId) (h0 : Nat) (sz : Nat)  : Met l yR_init (.code yR_init cR_init 1 none :: TB) ({ frames := 1, cells := 11, slots := 873, locals := 12 } : Room) (Pcw D ks [.ref h0] sz [(h0, .inr (3, [.int 0, .null, .null, .null, .null, .null, .int 0, .int 0, .null, .int 0, .int 0, .int 0, .int 0, .int 0, .int 0, .int 0, .null, .null, .null, .null, .null]))]) (va_Qv (S := (Nat → Nat)) (fun u => u 0 = h0) (fun u t => Bw D ks (va_A [(h0, .inr (3, [.int 0, .null, .null, .null, .null, .null, .int 0, .int 0, .null, .int 0, .int 0, .int 0, .int 0, .int 0, .int 0, .int 0, .null, .null, .null, .null, .null]))] sz) ((fun u => wR ks u ms0) u) t) (va_A [(h0, .inr (3, [.int 0, .null, .null, .null, .null, .null, .int 0, .int 0, .null, .int 0, .int 0, .int 0, .int 0, .int 0, .int 0, .int 0, .null, .null, .null, .null, .null]))] sz)) 11 873 (va_A [(h0, .inr (3, [.int 0, .null, .null, .null, .null, .null, .int 0, .int 0, .null, .int 0, .int 0, .int 0, .int 0, .int 0, .int 0, .int 0, .null, .null, .null, .null, .null]))] sz) := by
  refine bodyVi (S := (Nat → Nat)) (wN := (fun u => wR ks u ms0)) (post := (fun u => u 0 = h0)) (by decide) rfl (Nat.le_of_ble_eq_true rfl) (fun p e s m below meth c A ls F hr hlk hK hN hA hsz hP hD hS hl hin => ?_)
  obtain ⟨hx, hb, hml, hown, ht⟩ := F
  have hown : s.vm.findClass RR = some m.cls := hown
  have F : CallFix p m c cR_init 1 s ([.ref h0] : List Value).toArray TB RR := ⟨hx, hb, hml, hown, ht⟩
  have hl : lv_has ls 1 [(0, .ref h0)] := hl
  refine lv_aload_n hx hb dR_init_0 rfl (lv_at hl 0 rfl) ?_
  refine W.objInit hx hb hown (ht _ tb_538) (ht _ tb_19) (ht _ tb_oi) rfl (by rw [hml]; exact hl.1) rfl dR_init_1 (Nat.le_of_ble_eq_true rfl) (Nat.le_of_ble_eq_true rfl) ?_
  refine W.eq (g2 := F0 m 4 ls []) rfl ?_
  refine lv_aload_n hx hb dR_init_4 rfl (lv_at hl 0 rfl) ?_
  refine lv_bipush (v := nI 112) hx hb dR_init_5 (by decide) ?_
  refine na_l (N := 112) hx hb (ht _ tb_63) hK hP hD hS hA rfl (by decide) (by decide) (by decide) (by decide) dR_init_7 (fun n7 H hP hD hS => ?_)
  have hP : va_P D vwCl [(h0, .inr (3, [.int 0, .null, .null, .null, .null, .null, .int 0, .int 0, .null, .int 0, .int 0, .int 0, .int 0, .int 0, .int 0, .int 0, .null, .null, .null, .null, .null])), (n7, .inl (ks 0, 112, .inr (.inl (fun _ => 0))))] H := hP
  have hD : va_D A [(h0, .inr (3, [.int 0, .null, .null, .null, .null, .null, .int 0, .int 0, .null, .int 0, .int 0, .int 0, .int 0, .int 0, .int 0, .int 0, .null, .null, .null, .null, .null])), (n7, .inl (ks 0, 112, .inr (.inl (fun _ => 0))))] := hD
  refine va_putF (D := D) (ci := 3) (v := .ref n7) (ty := .array .long) (C := RR) (T := TR) (N := 21) hx hb ht uw_R ty_R ty_R_ok nm_R hown hK hP hD hS 0 rfl rfl 1 (by decide) (ht _ tb_540) (fun _ h => h) rfl hin rfl (by decide +kernel) rfl rfl (Nat.le_of_ble_eq_true rfl) dR_init_9 (fun H locs hP hD hS => ?_)
  have hP : va_P D vwCl [(h0, .inr (3, [.int 0, .ref n7, .null, .null, .null, .null, .int 0, .int 0, .null, .int 0, .int 0, .int 0, .int 0, .int 0, .int 0, .int 0, .null, .null, .null, .null, .null])), (n7, .inl (ks 0, 112, .inr (.inl (fun _ => 0))))] H := hP
  have hD : va_D A [(h0, .inr (3, [.int 0, .ref n7, .null, .null, .null, .null, .int 0, .int 0, .null, .int 0, .int 0, .int 0, .int 0, .int 0, .int 0, .int 0, .null, .null, .null, .null, .null])), (n7, .inl (ks 0, 112, .inr (.inl (fun _ => 0))))] := hD
  refine lv_aload_n hx hb dR_init_12 rfl (lv_at hl 0 rfl) ?_
  refine lv_bipush (v := nI 112) hx hb dR_init_13 (by decide) ?_
  refine na_l (N := 112) hx hb (ht _ tb_63) hK hP hD hS hA rfl (by decide) (by decide) (by decide) (by decide) dR_init_15 (fun n15 H hP hD hS => ?_)
  have hP : va_P D vwCl [(h0, .inr (3, [.int 0, .ref n7, .null, .null, .null, .null, .int 0, .int 0, .null, .int 0, .int 0, .int 0, .int 0, .int 0, .int 0, .int 0, .null, .null, .null, .null, .null])), (n7, .inl (ks 0, 112, .inr (.inl (fun _ => 0)))), (n15, .inl (ks 0, 112, .inr (.inl (fun _ => 0))))] H := hP
  have hD : va_D A [(h0, .inr (3, [.int 0, .ref n7, .null, .null, .null, .null, .int 0, .int 0, .null, .int 0, .int 0, .int 0, .int 0, .int 0, .int 0, .int 0, .null, .null, .null, .null, .null])), (n7, .inl (ks 0, 112, .inr (.inl (fun _ => 0)))), (n15, .inl (ks 0, 112, .inr (.inl (fun _ => 0))))] := hD
  refine va_putF (D := D) (ci := 3) (v := .ref n15) (ty := .array .long) (C := RR) (T := TR) (N := 21) hx hb ht uw_R ty_R ty_R_ok nm_R hown hK hP hD hS 0 rfl rfl 2 (by decide) (ht _ tb_541) (fun _ h => h) rfl hin rfl (by decide +kernel) rfl rfl (Nat.le_of_ble_eq_true rfl) dR_init_17 (fun H locs hP hD hS => ?_)
  have hP : va_P D vwCl [(h0, .inr (3, [.int 0, .ref n7, .ref n15, .null, .null, .null, .int 0, .int 0, .null, .int 0, .int 0, .int 0, .int 0, .int 0, .int 0, .int 0, .null, .null, .null, .null, .null])), (n7, .inl (ks 0, 112, .inr (.inl (fun _ => 0)))), (n15, .inl (ks 0, 112, .inr (.inl (fun _ => 0))))] H := hP
  have hD : va_D A [(h0, .inr (3, [.int 0, .ref n7, .ref n15, .null, .null, .null, .int 0, .int 0, .null, .int 0, .int 0, .int 0, .int 0, .int 0, .int 0, .int 0, .null, .null, .null, .null, .null])), (n7, .inl (ks 0, 112, .inr (.inl (fun _ => 0)))), (n15, .inl (ks 0, 112, .inr (.inl (fun _ => 0))))] := hD
  refine lv_aload_n hx hb dR_init_20 rfl (lv_at hl 0 rfl) ?_
  refine lv_sipush (v := nI 448) hx hb dR_init_21 (by decide) ?_
  refine na_l (N := 448) hx hb (ht _ tb_63) hK hP hD hS hA rfl (by decide) (by decide) (by decide) (by decide) dR_init_24 (fun n24 H hP hD hS => ?_)
  have hP : va_P D vwCl [(h0, .inr (3, [.int 0, .ref n7, .ref n15, .null, .null, .null, .int 0, .int 0, .null, .int 0, .int 0, .int 0, .int 0, .int 0, .int 0, .int 0, .null, .null, .null, .null, .null])), (n7, .inl (ks 0, 112, .inr (.inl (fun _ => 0)))), (n15, .inl (ks 0, 112, .inr (.inl (fun _ => 0)))), (n24, .inl (ks 0, 448, .inr (.inl (fun _ => 0))))] H := hP
  have hD : va_D A [(h0, .inr (3, [.int 0, .ref n7, .ref n15, .null, .null, .null, .int 0, .int 0, .null, .int 0, .int 0, .int 0, .int 0, .int 0, .int 0, .int 0, .null, .null, .null, .null, .null])), (n7, .inl (ks 0, 112, .inr (.inl (fun _ => 0)))), (n15, .inl (ks 0, 112, .inr (.inl (fun _ => 0)))), (n24, .inl (ks 0, 448, .inr (.inl (fun _ => 0))))] := hD
  refine va_putF (D := D) (ci := 3) (v := .ref n24) (ty := .array .long) (C := RR) (T := TR) (N := 21) hx hb ht uw_R ty_R ty_R_ok nm_R hown hK hP hD hS 0 rfl rfl 3 (by decide) (ht _ tb_542) (fun _ h => h) rfl hin rfl (by decide +kernel) rfl rfl (Nat.le_of_ble_eq_true rfl) dR_init_26 (fun H locs hP hD hS => ?_)
  have hP : va_P D vwCl [(h0, .inr (3, [.int 0, .ref n7, .ref n15, .ref n24, .null, .null, .int 0, .int 0, .null, .int 0, .int 0, .int 0, .int 0, .int 0, .int 0, .int 0, .null, .null, .null, .null, .null])), (n7, .inl (ks 0, 112, .inr (.inl (fun _ => 0)))), (n15, .inl (ks 0, 112, .inr (.inl (fun _ => 0)))), (n24, .inl (ks 0, 448, .inr (.inl (fun _ => 0))))] H := hP
  have hD : va_D A [(h0, .inr (3, [.int 0, .ref n7, .ref n15, .ref n24, .null, .null, .int 0, .int 0, .null, .int 0, .int 0, .int 0, .int 0, .int 0, .int 0, .int 0, .null, .null, .null, .null, .null])), (n7, .inl (ks 0, 112, .inr (.inl (fun _ => 0)))), (n15, .inl (ks 0, 112, .inr (.inl (fun _ => 0)))), (n24, .inl (ks 0, 448, .inr (.inl (fun _ => 0))))] := hD
  refine lv_aload_n hx hb dR_init_29 rfl (lv_at hl 0 rfl) ?_
  refine lv_bipush (v := nI 112) hx hb dR_init_30 (by decide) ?_
  refine na_i (N := 112) hx hb (ht _ tb_64) hK hP hD hS hA rfl (by decide) (by decide) (by decide) (by decide) dR_init_32 (fun n32 H hP hD hS => ?_)
  have hP : va_P D vwCl [(h0, .inr (3, [.int 0, .ref n7, .ref n15, .ref n24, .null, .null, .int 0, .int 0, .null, .int 0, .int 0, .int 0, .int 0, .int 0, .int 0, .int 0, .null, .null, .null, .null, .null])), (n7, .inl (ks 0, 112, .inr (.inl (fun _ => 0)))), (n15, .inl (ks 0, 112, .inr (.inl (fun _ => 0)))), (n24, .inl (ks 0, 448, .inr (.inl (fun _ => 0)))), (n32, .inl (ks 1, 112, .inl (fun _ => 0)))] H := hP
  have hD : va_D A [(h0, .inr (3, [.int 0, .ref n7, .ref n15, .ref n24, .null, .null, .int 0, .int 0, .null, .int 0, .int 0, .int 0, .int 0, .int 0, .int 0, .int 0, .null, .null, .null, .null, .null])), (n7, .inl (ks 0, 112, .inr (.inl (fun _ => 0)))), (n15, .inl (ks 0, 112, .inr (.inl (fun _ => 0)))), (n24, .inl (ks 0, 448, .inr (.inl (fun _ => 0)))), (n32, .inl (ks 1, 112, .inl (fun _ => 0)))] := hD
  refine va_putF (D := D) (ci := 3) (v := .ref n32) (ty := .array .int) (C := RR) (T := TR) (N := 21) hx hb ht uw_R ty_R ty_R_ok nm_R hown hK hP hD hS 0 rfl rfl 4 (by decide) (ht _ tb_543) (fun _ h => h) rfl hin rfl (by decide +kernel) rfl rfl (Nat.le_of_ble_eq_true rfl) dR_init_34 (fun H locs hP hD hS => ?_)
  have hP : va_P D vwCl [(h0, .inr (3, [.int 0, .ref n7, .ref n15, .ref n24, .ref n32, .null, .int 0, .int 0, .null, .int 0, .int 0, .int 0, .int 0, .int 0, .int 0, .int 0, .null, .null, .null, .null, .null])), (n7, .inl (ks 0, 112, .inr (.inl (fun _ => 0)))), (n15, .inl (ks 0, 112, .inr (.inl (fun _ => 0)))), (n24, .inl (ks 0, 448, .inr (.inl (fun _ => 0)))), (n32, .inl (ks 1, 112, .inl (fun _ => 0)))] H := hP
  have hD : va_D A [(h0, .inr (3, [.int 0, .ref n7, .ref n15, .ref n24, .ref n32, .null, .int 0, .int 0, .null, .int 0, .int 0, .int 0, .int 0, .int 0, .int 0, .int 0, .null, .null, .null, .null, .null])), (n7, .inl (ks 0, 112, .inr (.inl (fun _ => 0)))), (n15, .inl (ks 0, 112, .inr (.inl (fun _ => 0)))), (n24, .inl (ks 0, 448, .inr (.inl (fun _ => 0)))), (n32, .inl (ks 1, 112, .inl (fun _ => 0)))] := hD
  refine lv_aload_n hx hb dR_init_37 rfl (lv_at hl 0 rfl) ?_
  refine lv_bipush (v := nI 14) hx hb dR_init_38 (by decide) ?_
  refine na_z (N := 14) hx hb (ht _ tb_65) hK hP hD hS hA rfl (by decide) (by decide) (by decide) (by decide) dR_init_40 (fun n40 H hP hD hS => ?_)
  have hP : va_P D vwCl [(h0, .inr (3, [.int 0, .ref n7, .ref n15, .ref n24, .ref n32, .null, .int 0, .int 0, .null, .int 0, .int 0, .int 0, .int 0, .int 0, .int 0, .int 0, .null, .null, .null, .null, .null])), (n7, .inl (ks 0, 112, .inr (.inl (fun _ => 0)))), (n15, .inl (ks 0, 112, .inr (.inl (fun _ => 0)))), (n24, .inl (ks 0, 448, .inr (.inl (fun _ => 0)))), (n32, .inl (ks 1, 112, .inl (fun _ => 0))), (n40, .inl (ks 2, 14, .inl (fun _ => 0)))] H := hP
  have hD : va_D A [(h0, .inr (3, [.int 0, .ref n7, .ref n15, .ref n24, .ref n32, .null, .int 0, .int 0, .null, .int 0, .int 0, .int 0, .int 0, .int 0, .int 0, .int 0, .null, .null, .null, .null, .null])), (n7, .inl (ks 0, 112, .inr (.inl (fun _ => 0)))), (n15, .inl (ks 0, 112, .inr (.inl (fun _ => 0)))), (n24, .inl (ks 0, 448, .inr (.inl (fun _ => 0)))), (n32, .inl (ks 1, 112, .inl (fun _ => 0))), (n40, .inl (ks 2, 14, .inl (fun _ => 0)))] := hD
  refine va_putF (D := D) (ci := 3) (v := .ref n40) (ty := .array .boolean) (C := RR) (T := TR) (N := 21) hx hb ht uw_R ty_R ty_R_ok nm_R hown hK hP hD hS 0 rfl rfl 5 (by decide) (ht _ tb_544) (fun _ h => h) rfl hin rfl (by decide +kernel) rfl rfl (Nat.le_of_ble_eq_true rfl) dR_init_42 (fun H locs hP hD hS => ?_)
  have hP : va_P D vwCl [(h0, .inr (3, [.int 0, .ref n7, .ref n15, .ref n24, .ref n32, .ref n40, .int 0, .int 0, .null, .int 0, .int 0, .int 0, .int 0, .int 0, .int 0, .int 0, .null, .null, .null, .null, .null])), (n7, .inl (ks 0, 112, .inr (.inl (fun _ => 0)))), (n15, .inl (ks 0, 112, .inr (.inl (fun _ => 0)))), (n24, .inl (ks 0, 448, .inr (.inl (fun _ => 0)))), (n32, .inl (ks 1, 112, .inl (fun _ => 0))), (n40, .inl (ks 2, 14, .inl (fun _ => 0)))] H := hP
  have hD : va_D A [(h0, .inr (3, [.int 0, .ref n7, .ref n15, .ref n24, .ref n32, .ref n40, .int 0, .int 0, .null, .int 0, .int 0, .int 0, .int 0, .int 0, .int 0, .int 0, .null, .null, .null, .null, .null])), (n7, .inl (ks 0, 112, .inr (.inl (fun _ => 0)))), (n15, .inl (ks 0, 112, .inr (.inl (fun _ => 0)))), (n24, .inl (ks 0, 448, .inr (.inl (fun _ => 0)))), (n32, .inl (ks 1, 112, .inl (fun _ => 0))), (n40, .inl (ks 2, 14, .inl (fun _ => 0)))] := hD
  refine lv_aload_n hx hb dR_init_45 rfl (lv_at hl 0 rfl) ?_
  refine lv_bipush (v := nI 31) hx hb dR_init_46 (by decide) ?_
  refine na_l (N := 31) hx hb (ht _ tb_63) hK hP hD hS hA rfl (by decide) (by decide) (by decide) (by decide) dR_init_48 (fun n48 H hP hD hS => ?_)
  have hP : va_P D vwCl [(h0, .inr (3, [.int 0, .ref n7, .ref n15, .ref n24, .ref n32, .ref n40, .int 0, .int 0, .null, .int 0, .int 0, .int 0, .int 0, .int 0, .int 0, .int 0, .null, .null, .null, .null, .null])), (n7, .inl (ks 0, 112, .inr (.inl (fun _ => 0)))), (n15, .inl (ks 0, 112, .inr (.inl (fun _ => 0)))), (n24, .inl (ks 0, 448, .inr (.inl (fun _ => 0)))), (n32, .inl (ks 1, 112, .inl (fun _ => 0))), (n40, .inl (ks 2, 14, .inl (fun _ => 0))), (n48, .inl (ks 0, 31, .inr (.inl (fun _ => 0))))] H := hP
  have hD : va_D A [(h0, .inr (3, [.int 0, .ref n7, .ref n15, .ref n24, .ref n32, .ref n40, .int 0, .int 0, .null, .int 0, .int 0, .int 0, .int 0, .int 0, .int 0, .int 0, .null, .null, .null, .null, .null])), (n7, .inl (ks 0, 112, .inr (.inl (fun _ => 0)))), (n15, .inl (ks 0, 112, .inr (.inl (fun _ => 0)))), (n24, .inl (ks 0, 448, .inr (.inl (fun _ => 0)))), (n32, .inl (ks 1, 112, .inl (fun _ => 0))), (n40, .inl (ks 2, 14, .inl (fun _ => 0))), (n48, .inl (ks 0, 31, .inr (.inl (fun _ => 0))))] := hD
  refine va_putF (D := D) (ci := 3) (v := .ref n48) (ty := .array .long) (C := RR) (T := TR) (N := 21) hx hb ht uw_R ty_R ty_R_ok nm_R hown hK hP hD hS 0 rfl rfl 8 (by decide) (ht _ tb_547) (fun _ h => h) rfl hin rfl (by decide +kernel) rfl rfl (Nat.le_of_ble_eq_true rfl) dR_init_50 (fun H locs hP hD hS => ?_)
  have hP : va_P D vwCl [(h0, .inr (3, [.int 0, .ref n7, .ref n15, .ref n24, .ref n32, .ref n40, .int 0, .int 0, .ref n48, .int 0, .int 0, .int 0, .int 0, .int 0, .int 0, .int 0, .null, .null, .null, .null, .null])), (n7, .inl (ks 0, 112, .inr (.inl (fun _ => 0)))), (n15, .inl (ks 0, 112, .inr (.inl (fun _ => 0)))), (n24, .inl (ks 0, 448, .inr (.inl (fun _ => 0)))), (n32, .inl (ks 1, 112, .inl (fun _ => 0))), (n40, .inl (ks 2, 14, .inl (fun _ => 0))), (n48, .inl (ks 0, 31, .inr (.inl (fun _ => 0))))] H := hP
  have hD : va_D A [(h0, .inr (3, [.int 0, .ref n7, .ref n15, .ref n24, .ref n32, .ref n40, .int 0, .int 0, .ref n48, .int 0, .int 0, .int 0, .int 0, .int 0, .int 0, .int 0, .null, .null, .null, .null, .null])), (n7, .inl (ks 0, 112, .inr (.inl (fun _ => 0)))), (n15, .inl (ks 0, 112, .inr (.inl (fun _ => 0)))), (n24, .inl (ks 0, 448, .inr (.inl (fun _ => 0)))), (n32, .inl (ks 1, 112, .inl (fun _ => 0))), (n40, .inl (ks 2, 14, .inl (fun _ => 0))), (n48, .inl (ks 0, 31, .inr (.inl (fun _ => 0))))] := hD
  refine lv_aload_n hx hb dR_init_53 rfl (lv_at hl 0 rfl) ?_
  refine lv_iconst (v := (-1)) hx hb dR_init_54 (by decide) ?_
  refine va_put (D := D) (ci := 3) (v := .int (-1)) (ty := .int) (C := RR) (T := TR) (N := 21) hx hb ht uw_R ty_R ty_R_ok nm_R hown hK hP hD hS 0 rfl rfl 13 (by decide) (ht _ tb_552) (fun _ h => h) rfl (by decide +kernel) rfl rfl (Nat.le_of_ble_eq_true rfl) dR_init_55 (fun H locs hP hD hS => ?_)
  have hP : va_P D vwCl [(h0, .inr (3, [.int 0, .ref n7, .ref n15, .ref n24, .ref n32, .ref n40, .int 0, .int 0, .ref n48, .int 0, .int 0, .int 0, .int 0, .int (-1), .int 0, .int 0, .null, .null, .null, .null, .null])), (n7, .inl (ks 0, 112, .inr (.inl (fun _ => 0)))), (n15, .inl (ks 0, 112, .inr (.inl (fun _ => 0)))), (n24, .inl (ks 0, 448, .inr (.inl (fun _ => 0)))), (n32, .inl (ks 1, 112, .inl (fun _ => 0))), (n40, .inl (ks 2, 14, .inl (fun _ => 0))), (n48, .inl (ks 0, 31, .inr (.inl (fun _ => 0))))] H := hP
  have hD : va_D A [(h0, .inr (3, [.int 0, .ref n7, .ref n15, .ref n24, .ref n32, .ref n40, .int 0, .int 0, .ref n48, .int 0, .int 0, .int 0, .int 0, .int (-1), .int 0, .int 0, .null, .null, .null, .null, .null])), (n7, .inl (ks 0, 112, .inr (.inl (fun _ => 0)))), (n15, .inl (ks 0, 112, .inr (.inl (fun _ => 0)))), (n24, .inl (ks 0, 448, .inr (.inl (fun _ => 0)))), (n32, .inl (ks 1, 112, .inl (fun _ => 0))), (n40, .inl (ks 2, 14, .inl (fun _ => 0))), (n48, .inl (ks 0, 31, .inr (.inl (fun _ => 0))))] := hD
  refine lv_aload_n hx hb dR_init_58 rfl (lv_at hl 0 rfl) ?_
  refine lv_iconst (v := nI 2) hx hb dR_init_59 (by decide) ?_
  refine na_z (N := 2) hx hb (ht _ tb_65) hK hP hD hS hA rfl (by decide) (by decide) (by decide) (by decide) dR_init_60 (fun n60 H hP hD hS => ?_)
  have hP : va_P D vwCl [(h0, .inr (3, [.int 0, .ref n7, .ref n15, .ref n24, .ref n32, .ref n40, .int 0, .int 0, .ref n48, .int 0, .int 0, .int 0, .int 0, .int (-1), .int 0, .int 0, .null, .null, .null, .null, .null])), (n7, .inl (ks 0, 112, .inr (.inl (fun _ => 0)))), (n15, .inl (ks 0, 112, .inr (.inl (fun _ => 0)))), (n24, .inl (ks 0, 448, .inr (.inl (fun _ => 0)))), (n32, .inl (ks 1, 112, .inl (fun _ => 0))), (n40, .inl (ks 2, 14, .inl (fun _ => 0))), (n48, .inl (ks 0, 31, .inr (.inl (fun _ => 0)))), (n60, .inl (ks 2, 2, .inl (fun _ => 0)))] H := hP
  have hD : va_D A [(h0, .inr (3, [.int 0, .ref n7, .ref n15, .ref n24, .ref n32, .ref n40, .int 0, .int 0, .ref n48, .int 0, .int 0, .int 0, .int 0, .int (-1), .int 0, .int 0, .null, .null, .null, .null, .null])), (n7, .inl (ks 0, 112, .inr (.inl (fun _ => 0)))), (n15, .inl (ks 0, 112, .inr (.inl (fun _ => 0)))), (n24, .inl (ks 0, 448, .inr (.inl (fun _ => 0)))), (n32, .inl (ks 1, 112, .inl (fun _ => 0))), (n40, .inl (ks 2, 14, .inl (fun _ => 0))), (n48, .inl (ks 0, 31, .inr (.inl (fun _ => 0)))), (n60, .inl (ks 2, 2, .inl (fun _ => 0)))] := hD
  refine va_putF (D := D) (ci := 3) (v := .ref n60) (ty := .array .boolean) (C := RR) (T := TR) (N := 21) hx hb ht uw_R ty_R ty_R_ok nm_R hown hK hP hD hS 0 rfl rfl 16 (by decide) (ht _ tb_555) (fun _ h => h) rfl hin rfl (by decide +kernel) rfl rfl (Nat.le_of_ble_eq_true rfl) dR_init_62 (fun H locs hP hD hS => ?_)
  have hP : va_P D vwCl [(h0, .inr (3, [.int 0, .ref n7, .ref n15, .ref n24, .ref n32, .ref n40, .int 0, .int 0, .ref n48, .int 0, .int 0, .int 0, .int 0, .int (-1), .int 0, .int 0, .ref n60, .null, .null, .null, .null])), (n7, .inl (ks 0, 112, .inr (.inl (fun _ => 0)))), (n15, .inl (ks 0, 112, .inr (.inl (fun _ => 0)))), (n24, .inl (ks 0, 448, .inr (.inl (fun _ => 0)))), (n32, .inl (ks 1, 112, .inl (fun _ => 0))), (n40, .inl (ks 2, 14, .inl (fun _ => 0))), (n48, .inl (ks 0, 31, .inr (.inl (fun _ => 0)))), (n60, .inl (ks 2, 2, .inl (fun _ => 0)))] H := hP
  have hD : va_D A [(h0, .inr (3, [.int 0, .ref n7, .ref n15, .ref n24, .ref n32, .ref n40, .int 0, .int 0, .ref n48, .int 0, .int 0, .int 0, .int 0, .int (-1), .int 0, .int 0, .ref n60, .null, .null, .null, .null])), (n7, .inl (ks 0, 112, .inr (.inl (fun _ => 0)))), (n15, .inl (ks 0, 112, .inr (.inl (fun _ => 0)))), (n24, .inl (ks 0, 448, .inr (.inl (fun _ => 0)))), (n32, .inl (ks 1, 112, .inl (fun _ => 0))), (n40, .inl (ks 2, 14, .inl (fun _ => 0))), (n48, .inl (ks 0, 31, .inr (.inl (fun _ => 0)))), (n60, .inl (ks 2, 2, .inl (fun _ => 0)))] := hD
  refine lv_aload_n hx hb dR_init_65 rfl (lv_at hl 0 rfl) ?_
  refine lv_bipush (v := nI 8) hx hb dR_init_66 (by decide) ?_
  refine na_l (N := 8) hx hb (ht _ tb_63) hK hP hD hS hA rfl (by decide) (by decide) (by decide) (by decide) dR_init_68 (fun n68 H hP hD hS => ?_)
  have hP : va_P D vwCl [(h0, .inr (3, [.int 0, .ref n7, .ref n15, .ref n24, .ref n32, .ref n40, .int 0, .int 0, .ref n48, .int 0, .int 0, .int 0, .int 0, .int (-1), .int 0, .int 0, .ref n60, .null, .null, .null, .null])), (n7, .inl (ks 0, 112, .inr (.inl (fun _ => 0)))), (n15, .inl (ks 0, 112, .inr (.inl (fun _ => 0)))), (n24, .inl (ks 0, 448, .inr (.inl (fun _ => 0)))), (n32, .inl (ks 1, 112, .inl (fun _ => 0))), (n40, .inl (ks 2, 14, .inl (fun _ => 0))), (n48, .inl (ks 0, 31, .inr (.inl (fun _ => 0)))), (n60, .inl (ks 2, 2, .inl (fun _ => 0))), (n68, .inl (ks 0, 8, .inr (.inl (fun _ => 0))))] H := hP
  have hD : va_D A [(h0, .inr (3, [.int 0, .ref n7, .ref n15, .ref n24, .ref n32, .ref n40, .int 0, .int 0, .ref n48, .int 0, .int 0, .int 0, .int 0, .int (-1), .int 0, .int 0, .ref n60, .null, .null, .null, .null])), (n7, .inl (ks 0, 112, .inr (.inl (fun _ => 0)))), (n15, .inl (ks 0, 112, .inr (.inl (fun _ => 0)))), (n24, .inl (ks 0, 448, .inr (.inl (fun _ => 0)))), (n32, .inl (ks 1, 112, .inl (fun _ => 0))), (n40, .inl (ks 2, 14, .inl (fun _ => 0))), (n48, .inl (ks 0, 31, .inr (.inl (fun _ => 0)))), (n60, .inl (ks 2, 2, .inl (fun _ => 0))), (n68, .inl (ks 0, 8, .inr (.inl (fun _ => 0))))] := hD
  refine va_putF (D := D) (ci := 3) (v := .ref n68) (ty := .array .long) (C := RR) (T := TR) (N := 21) hx hb ht uw_R ty_R ty_R_ok nm_R hown hK hP hD hS 0 rfl rfl 17 (by decide) (ht _ tb_556) (fun _ h => h) rfl hin rfl (by decide +kernel) rfl rfl (Nat.le_of_ble_eq_true rfl) dR_init_70 (fun H locs hP hD hS => ?_)
  have hP : va_P D vwCl [(h0, .inr (3, [.int 0, .ref n7, .ref n15, .ref n24, .ref n32, .ref n40, .int 0, .int 0, .ref n48, .int 0, .int 0, .int 0, .int 0, .int (-1), .int 0, .int 0, .ref n60, .ref n68, .null, .null, .null])), (n7, .inl (ks 0, 112, .inr (.inl (fun _ => 0)))), (n15, .inl (ks 0, 112, .inr (.inl (fun _ => 0)))), (n24, .inl (ks 0, 448, .inr (.inl (fun _ => 0)))), (n32, .inl (ks 1, 112, .inl (fun _ => 0))), (n40, .inl (ks 2, 14, .inl (fun _ => 0))), (n48, .inl (ks 0, 31, .inr (.inl (fun _ => 0)))), (n60, .inl (ks 2, 2, .inl (fun _ => 0))), (n68, .inl (ks 0, 8, .inr (.inl (fun _ => 0))))] H := hP
  have hD : va_D A [(h0, .inr (3, [.int 0, .ref n7, .ref n15, .ref n24, .ref n32, .ref n40, .int 0, .int 0, .ref n48, .int 0, .int 0, .int 0, .int 0, .int (-1), .int 0, .int 0, .ref n60, .ref n68, .null, .null, .null])), (n7, .inl (ks 0, 112, .inr (.inl (fun _ => 0)))), (n15, .inl (ks 0, 112, .inr (.inl (fun _ => 0)))), (n24, .inl (ks 0, 448, .inr (.inl (fun _ => 0)))), (n32, .inl (ks 1, 112, .inl (fun _ => 0))), (n40, .inl (ks 2, 14, .inl (fun _ => 0))), (n48, .inl (ks 0, 31, .inr (.inl (fun _ => 0)))), (n60, .inl (ks 2, 2, .inl (fun _ => 0))), (n68, .inl (ks 0, 8, .inr (.inl (fun _ => 0))))] := hD
  refine lv_aload_n hx hb dR_init_73 rfl (lv_at hl 0 rfl) ?_
  refine lv_iconst (v := nI 2) hx hb dR_init_74 (by decide) ?_
  refine na_i (N := 2) hx hb (ht _ tb_64) hK hP hD hS hA rfl (by decide) (by decide) (by decide) (by decide) dR_init_75 (fun n75 H hP hD hS => ?_)
  have hP : va_P D vwCl [(h0, .inr (3, [.int 0, .ref n7, .ref n15, .ref n24, .ref n32, .ref n40, .int 0, .int 0, .ref n48, .int 0, .int 0, .int 0, .int 0, .int (-1), .int 0, .int 0, .ref n60, .ref n68, .null, .null, .null])), (n7, .inl (ks 0, 112, .inr (.inl (fun _ => 0)))), (n15, .inl (ks 0, 112, .inr (.inl (fun _ => 0)))), (n24, .inl (ks 0, 448, .inr (.inl (fun _ => 0)))), (n32, .inl (ks 1, 112, .inl (fun _ => 0))), (n40, .inl (ks 2, 14, .inl (fun _ => 0))), (n48, .inl (ks 0, 31, .inr (.inl (fun _ => 0)))), (n60, .inl (ks 2, 2, .inl (fun _ => 0))), (n68, .inl (ks 0, 8, .inr (.inl (fun _ => 0)))), (n75, .inl (ks 1, 2, .inl (fun _ => 0)))] H := hP
  have hD : va_D A [(h0, .inr (3, [.int 0, .ref n7, .ref n15, .ref n24, .ref n32, .ref n40, .int 0, .int 0, .ref n48, .int 0, .int 0, .int 0, .int 0, .int (-1), .int 0, .int 0, .ref n60, .ref n68, .null, .null, .null])), (n7, .inl (ks 0, 112, .inr (.inl (fun _ => 0)))), (n15, .inl (ks 0, 112, .inr (.inl (fun _ => 0)))), (n24, .inl (ks 0, 448, .inr (.inl (fun _ => 0)))), (n32, .inl (ks 1, 112, .inl (fun _ => 0))), (n40, .inl (ks 2, 14, .inl (fun _ => 0))), (n48, .inl (ks 0, 31, .inr (.inl (fun _ => 0)))), (n60, .inl (ks 2, 2, .inl (fun _ => 0))), (n68, .inl (ks 0, 8, .inr (.inl (fun _ => 0)))), (n75, .inl (ks 1, 2, .inl (fun _ => 0)))] := hD
  refine va_putF (D := D) (ci := 3) (v := .ref n75) (ty := .array .int) (C := RR) (T := TR) (N := 21) hx hb ht uw_R ty_R ty_R_ok nm_R hown hK hP hD hS 0 rfl rfl 18 (by decide) (ht _ tb_557) (fun _ h => h) rfl hin rfl (by decide +kernel) rfl rfl (Nat.le_of_ble_eq_true rfl) dR_init_77 (fun H locs hP hD hS => ?_)
  have hP : va_P D vwCl [(h0, .inr (3, [.int 0, .ref n7, .ref n15, .ref n24, .ref n32, .ref n40, .int 0, .int 0, .ref n48, .int 0, .int 0, .int 0, .int 0, .int (-1), .int 0, .int 0, .ref n60, .ref n68, .ref n75, .null, .null])), (n7, .inl (ks 0, 112, .inr (.inl (fun _ => 0)))), (n15, .inl (ks 0, 112, .inr (.inl (fun _ => 0)))), (n24, .inl (ks 0, 448, .inr (.inl (fun _ => 0)))), (n32, .inl (ks 1, 112, .inl (fun _ => 0))), (n40, .inl (ks 2, 14, .inl (fun _ => 0))), (n48, .inl (ks 0, 31, .inr (.inl (fun _ => 0)))), (n60, .inl (ks 2, 2, .inl (fun _ => 0))), (n68, .inl (ks 0, 8, .inr (.inl (fun _ => 0)))), (n75, .inl (ks 1, 2, .inl (fun _ => 0)))] H := hP
  have hD : va_D A [(h0, .inr (3, [.int 0, .ref n7, .ref n15, .ref n24, .ref n32, .ref n40, .int 0, .int 0, .ref n48, .int 0, .int 0, .int 0, .int 0, .int (-1), .int 0, .int 0, .ref n60, .ref n68, .ref n75, .null, .null])), (n7, .inl (ks 0, 112, .inr (.inl (fun _ => 0)))), (n15, .inl (ks 0, 112, .inr (.inl (fun _ => 0)))), (n24, .inl (ks 0, 448, .inr (.inl (fun _ => 0)))), (n32, .inl (ks 1, 112, .inl (fun _ => 0))), (n40, .inl (ks 2, 14, .inl (fun _ => 0))), (n48, .inl (ks 0, 31, .inr (.inl (fun _ => 0)))), (n60, .inl (ks 2, 2, .inl (fun _ => 0))), (n68, .inl (ks 0, 8, .inr (.inl (fun _ => 0)))), (n75, .inl (ks 1, 2, .inl (fun _ => 0)))] := hD
  refine lv_aload_n hx hb dR_init_80 rfl (lv_at hl 0 rfl) ?_
  refine lv_bipush (v := nI 16) hx hb dR_init_81 (by decide) ?_
  refine na_l (N := 16) hx hb (ht _ tb_63) hK hP hD hS hA rfl (by decide) (by decide) (by decide) (by decide) dR_init_83 (fun n83 H hP hD hS => ?_)
  have hP : va_P D vwCl [(h0, .inr (3, [.int 0, .ref n7, .ref n15, .ref n24, .ref n32, .ref n40, .int 0, .int 0, .ref n48, .int 0, .int 0, .int 0, .int 0, .int (-1), .int 0, .int 0, .ref n60, .ref n68, .ref n75, .null, .null])), (n7, .inl (ks 0, 112, .inr (.inl (fun _ => 0)))), (n15, .inl (ks 0, 112, .inr (.inl (fun _ => 0)))), (n24, .inl (ks 0, 448, .inr (.inl (fun _ => 0)))), (n32, .inl (ks 1, 112, .inl (fun _ => 0))), (n40, .inl (ks 2, 14, .inl (fun _ => 0))), (n48, .inl (ks 0, 31, .inr (.inl (fun _ => 0)))), (n60, .inl (ks 2, 2, .inl (fun _ => 0))), (n68, .inl (ks 0, 8, .inr (.inl (fun _ => 0)))), (n75, .inl (ks 1, 2, .inl (fun _ => 0))), (n83, .inl (ks 0, 16, .inr (.inl (fun _ => 0))))] H := hP
  have hD : va_D A [(h0, .inr (3, [.int 0, .ref n7, .ref n15, .ref n24, .ref n32, .ref n40, .int 0, .int 0, .ref n48, .int 0, .int 0, .int 0, .int 0, .int (-1), .int 0, .int 0, .ref n60, .ref n68, .ref n75, .null, .null])), (n7, .inl (ks 0, 112, .inr (.inl (fun _ => 0)))), (n15, .inl (ks 0, 112, .inr (.inl (fun _ => 0)))), (n24, .inl (ks 0, 448, .inr (.inl (fun _ => 0)))), (n32, .inl (ks 1, 112, .inl (fun _ => 0))), (n40, .inl (ks 2, 14, .inl (fun _ => 0))), (n48, .inl (ks 0, 31, .inr (.inl (fun _ => 0)))), (n60, .inl (ks 2, 2, .inl (fun _ => 0))), (n68, .inl (ks 0, 8, .inr (.inl (fun _ => 0)))), (n75, .inl (ks 1, 2, .inl (fun _ => 0))), (n83, .inl (ks 0, 16, .inr (.inl (fun _ => 0))))] := hD
  refine va_putF (D := D) (ci := 3) (v := .ref n83) (ty := .array .long) (C := RR) (T := TR) (N := 21) hx hb ht uw_R ty_R ty_R_ok nm_R hown hK hP hD hS 0 rfl rfl 19 (by decide) (ht _ tb_558) (fun _ h => h) rfl hin rfl (by decide +kernel) rfl rfl (Nat.le_of_ble_eq_true rfl) dR_init_85 (fun H locs hP hD hS => ?_)
  have hP : va_P D vwCl [(h0, .inr (3, [.int 0, .ref n7, .ref n15, .ref n24, .ref n32, .ref n40, .int 0, .int 0, .ref n48, .int 0, .int 0, .int 0, .int 0, .int (-1), .int 0, .int 0, .ref n60, .ref n68, .ref n75, .ref n83, .null])), (n7, .inl (ks 0, 112, .inr (.inl (fun _ => 0)))), (n15, .inl (ks 0, 112, .inr (.inl (fun _ => 0)))), (n24, .inl (ks 0, 448, .inr (.inl (fun _ => 0)))), (n32, .inl (ks 1, 112, .inl (fun _ => 0))), (n40, .inl (ks 2, 14, .inl (fun _ => 0))), (n48, .inl (ks 0, 31, .inr (.inl (fun _ => 0)))), (n60, .inl (ks 2, 2, .inl (fun _ => 0))), (n68, .inl (ks 0, 8, .inr (.inl (fun _ => 0)))), (n75, .inl (ks 1, 2, .inl (fun _ => 0))), (n83, .inl (ks 0, 16, .inr (.inl (fun _ => 0))))] H := hP
  have hD : va_D A [(h0, .inr (3, [.int 0, .ref n7, .ref n15, .ref n24, .ref n32, .ref n40, .int 0, .int 0, .ref n48, .int 0, .int 0, .int 0, .int 0, .int (-1), .int 0, .int 0, .ref n60, .ref n68, .ref n75, .ref n83, .null])), (n7, .inl (ks 0, 112, .inr (.inl (fun _ => 0)))), (n15, .inl (ks 0, 112, .inr (.inl (fun _ => 0)))), (n24, .inl (ks 0, 448, .inr (.inl (fun _ => 0)))), (n32, .inl (ks 1, 112, .inl (fun _ => 0))), (n40, .inl (ks 2, 14, .inl (fun _ => 0))), (n48, .inl (ks 0, 31, .inr (.inl (fun _ => 0)))), (n60, .inl (ks 2, 2, .inl (fun _ => 0))), (n68, .inl (ks 0, 8, .inr (.inl (fun _ => 0)))), (n75, .inl (ks 1, 2, .inl (fun _ => 0))), (n83, .inl (ks 0, 16, .inr (.inl (fun _ => 0))))] := hD
  refine lv_aload_n hx hb dR_init_88 rfl (lv_at hl 0 rfl) ?_
  refine lv_bipush (v := nI 16) hx hb dR_init_89 (by decide) ?_
  refine na_l (N := 16) hx hb (ht _ tb_63) hK hP hD hS hA rfl (by decide) (by decide) (by decide) (by decide) dR_init_91 (fun n91 H hP hD hS => ?_)
  have hP : va_P D vwCl [(h0, .inr (3, [.int 0, .ref n7, .ref n15, .ref n24, .ref n32, .ref n40, .int 0, .int 0, .ref n48, .int 0, .int 0, .int 0, .int 0, .int (-1), .int 0, .int 0, .ref n60, .ref n68, .ref n75, .ref n83, .null])), (n7, .inl (ks 0, 112, .inr (.inl (fun _ => 0)))), (n15, .inl (ks 0, 112, .inr (.inl (fun _ => 0)))), (n24, .inl (ks 0, 448, .inr (.inl (fun _ => 0)))), (n32, .inl (ks 1, 112, .inl (fun _ => 0))), (n40, .inl (ks 2, 14, .inl (fun _ => 0))), (n48, .inl (ks 0, 31, .inr (.inl (fun _ => 0)))), (n60, .inl (ks 2, 2, .inl (fun _ => 0))), (n68, .inl (ks 0, 8, .inr (.inl (fun _ => 0)))), (n75, .inl (ks 1, 2, .inl (fun _ => 0))), (n83, .inl (ks 0, 16, .inr (.inl (fun _ => 0)))), (n91, .inl (ks 0, 16, .inr (.inl (fun _ => 0))))] H := hP
  have hD : va_D A [(h0, .inr (3, [.int 0, .ref n7, .ref n15, .ref n24, .ref n32, .ref n40, .int 0, .int 0, .ref n48, .int 0, .int 0, .int 0, .int 0, .int (-1), .int 0, .int 0, .ref n60, .ref n68, .ref n75, .ref n83, .null])), (n7, .inl (ks 0, 112, .inr (.inl (fun _ => 0)))), (n15, .inl (ks 0, 112, .inr (.inl (fun _ => 0)))), (n24, .inl (ks 0, 448, .inr (.inl (fun _ => 0)))), (n32, .inl (ks 1, 112, .inl (fun _ => 0))), (n40, .inl (ks 2, 14, .inl (fun _ => 0))), (n48, .inl (ks 0, 31, .inr (.inl (fun _ => 0)))), (n60, .inl (ks 2, 2, .inl (fun _ => 0))), (n68, .inl (ks 0, 8, .inr (.inl (fun _ => 0)))), (n75, .inl (ks 1, 2, .inl (fun _ => 0))), (n83, .inl (ks 0, 16, .inr (.inl (fun _ => 0)))), (n91, .inl (ks 0, 16, .inr (.inl (fun _ => 0))))] := hD
  refine va_putF (D := D) (ci := 3) (v := .ref n91) (ty := .array .long) (C := RR) (T := TR) (N := 21) hx hb ht uw_R ty_R ty_R_ok nm_R hown hK hP hD hS 0 rfl rfl 20 (by decide) (ht _ tb_559) (fun _ h => h) rfl hin rfl (by decide +kernel) rfl rfl (Nat.le_of_ble_eq_true rfl) dR_init_93 (fun H locs hP hD hS => ?_)
  have hP : va_P D vwCl [(h0, .inr (3, [.int 0, .ref n7, .ref n15, .ref n24, .ref n32, .ref n40, .int 0, .int 0, .ref n48, .int 0, .int 0, .int 0, .int 0, .int (-1), .int 0, .int 0, .ref n60, .ref n68, .ref n75, .ref n83, .ref n91])), (n7, .inl (ks 0, 112, .inr (.inl (fun _ => 0)))), (n15, .inl (ks 0, 112, .inr (.inl (fun _ => 0)))), (n24, .inl (ks 0, 448, .inr (.inl (fun _ => 0)))), (n32, .inl (ks 1, 112, .inl (fun _ => 0))), (n40, .inl (ks 2, 14, .inl (fun _ => 0))), (n48, .inl (ks 0, 31, .inr (.inl (fun _ => 0)))), (n60, .inl (ks 2, 2, .inl (fun _ => 0))), (n68, .inl (ks 0, 8, .inr (.inl (fun _ => 0)))), (n75, .inl (ks 1, 2, .inl (fun _ => 0))), (n83, .inl (ks 0, 16, .inr (.inl (fun _ => 0)))), (n91, .inl (ks 0, 16, .inr (.inl (fun _ => 0))))] H := hP
  have hD : va_D A [(h0, .inr (3, [.int 0, .ref n7, .ref n15, .ref n24, .ref n32, .ref n40, .int 0, .int 0, .ref n48, .int 0, .int 0, .int 0, .int 0, .int (-1), .int 0, .int 0, .ref n60, .ref n68, .ref n75, .ref n83, .ref n91])), (n7, .inl (ks 0, 112, .inr (.inl (fun _ => 0)))), (n15, .inl (ks 0, 112, .inr (.inl (fun _ => 0)))), (n24, .inl (ks 0, 448, .inr (.inl (fun _ => 0)))), (n32, .inl (ks 1, 112, .inl (fun _ => 0))), (n40, .inl (ks 2, 14, .inl (fun _ => 0))), (n48, .inl (ks 0, 31, .inr (.inl (fun _ => 0)))), (n60, .inl (ks 2, 2, .inl (fun _ => 0))), (n68, .inl (ks 0, 8, .inr (.inl (fun _ => 0)))), (n75, .inl (ks 1, 2, .inl (fun _ => 0))), (n83, .inl (ks 0, 16, .inr (.inl (fun _ => 0)))), (n91, .inl (ks 0, 16, .inr (.inl (fun _ => 0))))] := hD
  exact endV hx hb hr hlk hK (fun k => if k = 0 then h0 else if k = 1 then n7 else if k = 2 then n15 else if k = 3 then n24 else if k = 4 then n32 else if k = 5 then n40 else if k = 6 then n48 else if k = 7 then n60 else if k = 8 then n68 else if k = 9 then n75 else if k = 10 then n83 else n91) rfl hP hD hS dR_init_96

