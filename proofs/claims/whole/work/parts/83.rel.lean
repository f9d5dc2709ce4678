/-! The shelf and the reference side by side: the memories, the steps. -/
/-- the memories are alike -/
def MRel (c : CS) (m : MS) : Prop :=
  am_va (cs_me c) = rs_va m ∧ am_ke (cs_me c) = rs_ke m ∧ am_lc (cs_me c) = rs_ls m ∧ am_fd (cs_me c) = rs_fd m ∧
  (∀ w, w < 112 → rs_ls m w = 1 → am_lv (cs_me c) w = rs_lo m (4 * w)) ∧
  am_st (cs_me c) = rs_st m ∧ am_fl (cs_me c) = rs_fl m ∧ am_fe (cs_me c) = rs_fe m ∧ am_cr (cs_me c) = rs_cr m ∧
  cs_tk c = rs_tk m ∧ cs_dn c = rs_dn m ∧ cs_sp c = rs_sp m ∧ cs_sd c = rs_sd m
theorem MRel.crash {c : CS} {m : MS} {x : Int32} (h : MRel c m) (hl : LS01 m) : MRel (cs_fall c x) (rs_crash m x) := by
  obtain ⟨h1, h2, h3, h4, h5, h6, h7, h8, h9, h10, h11, h12, h13⟩ := h
  have hp : ∀ w, w < 112 → ms_pick (cs_me c) x w = rpk m x w := fun w hw => by
    unfold ms_pick rpk
    rw [h3, h2]
    by_cases hz : 0 < rs_ls m w
    · rw [if_pos hz, if_pos hz]
      have h1w : rs_ls m w = 1 := (hl w hw).resolve_left (fun z => by rw [z] at hz; exact absurd hz (by decide))
      rw [h5 w hw h1w]
    · rw [if_neg hz, if_neg hz]
  refine ⟨?_, ?_, ?_, ?_, ?_, h6, h7, h8, ?_, ?_, rfl, h12, h13⟩
  · show (fun w => if w < 112 then ms_pick (cs_me c) x w else am_va (cs_me c) w) = gl (rs_va m) (rpk m x) 112
    funext w; unfold gl
    by_cases hw : w < 112
    · rw [if_pos hw, if_pos hw, hp w hw]
    · rw [if_neg hw, if_neg hw, h1]
  · show (fun w => if w < 112 then ms_pick (cs_me c) x w else am_ke (cs_me c) w) = gl (rs_ke m) (rpk m x) 112
    funext w; unfold gl
    by_cases hw : w < 112
    · rw [if_pos hw, if_pos hw, hp w hw]
    · rw [if_neg hw, if_neg hw, h2]
  · show (fun w => if w < 112 then 0 else am_lc (cs_me c) w) = zl (rs_ls m) 112
    rw [h3]; rfl
  · show (fun k => if k < 14 then 0 else am_fd (cs_me c) k) = zl (rs_fd m) 14
    rw [h4]; rfl
  · intro w hw hz
    have : zl (rs_ls m) 112 w = 0 := if_pos hw
    exact absurd ((show zl (rs_ls m) 112 w = 1 from hz).symm.trans this) (by decide)
  · show am_cr (cs_me c) + 1 = rs_cr m + 1
    rw [h9]
  · show (fun k => if k < 2 then 0 else cs_tk c k) = upd (upd (rs_tk m) 0 0) 1 0
    rw [h10]
    funext k
    show (if k < 2 then 0 else rs_tk m k) = if k = 1 then 0 else if k = 0 then 0 else rs_tk m k
    by_cases h1 : k = 1
    · rw [if_pos h1, if_pos (by omega)]
    · rw [if_neg h1]
      by_cases h0 : k = 0
      · rw [if_pos h0, if_pos (by omega)]
      · rw [if_neg h0, if_neg (by omega)]
theorem MRel.halt {c : CS} {m : MS} (h : MRel c m) (hl : LS01 m) : MRel (cs_halt c) (rs_halt m) := by
  have e : rs_sd m = cs_sd c := h.2.2.2.2.2.2.2.2.2.2.2.2.symm
  unfold cs_halt rs_halt
  rw [e]
  obtain ⟨h1, h2, h3, h4, h5, h6, h7, h8, h9, h10, h11, h12, h13⟩ := h
  exact MRel.crash (c := (cs_me c, cs_im c, cs_s0 c, cs_s1 c, cs_tk c, cs_ch c, cs_dn c, cs_tx c, -1, cs_sd c)) ⟨h1, h2, h3, h4, h5, h6, h7, h8, h9, h10, h11, rfl, rfl⟩ hl
theorem MRel.step {c : CS} {m : MS} {o : OP} (h : MRel c m) (h0 : o.1 = 0 → o.2.1 < 112 ∧ rs_ls m o.2.1 = 0) : MRel (cs_mem (cs_tick c) (op_do (cs_me c) o)) (rs_do (rs_tick m) o) := by
  obtain ⟨h1, h2, h3, h4, h5, h6, h7, h8, h9, h10, h11, h12, h13⟩ := h
  have h12' : cs_sp (cs_tick c) = rs_sp (rs_tick m) := by
    show (if 0 < cs_sp c then cs_sp c - 1 else cs_sp c) = (if 0 < rs_sp m then rs_sp m - 1 else rs_sp m)
    rw [h12]
  unfold op_do rs_do
  by_cases e0 : o.1 = 0
  · obtain ⟨hk, hz⟩ := h0 e0
    rw [if_pos e0, if_pos e0]
    have hl : am_lc (cs_me c) o.2.1 < 1 := by rw [h3, hz]; decide
    have es : ms_store (cs_me c) o.2.1 o.2.2 = (vp_updL (am_va (cs_me c)) o.2.1 o.2.2, am_ke (cs_me c), vp_updL (am_lv (cs_me c)) o.2.1 o.2.2, upd (am_lc (cs_me c)) o.2.1 (am_lc (cs_me c) o.2.1 + 1), upd (am_uf (cs_me c)) (o.2.1 / 8) 1, am_fd (cs_me c), am_st (cs_me c) + 1, am_fl (cs_me c), am_fe (cs_me c), am_cr (cs_me c)) := by
      unfold ms_store
      rw [if_pos hl, if_pos hl]
    rw [es]
    refine ⟨?_, h2, ?_, h4, ?_, ?_, h7, h8, h9, h10, h11, h12', h13⟩
    · show vp_updL (am_va (cs_me c)) o.2.1 o.2.2 = vp_updL (rs_va m) o.2.1 o.2.2
      rw [h1]
    · show upd (am_lc (cs_me c)) o.2.1 (am_lc (cs_me c) o.2.1 + 1) = upd (rs_ls m) o.2.1 (rs_ls m o.2.1 + 1)
      rw [h3]
    · intro w hw hz1
      show vp_updL (am_lv (cs_me c)) o.2.1 o.2.2 w = vp_updL (rs_lo m) (4 * o.2.1) o.2.2 (4 * w)
      by_cases e : w = o.2.1
      · rw [e, pk_uLs, pk_uLs]
      · rw [pk_uLn e, pk_uLn (by omega)]
        refine h5 w hw ?_
        have : upd (rs_ls m) o.2.1 (rs_ls m o.2.1 + 1) w = 1 := hz1
        rw [pk_un e] at this
        exact this
    · show am_st (cs_me c) + 1 = rs_st m + 1
      rw [h6]
  · rw [if_neg e0, if_neg e0]
    by_cases e1 : o.1 = 1
    · rw [if_pos e1, if_pos e1]
      refine ⟨h1, h2, h3, ?_, h5, h6, ?_, h8, h9, h10, h11, h12', h13⟩
      · show upd (am_fd (cs_me c)) o.2.1 1 = upd (rs_fd m) o.2.1 1
        rw [h4]
      · show am_fl (cs_me c) + 1 = rs_fl m + 1
        rw [h7]
    · rw [if_neg e1, if_neg e1]
      have hc : ∀ w : Nat, (w / 8 < 14 ∧ am_fd (cs_me c) (w / 8) ≠ 0) ↔ (w < 112 ∧ rs_fd m (w / 8) ≠ 0) := fun w => by
        rw [h4]
        exact ⟨fun z => ⟨by omega, z.2⟩, fun z => ⟨by omega, z.2⟩⟩
      refine ⟨h1, ?_, ?_, ?_, ?_, h6, h7, ?_, h9, h10, h11, h12', h13⟩
      · show (fun w => if w / 8 < 14 ∧ am_fd (cs_me c) (w / 8) ≠ 0 then am_va (cs_me c) w else am_ke (cs_me c) w) = (fun w => if w < 112 ∧ rs_fd m (w / 8) ≠ 0 then rs_va m w else rs_ke m w)
        funext w
        rw [h1, h2]
        by_cases z : w < 112 ∧ rs_fd m (w / 8) ≠ 0
        · rw [if_pos z, if_pos ((hc w).mpr z)]
        · rw [if_neg z, if_neg (fun y => z ((hc w).mp y))]
      · show (fun w => if w / 8 < 14 ∧ am_fd (cs_me c) (w / 8) ≠ 0 then 0 else am_lc (cs_me c) w) = (fun w => if w < 112 ∧ rs_fd m (w / 8) ≠ 0 then 0 else rs_ls m w)
        funext w
        rw [h3]
        by_cases z : w < 112 ∧ rs_fd m (w / 8) ≠ 0
        · rw [if_pos z, if_pos ((hc w).mpr z)]
        · rw [if_neg z, if_neg (fun y => z ((hc w).mp y))]
      · show (fun k => if k < 14 then 0 else am_fd (cs_me c) k) = zl (rs_fd m) 14
        rw [h4]; rfl
      · intro w hw hz1
        refine h5 w hw ?_
        have hz2 : (if w < 112 ∧ rs_fd m (w / 8) ≠ 0 then 0 else rs_ls m w) = 1 := hz1
        by_cases z : w < 112 ∧ rs_fd m (w / 8) ≠ 0
        · rw [if_pos z] at hz2; exact absurd hz2 (by decide)
        · rw [if_neg z] at hz2; exact hz2
      · show am_fe (cs_me c) + 1 = rs_fe m + 1
        rw [h8]
/-- the same steps on both sides -/
theorem MRel.run : ∀ (os : List OP) {c : CS} {m : MS}, MRel c m → rs_so m = 0 → rGd os m → MRel (op_run os c).1 (ro_run os m) ∧ (((op_run os c).2 = false ∧ rs_so (ro_run os m) = 0) ∨ ((op_run os c).2 = true ∧ rs_so (ro_run os m) = 1))
  | [], _, _, h, hs, _ => ⟨h, Or.inl ⟨rfl, hs⟩⟩
  | o :: os, c, m, h, hs, hG => by
    have e12 : cs_sp c = rs_sp m := h.2.2.2.2.2.2.2.2.2.2.2.1
    by_cases hz : cs_sp c = 0
    · have hz' : rs_sp m = 0 := e12 ▸ hz
      have e : ro_step m o = rs_halt m := by
        unfold ro_step rg
        rw [if_pos hs, if_pos hz']
      have e2 : ro_run (o :: os) m = rs_halt m := by
        show ro_run os (ro_step m o) = _
        rw [e]
        exact ro_stop os (m := rs_halt m) (show ¬ (1 : Int32) = 0 by decide)
      rw [op_run_stop hz, e2]
      exact ⟨h.halt hG.1, Or.inr ⟨rfl, rfl⟩⟩
    · have hz' : ¬ rs_sp m = 0 := fun z => hz (e12.trans z)
      have e : ro_step m o = rs_do (rs_tick m) o := by
        unfold ro_step rg
        rw [if_pos hs, if_neg hz']
      have e2 : ro_run (o :: os) m = ro_run os (rs_do (rs_tick m) o) := by
        show ro_run os (ro_step m o) = _
        rw [e]
      have hG2 := hG.2.2.2
      rw [e] at hG2
      rw [op_run_go hz, e2]
      exact MRel.run os (h.step hG.2.1) ((rs_do_so (rs_tick m) o).trans hs) hG2
/-! Every step of a round finds its word without a loose value. -/
def RoS (D F : List Nat) (m : MS) : Prop := (∀ w, w < 112 → rs_ls m w = if rs_so m = 0 ∧ w ∈ D then 1 else 0) ∧ ∀ k, k < 14 → rs_fd m k = if rs_so m = 0 ∧ k ∈ F then 1 else 0
theorem RoS.any {D F D' F' : List Nat} {m : MS} (h : RoS D F m) (hs : ¬ rs_so m = 0) : RoS D' F' m :=
  ⟨fun w hw => by rw [h.1 w hw, if_neg (fun z => hs z.1), if_neg (fun z => hs z.1)], fun k hk => by rw [h.2 k hk, if_neg (fun z => hs z.1), if_neg (fun z => hs z.1)]⟩
theorem RoS.lc {D F : List Nat} {m : MS} (h : RoS D F m) : LS01 m := fun w hw => by
  rw [h.1 w hw]
  split
  · exact Or.inr rfl
  · exact Or.inl rfl
theorem RoS.halt (D F : List Nat) (m : MS) : RoS D F (rs_halt m) :=
  ⟨fun w hw => by
    rw [if_neg (fun z => absurd (show (1 : Int32) = 0 from z.1) (by decide))]
    exact if_pos hw, fun k hk => by
    rw [if_neg (fun z => absurd (show (1 : Int32) = 0 from z.1) (by decide))]
    exact if_pos hk⟩
theorem RoS.go {D F D' F' : List Nat} {m : MS} {o : OP} (h : RoS D F m) (hd : rs_so m = 0 → RoS D' F' (rs_do (rs_tick m) o)) : RoS D' F' (ro_step m o) := by
  unfold ro_step rg
  by_cases hs : rs_so m = 0
  · rw [if_pos hs]
    by_cases hz : rs_sp m = 0
    · rw [if_pos hz]; exact RoS.halt _ _ _
    · rw [if_neg hz]; exact hd hs
  · rw [if_neg hs]; exact h.any hs
theorem RoS.sto {D F : List Nat} {m : MS} {k : Nat} {x : Int64} (h : RoS D F m) (hn : k ∉ D) (hk : k < 112) : RoS (D ++ [k]) F (ro_step m (0, k, x)) := by
  refine h.go (fun hs => ?_)
  refine ⟨fun w hw => ?_, fun j hj => ?_⟩
  · show upd (rs_ls m) k (rs_ls m k + 1) w = if rs_so m = 0 ∧ w ∈ D ++ [k] then 1 else 0
    by_cases e : w = k
    · rw [e, pk_us, h.1 k hk, if_neg (fun z => hn z.2), if_pos ⟨hs, List.mem_append_right _ (List.mem_singleton.mpr rfl)⟩]; rfl
    · rw [pk_un e, h.1 w hw]
      by_cases z : rs_so m = 0 ∧ w ∈ D
      · rw [if_pos z, if_pos ⟨hs, List.mem_append_left _ z.2⟩]
      · rw [if_neg z, if_neg (fun y => by
          rcases List.mem_append.mp y.2 with q | q
          · exact z ⟨hs, q⟩
          · exact e (List.mem_singleton.mp q))]
  · exact h.2 j hj
theorem RoS.flu {D F : List Nat} {m : MS} {k : Nat} (h : RoS D F m) : RoS D (F ++ [k]) (ro_step m (1, k, 0)) := by
  refine h.go (fun hs => ?_)
  refine ⟨h.1, fun j hj => ?_⟩
  show upd (rs_fd m) k 1 j = if rs_so m = 0 ∧ j ∈ F ++ [k] then 1 else 0
  by_cases e : j = k
  · rw [e, pk_us, if_pos ⟨hs, List.mem_append_right _ (List.mem_singleton.mpr rfl)⟩]
  · rw [pk_un e, h.2 j hj]
    by_cases z : rs_so m = 0 ∧ j ∈ F
    · rw [if_pos z, if_pos ⟨hs, List.mem_append_left _ z.2⟩]
    · rw [if_neg z, if_neg (fun y => by
        rcases List.mem_append.mp y.2 with q | q
        · exact z ⟨hs, q⟩
        · exact e (List.mem_singleton.mp q))]
theorem RoS.fen {D F : List Nat} {m : MS} (h : RoS D F m) (hc : ∀ w ∈ D, w / 8 ∈ F) : RoS [] [] (ro_step m (2, 0, 0)) := by
  refine h.go (fun hs => ?_)
  refine ⟨fun w hw => ?_, fun j hj => ?_⟩
  · rw [if_neg (fun z => absurd z.2 List.not_mem_nil)]
    show (if w < 112 ∧ rs_fd m (w / 8) ≠ 0 then 0 else rs_ls m w) = 0
    by_cases z : w < 112 ∧ rs_fd m (w / 8) ≠ 0
    · rw [if_pos z]
    · rw [if_neg z, h.1 w hw, if_neg (fun y => z ⟨hw, by rw [h.2 (w / 8) (by omega), if_pos ⟨hs, hc w y.2⟩]; decide⟩)]
  · rw [if_neg (fun z => absurd z.2 List.not_mem_nil)]
    exact if_pos hj
theorem RoS.gst {F : List Nat} {tl : List OP} : ∀ (L : List (Nat × Int64)) {D : List Nat} {m : MS}, RoS D F m → (∀ q ∈ L, q.1 < 112) → (D ++ L.map Prod.fst).Nodup → (∀ m', RoS (D ++ L.map Prod.fst) F m' → rGd tl m') → rGd (stO L ++ tl) m
  | [], D, m, h, _, _, k => k m (by rw [List.map_nil, List.append_nil]; exact h)
  | q :: L, D, m, h, hb, hn, k => by
    have hq : q.1 ∉ D := fun z => by
      rw [List.map_cons, List.nodup_append] at hn
      exact hn.2.2 q.1 z q.1 List.mem_cons_self rfl
    have hk := hb q List.mem_cons_self
    refine ⟨h.lc, fun _ => ⟨hk, ?_⟩, fun z => absurd (show (0 : Nat) = 1 from z) (by decide), ?_⟩
    · show rs_ls m q.1 = 0
      rw [h.1 q.1 hk, if_neg (fun z => hq z.2)]
    · refine RoS.gst L (D := D ++ [q.1]) (h.sto hq hk) (fun r hr => hb r (List.mem_cons_of_mem _ hr)) ?_ (fun m' h' => k m' ?_)
      · rw [List.append_assoc]; exact hn
      · rw [List.append_assoc] at h'; exact h'
theorem RoS.gfl {D : List Nat} {tl : List OP} : ∀ (E : List Nat) {F : List Nat} {m : MS}, RoS D F m → (∀ k ∈ E, k < 14) → (∀ m', RoS D (F ++ E) m' → rGd tl m') → rGd (flO E ++ tl) m
  | [], F, m, h, _, k => k m (by rw [List.append_nil]; exact h)
  | q :: E, F, m, h, hb, k => by
    refine ⟨h.lc, fun z => absurd (show (1 : Nat) = 0 from z) (by decide), fun _ => hb q List.mem_cons_self, ?_⟩
    refine RoS.gfl E (F := F ++ [q]) h.flu (fun r hr => hb r (List.mem_cons_of_mem _ hr)) (fun m' h' => k m' ?_)
    rw [List.append_assoc] at h'; exact h'
theorem RoS.rd {L : List (Nat × Int64)} {tl : List OP} {m : MS} (h : RoS [] [] m) (hb : ∀ q ∈ L, q.1 < 112) (hn : (L.map Prod.fst).Nodup) (k : ∀ m', RoS [] [] m' → rGd tl m') : rGd (rnd L ++ tl) m := by
  have e : rnd L ++ tl = stO L ++ (flO (rn_lines L) ++ ((2, 0, 0) :: tl)) := by
    unfold rnd
    rw [List.append_assoc, List.append_assoc]; rfl
  rw [e]
  refine RoS.gst L h hb (by rw [List.nil_append]; exact hn) (fun m1 h1 => RoS.gfl (rn_lines L) h1 (fun j hj => ?_) (fun m2 h2 => ?_))
  · exact List.mem_range.mp (List.mem_filter.mp hj).1
  · refine ⟨h2.lc, fun z => absurd z (by decide), fun z => absurd z (by decide), k _ (h2.fen (fun w hw => ?_))⟩
    rw [List.nil_append] at hw
    obtain ⟨q, hq, rfl⟩ := List.mem_map.mp hw
    rw [List.nil_append]
    exact rn_lines_in hb q hq
theorem RoS.one {x : Int64} {tl : List OP} {m : MS} (h : RoS [] [] m) (k : ∀ m', RoS [] [] m' → rGd tl m') : rGd (rnd [(40, x)] ++ tl) m :=
  h.rd (fun q hq => by rw [List.mem_singleton.mp hq]; show (40 : Nat) < 112; decide) (one_nodup _) k
theorem RoS.last {x : Int64} {m : MS} (h : RoS [] [] m) : rGd (rnd [(40, x)]) m := by
  have := h.one (x := x) (tl := []) (fun m' h' => h'.lc)
  rw [List.append_nil] at this
  exact this
theorem chl_pw (g v : Nat → Int64) (n : Nat) : (chl g v n).Pairwise (· < ·) := List.Pairwise.filter _ List.pairwise_lt_range
theorem pw_nodup {l : List Nat} (h : l.Pairwise (· < ·)) : l.Nodup := h.imp (fun h => Nat.ne_of_lt h)
theorem RoS.cm {m : MS} {v g : Nat → Int64} {l : List Nat} (h : RoS [] [] m) (hs : l.Pairwise (· < ·)) (hb : ∀ w ∈ l, w < 31) (hn : l.length ≤ 31) : rGd (cm_ops v g l) m := by
  refine h.rd (fun q hq => ?_) (lg_nodup _ _ _) (fun m1 h1 => h1.one (fun m2 h2 => h2.rd (fun q hq => ?_) (by rw [nw_fst]; exact pw_nodup hs) (fun m3 h3 => h3.last)))
  · have := (lg_fst v l 0 q hq).2
    omega
  · have : q.1 ∈ (nw_l g l).map Prod.fst := List.mem_map.mpr ⟨q, hq, rfl⟩
    rw [nw_fst] at this
    have := hb _ this
    omega
theorem RoS.rc {m : MS} {a : Nat → Nat} {y v : Nat → Int64} {n : Nat} (h : RoS [] [] m) (hl : LogOk n a y v) : rGd (rc_ops a v n) m := by
  refine h.rd (fun q hq => ?_) (rc_nodup hl.2.2.2.1) (fun m1 h1 => h1.last)
  obtain ⟨e, he, e1, -⟩ := rc_fst hq
  have := (hl.2.2.1 e he).1
  omega
theorem RoS.of {c : CS} {m : MS} (h : MRel c m) (hc : Clean (cs_me c)) : RoS [] [] m :=
  ⟨fun w hw => by rw [if_neg (fun z => absurd z.2 List.not_mem_nil), ← h.2.2.1]; exact (hc.1 w hw).2, fun k hk => by rw [if_neg (fun z => absurd z.2 List.not_mem_nil), ← h.2.2.2.1]; exact (hc.2 k hk).2⟩
theorem RoS.go0 {c : CS} {m : MS} (h : MRel c m) (hc : Clean (cs_me c)) : RGo m := fun t k =>
  RoS.cm (m := rs_c0 (rs_tw m t k)) (RoS.of h hc |> fun z => ⟨fun w hw => by rw [if_neg (fun z => absurd z.2 List.not_mem_nil)]; exact (z.1 w hw).trans (if_neg (fun z => absurd z.2 List.not_mem_nil)), fun w hw => by rw [if_neg (fun z => absurd z.2 List.not_mem_nil)]; exact (z.2 w hw).trans (if_neg (fun z => absurd z.2 List.not_mem_nil))⟩) (chl_pw _ _ _) (fun _ h => chl_mem h) (chl_len _ _ _)
