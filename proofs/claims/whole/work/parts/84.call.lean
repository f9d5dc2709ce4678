/-! What holds between two calls, and how a commit keeps it. -/
def sn (c : CS) (k : Nat) : Nat → Int64 := if k = 0 then cs_s0 c else cs_s1 c
/-- the snapshots are alike -/
def Snp (c : CS) (m : MS) : Prop := ∀ k, k ≤ 1 → ¬ rs_tk m k = 0 → ∃ f n p, WfN f n p (sn c k) ∧ rs_pr m k = nI p ∧ (∀ i, i < 4 → rs_co m (4 * k + i) = sn c k i) ∧ ∀ i, i < p → rs_ky m (8 * k + i) = sn c k (15 + i) ∧ rs_nu m (8 * k + i) = sn c k (23 + i)
/-- the shelf and the reference between two calls -/
def Rel (c : CS) (m : MS) : Prop := MRel c m ∧ cs_tx c = rs_wi m ∧ Clean (cs_me c) ∧ (cs_dn c = 0 → UpOk (am_va (cs_me c)) ∧ Wf (cs_im c) ∧ ∀ w, w < 31 → cs_im c w = WK m w) ∧ (¬ cs_dn c = 0 → DownOk (am_va (cs_me c)) ∧ cs_tx c = 0) ∧ Snp c m
theorem Rel.dn {c : CS} {m : MS} (h : Rel c m) : cs_dn c = rs_dn m := h.1.2.2.2.2.2.2.2.2.2.2.1
theorem Rel.va {c : CS} {m : MS} (h : Rel c m) : am_va (cs_me c) = rs_va m := h.1.1
theorem Rel.tk {c : CS} {m : MS} (h : Rel c m) : cs_tk c = rs_tk m := h.1.2.2.2.2.2.2.2.2.2.1
theorem MRel.tk {c : CS} {m : MS} (h : MRel c m) : cs_tk c = rs_tk m := h.2.2.2.2.2.2.2.2.2.1
theorem MRel.dn {c : CS} {m : MS} (h : MRel c m) : cs_dn c = rs_dn m := h.2.2.2.2.2.2.2.2.2.2.1
theorem Rel.th {c : CS} {m : MS} (h : Rel c m) (x : Int32) : Rel c (rs_thr m x) := h
theorem WK_0 {m : MS} (h : rs_wi m = 0) {w : Nat} (hw : w < 31) : WK m w = rs_va m w := (WK_va h hw).symm
theorem WK_1 {m : MS} (h : ¬ rs_wi m = 0) : WK m = rs_wk m := if_neg h
theorem WK_tw {m : MS} {t : Int32} {k : Nat → Int64} {w : Nat} (hw : w < 31) (h : rs_wi m = 0 → k w = WK m w) : WK (rs_tw m t k) w = k w := by
  by_cases z : rs_wi m = 0
  · rw [WK_0 (m := rs_tw m t k) z hw, h z, WK_0 z hw]; rfl
  · rw [WK_1 (m := rs_tw m t k) z]; rfl
theorem Rel.tw {c : CS} {m : MS} (h : Rel c m) (t : Int32) : Rel c (rs_tw m t (WK m)) :=
  ⟨h.1, h.2.1, h.2.2.1, fun z => ⟨(h.2.2.2.1 z).1, (h.2.2.2.1 z).2.1, fun w hw => ((h.2.2.2.1 z).2.2 w hw).trans (WK_tw hw (fun _ => rfl)).symm⟩, h.2.2.2.2.1, h.2.2.2.2.2⟩
theorem Rel.nwf {c : CS} {m : MS} (h : Rel c m) : ∃ f n p, (cs_dn c = 0 → WfN f n p (cs_im c)) ∧ (rs_dn m = 0 → WfN f n p (WK m)) := by
  by_cases z : cs_dn c = 0
  · obtain ⟨_, ⟨f, n, p, w1, w2, w3, w4, w5, w6, w7⟩, hi⟩ := h.2.2.2.1 z
    refine ⟨f, n, p, fun _ => ⟨w1, w2, w3, w4, w5, w6, w7⟩, fun _ => ⟨w1, w2, w3, ?_, ?_, ?_, fun i j hi' hj => ?_⟩⟩
    · rw [← hi 4 (by omega)]; exact w4
    · rw [← hi 5 (by omega)]; exact w5
    · rw [← hi 14 (by omega)]; exact w6
    · rw [← hi (15 + i) (by omega), ← hi (15 + j) (by omega)]; exact w7 i j hi' hj
  · exact ⟨0, 0, 0, fun y => absurd y z, fun y => absurd (h.dn.trans y) z⟩
/-- what the steps leave alone -/
def KeepR (m v : MS) : Prop := rs_wk v = rs_wk m ∧ rs_co v = rs_co m ∧ rs_pr v = rs_pr m ∧ rs_ky v = rs_ky m ∧ rs_nu v = rs_nu m
theorem KeepR.step (m : MS) (o : OP) : KeepR m (ro_step m o) ∧ (rs_wi m = 0 → rs_wi (ro_step m o) = 0) := by
  unfold ro_step rg
  by_cases hs : rs_so m = 0
  · rw [if_pos hs]
    by_cases hz : rs_sp m = 0
    · rw [if_pos hz]; exact ⟨⟨rfl, rfl, rfl, rfl, rfl⟩, fun _ => rfl⟩
    · rw [if_neg hz]
      show KeepR m (rs_do (rs_tick m) o) ∧ (rs_wi m = 0 → rs_wi (rs_do (rs_tick m) o) = 0)
      unfold rs_do
      by_cases h1 : o.1 = 0
      · rw [if_pos h1]; exact ⟨⟨rfl, rfl, rfl, rfl, rfl⟩, fun h => h⟩
      · rw [if_neg h1]
        by_cases h2 : o.1 = 1
        · rw [if_pos h2]; exact ⟨⟨rfl, rfl, rfl, rfl, rfl⟩, fun h => h⟩
        · rw [if_neg h2]; exact ⟨⟨rfl, rfl, rfl, rfl, rfl⟩, fun h => h⟩
  · rw [if_neg hs]; exact ⟨⟨rfl, rfl, rfl, rfl, rfl⟩, fun h => h⟩
theorem KeepR.run : ∀ (os : List OP) (m : MS), KeepR m (ro_run os m) ∧ (rs_wi m = 0 → rs_wi (ro_run os m) = 0)
  | [], _ => ⟨⟨rfl, rfl, rfl, rfl, rfl⟩, fun h => h⟩
  | o :: os, m => by
    obtain ⟨⟨a1, a2, a3, a4, a5⟩, a6⟩ := KeepR.step m o
    obtain ⟨⟨b1, b2, b3, b4, b5⟩, b6⟩ := KeepR.run os (ro_step m o)
    exact ⟨⟨b1.trans a1, b2.trans a2, b3.trans a3, b4.trans a4, b5.trans a5⟩, fun h => b6 (a6 h)⟩
theorem Snp.keep {c u : CS} {m v : MS} (h : Snp c m) (h0 : cs_s0 u = cs_s0 c) (h1 : cs_s1 u = cs_s1 c) (ht : ∀ k, k ≤ 1 → ¬ rs_tk v k = 0 → ¬ rs_tk m k = 0) (hk : rs_co v = rs_co m ∧ rs_pr v = rs_pr m ∧ rs_ky v = rs_ky m ∧ rs_nu v = rs_nu m) : Snp u v := fun k hk1 hz => by
  have e : sn u k = sn c k := by unfold sn; rw [h0, h1]
  rw [e, hk.1, hk.2.1, hk.2.2.1, hk.2.2.2]
  exact h k hk1 (ht k hk1 hz)
theorem Snp.none {u : CS} {v : MS} (ht : ∀ k, k ≤ 1 → rs_tk v k = 0) : Snp u v := fun k hk hz => absurd (ht k hk) hz
/-- alike but for the transaction -/
def Alk (u u' : CS) : Prop := cs_me u' = cs_me u ∧ cs_im u' = cs_im u ∧ cs_s0 u' = cs_s0 u ∧ cs_s1 u' = cs_s1 u ∧ cs_tk u' = cs_tk u ∧ cs_dn u' = cs_dn u ∧ cs_sp u' = cs_sp u ∧ cs_sd u' = cs_sd u
theorem Alk.rfl' (u : CS) : Alk u u := ⟨rfl, rfl, rfl, rfl, rfl, rfl, rfl, rfl⟩
theorem MRel.alk {u u' : CS} {v : MS} (h : MRel u v) (a : Alk u u') : MRel u' v := by
  obtain ⟨a1, _, _, _, a5, a6, a7, a8⟩ := a
  unfold MRel
  rw [a1, a5, a6, a7, a8]
  exact h
theorem chl_congr {g k v : Nat → Int64} {n : Nat} (h : ∀ w, w < n → g w = k w) : chl g v n = chl k v n := by
  unfold chl
  refine List.filter_congr (fun w hw => ?_)
  rw [h w (List.mem_range.mp hw)]
theorem cm_congr {g k v : Nat → Int64} {l : List Nat} (h : ∀ w ∈ l, g w = k w) : cm_ops v g l = cm_ops v k l := by
  unfold cm_ops
  have e : nw_l g l = nw_l k l := by
    unfold nw_l
    exact List.map_congr_left (fun w hw => by rw [h w hw])
  rw [e]
theorem chl_nil {g v : Nat → Int64} (h : (chl g v 31).length = 0) {w : Nat} (hw : w < 31) : g w = v w := by
  have e := List.eq_nil_of_length_eq_zero h
  refine Decidable.byContradiction (fun z => ?_)
  have := (chl_in hw).mpr z
  rw [e] at this
  exact absurd this List.not_mem_nil
/-- before a commit -/
def CmH (c : CS) (m : MS) : Prop := MRel c m ∧ Clean (cs_me c) ∧ cs_dn c = 0 ∧ UpOk (am_va (cs_me c)) ∧ Wf (cs_im c) ∧ (∀ w, w < 31 → cs_im c w = rs_wk m w) ∧ Snp c m ∧ rs_th m = 0
theorem cm_lists {c : CS} {m : MS} (H : CmH c m) : chl (cs_im c) (am_va (cs_me c)) 31 = chl (rs_wk m) (rs_va m) 31 ∧ cm_ops (am_va (cs_me c)) (cs_im c) (chl (cs_im c) (am_va (cs_me c)) 31) = cm_ops (rs_va m) (rs_wk m) (chl (rs_wk m) (rs_va m) 31) := by
  obtain ⟨hM, hC, hd, hU, hW, hk, hS, hth⟩ := H
  have e1 : chl (cs_im c) (am_va (cs_me c)) 31 = chl (rs_wk m) (rs_va m) 31 := by rw [hM.1]; exact chl_congr hk
  refine ⟨e1, ?_⟩
  rw [e1, hM.1]
  exact cm_congr (fun w hw => hk w (chl_mem hw))
theorem cm_both {c : CS} {m : MS} (H : CmH c m) (ch : Nat → Int32) : MRel (op_run (cm_ops (am_va (cs_me c)) (cs_im c) (chl (cs_im c) (am_va (cs_me c)) 31)) (cs_cha c ch)).1 (ro_run (cm_ops (rs_va m) (rs_wk m) (chl (rs_wk m) (rs_va m) 31)) (rs_c0 m)) ∧ (((op_run (cm_ops (am_va (cs_me c)) (cs_im c) (chl (cs_im c) (am_va (cs_me c)) 31)) (cs_cha c ch)).2 = false ∧ rs_so (ro_run (cm_ops (rs_va m) (rs_wk m) (chl (rs_wk m) (rs_va m) 31)) (rs_c0 m)) = 0) ∨ ((op_run (cm_ops (am_va (cs_me c)) (cs_im c) (chl (cs_im c) (am_va (cs_me c)) 31)) (cs_cha c ch)).2 = true ∧ rs_so (ro_run (cm_ops (rs_va m) (rs_wk m) (chl (rs_wk m) (rs_va m) 31)) (rs_c0 m)) = 1)) := by
  rw [(cm_lists H).2]
  obtain ⟨hM, hC, hd, hU, hW, hk, hS, hth⟩ := H
  exact MRel.run _ (c := cs_cha c ch) (m := rs_c0 m) hM rfl (RoS.go0 hM hC (rs_th m) (rs_wk m))
theorem sim_q {c : CS} {m : MS} (H : CmH c m) {r r' : Int32} {u u' : CS} {v : MS} (h1 : StQ c r u) (h2 : CmQ m r' v) (ha : Alk u u') (ht : cs_tx u' = 0) : r' = r ∧ rs_th v = 0 ∧ Rel u' v ∧ cs_im u' = cs_im c := by
  have hl := cm_lists H
  have hb0 := cm_both H
  obtain ⟨hM, hC, hd, hU, hW, hk, hS, hth⟩ := H
  rcases h1 with ⟨a1, a2, a3⟩ | ⟨a1, a2, a3⟩
  · rcases h2 with ⟨_, b2, b3⟩ | ⟨b1, _⟩
    · subst a3; subst b3
      refine ⟨by rw [a2, b2]; rfl, hth, ⟨MRel.alk (u := cs_cha c _) hM ha, ht, by rw [ha.1]; exact hC, fun _ => ⟨by rw [ha.1]; exact hU, by rw [ha.2.1]; exact hW, fun w hw => ?_⟩, fun z => absurd (ha.2.2.2.2.2.1.trans hd) z, hS.keep ha.2.2.1 ha.2.2.2.1 (fun _ _ z => z) ⟨rfl, rfl, rfl, rfl⟩⟩, ha.2.1⟩
      rw [ha.2.1, WK_0 (m := rs_c0 m) rfl hw]
      show cs_im c w = rs_va m w
      rw [← hM.1]
      exact chl_nil a1 hw
    · rw [← hl.1] at b1; exact absurd a1 b1
  · have hb := hb0 (fcc (cs_ch c) (chl (cs_im c) (am_va (cs_me c)) 31))
    have hr := cm_run (c := cs_cha c (fcc (cs_ch c) (chl (cs_im c) (am_va (cs_me c)) 31))) (g := cs_im c) hC rfl (chl_pw (cs_im c) (am_va (cs_me c)) 31) (fun _ h => chl_mem h) (chl_len _ _ _) hU hW (fun w hw hn => Decidable.byContradiction (fun z => hn ((chl_in hw).mpr z)))
    rw [show am_va (cs_me (cs_cha c (fcc (cs_ch c) (chl (cs_im c) (am_va (cs_me c)) 31)))) = am_va (cs_me c) from rfl] at hr
    rw [a3] at hb hr
    obtain ⟨hb1, hb2⟩ := hb
    have hso := hb2.resolve_right (fun z => absurd (show false = true from z.1) (by decide))
    rcases h2 with ⟨b1, _⟩ | ⟨_, b2, b3⟩
    · rw [← hl.1] at b1; exact absurd b1 a1
    · rcases hr with ⟨s1, _, s3, s4, s5⟩ | s
      · subst b2
        obtain ⟨⟨k1, k2, k3, k4, k5⟩, k6⟩ := KeepR.run (cm_ops (rs_va m) (rs_wk m) (chl (rs_wk m) (rs_va m) 31)) (rs_c0 m)
        have k6 := k6 rfl
        generalize ro_run (cm_ops (rs_va m) (rs_wk m) (chl (rs_wk m) (rs_va m) 31)) (rs_c0 m) = rr at hb1 hso b3 k1 k2 k3 k4 k5 k6 ⊢
        have e6 : cs_im u' = cs_im c := ha.2.1.trans s1.1
        have ed : cs_dn u' = 0 := ha.2.2.2.2.2.1.trans (s1.2.2.2.2.2.1.trans hd)
        refine ⟨by rw [b3, if_pos hso.2, a2, hl.1], if_pos hso.2, ⟨MRel.alk hb1 ha, ht.trans k6.symm, by rw [ha.1]; exact s3, fun _ => ⟨by rw [ha.1]; exact s4, by rw [e6]; exact hW, fun w hw => ?_⟩, fun z => absurd ed z, ?_⟩, e6⟩
        · rw [e6, WK_0 (m := rs_fin rr) k6 hw]
          show cs_im c w = rs_va rr w
          rw [← hb1.1, s5 w hw]
        · refine hS.keep (ha.2.2.1.trans s1.2.1) (ha.2.2.2.1.trans s1.2.2.1) (fun k _ z => ?_) ⟨k2, k3, k4, k5⟩
          have e := hb1.tk
          rw [← hM.tk]
          intro y
          refine z ?_
          show rs_tk rr k = 0
          rw [← e, s1.2.2.2.1]; exact y
      · exact absurd (show false = true from s.1) (by decide)
theorem sim_x {c : CS} {m : MS} (H : CmH c m) {r' : Int32} {u : CS} {v : MS} (h1 : StX c u) (h2 : CmQ m r' v) : rs_th v = 1 ∧ Rel u v := by
  have hl := cm_lists H
  have hb0 := cm_both H
  obtain ⟨hM, hC, hd, hU, hW, hk, hS, hth⟩ := H
  obtain ⟨a1, a3⟩ := h1
  have hb := hb0 (fcc (cs_ch c) (chl (cs_im c) (am_va (cs_me c)) 31))
  have hr := cm_run (c := cs_cha c (fcc (cs_ch c) (chl (cs_im c) (am_va (cs_me c)) 31))) (g := cs_im c) hC rfl (chl_pw (cs_im c) (am_va (cs_me c)) 31) (fun _ h => chl_mem h) (chl_len _ _ _) hU hW (fun w hw hn => Decidable.byContradiction (fun z => hn ((chl_in hw).mpr z)))
  rw [show am_va (cs_me (cs_cha c (fcc (cs_ch c) (chl (cs_im c) (am_va (cs_me c)) 31)))) = am_va (cs_me c) from rfl] at hr
  rw [a3] at hb hr
  obtain ⟨hb1, hb2⟩ := hb
  have hso := hb2.resolve_left (fun z => absurd (show true = false from z.1) (by decide))
  rcases h2 with ⟨b1, _⟩ | ⟨_, b2, b3⟩
  · rw [← hl.1] at b1; exact absurd b1 a1
  · rcases hr with ⟨_, s2, _⟩ | ⟨_, s2, s3, _, _, _, s7, _, s9, s10, _⟩
    · exact absurd (show true = false from s2) (by decide)
    · subst b2
      obtain ⟨_, k6⟩ := KeepR.run (cm_ops (rs_va m) (rs_wk m) (chl (rs_wk m) (rs_va m) 31)) (rs_c0 m)
      have k6 := k6 rfl
      generalize ro_run (cm_ops (rs_va m) (rs_wk m) (chl (rs_wk m) (rs_va m) 31)) (rs_c0 m) = rr at hb1 hso b3 k6 ⊢
      have en : ¬ rs_so rr = 0 := by rw [hso.2]; decide
      refine ⟨if_neg en, hb1, (show cs_tx u = 0 from s10).trans k6.symm, s2, fun z => absurd ((show cs_dn u = 1 from s9).symm.trans z) (by decide), fun _ => ⟨s3, s10⟩, Snp.none (fun k hk => ?_)⟩
      show rs_tk rr k = 0
      rw [← hb1.tk, show cs_tk u = _ from s7]
      exact if_pos (by omega)
/-- a change and its commit, or none within a transaction -/
theorem sim_sa {c u : CS} {m v : MS} {g k : Nat → Int64} (hR : Rel c m) (hd : cs_dn c = 0) (hg : Wf g) (hk : ∀ w, w < 31 → g w = k w) (h1 : SaQ (cs_img c g) u) (h2 : DnQ (rs_tw m 0 k) v) : rs_th v = 0 ∧ Rel u v ∧ cs_im u = g := by
  obtain ⟨r1, r2, r3, r4, r5, r6⟩ := hR
  rcases h1 with ⟨a1, a2⟩ | ⟨a1, r, a2⟩
  · have hz : ¬ rs_wi m = 0 := fun z => a1 (r2.trans z)
    rcases h2 with ⟨_, b2⟩ | ⟨b1, _⟩
    · subst a2; subst b2
      refine ⟨rfl, ⟨r1, r2, r3, fun z => ⟨(r4 z).1, hg, fun w hw => ?_⟩, fun z => absurd hd z, r6⟩, rfl⟩
      rw [WK_1 (m := rs_tw m 0 k) hz]
      exact hk w hw
    · exact absurd b1 hz
  · rcases h2 with ⟨b1, _⟩ | ⟨_, r', b2⟩
    · exact absurd (r2.symm.trans a1) b1
    · obtain ⟨_, x2, x3, x4⟩ := sim_q (c := cs_img c g) (m := rs_tw m 0 k) ⟨r1, r3, hd, (r4 hd).1, hg, hk, r6, rfl⟩ a2 b2 (Alk.rfl' u) (by
        rcases a2 with ⟨_, _, e⟩ | ⟨_, _, e⟩
        · rw [e]; exact a1
        · have hr := cm_run (c := cs_cha (cs_img c g) (fcc (cs_ch (cs_img c g)) (chl (cs_im (cs_img c g)) (am_va (cs_me (cs_img c g))) 31))) (g := g) r3 rfl (chl_pw g (am_va (cs_me c)) 31) (fun _ h => chl_mem h) (chl_len _ _ _) (r4 hd).1 hg (fun w hw hn => Decidable.byContradiction (fun z => hn ((chl_in hw).mpr z)))
          rw [show am_va (cs_me (cs_cha (cs_img c g) (fcc (cs_ch (cs_img c g)) (chl (cs_im (cs_img c g)) (am_va (cs_me (cs_img c g))) 31)))) = am_va (cs_me (cs_img c g)) from rfl] at hr
          rw [show op_run (cm_ops (am_va (cs_me (cs_img c g))) g (chl g (am_va (cs_me c)) 31)) (cs_cha (cs_img c g) (fcc (cs_ch (cs_img c g)) (chl (cs_im (cs_img c g)) (am_va (cs_me (cs_img c g))) 31))) = (u, false) from e] at hr
          rcases hr with ⟨s, _⟩ | s
          · exact s.2.2.2.2.2.2.1.trans a1
          · exact absurd (show false = true from s.1) (by decide))
      exact ⟨x2, x3, x4⟩
theorem sim_sx {c u : CS} {m v : MS} {g k : Nat → Int64} (hR : Rel c m) (hd : cs_dn c = 0) (hg : Wf g) (hk : ∀ w, w < 31 → g w = k w) (ht : cs_tx c = 0) (h1 : StX (cs_img c g) u) (h2 : DnQ (rs_tw m 0 k) v) : rs_th v = 1 ∧ Rel u v := by
  obtain ⟨r1, r2, r3, r4, r5, r6⟩ := hR
  rcases h2 with ⟨b1, _⟩ | ⟨_, r', b2⟩
  · exact absurd (r2.symm.trans ht) b1
  · exact sim_x (c := cs_img c g) (m := rs_tw m 0 k) ⟨r1, r3, hd, (r4 hd).1, hg, hk, r6, rfl⟩ h1 b2
