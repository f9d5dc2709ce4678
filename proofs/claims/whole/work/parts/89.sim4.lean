theorem s_in {x : Int32} {k : Nat} (hk : k ≤ 1) (e : x = nI k) : (0 ≤ x.toInt64 ∧ x.toInt64 ≤ (nI 1).toInt64) ∧ (0 ≤ x ∧ x ≤ nI 1) := by
  subst e
  exact ⟨(lN_iff (by omega) 1 (by decide)).mpr hk, nI_pos' (by omega), nI_le hk (by decide)⟩
theorem WfN.congr {f n p : Nat} {x y : Nat → Int64} (h : WfN f n p y) (e : ∀ w, w < 31 → x w = y w) : WfN f n p x := by
  obtain ⟨w1, w2, w3, w4, w5, w6, w7⟩ := h
  refine ⟨w1, w2, w3, (e 4 (by omega)).trans w4, (e 5 (by omega)).trans w5, (e 14 (by omega)).trans w6, fun i j hi hj => ?_⟩
  rw [e (15 + i) (by omega), e (15 + j) (by omega)]; exact w7 i j hi hj
theorem cpy_at {f g : Nat → Int64} {sp dp n i : Nat} (h : i < n) : va_cpy f g sp dp n (dp + i) = f (sp + i) := by
  unfold va_cpy
  rw [if_pos (by omega), Nat.add_sub_cancel_left]
theorem cpy_no {f g : Nat → Int64} {sp dp n k : Nat} (h : ¬ (dp ≤ k ∧ k < dp + n)) : va_cpy f g sp dp n k = g k := if_neg h
theorem WK_eq {m v : MS} (h1 : rs_wi v = rs_wi m) (h2 : rs_wk v = WK m) (h3 : rs_va v = rs_va m) {w : Nat} (hw : w < 31) : WK v w = WK m w := by
  by_cases z : rs_wi m = 0
  · rw [WK_0 (h1.trans z) hw, WK_0 z hw, h3]
  · rw [WK_1 (fun y => z (h1.symm.trans y)), h2]
/-- a snapshot taken -/
theorem frz_rel {c0 : CS} {r0 : MS} (hR : Rel c0 r0) {f9 n9 p9 s9 : Nat} (z : cs_dn c0 = 0) (hw : WfN f9 n9 p9 (cs_im c0)) (hs : s9 ≤ 1) {u : CS} (hu : cs_me u = cs_me c0 ∧ cs_im u = cs_im c0 ∧ cs_dn u = cs_dn c0 ∧ cs_tx u = cs_tx c0 ∧ cs_sp u = cs_sp c0 ∧ cs_sd u = cs_sd c0) (ht : cs_tk u = upd (cs_tk c0) s9 1) (hn : ∀ w, w < 31 → sn u s9 w = cs_im c0 w) (ho : ∀ k, k ≤ 1 → k ≠ s9 → sn u k = sn c0 k) : Rel u (rs_frz r0 s9 p9) := by
  obtain ⟨u1, u2, u3, u4, u5, u6⟩ := hu
  obtain ⟨⟨m1, m2, m3, m4, m5, m6, m7, m8, m9, m10, m11, m12, m13⟩, q2, q3, q4, q5, q6⟩ := hR
  have hp := hw.2.2.1
  have hi := (q4 z).2.2
  refine ⟨?_, u4.trans q2, by rw [u1]; exact q3, fun _ => ⟨by rw [u1]; exact (q4 z).1, by rw [u2]; exact (q4 z).2.1, fun w hw' => ?_⟩, fun y => absurd (u3.trans z) y, fun k hk hz => ?_⟩
  · unfold MRel
    rw [u1, u3, u5, u6, ht, m10]
    exact ⟨m1, m2, m3, m4, m5, m6, m7, m8, m9, rfl, m11, m12, m13⟩
  · rw [u2, hi w hw']
    exact (WK_eq (m := r0) (v := rs_frz r0 s9 p9) rfl rfl rfl hw').symm
  · by_cases e : k = s9
    · subst e
      refine ⟨f9, n9, p9, hw.congr hn, updS, fun i hi' => ?_, fun i hi' => ⟨?_, ?_⟩⟩
      · show va_cpy (WK r0) (rs_co r0) 0 (4 * k) 4 (4 * k + i) = _
        rw [cpy_at hi', Nat.zero_add, hn i (by omega), hi i (by omega)]
      · show va_cpy (WK r0) (rs_ky r0) 15 (8 * k) p9 (8 * k + i) = _
        rw [cpy_at hi', hn _ (by omega), hi _ (by omega)]
      · show va_cpy (WK r0) (rs_nu r0) 23 (8 * k) p9 (8 * k + i) = _
        rw [cpy_at hi', hn _ (by omega), hi _ (by omega)]
    · have hz' : ¬ rs_tk r0 k = 0 := fun y => hz (by
        show upd (rs_tk r0) s9 1 k = 0
        rw [pk_un e]; exact y)
      obtain ⟨f, n, p, a1, a2, a3, a4⟩ := q6 k hk hz'
      have hp' := a1.2.2.1
      rw [ho k hk e]
      refine ⟨f, n, p, a1, ?_, fun i hi' => ?_, fun i hi' => ⟨?_, ?_⟩⟩
      · show upd (rs_pr r0) s9 (nI p9) k = _
        rw [pk_un e]; exact a2
      · show va_cpy (WK r0) (rs_co r0) 0 (4 * s9) 4 (4 * k + i) = _
        rw [cpy_no (by omega)]; exact a3 i hi'
      · show va_cpy (WK r0) (rs_ky r0) 15 (8 * s9) p9 (8 * k + i) = _
        rw [cpy_no (by omega)]; exact (a4 i hi').1
      · show va_cpy (WK r0) (rs_nu r0) 23 (8 * s9) p9 (8 * k + i) = _
        rw [cpy_no (by omega)]; exact (a4 i hi').2
theorem sim_freeze {c0 : CS} {r0 : MS} (hR : Rel c0 r0) {f9 n9 p9 : Nat} (hw : cs_dn c0 = 0 → WfN f9 n9 p9 (cs_im c0)) {x9 r : Int32} {u : CS} {v : MS} (h1 : (r = nI 0 ∧ PS_freeze c0 x9 u) ∨ (r = nI 1 ∧ XS_freeze c0 x9 xISE u) ∨ (r = nI 2 ∧ XS_freeze c0 x9 xIOE u)) (h2 : PR_freeze r0 f9 n9 p9 x9 v) : rs_th v = r ∧ Rel u v := by
  have ed := hR.dn
  rcases h1 with ⟨e, a1, a2⟩ | ⟨e, a⟩ | ⟨e, a⟩
  · subst e
    rcases h2 with ⟨b1, _⟩ | ⟨_, b2, _⟩ | ⟨_, s9, b2, b3, b4⟩
    · exact absurd (ed.symm.trans a1) b1
    · exfalso
      rcases a2 with ⟨y, _⟩ | ⟨y, _⟩
      · exact b2 (s_in (k := 0) (by omega) y).2
      · exact b2 (s_in (k := 1) (by omega) y).2
    · subst b4
      refine ⟨rfl, ?_⟩
      rcases a2 with ⟨y, yu⟩ | ⟨y, yu⟩
      · have e : s9 = 0 := (nI_eq (by omega) (by omega)).mp (b3.symm.trans y)
        subst e; subst yu
        refine frz_rel hR a1 (hw a1) (by omega) ⟨rfl, rfl, rfl, rfl, rfl, rfl⟩ rfl (fun w hw' => ?_) (fun k hk hn => ?_)
        · show va_cpy (cs_im c0) (cs_s0 c0) 0 0 31 w = _
          exact cpy_31 hw'
        · unfold sn
          rw [if_neg hn, if_neg hn]
      · have e : s9 = 1 := (nI_eq (by omega) (by omega)).mp (b3.symm.trans y)
        subst e; subst yu
        refine frz_rel hR a1 (hw a1) (by omega) ⟨rfl, rfl, rfl, rfl, rfl, rfl⟩ rfl (fun w hw' => ?_) (fun k hk hn => ?_)
        · show va_cpy (cs_im c0) (cs_s1 c0) 0 0 31 w = _
          exact cpy_31 hw'
        · have : k = 0 := by omega
          subst this; rfl
  · subst e
    rcases a with ⟨_, a1, a2⟩ | ⟨a0, _⟩
    · subst a2
      rcases h2 with ⟨_, b2⟩ | ⟨b1, _⟩ | ⟨b1, _⟩
      · subst b2; exact ⟨rfl, hR.th 1⟩
      · exact absurd (ed.trans b1) a1
      · exact absurd (ed.trans b1) a1
    · exact absurd a0 (by decide)
  · subst e
    rcases a with ⟨a0, _⟩ | ⟨_, a1, a2, a3⟩
    · exact absurd a0 (by decide)
    · subst a3
      rcases h2 with ⟨b1, _⟩ | ⟨_, _, b3⟩ | ⟨_, s9, b2, b3, _⟩
      · exact absurd (ed.symm.trans a1) b1
      · subst b3; exact ⟨rfl, hR.th 2⟩
      · exact absurd (s_in b2 b3).1 a2
/-- a snapshot on both sides -/
def SnA (c : CS) (m : MS) (k p : Nat) : Prop := ¬ rs_tk m k = 0 → p ≤ 8 ∧ rs_pr m k = nI p ∧ (∀ i, i < 4 → rs_co m (4 * k + i) = sn c k i) ∧ (∀ i, i < p → rs_ky m (8 * k + i) = sn c k (15 + i) ∧ rs_nu m (8 * k + i) = sn c k (23 + i)) ∧ ∀ i j, i < j → j < p → sn c k (15 + i) < sn c k (15 + j)
theorem Rel.sna {c : CS} {m : MS} (h : Rel c m) {k : Nat} (hk : k ≤ 1) : ∃ f n p, (¬ cs_tk c k = 0 → WfN f n p (sn c k)) ∧ SnA c m k p := by
  by_cases z : rs_tk m k = 0
  · exact ⟨0, 0, 0, fun y => absurd ((congrFun h.tk k).trans z) y, fun y => absurd z y⟩
  · obtain ⟨f, n, p, a1, a2, a3, a4⟩ := h.2.2.2.2.2 k hk z
    exact ⟨f, n, p, fun _ => a1, fun _ => ⟨a1.2.2.1, a2, a3, a4, a1.2.2.2.2.2.2⟩⟩
theorem sn_plc {x : Nat → Int64} {key : Int64} {p i : Nat} (hr : ∀ i j, i < j → j < p → x (15 + i) < x (15 + j)) (hi : i < p) (hk : x (15 + i) = key) : plc x key p = i := by
  have hle := plc_le x key p
  have h1 : ∀ t, t < plc x key p → x (15 + t) < key := fun t ht => lead_lt (fun i => x (15 + i)) key p 0 t (Nat.zero_le _) ht
  have h2 : plc x key p < p → ¬ x (15 + plc x key p) < key := fun h => lead_at (fun i => x (15 + i)) key p 0 (by show plc x key p < 0 + p; omega)
  rcases Nat.lt_trichotomy (plc x key p) i with z | z | z
  · have q := hr _ _ z hi
    rw [hk] at q
    exact absurd q (h2 (by omega))
  · exact z
  · have q := h1 i z
    rw [hk] at q
    exact absurd q (Int64.lt_irrefl)
theorem fr_k {c0 : CS} {r0 : MS} {k p : Nat} (hs : SnA c0 r0 k p) (ht : cs_tk c0 k = rs_tk r0 k) {b9 : Int32} {y9 r b : Int64} {v : MS} (h1 : FrK (cs_tk c0 k) (sn c0 k) p b9 y9 r) (h2 : RFz r0 k p b9 y9 b v) : v = rs_thr r0 0 ∧ r = b := by
  obtain ⟨a0, a⟩ := h1
  have z : ¬ rs_tk r0 k = 0 := fun y => a0 (ht.trans y)
  obtain ⟨s1, s2, s3, s4, s5⟩ := hs z
  rcases h2 with ⟨y, _⟩ | ⟨_, h2⟩
  · exact absurd y z
  · rcases a with ⟨a1, c9, a2, a3, a4⟩ | ⟨a1, a2, a3⟩
    · rcases h2 with ⟨_, h2⟩ | ⟨y, _⟩
      · rcases h2 with ⟨y, _⟩ | ⟨d9, y1, y2, y3, y4⟩
        · exact absurd (by rw [a3, nI_l (by decide)]; exact ⟨(lN_le (a := 0) (by decide) (by omega)).mpr (by omega), (lN_le (by omega) (by decide)).mpr a2⟩) y
        · have e : c9 = d9 := (lN_eq (by omega) (by omega)).mp (a3.symm.trans y2)
          exact ⟨y4, by rw [a4, y3, e, s3 d9 (by omega)]⟩
      · exact absurd y a1
    · rcases h2 with ⟨y, _⟩ | ⟨_, h2⟩
      · exact absurd a1 y
      · rcases h2 with ⟨i, y1, y2, y3, y4⟩ | ⟨y, _⟩
        · have e := sn_plc s5 y1 ((s4 i y1).1.symm.trans y2)
          exact ⟨y4, by rw [a3, y3, e, (s4 i y1).2]⟩
        · exact absurd ((s4 _ a2.1).1.trans a2.2) (y _ a2.1)
theorem fr_n {c0 : CS} {r0 : MS} {k p : Nat} (hs : SnA c0 r0 k p) (ht : cs_tk c0 k = rs_tk r0 k) {b9 : Int32} {y9 b : Int64} {v : MS} (h1 : FrN (cs_tk c0 k) (sn c0 k) p b9 y9) (h2 : RFz r0 k p b9 y9 b v) : v = rs_thr r0 1 := by
  rcases h2 with ⟨_, y⟩ | ⟨z, h2⟩
  · exact y
  · obtain ⟨s1, s2, s3, s4, s5⟩ := hs z
    rcases h1 with a | ⟨a1, a2⟩ | ⟨a1, a2⟩
    · exact absurd (ht.symm.trans a) z
    · rcases h2 with ⟨_, h2⟩ | ⟨y, _⟩
      · rcases h2 with ⟨_, y⟩ | ⟨d9, y1, y2, _⟩
        · exact y
        · exact absurd (by rw [y2, nI_l (by decide)]; exact ⟨(lN_le (a := 0) (by decide) (by omega)).mpr (by omega), (lN_le (by omega) (by decide)).mpr y1⟩) a2
      · exact absurd y a1
    · rcases h2 with ⟨y, _⟩ | ⟨_, h2⟩
      · exact absurd a1 y
      · rcases h2 with ⟨i, y1, y2, _⟩ | ⟨_, y⟩
        · have e := sn_plc s5 y1 ((s4 i y1).1.symm.trans y2)
          exact absurd ⟨by rw [e]; exact y1, by rw [e]; exact (s4 i y1).1.symm.trans y2⟩ a2
        · exact y
theorem sim_frozen {c0 : CS} {r0 : MS} (hR : Rel c0 r0) {f0 n0_ p0 f1 n1_ p1 : Nat} (hs0 : SnA c0 r0 0 p0) (hs1 : SnA c0 r0 1 p1) {g9 : Nat → Int64} {x9 b9 r : Int32} {y9 b : Int64} {u : CS × (Nat → Int64)} {v : MS} (h1 : (r = nI 0 ∧ ∃ v, PS_frozen c0 f0 n0_ p0 f1 n1_ p1 x9 b9 y9 v u.1 ∧ u.2 = vp_updL g9 0 v) ∨ (r = nI 1 ∧ XS_frozen c0 f0 n0_ p0 f1 n1_ p1 x9 b9 y9 xIOE u.1 ∧ u.2 = g9)) (h2 : PR_frozen r0 (fun k => if k = 0 then p0 else p1) x9 b9 y9 b v) : rs_th v = r ∧ (r = nI 0 → u.2 0 = b) ∧ Rel u.1 v := by
  have ht := fun k => congrFun hR.tk k
  rcases h1 with ⟨e, x, ⟨a0, a⟩, e2⟩ | ⟨e, ⟨a0, _, a⟩, e2⟩
  · subst e; rw [a0]
    have key : v = rs_thr r0 0 ∧ x = b := by
      rcases h2 with ⟨b1, _⟩ | ⟨s9, b1, b2, b3⟩
      · exfalso
        rcases a with ⟨y, _⟩ | ⟨y, _⟩
        · exact b1 (s_in (k := 0) (by omega) y).2
        · exact b1 (s_in (k := 1) (by omega) y).2
      · rcases a with ⟨y, a⟩ | ⟨y, a⟩
        · have e : s9 = 0 := (nI_eq (by omega) (by omega)).mp (b2.symm.trans y)
          subst e
          exact fr_k hs0 (ht 0) a b3
        · have e : s9 = 1 := (nI_eq (by omega) (by omega)).mp (b2.symm.trans y)
          subst e
          exact fr_k hs1 (ht 1) a b3
    obtain ⟨k1, k2⟩ := key
    subst k1
    exact ⟨rfl, fun _ => by rw [e2, pk_uLs, k2], hR.th 0⟩
  · subst e; rw [a0]
    have key : v = rs_thr r0 1 := by
      rcases h2 with ⟨_, b1⟩ | ⟨s9, b1, b2, b3⟩
      · exact b1
      · rcases a with y | ⟨y, a⟩ | ⟨y, a⟩
        · exact absurd (s_in b1 b2).1 y
        · have e : s9 = 0 := (nI_eq (by omega) (by omega)).mp (b2.symm.trans y)
          subst e
          exact fr_n hs0 (ht 0) a b3
        · have e : s9 = 1 := (nI_eq (by omega) (by omega)).mp (b2.symm.trans y)
          subst e
          exact fr_n hs1 (ht 1) a b3
    subst key
    exact ⟨rfl, fun z => absurd z (by decide), hR.th 1⟩
theorem sim_recover {c0 : CS} {r0 : MS} (hR : Rel c0 r0) {n9 : Nat} {a9 : Nat → Nat} {y9 : Nat → Int64} (hl : ¬ cs_dn c0 = 0 → LogOk n9 a9 y9 (am_va (cs_me c0)) ∧ Wf y9) {g9 : Nat → Int64} {r b : Int32} {u : CS × (Nat → Int64)} {v : MS} (h1 : (r = nI 0 ∧ ∃ v, PS_recover c0 n9 a9 y9 v u.1 ∧ u.2 = vp_updL g9 0 v.toInt64) ∨ (r = nI 1 ∧ XS_recover c0 n9 a9 y9 xISE u.1 ∧ u.2 = g9)) (h2 : PR_recover r0 n9 a9 y9 b v) : rs_th v = r ∧ (r = nI 0 → u.2 0 = b.toInt64) ∧ Rel u.1 v := by
  have ed := hR.dn
  have et := hR.2.1
  have hva := hR.va
  have hrun : ¬ cs_dn c0 = 0 → MRel (op_run (rc_ops a9 (am_va (cs_me c0)) n9) c0).1 (ro_run (rc_ops a9 (rs_va r0) n9) (rs_rc r0)) ∧ (((op_run (rc_ops a9 (am_va (cs_me c0)) n9) c0).2 = false ∧ rs_so (ro_run (rc_ops a9 (rs_va r0) n9) (rs_rc r0)) = 0) ∨ ((op_run (rc_ops a9 (am_va (cs_me c0)) n9) c0).2 = true ∧ rs_so (ro_run (rc_ops a9 (rs_va r0) n9) (rs_rc r0)) = 1)) := fun z => by
    have hg := hR.go (n := n9) (a := a9) (y := y9) (by rw [← hva]; exact (hl z).1)
    rw [hva]
    exact MRel.run _ (c := c0) (m := rs_rc r0) hR.1 rfl hg
  obtain ⟨⟨k1, k2, k3, k4, k5⟩, k6⟩ := KeepR.run (rc_ops a9 (rs_va r0) n9) (rs_rc r0)
  rcases h1 with ⟨e, x, ⟨a1, a2, u1, a3, a4⟩, e2⟩ | ⟨e, ⟨_, a⟩, e2⟩
  · subst e
    have htx : cs_tx c0 = 0 := (hR.2.2.2.2.1 a1).2
    have hwi : rs_wi r0 = 0 := et.symm.trans htx
    rw [a4]
    rcases h2 with ⟨b1, _⟩ | ⟨_, b1, b2, b3⟩ | ⟨_, b1, b2, b3⟩
    · exact absurd (ed.trans b1) a1
    · subst b3
      have e1 : u1 = c0 := by
        rcases a3 with ⟨_, q⟩ | ⟨q, _⟩
        · exact q
        · omega
      subst e1
      have hlo := (hl a1).1
      subst b1
      have hup : UpOk (am_va (cs_me u1)) := ⟨hlo.2.1, (hl a1).2.congr (fun w hw => by
        rcases hlo.2.2.2.2 w hw with ⟨e, h, _⟩ | h
        · omega
        · exact h)⟩
      obtain ⟨⟨m1, m2, m3, m4, m5, m6, m7, m8, m9, m10, _, m12, m13⟩, q2, q3, _, _, q6⟩ := hR
      refine ⟨rfl, fun _ => by rw [e2, pk_uLs, a2, b2]; rfl, ⟨m1, m2, m3, m4, m5, m6, m7, m8, m9, m10, rfl, m12, m13⟩, q2, q3, fun _ => ⟨hup, hup.2.congr (fun w hw => cpy_31 hw), fun w hw => ?_⟩, fun z => absurd rfl z, q6⟩
      refine (cpy_31 hw).trans ?_
      refine Eq.trans ?_ (WK_0 (show rs_wi r0 = 0 from hwi) hw).symm
      exact congrFun hva w
    · rcases a3 with ⟨q, _⟩ | ⟨_, q⟩
      · exact absurd q b1
      · obtain ⟨hM, hb⟩ := hrun a1
        have hrc := rc_run (c := c0) hR.2.2.1 rfl (hl a1).1 (hl a1).2
        rw [q] at hM hb hrc
        have hso := hb.resolve_right (fun z => absurd (show false = true from z.1) (by decide))
        have k6 := k6 hwi
        rcases hrc with ⟨s1, _, s3, s4⟩ | s
        · subst b2
          generalize ro_run (rc_ops a9 (rs_va r0) n9) (rs_rc r0) = rr at hM hso b3 k1 k2 k3 k4 k5 k6 ⊢
          obtain ⟨m1, m2, m3, m4, m5, m6, m7, m8, m9, m10, m11, m12, m13⟩ := hM
          refine ⟨if_pos hso.2, fun _ => by rw [e2, pk_uLs, a2, b3, if_pos hso.2], ⟨m1, m2, m3, m4, m5, m6, m7, m8, m9, m10, hso.2.symm, m12, m13⟩, (show cs_tx u1 = 0 from s1.2.2.2.2.2.2.1.trans htx).trans k6.symm, s3, fun _ => ⟨s4, s4.2.congr (fun w hw => cpy_31 hw), fun w hw => ?_⟩, fun z => absurd rfl z, ?_⟩
          · refine (cpy_31 hw).trans ?_
            refine Eq.trans ?_ (WK_0 (m := rs_rfin rr) (show rs_wi rr = 0 from k6) hw).symm
            exact congrFun m1 w
          · refine hR.2.2.2.2.2.keep (u := _) s1.2.1 s1.2.2.1 (fun k _ z y => z ?_) ⟨k2, k3, k4, k5⟩
            show rs_tk rr k = 0
            rw [← m10, show cs_tk u1 = cs_tk c0 from s1.2.2.2.1, hR.tk]; exact y
        · exact absurd (show false = true from s.1) (by decide)
  · subst e
    rcases a with ⟨a1, a2⟩ | ⟨a1, a2, a3⟩
    · rw [a2]
      rcases h2 with ⟨_, b2⟩ | ⟨b1, _⟩ | ⟨b1, _⟩
      · subst b2; exact ⟨rfl, fun z => absurd z (by decide), hR.th 1⟩
      · exact absurd (ed.symm.trans a1) b1
      · exact absurd (ed.symm.trans a1) b1
    · have htx : cs_tx c0 = 0 := (hR.2.2.2.2.1 a1).2
      have hwi : rs_wi r0 = 0 := et.symm.trans htx
      rcases h2 with ⟨b1, _⟩ | ⟨_, b1, _⟩ | ⟨_, b1, b2, b3⟩
      · exact absurd (ed.trans b1) a1
      · omega
      · obtain ⟨hM, hb⟩ := hrun a1
        have hrc := rc_run (c := c0) hR.2.2.1 rfl (hl a1).1 (hl a1).2
        rw [a3] at hM hb hrc
        have hso := hb.resolve_left (fun z => absurd (show true = false from z.1) (by decide))
        have k6 := k6 hwi
        rcases hrc with ⟨_, s2, _⟩ | ⟨_, s2, s3, _, _, _, s7, _, s9, s10, _⟩
        · exact absurd (show true = false from s2) (by decide)
        · subst b2
          generalize ro_run (rc_ops a9 (rs_va r0) n9) (rs_rc r0) = rr at hM hso b3 k6 ⊢
          obtain ⟨m1, m2, m3, m4, m5, m6, m7, m8, m9, m10, m11, m12, m13⟩ := hM
          have en : ¬ rs_so rr = 0 := by rw [hso.2]; decide
          refine ⟨if_neg en, fun z => absurd z (by decide), ⟨m1, m2, m3, m4, m5, m6, m7, m8, m9, m10, (show cs_dn u.1 = 1 from s9).trans hso.2.symm, m12, m13⟩, (show cs_tx u.1 = 0 from s10).trans k6.symm, s2, fun z => absurd ((show cs_dn u.1 = 1 from s9).symm.trans z) (by decide), fun _ => ⟨s3, s10⟩, Snp.none (fun k hk => ?_)⟩
          show rs_tk rr k = 0
          rw [← m10, show cs_tk u.1 = _ from s7]
          exact if_pos (by omega)
