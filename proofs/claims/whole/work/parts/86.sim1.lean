/-! Call by call: the answers are the same, and what holds between two calls holds again. -/
abbrev xISE : String := "java/lang/IllegalStateException"
abbrev xIOE : String := "java/lang/IndexOutOfBoundsException"
abbrev xUOE : String := "java/lang/UnsupportedOperationException"
theorem Rel.hi {c : CS} {m : MS} (h : Rel c m) (z : cs_dn c = 0) {w : Nat} (hw : w < 31) : cs_im c w = WK m w := (h.2.2.2.1 z).2.2 w hw
theorem Rel.lc {c : CS} {m : MS} (h : Rel c m) : LS01 m := (RoS.of h.1 h.2.2.1).lc
theorem Rel.rgo {c : CS} {m : MS} (h : Rel c m) : RGo m := RoS.go0 h.1 h.2.2.1
theorem Rel.go {c : CS} {m : MS} (h : Rel c m) {n : Nat} {a : Nat → Nat} {y : Nat → Int64} (hl : LogOk n a y (rs_va m)) : rGd (rc_ops a (rs_va m) n) (rs_rc m) :=
  RoS.rc (m := rs_rc m) (RoS.of (c := c) (m := rs_rc m) h.1 h.2.2.1) hl
theorem sim_begin {c0 : CS} {r0 : MS} (hR : Rel c0 r0) {r : Int32} {u : CS} {v : MS} (h1 : (r = nI 0 ∧ PS_begin c0 u) ∨ (r = nI 1 ∧ XS_begin c0 xISE u)) (h2 : PR_begin r0 v) : rs_th v = r ∧ Rel u v := by
  have ed := hR.dn
  have et := hR.2.1
  rcases h1 with ⟨e, a1, a2, a3⟩ | ⟨e, _, a2, a3⟩
  · subst e; subst a3
    rcases h2 with ⟨b1, _⟩ | ⟨b1, b2, b3⟩
    · exact absurd ⟨ed.symm.trans a1, et.symm.trans a2⟩ b1
    · subst b3
      refine ⟨rfl, hR.1, rfl, hR.2.2.1, fun z => ⟨(hR.2.2.2.1 z).1, (hR.2.2.2.1 z).2.1, fun w hw => ?_⟩, fun z => absurd a1 z, hR.2.2.2.2.2⟩
      refine (hR.hi z hw).trans ?_
      rw [WK_0 b2 hw]
      refine Eq.trans ?_ (congrFun (WK_1 (show ¬ (1 : Int32) = 0 by decide)).symm w)
      exact (if_pos hw).symm
  · subst e; subst a3
    rcases h2 with ⟨_, b2⟩ | ⟨b1, b2, _⟩
    · subst b2; exact ⟨rfl, hR.th 1⟩
    · exact absurd ⟨ed.trans b1, et.trans b2⟩ a2
theorem sim_commit {c0 : CS} {r0 : MS} (hR : Rel c0 r0) {g9 : Nat → Int64} {r b : Int32} {u : CS × (Nat → Int64)} {v : MS} (h1 : (r = nI 0 ∧ ∃ v, PS_commit c0 v u.1 ∧ u.2 = vp_updL g9 0 v.toInt64) ∨ (r = nI 1 ∧ XS_commit c0 xISE u.1 ∧ u.2 = g9)) (h2 : PR_commit r0 b v) : rs_th v = r ∧ (r = nI 0 → u.2 0 = b.toInt64) ∧ Rel u.1 v := by
  have ed := hR.dn
  have et := hR.2.1
  have H : cs_dn c0 = 0 → ¬ cs_tx c0 = 0 → CmH c0 (rs_thr r0 0) := fun z y => ⟨hR.1, hR.2.2.1, z, (hR.2.2.2.1 z).1, (hR.2.2.2.1 z).2.1, fun w hw => by
    rw [hR.hi z hw, WK_1 (fun q => y (et.trans q))]; rfl, hR.2.2.2.2.2, rfl⟩
  rcases h1 with ⟨e, x, ⟨a1, a2, u1, a3, a4⟩, e2⟩ | ⟨e, ⟨_, a⟩, e2⟩
  · subst e
    rcases h2 with ⟨b1, _⟩ | ⟨b1, b2, b3⟩
    · exact absurd ⟨ed.symm.trans a1, fun q => a2 (et.trans q)⟩ b1
    · obtain ⟨y1, y2, y3, _⟩ := sim_q (H a1 a2) a3 b3 (u' := u.1) (by rw [a4]; exact ⟨rfl, rfl, rfl, rfl, rfl, rfl, rfl, rfl⟩) (by rw [a4])
      exact ⟨y2, fun _ => by rw [e2, pk_uLs, y1], y3⟩
  · subst e
    rcases a with ⟨a1, a2⟩ | ⟨a1, a2, a3⟩
    · rcases h2 with ⟨_, b2⟩ | ⟨b1, b2, _⟩
      · subst b2; rw [a2]
        exact ⟨rfl, fun z => absurd z (by decide), hR.th 1⟩
      · exact absurd ⟨ed.trans b1, fun q => b2 (et.symm.trans q)⟩ a1
    · rcases h2 with ⟨b1, _⟩ | ⟨b1, b2, b3⟩
      · exact absurd ⟨ed.symm.trans a1, fun q => a2 (et.trans q)⟩ b1
      · obtain ⟨y1, y2⟩ := sim_x (H a1 a2) a3 b3
        exact ⟨y1, fun z => absurd z (by decide), y2⟩
theorem cpy_31 {f g : Nat → Int64} {w : Nat} (hw : w < 31) : va_cpy f g 0 0 31 w = f w := by
  unfold va_cpy
  rw [if_pos ⟨Nat.zero_le _, by omega⟩, Nat.zero_add, Nat.sub_zero]
theorem sim_abort {c0 : CS} {r0 : MS} (hR : Rel c0 r0) {r : Int32} {u : CS} {v : MS} (h1 : (r = nI 0 ∧ PS_abort c0 u) ∨ (r = nI 1 ∧ XS_abort c0 xISE u)) (h2 : PR_abort r0 v) : rs_th v = r ∧ Rel u v := by
  have ed := hR.dn
  have et := hR.2.1
  rcases h1 with ⟨e, a1, a2, a3⟩ | ⟨e, _, a2, a3⟩
  · subst e; subst a3
    rcases h2 with ⟨b1, _⟩ | ⟨b1, b2, b3⟩
    · exact absurd ⟨ed.symm.trans a1, fun q => a2 (et.trans q)⟩ b1
    · subst b3
      refine ⟨rfl, hR.1, rfl, hR.2.2.1, fun z => ⟨(hR.2.2.2.1 a1).1, (hR.2.2.2.1 a1).1.2.congr (fun w hw => cpy_31 hw), fun w hw => ?_⟩, fun z => absurd a1 z, hR.2.2.2.2.2⟩
      refine (cpy_31 hw).trans ?_
      rw [WK_0 (show (0 : Int32) = 0 from rfl) hw]
      exact congrFun hR.va w
  · subst e; subst a3
    rcases h2 with ⟨b0, b⟩ | ⟨b1, b2, _⟩
    · rcases b with ⟨b1, b2⟩ | ⟨b1, _⟩
      · have : v = rs_thr r0 1 := by rw [b2]; unfold rs_thr; rw [b1]
        subst this; exact ⟨rfl, hR.th 1⟩
      · have hz : ¬ cs_dn u = 0 := fun q => b0 ⟨ed.symm.trans q, b1⟩
        exact absurd (et.symm.trans (hR.2.2.2.2.1 hz).2) b1
    · exact absurd ⟨ed.trans b1, fun q => b2 (et.symm.trans q)⟩ a2
theorem UpOk.congr {x y : Nat → Int64} (h : UpOk y) (e : ∀ w, w < 112 → x w = y w) : UpOk x := ⟨(e 40 (by decide)).trans h.1, h.2.congr (fun w hw => e w (by omega))⟩
theorem clean_crash (m : AM) (sd : Int32) : Clean (ms_crash m sd) :=
  ⟨fun w hw => by
    refine ⟨?_, if_pos hw⟩
    show (if w < 112 then ms_pick m sd w else am_ke m w) = (if w < 112 then ms_pick m sd w else am_va m w)
    rw [if_pos hw, if_pos hw], fun k hk => ⟨if_pos hk, if_pos hk⟩⟩
theorem crash_va {m : AM} {sd : Int32} (h : Clean m) {w : Nat} (hw : w < 112) : am_va (ms_crash m sd) w = am_va m w := by
  show (if w < 112 then ms_pick m sd w else am_va m w) = _
  rw [if_pos hw]
  unfold ms_pick
  rw [(h.1 w hw).2, if_neg (by decide)]
  exact (h.1 w hw).1
theorem sim_crash {c0 : CS} {r0 : MS} (hR : Rel c0 r0) {x9 r : Int32} {u : CS} {v : MS} (h1 : (r = nI 0 ∧ PS_crash c0 x9 u) ∨ (r = nI 1 ∧ XS_crash c0 x9 xISE u)) (h2 : PR_crash r0 x9 v) : rs_th v = r ∧ Rel u v := by
  have ed := hR.dn
  rcases h1 with ⟨e, a1, a2⟩ | ⟨e, _, a1, a2⟩
  · subst e; subst a2
    rcases h2 with ⟨b1, _⟩ | ⟨b1, b2⟩
    · exact absurd (ed.symm.trans a1) b1
    · subst b2
      have hM : MRel (cs_fall c0 x9) (rs_crash (rs_thr r0 0) x9) := MRel.crash (m := rs_thr r0 0) hR.1 hR.lc
      refine ⟨rfl, hM, rfl, clean_crash _ _, fun z => absurd (show (1 : Int32) = 0 from z) (by decide), fun _ => ⟨?_, rfl⟩, Snp.none (fun k hk => ?_)⟩
      · exact ((hR.2.2.2.1 a1).1.congr (fun w hw => crash_va hR.2.2.1 hw)).down
      · rw [← hM.tk]
        exact if_pos (by omega)
  · subst e; subst a2
    rcases h2 with ⟨_, b2⟩ | ⟨b1, _⟩
    · subst b2; exact ⟨rfl, hR.th 1⟩
    · exact absurd (ed.trans b1) a1
theorem sim_stop {c0 : CS} {r0 : MS} (hR : Rel c0 r0) {x9 y9 r b : Int32} {u : CS} {v : MS} (h1 : PS_stop c0 x9 y9 r u) (h2 : PR_stop r0 x9 y9 b v) : r = b ∧ Rel u v := by
  rcases h1 with ⟨a1, a2, a3⟩ | ⟨a1, a2, a3⟩
  · rcases h2 with ⟨_, b2, b3⟩ | ⟨b1, _⟩
    · subst a3; subst b3; exact ⟨a2.trans b2.symm, hR.th 0⟩
    · exact absurd a1 b1
  · rcases h2 with ⟨b1, _⟩ | ⟨_, b2, b3⟩
    · exact absurd b1 a1
    · subst a3; subst b3
      obtain ⟨⟨m1, m2, m3, m4, m5, m6, m7, m8, m9, m10, m11, _, _⟩, q2, q3, q4, q5, q6⟩ := hR
      exact ⟨a2.trans b2.symm, ⟨m1, m2, m3, m4, m5, m6, m7, m8, m9, m10, m11, rfl, rfl⟩, q2, q3, q4, q5, q6⟩
theorem w_in {x : Int32} {k : Nat} (hk : k ≤ 111) (e : x = nI k) : (0 ≤ x.toInt64 ∧ x.toInt64 ≤ 111) ∧ (0 ≤ x ∧ x < nI 112) := by
  subst e
  exact ⟨(lN_iff (by omega) 111 (by decide)).mpr hk, nI_pos' (by omega), nI_lt (by omega) (by decide)⟩
theorem sim_loose {c0 : CS} {r0 : MS} (hR : Rel c0 r0) {x9 r b : Int32} {u : CS} {v : MS} (h1 : PS_loose c0 x9 r u) (h2 : PR_loose r0 x9 b v) : r = b ∧ Rel u v := by
  obtain ⟨rfl, a⟩ := h1
  obtain ⟨rfl, b'⟩ := h2
  refine ⟨?_, hR.th 0⟩
  rcases a with ⟨a1, a2⟩ | ⟨k, a1, a2, a3⟩
  · rcases b' with ⟨_, b2⟩ | ⟨k, b1, b2, _⟩
    · rw [a2, b2]
    · exact absurd (w_in (by omega) b2).1 a1
  · rcases b' with ⟨b1, _⟩ | ⟨j, b1, b2, b3⟩
    · exact absurd (w_in a1 a2).2 b1
    · have e : k = j := (nI_eq (by omega) (by omega)).mp (a2.symm.trans b2)
      rw [a3, b3, e, hR.1.2.2.1]
theorem sim_word {c0 : CS} {r0 : MS} (hR : Rel c0 r0) {g9 : Nat → Int64} {x9 b9 r : Int32} {b : Int64} {u : CS × (Nat → Int64)} {v : MS} (h1 : (r = nI 0 ∧ ∃ v, PS_word c0 x9 b9 v u.1 ∧ u.2 = vp_updL g9 0 v) ∨ (r = nI 1 ∧ XS_word c0 x9 b9 xIOE u.1 ∧ u.2 = g9)) (h2 : PR_word r0 x9 b9 b v) : rs_th v = r ∧ (r = nI 0 → u.2 0 = b) ∧ Rel u.1 v := by
  rcases h1 with ⟨e, x, ⟨a0, k, a1, a2, a3⟩, e2⟩ | ⟨e, ⟨_, a1, a2⟩, e2⟩
  · subst e; rw [a0]
    rcases h2 with ⟨b1, _⟩ | ⟨j, b1, b2, b3, b4⟩
    · exact absurd (w_in a1 a2).2 b1
    · subst b3
      have e : k = j := (nI_eq (by omega) (by omega)).mp (a2.symm.trans b2)
      refine ⟨rfl, fun _ => ?_, hR.th 0⟩
      rw [e2, pk_uLs]
      rcases a3 with ⟨c1, c2⟩ | ⟨c1, c2⟩
      · rcases b4 with ⟨_, d2⟩ | ⟨d1, _⟩
        · rw [c2, d2, e, hR.1.2.1]
        · exact absurd d1 c1
      · rcases b4 with ⟨d1, _⟩ | ⟨_, d2⟩
        · exact absurd c1 d1
        · rw [c2, d2, e, hR.va]
  · subst e; rw [a2]
    rcases h2 with ⟨_, b2⟩ | ⟨j, b1, b2, _⟩
    · subst b2; exact ⟨rfl, fun z => absurd z (by decide), hR.th 1⟩
    · exact absurd (w_in (by omega) b2).1 a1
theorem sim_audit {c0 : CS} {r0 : MS} (hR : Rel c0 r0) {r b : Int32} {u : CS} {v : MS} (h1 : PS_audit c0 r u) (h2 : PR_audit r0 b v) : r = b ∧ Rel u v := by
  obtain ⟨rfl, a⟩ := h1
  obtain ⟨rfl, b'⟩ := h2
  rw [hR.va] at a
  exact ⟨aud_one a b', hR.th 0⟩
/-- what look() answers -/
theorem lk_one {c0 : CS} {r0 : MS} (hR : Rel c0 r0) {n p : Nat} {x r b : Int32} (h : LkQ c0 n p x r) (g : RLk r0 n p x b) : r = b := by
  have ed := hR.dn
  have et := hR.2.1
  have m6 := hR.1.2.2.2.2.2.1
  have m7 := hR.1.2.2.2.2.2.2.1
  have m8 := hR.1.2.2.2.2.2.2.2.1
  have m9 := hR.1.2.2.2.2.2.2.2.2.1
  have mp := hR.1.2.2.2.2.2.2.2.2.2.2.2.1
  rcases h with ⟨e, a⟩ | ⟨e, a⟩ | ⟨e, a⟩ | ⟨e, a⟩ | ⟨e, a⟩ | ⟨e, a⟩ | ⟨e, a⟩ | ⟨e, a⟩ | ⟨e, a⟩ | ⟨e, a⟩
  all_goals rcases g with ⟨q, y⟩ | ⟨q, y⟩ | ⟨q, y⟩ | ⟨q, y⟩ | ⟨q, y⟩ | ⟨q, y⟩ | ⟨q, y⟩ | ⟨q, y⟩ | ⟨q, y⟩ | ⟨q, y⟩
  all_goals first
    | exact absurd (e.symm.trans q) (by decide)
    | (rw [a, y, ed]; done)
    | (rw [a, y, et]; done)
    | (rw [a, y, m6]; done)
    | (rw [a, y, m7]; done)
    | (rw [a, y, m8]; done)
    | (rw [a, y, m9]; done)
    | (rw [a, y, mp]; done)
    | (rw [a, y]; done)
    | exact absurd e (q _ (by decide))
    | (exfalso; subst q; revert e; decide)
theorem sim_look {c0 : CS} {r0 : MS} (hR : Rel c0 r0) {f9 n9 p9 : Nat} {x9 r b : Int32} {u : CS} {v : MS} (h1 : PS_look c0 f9 n9 p9 x9 r u) (h2 : PR_look r0 f9 n9 p9 x9 b v) : r = b ∧ Rel u v := by
  obtain ⟨rfl, a⟩ := h1
  obtain ⟨rfl, b'⟩ := h2
  exact ⟨lk_one hR a b', hR.th 0⟩
theorem sim_counter {c0 : CS} {r0 : MS} (hR : Rel c0 r0) {g9 : Nat → Int64} {x9 r : Int32} {b : Int64} {u : CS × (Nat → Int64)} {v : MS} (h1 : (r = nI 0 ∧ ∃ v, PS_counter c0 x9 v u.1 ∧ u.2 = vp_updL g9 0 v) ∨ (r = nI 1 ∧ XS_counter c0 x9 xISE u.1 ∧ u.2 = g9) ∨ (r = nI 2 ∧ XS_counter c0 x9 xIOE u.1 ∧ u.2 = g9)) (h2 : PR_counter r0 x9 b v) : rs_th v = r ∧ (r = nI 0 → u.2 0 = b) ∧ Rel u.1 v := by
  have ed := hR.dn
  rcases h1 with ⟨e, x, ⟨a0, a1, k, a2, a3, a4⟩, e2⟩ | ⟨e, a, e2⟩ | ⟨e, a, e2⟩
  · subst e; rw [a0]
    rcases h2 with ⟨b1, _⟩ | ⟨_, b2, _⟩ | ⟨_, j, b2, b3, b4, b5⟩
    · exact absurd (ed.symm.trans a1) b1
    · exact absurd (by subst a3; exact (lN_iff (by omega) 3 (by decide)).mpr a2) b2
    · subst b4
      have e : k = j := (nI_eq (by omega) (by omega)).mp (a3.symm.trans b3)
      exact ⟨rfl, fun _ => by rw [e2, pk_uLs, a4, b5, e, hR.hi a1 (by omega)], hR.tw 0⟩
  · subst e
    rcases a with ⟨_, a1, a2⟩ | ⟨a0, _⟩
    · rw [a2]
      rcases h2 with ⟨_, b2⟩ | ⟨b1, _⟩ | ⟨b1, _⟩
      · subst b2; exact ⟨rfl, fun z => absurd z (by decide), hR.th 1⟩
      · exact absurd (ed.trans b1) a1
      · exact absurd (ed.trans b1) a1
    · exact absurd a0 (by decide)
  · subst e
    rcases a with ⟨a0, _⟩ | ⟨_, a1, a2, a3⟩
    · exact absurd a0 (by decide)
    · rw [a3]
      rcases h2 with ⟨b1, _⟩ | ⟨_, _, b3⟩ | ⟨_, j, b2, b3, _⟩
      · exact absurd (ed.symm.trans a1) b1
      · subst b3; exact ⟨rfl, fun z => absurd z (by decide), hR.th 2⟩
      · exact absurd (by subst b3; exact (lN_iff (by omega) 3 (by decide)).mpr b2) a2
