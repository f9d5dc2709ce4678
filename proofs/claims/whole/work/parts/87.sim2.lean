theorem sim_add {c0 : CS} {r0 : MS} (hR : Rel c0 r0) {g9 : Nat → Int64} {x9 r : Int32} {y9 b : Int64} {u : CS × (Nat → Int64)} {v : MS} (h1 : (r = nI 0 ∧ ∃ v, PS_add c0 x9 y9 v u.1 ∧ u.2 = vp_updL g9 0 v) ∨ (r = nI 1 ∧ XS_add c0 x9 y9 xISE u.1 ∧ u.2 = g9) ∨ (r = nI 2 ∧ XS_add c0 x9 y9 xIOE u.1 ∧ u.2 = g9)) (h2 : PR_add r0 x9 y9 b v) : rs_th v = r ∧ (r = nI 0 → u.2 0 = b) ∧ Rel u.1 v := by
  have ed := hR.dn
  have hg : ∀ k, k ≤ 3 → cs_dn c0 = 0 → Wf (vp_updL (cs_im c0) k (cs_im c0 k + y9)) ∧ ∀ w, w < 31 → vp_updL (cs_im c0) k (cs_im c0 k + y9) w = vp_updL (WK r0) k (WK r0 k + y9) w := fun k hk z => by
    refine ⟨?_, fun w hw => ?_⟩
    · obtain ⟨f, n, p, w1, w2, w3, w4, w5, w6, w7⟩ := (hR.2.2.2.1 z).2.1
      refine ⟨f, n, p, w1, w2, w3, ?_, ?_, ?_, fun i j hi hj => ?_⟩
      · rw [pk_uLn (by omega)]; exact w4
      · rw [pk_uLn (by omega)]; exact w5
      · rw [pk_uLn (by omega)]; exact w6
      · rw [pk_uLn (by omega), pk_uLn (by omega)]; exact w7 i j hi hj
    · by_cases e : w = k
      · rw [e, pk_uLs, pk_uLs, hR.hi z (by omega)]
      · rw [pk_uLn e, pk_uLn e, hR.hi z hw]
  rcases h1 with ⟨e, x, ⟨a1, k, a2, a3, a4, a5⟩, e2⟩ | ⟨e, a, e2⟩ | ⟨e, a, e2⟩
  · subst e
    rcases h2 with ⟨b1, _⟩ | ⟨_, b2, _⟩ | ⟨_, j, b2, b3, b4, b5⟩
    · exact absurd (ed.symm.trans a1) b1
    · exact absurd (by subst a3; exact (lN_iff (by omega) 3 (by decide)).mpr a2) b2
    · have e : k = j := (nI_eq (by omega) (by omega)).mp (a3.symm.trans b3)
      subst e
      obtain ⟨y1, y2, y3⟩ := sim_sa hR a1 (hg k a2 a1).1 (hg k a2 a1).2 a4 b4
      refine ⟨y1, fun _ => ?_, y2⟩
      rw [e2, pk_uLs, a5, b5, y1, if_neg (by decide), y3, pk_uLs, hR.hi a1 (by omega)]
  · subst e
    rcases a with ⟨_, a1, a2⟩ | ⟨a0, _⟩ | ⟨_, a1, k, a2, a3, a4, a5⟩
    · rw [a2]
      rcases h2 with ⟨_, b2⟩ | ⟨b1, _⟩ | ⟨b1, _⟩
      · subst b2; exact ⟨rfl, fun z => absurd z (by decide), hR.th 1⟩
      · exact absurd (ed.trans b1) a1
      · exact absurd (ed.trans b1) a1
    · exact absurd a0 (by decide)
    · rcases h2 with ⟨b1, _⟩ | ⟨_, b2, _⟩ | ⟨_, j, b2, b3, b4, b5⟩
      · exact absurd (ed.symm.trans a1) b1
      · exact absurd (by subst a3; exact (lN_iff (by omega) 3 (by decide)).mpr a2) b2
      · have e : k = j := (nI_eq (by omega) (by omega)).mp (a3.symm.trans b3)
        subst e
        obtain ⟨y1, y2⟩ := sim_sx hR a1 (hg k a2 a1).1 (hg k a2 a1).2 a4 a5 b4
        exact ⟨y1, fun z => absurd z (by decide), y2⟩
  · subst e
    rcases a with ⟨a0, _⟩ | ⟨_, a1, a2, a3⟩ | ⟨a0, _⟩
    · exact absurd a0 (by decide)
    · rw [a3]
      rcases h2 with ⟨b1, _⟩ | ⟨_, _, b3⟩ | ⟨_, j, b2, b3, _⟩
      · exact absurd (ed.symm.trans a1) b1
      · subst b3; exact ⟨rfl, fun z => absurd z (by decide), hR.th 2⟩
      · exact absurd (by subst b3; exact (lN_iff (by omega) 3 (by decide)).mpr b2) a2
    · exact absurd a0 (by decide)
theorem sim_push {c0 : CS} {r0 : MS} (hR : Rel c0 r0) {f9 n9 p9 : Nat} (hw : cs_dn c0 = 0 → WfN f9 n9 p9 (cs_im c0)) {g9 : Nat → Int64} {r b : Int32} {x9 : Int64} {u : CS × (Nat → Int64)} {v : MS} (h1 : (r = nI 0 ∧ ∃ v, PS_push c0 f9 n9 p9 x9 v u.1 ∧ u.2 = vp_updL g9 0 v.toInt64) ∨ (r = nI 1 ∧ XS_push c0 f9 n9 p9 x9 xISE u.1 ∧ u.2 = g9) ∨ (r = nI 2 ∧ XS_push c0 f9 n9 p9 x9 xUOE u.1 ∧ u.2 = g9)) (h2 : PR_push r0 f9 n9 p9 x9 b v) : rs_th v = r ∧ (r = nI 0 → u.2 0 = b.toInt64) ∧ Rel u.1 v := by
  have ed := hR.dn
  have hg : n9 < 8 → cs_dn c0 = 0 → Wf (vp_updL (vp_updL (cs_im c0) (6 + (f9 + n9) % 8) x9) 5 (lN (n9 + 1))) ∧ ∀ w, w < 31 → vp_updL (vp_updL (cs_im c0) (6 + (f9 + n9) % 8) x9) 5 (lN (n9 + 1)) w = vp_updL (vp_updL (WK r0) (6 + (f9 + n9) % 8) x9) 5 (lN (n9 + 1)) w := fun hn z => by
    refine ⟨?_, fun w hw' => ?_⟩
    · obtain ⟨w1, w2, w3, w4, w5, w6, w7⟩ := hw z
      refine ⟨f9, n9 + 1, p9, w1, by omega, w3, ?_, pk_uLs, ?_, fun i j hi hj => ?_⟩
      · rw [pk_uLn (by omega), pk_uLn (by omega)]; exact w4
      · rw [pk_uLn (by omega), pk_uLn (by omega)]; exact w6
      · rw [pk_uLn (by omega), pk_uLn (by omega), pk_uLn (by omega), pk_uLn (by omega)]; exact w7 i j hi hj
    · by_cases e : w = 5
      · rw [e, pk_uLs, pk_uLs]
      · rw [pk_uLn e, pk_uLn e]
        by_cases e' : w = 6 + (f9 + n9) % 8
        · rw [e', pk_uLs, pk_uLs]
        · rw [pk_uLn e', pk_uLn e', hR.hi z hw']
  rcases h1 with ⟨e, x, ⟨a1, a2, a3, a4⟩, e2⟩ | ⟨e, a, e2⟩ | ⟨e, a, e2⟩
  · subst e
    rcases h2 with ⟨b1, _⟩ | ⟨_, b2, _⟩ | ⟨_, b2, b3, b4⟩
    · exact absurd (ed.symm.trans a1) b1
    · exact absurd a2 b2
    · obtain ⟨y1, y2, _⟩ := sim_sa hR a1 (hg a2 a1).1 (hg a2 a1).2 a3 b3
      exact ⟨y1, fun _ => by rw [e2, pk_uLs, a4, b4, y1, if_neg (by decide)], y2⟩
  · subst e
    rcases a with ⟨_, a1, a2⟩ | ⟨a0, _⟩ | ⟨_, a1, a2, a3, a4⟩
    · rw [a2]
      rcases h2 with ⟨_, b2⟩ | ⟨b1, _⟩ | ⟨b1, _⟩
      · subst b2; exact ⟨rfl, fun z => absurd z (by decide), hR.th 1⟩
      · exact absurd (ed.trans b1) a1
      · exact absurd (ed.trans b1) a1
    · exact absurd a0 (by decide)
    · rcases h2 with ⟨b1, _⟩ | ⟨_, b2, _⟩ | ⟨_, b2, b3, b4⟩
      · exact absurd (ed.symm.trans a1) b1
      · exact absurd a2 b2
      · obtain ⟨y1, y2⟩ := sim_sx hR a1 (hg a2 a1).1 (hg a2 a1).2 a3 a4 b3
        exact ⟨y1, fun z => absurd z (by decide), y2⟩
  · subst e
    rcases a with ⟨a0, _⟩ | ⟨_, a1, a2, a3⟩ | ⟨a0, _⟩
    · exact absurd a0 (by decide)
    · rw [a3]
      rcases h2 with ⟨b1, _⟩ | ⟨_, _, b3⟩ | ⟨_, b2, _⟩
      · exact absurd (ed.symm.trans a1) b1
      · subst b3; exact ⟨rfl, fun z => absurd z (by decide), hR.tw 2⟩
      · omega
    · exact absurd a0 (by decide)
theorem sim_pop {c0 : CS} {r0 : MS} (hR : Rel c0 r0) {f9 n9 p9 : Nat} (hw : cs_dn c0 = 0 → WfN f9 n9 p9 (cs_im c0)) {g9 : Nat → Int64} {r : Int32} {b : Int64} {u : CS × (Nat → Int64)} {v : MS} (h1 : (r = nI 0 ∧ ∃ v, PS_pop c0 f9 n9 p9 v u.1 ∧ u.2 = vp_updL g9 0 v) ∨ (r = nI 1 ∧ XS_pop c0 f9 n9 p9 xISE u.1 ∧ u.2 = g9) ∨ (r = nI 2 ∧ XS_pop c0 f9 n9 p9 xUOE u.1 ∧ u.2 = g9)) (h2 : PR_pop r0 f9 n9 p9 b v) : rs_th v = r ∧ (r = nI 0 → u.2 0 = b) ∧ Rel u.1 v := by
  have ed := hR.dn
  have hg : 0 < n9 → cs_dn c0 = 0 → Wf (vp_updL (vp_updL (cs_im c0) 4 (lN ((f9 + 1) % 8))) 5 (lN (n9 - 1))) ∧ ∀ w, w < 31 → vp_updL (vp_updL (cs_im c0) 4 (lN ((f9 + 1) % 8))) 5 (lN (n9 - 1)) w = vp_updL (vp_updL (WK r0) 4 (lN ((f9 + 1) % 8))) 5 (lN (n9 - 1)) w := fun hn z => by
    refine ⟨?_, fun w hw' => ?_⟩
    · obtain ⟨w1, w2, w3, w4, w5, w6, w7⟩ := hw z
      refine ⟨(f9 + 1) % 8, n9 - 1, p9, by omega, by omega, w3, ?_, pk_uLs, ?_, fun i j hi hj => ?_⟩
      · rw [pk_uLn (by omega)]; exact pk_uLs
      · rw [pk_uLn (by omega), pk_uLn (by omega)]; exact w6
      · rw [pk_uLn (by omega), pk_uLn (by omega), pk_uLn (by omega), pk_uLn (by omega)]; exact w7 i j hi hj
    · by_cases e : w = 5
      · rw [e, pk_uLs, pk_uLs]
      · rw [pk_uLn e, pk_uLn e]
        by_cases e' : w = 4
        · rw [e', pk_uLs, pk_uLs]
        · rw [pk_uLn e', pk_uLn e', hR.hi z hw']
  rcases h1 with ⟨e, x, ⟨a1, a2, a3, a4⟩, e2⟩ | ⟨e, a, e2⟩ | ⟨e, a, e2⟩
  · subst e
    rcases h2 with ⟨b1, _⟩ | ⟨_, b2, _⟩ | ⟨_, b2, b3, b4⟩
    · exact absurd (ed.symm.trans a1) b1
    · omega
    · obtain ⟨y1, y2, _⟩ := sim_sa hR a1 (hg a2 a1).1 (hg a2 a1).2 a3 b3
      have hf := (hw a1).1
      exact ⟨y1, fun _ => by rw [e2, pk_uLs, a4, b4, y1, if_neg (by decide), show (f9 + 0) % 8 = f9 by omega, hR.hi a1 (by omega)], y2⟩
  · subst e
    rcases a with ⟨_, a1, a2⟩ | ⟨a0, _⟩ | ⟨_, a1, a2, a3, a4⟩
    · rw [a2]
      rcases h2 with ⟨_, b2⟩ | ⟨b1, _⟩ | ⟨b1, _⟩
      · subst b2; exact ⟨rfl, fun z => absurd z (by decide), hR.th 1⟩
      · exact absurd (ed.trans b1) a1
      · exact absurd (ed.trans b1) a1
    · exact absurd a0 (by decide)
    · rcases h2 with ⟨b1, _⟩ | ⟨_, b2, _⟩ | ⟨_, b2, b3, b4⟩
      · exact absurd (ed.symm.trans a1) b1
      · omega
      · obtain ⟨y1, y2⟩ := sim_sx hR a1 (hg a2 a1).1 (hg a2 a1).2 a3 a4 b3
        exact ⟨y1, fun z => absurd z (by decide), y2⟩
  · subst e
    rcases a with ⟨a0, _⟩ | ⟨_, a1, a2, a3⟩ | ⟨a0, _⟩
    · exact absurd a0 (by decide)
    · rw [a3]
      rcases h2 with ⟨b1, _⟩ | ⟨_, _, b3⟩ | ⟨_, b2, _⟩
      · exact absurd (ed.symm.trans a1) b1
      · subst b3; exact ⟨rfl, fun z => absurd z (by decide), hR.tw 2⟩
      · omega
    · exact absurd a0 (by decide)
theorem sim_queued {c0 : CS} {r0 : MS} (hR : Rel c0 r0) {f9 n9 p9 : Nat} (hw : cs_dn c0 = 0 → WfN f9 n9 p9 (cs_im c0)) {g9 : Nat → Int64} {x9 r : Int32} {b : Int64} {u : CS × (Nat → Int64)} {v : MS} (h1 : (r = nI 0 ∧ ∃ v, PS_queued c0 f9 n9 p9 x9 v u.1 ∧ u.2 = vp_updL g9 0 v) ∨ (r = nI 1 ∧ XS_queued c0 f9 n9 p9 x9 xISE u.1 ∧ u.2 = g9) ∨ (r = nI 2 ∧ XS_queued c0 f9 n9 p9 x9 xIOE u.1 ∧ u.2 = g9)) (h2 : PR_queued r0 f9 n9 p9 x9 b v) : rs_th v = r ∧ (r = nI 0 → u.2 0 = b) ∧ Rel u.1 v := by
  have ed := hR.dn
  rcases h1 with ⟨e, x, ⟨a0, a1, k, a2, a3, a4⟩, e2⟩ | ⟨e, a, e2⟩ | ⟨e, a, e2⟩
  · subst e; rw [a0]
    have hn := (hw a1).2.1
    rcases h2 with ⟨b1, _⟩ | ⟨_, b2, _⟩ | ⟨_, j, b2, b3, b4⟩
    · exact absurd (ed.symm.trans a1) b1
    · exact absurd b2 (by subst a3; exact nI_pos (by omega))
    · have e : k = j := (nI_eq (by omega) b2).mp (a3.symm.trans b3)
      subst e
      rcases b4 with ⟨b5, _⟩ | ⟨_, b5, b6⟩
      · exact absurd a2 b5
      · subst b5
        exact ⟨rfl, fun _ => by rw [e2, pk_uLs, a4, b6, hR.hi a1 (by omega)], hR.tw 0⟩
  · subst e
    rcases a with ⟨_, a1, a2⟩ | ⟨a0, _⟩
    · rw [a2]
      rcases h2 with ⟨_, b2⟩ | ⟨b1, _⟩ | ⟨b1, _⟩
      · subst b2; exact ⟨rfl, fun z => absurd z (by decide), hR.th 1⟩
      · exact absurd (ed.trans b1) a1
      · exact absurd (ed.trans b1) a1
    · exact absurd a0 (by decide)
  · subst e
    rcases a with ⟨a0, _⟩ | ⟨_, a1, a2, a3⟩
    · exact absurd a0 (by decide)
    · rw [a3]
      have hn := (hw a1).2.1
      rcases h2 with ⟨b1, _⟩ | ⟨_, _, b3⟩ | ⟨_, j, b2, b3, b4⟩
      · exact absurd (ed.symm.trans a1) b1
      · subst b3; exact ⟨rfl, fun z => absurd z (by decide), hR.th 2⟩
      · rcases b4 with ⟨_, b5⟩ | ⟨b5, _⟩
        · subst b5; exact ⟨rfl, fun z => absurd z (by decide), hR.tw 2⟩
        · exfalso
          subst b3
          rcases a2 with z | z
          · exact nI_pos b2 z
          · exact z (nI_lt b5 (by omega))
/-! the place of a key -/
theorem lead_lt (f : Nat → Int64) (key : Int64) : ∀ k i t, i ≤ t → t < lead f key i k → f t < key := by
  intro k
  induction k with
  | zero => intro i t h1 h2; exact absurd h2 (by show ¬ t < i; omega)
  | succ k ih =>
    intro i t h1 h2
    by_cases h : f i < key
    · rw [lead_s h] at h2
      by_cases e : t = i
      · rw [e]; exact h
      · exact ih (i + 1) t (by omega) h2
    · rw [lead_x h] at h2; omega
theorem lead_at (f : Nat → Int64) (key : Int64) : ∀ k i, lead f key i k < i + k → ¬ f (lead f key i k) < key := by
  intro k
  induction k with
  | zero => intro i h; exact absurd h (by show ¬ i < i + 0; omega)
  | succ k ih =>
    intro i h
    by_cases z : f i < key
    · rw [lead_s z] at h ⊢
      exact ih (i + 1) (by omega)
    · rw [lead_x z]; exact z
theorem cbl_of (f : Nat → Int64) (key : Int64) (j : Nat) : ∀ p, (∀ t, t < j → t < p → f t < key) → (∀ t, j ≤ t → t < p → ¬ f t < key) → cbl f key p = min j p := by
  intro p
  induction p with
  | zero => intro _ _; show 0 = min j 0; omega
  | succ p ih =>
    intro h1 h2
    have e := ih (fun t a b => h1 t a (by omega)) (fun t a b => h2 t a (by omega))
    by_cases z : p < j
    · rw [cbl_s (h1 p z (by omega)), e]; omega
    · rw [cbl_k (h2 p (by omega) (by omega)), e]; omega
theorem cbl_congr {f g : Nat → Int64} {key : Int64} : ∀ {p : Nat}, (∀ i, i < p → f i = g i) → cbl f key p = cbl g key p := by
  intro p
  induction p with
  | zero => intro _; rfl
  | succ p ih =>
    intro h
    show cbl f key p + (if f p < key then 1 else 0) = cbl g key p + (if g p < key then 1 else 0)
    rw [ih (fun i hi => h i (by omega)), h p (by omega)]
theorem plc_cbl {x : Nat → Int64} {key : Int64} {p : Nat} (hr : ∀ i j, i < j → j < p → x (15 + i) < x (15 + j)) : cbl (fun i => x (15 + i)) key p = plc x key p := by
  have hle := plc_le x key p
  have h1 := lead_lt (fun i => x (15 + i)) key p 0
  have h2 := lead_at (fun i => x (15 + i)) key p 0
  have e := cbl_of (fun i => x (15 + i)) key (plc x key p) p (fun t a _ => h1 t (Nat.zero_le _) a) (fun t a b z => by
    have hz : ¬ x (15 + plc x key p) < key := h2 (by show plc x key p < 0 + p; omega)
    by_cases q : t = plc x key p
    · rw [q] at z; exact hz z
    · exact hz (Int64.lt_trans (hr _ _ (by omega) b) z))
  rw [e]; omega
/-- the place of a key, on both sides -/
theorem Rel.plc {c : CS} {m : MS} (h : Rel c m) {f n p : Nat} (hd : cs_dn c = 0) (hw : WfN f n p (cs_im c)) (key : Int64) : cbl (fun i => WK m (15 + i)) key p = plc (cs_im c) key p := by
  rw [← plc_cbl hw.2.2.2.2.2.2]
  have hp := hw.2.2.1
  exact cbl_congr (fun i hi => (h.hi hd (by omega)).symm)
theorem sim_next {c0 : CS} {r0 : MS} (hR : Rel c0 r0) {f9 n9 p9 : Nat} (hw : cs_dn c0 = 0 → WfN f9 n9 p9 (cs_im c0)) {g9 : Nat → Int64} {b9 r : Int32} {key b : Int64} {u : CS × (Nat → Int64)} {v : MS} (h1 : (r = nI 0 ∧ ∃ v, PS_next c0 f9 n9 p9 key b9 v u.1 ∧ u.2 = vp_updL g9 0 v) ∨ (r = nI 1 ∧ XS_next c0 f9 n9 p9 key b9 xISE u.1 ∧ u.2 = g9) ∨ (r = nI 2 ∧ XS_next c0 f9 n9 p9 key b9 xIOE u.1 ∧ u.2 = g9)) (h2 : PR_next r0 f9 n9 p9 key b9 b v) : rs_th v = r ∧ (r = nI 0 → u.2 0 = b) ∧ Rel u.1 v := by
  have ed := hR.dn
  rcases h1 with ⟨e, x, ⟨a0, a1, a2, a3⟩, e2⟩ | ⟨e, a, e2⟩ | ⟨e, a, e2⟩
  · subst e; rw [a0]
    have hp := (hw a1).2.2.1
    unfold PR_next at h2
    rw [hR.plc a1 (hw a1) key] at h2
    rcases h2 with ⟨b1, _⟩ | ⟨_, b2, _⟩ | ⟨_, _, b2, b3⟩
    · exact absurd (ed.symm.trans a1) b1
    · exact absurd a2 b2
    · subst b2
      refine ⟨rfl, fun _ => ?_, hR.tw 0⟩
      rw [e2, pk_uLs]
      rcases a3 with ⟨c1, c2⟩ | ⟨c1, c2⟩
      · rcases b3 with ⟨_, d2⟩ | ⟨d1, _⟩
        · rw [c2, d2, hR.hi a1 (by omega)]
        · exact absurd d1 c1
      · rcases b3 with ⟨d1, _⟩ | ⟨_, d2⟩
        · exact absurd c1 d1
        · rw [c2, d2, hR.hi a1 (by omega)]
  · subst e
    rcases a with ⟨_, a1, a2⟩ | ⟨a0, _⟩
    · rw [a2]
      rcases h2 with ⟨_, b2⟩ | ⟨b1, _⟩ | ⟨b1, _⟩
      · subst b2; exact ⟨rfl, fun z => absurd z (by decide), hR.th 1⟩
      · exact absurd (ed.trans b1) a1
      · exact absurd (ed.trans b1) a1
    · exact absurd a0 (by decide)
  · subst e
    rcases a with ⟨a0, _⟩ | ⟨_, a1, a2, a3⟩
    · exact absurd a0 (by decide)
    · rw [a3]
      unfold PR_next at h2
      rw [hR.plc a1 (hw a1) key] at h2
      rcases h2 with ⟨b1, _⟩ | ⟨_, _, b3⟩ | ⟨_, b2, _⟩
      · exact absurd (ed.symm.trans a1) b1
      · subst b3; exact ⟨rfl, fun z => absurd z (by decide), hR.tw 2⟩
      · exact absurd b2 a2
