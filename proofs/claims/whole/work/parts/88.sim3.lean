theorem opn_shu {x : Nat → Int64} {p i : Nat} (hi : i ≤ p) (hp : p ≤ 7) : opn2 x p i = shu x i p := funext fun w => by
  unfold opn2 shu opn1 va_cpy
  by_cases h1 : 23 + i + 1 ≤ w ∧ w < 23 + i + 1 + (p - i)
  · rw [if_pos h1, if_neg (by omega), if_pos (by omega)]
    congr 1; omega
  · rw [if_neg h1]
    by_cases h2 : 15 + i + 1 ≤ w ∧ w < 15 + i + 1 + (p - i)
    · rw [if_pos h2, if_pos (by omega)]
      congr 1; omega
    · rw [if_neg h2, if_neg (by omega)]
theorem drp_shd {x : Nat → Int64} {p i : Nat} (hi : i < p) (hp : p ≤ 8) : drp2 x p i = shd x i (p - 1) := funext fun w => by
  unfold drp2 shd drp1 va_cpy
  by_cases h1 : 23 + i ≤ w ∧ w < 23 + i + (p - i - 1)
  · rw [if_pos h1, if_neg (by omega), if_pos (by omega)]
    congr 1; omega
  · rw [if_neg h1]
    by_cases h2 : 15 + i ≤ w ∧ w < 15 + i + (p - i - 1)
    · rw [if_pos h2, if_pos (by omega)]
      congr 1; omega
    · rw [if_neg h2, if_neg (by omega)]
theorem stpr_at {x : Nat → Int64} {key num : Int64} {i w : Nat} : stpr x key num i w = if w = 23 + i then num else if w = 15 + i then key else x w := rfl
theorem shu_congr {x y : Nat → Int64} {i p w : Nat} (h : ∀ w, w < 31 → x w = y w) (hp : p ≤ 7) (hw : w < 31) : shu x i p w = shu y i p w := by
  unfold shu
  by_cases z : (15 + i < w ∧ w ≤ 15 + p) ∨ (23 + i < w ∧ w ≤ 23 + p)
  · rw [if_pos z, if_pos z, h _ (by omega)]
  · rw [if_neg z, if_neg z, h w hw]
theorem shd_congr {x y : Nat → Int64} {i p w : Nat} (h : ∀ w, w < 31 → x w = y w) (hp : p ≤ 7) (hw : w < 31) : shd x i p w = shd y i p w := by
  unfold shd
  by_cases z : (15 + i ≤ w ∧ w < 15 + p) ∨ (23 + i ≤ w ∧ w < 23 + p)
  · rw [if_pos z, if_pos z, h _ (by omega)]
  · rw [if_neg z, if_neg z, h w hw]
theorem put_has {x k : Nat → Int64} {f n p i : Nat} {key num : Int64} (hw : WfN f n p x) (he : ∀ w, w < 31 → x w = k w) (hi : i < p) (hk : x (15 + i) = key) : Wf (stpr x key num i) ∧ ∀ w, w < 31 → stpr x key num i w = vp_updL (stpr k key num i) 14 (lN p) w := by
  obtain ⟨w1, w2, w3, w4, w5, w6, w7⟩ := hw
  have e : ∀ a, a < p → stpr x key num i (15 + a) = x (15 + a) := fun a ha => by
    rw [stpr_at, if_neg (by omega)]
    by_cases z : a = i
    · rw [z, if_pos rfl, hk]
    · rw [if_neg (by omega)]
  refine ⟨⟨f, n, p, w1, w2, w3, ?_, ?_, ?_, fun a b ha hb => ?_⟩, fun w hw => ?_⟩
  · rw [stpr_at, if_neg (by omega), if_neg (by omega)]; exact w4
  · rw [stpr_at, if_neg (by omega), if_neg (by omega)]; exact w5
  · rw [stpr_at, if_neg (by omega), if_neg (by omega)]; exact w6
  · rw [e a (by omega), e b hb]; exact w7 a b ha hb
  · by_cases z : w = 14
    · rw [z, pk_uLs, stpr_at, if_neg (by omega), if_neg (by omega)]; exact w6
    · rw [pk_uLn z, stpr_at, stpr_at, he w hw]
theorem put_new {x k : Nat → Int64} {f n p : Nat} {key num : Int64} (hw : WfN f n p x) (he : ∀ w, w < 31 → x w = k w) (hp : p < 8) (hk : ¬ hasK x key p) : Wf (stpr (opnd x p (plc x key p)) key num (plc x key p)) ∧ ∀ w, w < 31 → stpr (opnd x p (plc x key p)) key num (plc x key p) w = vp_updL (stpr (shu k (plc x key p) p) key num (plc x key p)) 14 (lN (p + 1)) w := by
  obtain ⟨w1, w2, w3, w4, w5, w6, w7⟩ := hw
  have hle := plc_le x key p
  have h1 : ∀ t, t < plc x key p → x (15 + t) < key := fun t ht => lead_lt (fun i => x (15 + i)) key p 0 t (Nat.zero_le _) ht
  have h2 : plc x key p < p → key < x (15 + plc x key p) := fun h => by
    have z : ¬ x (15 + plc x key p) < key := lead_at (fun i => x (15 + i)) key p 0 (by show plc x key p < 0 + p; omega)
    have y : ¬ x (15 + plc x key p) = key := fun y => hk ⟨h, y⟩
    rcases Int64.lt_or_eq_of_le (Int64.not_lt.mp z) with q | q
    · exact q
    · exact absurd q.symm y
  generalize plc x key p = i at hle h1 h2 ⊢
  have eo : ∀ w, opnd x p i w = if w = 14 then lN (p + 1) else shu x i p w := fun w => by
    unfold opnd
    rw [opn_shu hle (by omega)]; rfl
  have ek : ∀ a, a < p + 1 → stpr (opnd x p i) key num i (15 + a) = if a = i then key else if a < i then x (15 + a) else x (15 + (a - 1)) := fun a ha => by
    rw [stpr_at, if_neg (by omega)]
    by_cases z : a = i
    · rw [z, if_pos rfl, if_pos rfl]
    · rw [if_neg (by omega), if_neg z, eo, if_neg (by omega)]
      unfold shu
      by_cases y : a < i
      · rw [if_pos y, if_neg (by omega)]
      · rw [if_neg y, if_pos (by omega)]
        congr 1; omega
  refine ⟨⟨f, n, p + 1, w1, w2, by omega, ?_, ?_, ?_, fun a b ha hb => ?_⟩, fun w hw => ?_⟩
  · rw [stpr_at, if_neg (by omega), if_neg (by omega), eo, if_neg (by omega)]
    unfold shu; rw [if_neg (by omega)]; exact w4
  · rw [stpr_at, if_neg (by omega), if_neg (by omega), eo, if_neg (by omega)]
    unfold shu; rw [if_neg (by omega)]; exact w5
  · rw [stpr_at, if_neg (by omega), if_neg (by omega), eo, if_pos rfl]
  · rw [ek a (by omega), ek b hb]
    by_cases za : a = i
    · rw [if_pos za, if_neg (by omega), if_neg (by omega)]
      have hip : i < p := by omega
      by_cases zb : b - 1 = i
      · rw [zb]; exact h2 hip
      · exact Int64.lt_trans (h2 hip) (w7 i (b - 1) (by omega) (by omega))
    · rw [if_neg za]
      by_cases zb : b = i
      · rw [if_pos zb, if_pos (by omega)]; exact h1 a (by omega)
      · rw [if_neg zb]
        by_cases ya : a < i
        · rw [if_pos ya]
          by_cases yb : b < i
          · rw [if_pos yb]; exact w7 a b ha (by omega)
          · rw [if_neg yb]; exact w7 a (b - 1) (by omega) (by omega)
        · rw [if_neg ya, if_neg (by omega)]; exact w7 (a - 1) (b - 1) (by omega) (by omega)
  · by_cases z : w = 14
    · rw [z, pk_uLs, stpr_at, if_neg (by omega), if_neg (by omega), eo, if_pos rfl]
    · rw [pk_uLn z, stpr_at, stpr_at, eo, if_neg z, shu_congr he (by omega) hw]
theorem Rel.has {c : CS} {m : MS} (h : Rel c m) {f n p : Nat} (hd : cs_dn c = 0) (hw : WfN f n p (cs_im c)) (key : Int64) : (cbl (fun i => WK m (15 + i)) key p < p ∧ WK m (15 + cbl (fun i => WK m (15 + i)) key p) = key) ↔ hasK (cs_im c) key p := by
  rw [h.plc hd hw key]
  have hp := hw.2.2.1
  unfold hasK
  exact ⟨fun z => ⟨z.1, (h.hi hd (by omega)).trans z.2⟩, fun z => ⟨z.1, (h.hi hd (by omega)).symm.trans z.2⟩⟩
theorem sim_put {c0 : CS} {r0 : MS} (hR : Rel c0 r0) {f9 n9 p9 : Nat} (hw : cs_dn c0 = 0 → WfN f9 n9 p9 (cs_im c0)) {g9 : Nat → Int64} {r b : Int32} {key num : Int64} {u : CS × (Nat → Int64)} {v : MS} (h1 : (r = nI 0 ∧ ∃ v, PS_put c0 f9 n9 p9 key num v u.1 ∧ u.2 = vp_updL g9 0 v.toInt64) ∨ (r = nI 1 ∧ XS_put c0 f9 n9 p9 key num xISE u.1 ∧ u.2 = g9) ∨ (r = nI 2 ∧ XS_put c0 f9 n9 p9 key num xUOE u.1 ∧ u.2 = g9)) (h2 : PR_put r0 f9 n9 p9 key num b v) : rs_th v = r ∧ (r = nI 0 → u.2 0 = b.toInt64) ∧ Rel u.1 v := by
  have ed := hR.dn
  have hp8 : cs_dn c0 = 0 → p9 ≤ 8 := fun z => (hw z).2.2.1
  have hx : cs_dn c0 = 0 → (rs_dn r0 = 0 ∧ ¬ hasK (cs_im c0) key p9 ∧ p9 = 8 ∧ v = rs_tw r0 2 (WK r0)) ∨ (hasK (cs_im c0) key p9 ∧ ∃ k, DnQ (rs_tw r0 0 k) v ∧ (b = if 0 < rs_th v then 0 else nI p9) ∧ ∀ w1, SpQ (cs_im c0) key num p9 w1 → Wf w1 ∧ ∀ w, w < 31 → w1 w = k w) ∨ (¬ hasK (cs_im c0) key p9 ∧ p9 < 8 ∧ ∃ k, DnQ (rs_tw r0 0 k) v ∧ (b = if 0 < rs_th v then 0 else nI (p9 + 1)) ∧ ∀ w1, SpQ (cs_im c0) key num p9 w1 → Wf w1 ∧ ∀ w, w < 31 → w1 w = k w) := fun z => by
    have hh := hR.has z (hw z) key
    rcases h2 with ⟨b1, _⟩ | ⟨b1, b2, b3, b4⟩ | ⟨b1, b2, b3, b4⟩ | ⟨b1, b2, b3, b4, b5⟩
    · exact absurd (ed.symm.trans z) b1
    · exact Or.inl ⟨b1, fun y => b2 (hh.mpr y), b3, b4⟩
    · refine Or.inr (Or.inl ⟨hh.mp b2, _, b3, b4, fun w1 hs => ?_⟩)
      rcases hs with ⟨s1, s2⟩ | ⟨s1, _⟩
      · rw [hR.plc z (hw z) key]; subst s2
        exact put_has (hw z) (fun w hw' => hR.hi z hw') s1.1 s1.2
      · exact absurd (hh.mp b2) s1
    · refine Or.inr (Or.inr ⟨fun y => b2 (hh.mpr y), b3, _, b4, b5, fun w1 hs => ?_⟩)
      rcases hs with ⟨s1, _⟩ | ⟨s1, s2⟩
      · exact absurd (hh.mpr s1) b2
      · rw [hR.plc z (hw z) key]; subst s2
        exact put_new (hw z) (fun w hw' => hR.hi z hw') b3 s1
  rcases h1 with ⟨e, x, ⟨a1, a2, w1, q9, a3, a4, a5, a6⟩, e2⟩ | ⟨e, a, e2⟩ | ⟨e, a, e2⟩
  · subst e
    rcases hx a1 with ⟨_, y1, y2, _⟩ | ⟨y1, k, y2, y3, y4⟩ | ⟨y1, _, k, y2, y3, y4⟩
    · exact absurd a2 (fun z => z.elim y1 (by omega))
    · obtain ⟨z1, z2, _⟩ := sim_sa hR a1 (y4 w1 a3).1 (y4 w1 a3).2 a4 y2
      refine ⟨z1, fun _ => ?_, z2⟩
      rcases a6 with ⟨_, q⟩ | ⟨q, _⟩
      · rw [e2, pk_uLs, a5, y3, z1, if_neg (by decide), q]
      · exact absurd y1 q
    · obtain ⟨z1, z2, _⟩ := sim_sa hR a1 (y4 w1 a3).1 (y4 w1 a3).2 a4 y2
      refine ⟨z1, fun _ => ?_, z2⟩
      rcases a6 with ⟨q, _⟩ | ⟨_, q⟩
      · exact absurd q y1
      · rw [e2, pk_uLs, a5, y3, z1, if_neg (by decide), q]
  · subst e
    rcases a with ⟨_, a1, a2⟩ | ⟨a0, _⟩ | ⟨_, a1, a2, w1, a3, a4, a5⟩
    · rw [a2]
      rcases h2 with ⟨_, b2⟩ | ⟨b1, _⟩ | ⟨b1, _⟩ | ⟨b1, _⟩
      · subst b2; exact ⟨rfl, fun z => absurd z (by decide), hR.th 1⟩
      · exact absurd (ed.trans b1) a1
      · exact absurd (ed.trans b1) a1
      · exact absurd (ed.trans b1) a1
    · exact absurd a0 (by decide)
    · rcases hx a1 with ⟨_, y1, y2, _⟩ | ⟨_, k, y2, y3, y4⟩ | ⟨_, _, k, y2, y3, y4⟩
      · exact absurd a2 (fun z => z.elim y1 (by omega))
      · obtain ⟨z1, z2⟩ := sim_sx hR a1 (y4 w1 a3).1 (y4 w1 a3).2 a4 a5 y2
        exact ⟨z1, fun z => absurd z (by decide), z2⟩
      · obtain ⟨z1, z2⟩ := sim_sx hR a1 (y4 w1 a3).1 (y4 w1 a3).2 a4 a5 y2
        exact ⟨z1, fun z => absurd z (by decide), z2⟩
  · subst e
    rcases a with ⟨a0, _⟩ | ⟨_, a1, a2, a3⟩ | ⟨a0, _⟩
    · exact absurd a0 (by decide)
    · rw [a3]
      rcases hx a1 with ⟨_, _, _, y⟩ | ⟨y1, _⟩ | ⟨_, y1, _⟩
      · subst y; exact ⟨rfl, fun z => absurd z (by decide), hR.tw 2⟩
      · exact absurd (Or.inl y1) a2
      · exact absurd (Or.inr y1) a2
    · exact absurd a0 (by decide)
theorem cut_ok {x k : Nat → Int64} {f n p : Nat} {key : Int64} (hw : WfN f n p x) (he : ∀ w, w < 31 → x w = k w) (hk : hasK x key p) : Wf (drpd x p (plc x key p)) ∧ ∀ w, w < 31 → drpd x p (plc x key p) w = vp_updL (shd k (plc x key p) (p - 1)) 14 (lN (p - 1)) w := by
  obtain ⟨w1, w2, w3, w4, w5, w6, w7⟩ := hw
  have hi := hk.1
  generalize plc x key p = i at hi ⊢
  have eo : ∀ w, drpd x p i w = if w = 14 then lN (p - 1) else shd x i (p - 1) w := fun w => by
    unfold drpd
    rw [drp_shd hi w3]; rfl
  have ek : ∀ a, a < p - 1 → drpd x p i (15 + a) = if a < i then x (15 + a) else x (15 + (a + 1)) := fun a ha => by
    rw [eo, if_neg (by omega)]
    unfold shd
    by_cases y : a < i
    · rw [if_pos y, if_neg (by omega)]
    · rw [if_neg y, if_pos (by omega)]; rfl
  refine ⟨⟨f, n, p - 1, w1, w2, by omega, ?_, ?_, ?_, fun a b ha hb => ?_⟩, fun w hw => ?_⟩
  · rw [eo, if_neg (by omega)]; unfold shd; rw [if_neg (by omega)]; exact w4
  · rw [eo, if_neg (by omega)]; unfold shd; rw [if_neg (by omega)]; exact w5
  · rw [eo, if_pos rfl]
  · rw [ek a (by omega), ek b hb]
    by_cases ya : a < i
    · rw [if_pos ya]
      by_cases yb : b < i
      · rw [if_pos yb]; exact w7 a b ha (by omega)
      · rw [if_neg yb]; exact w7 a (b + 1) (by omega) (by omega)
    · rw [if_neg ya, if_neg (by omega)]; exact w7 (a + 1) (b + 1) (by omega) (by omega)
  · rw [eo]
    by_cases z : w = 14
    · rw [if_pos z, z, pk_uLs]
    · rw [if_neg z, pk_uLn z, shd_congr he (by omega) hw]
theorem sim_cut {c0 : CS} {r0 : MS} (hR : Rel c0 r0) {f9 n9 p9 : Nat} (hw : cs_dn c0 = 0 → WfN f9 n9 p9 (cs_im c0)) {g9 : Nat → Int64} {r b : Int32} {key : Int64} {u : CS × (Nat → Int64)} {v : MS} (h1 : (r = nI 0 ∧ ∃ v, PS_cut c0 f9 n9 p9 key v u.1 ∧ u.2 = vp_updL g9 0 (if v = 0 then 0 else 1)) ∨ (r = nI 1 ∧ XS_cut c0 f9 n9 p9 key xISE u.1 ∧ u.2 = g9)) (h2 : PR_cut r0 f9 n9 p9 key b v) : rs_th v = r ∧ (r = nI 0 → u.2 0 = if b = 0 then 0 else 1) ∧ Rel u.1 v := by
  have ed := hR.dn
  have hx : cs_dn c0 = 0 → (¬ hasK (cs_im c0) key p9 ∧ b = 0 ∧ v = rs_tw r0 0 (WK r0)) ∨ (hasK (cs_im c0) key p9 ∧ ∃ k, DnQ (rs_tw r0 0 k) v ∧ (b = if rs_th v = 0 then 1 else 0) ∧ Wf (drpd (cs_im c0) p9 (plc (cs_im c0) key p9)) ∧ ∀ w, w < 31 → drpd (cs_im c0) p9 (plc (cs_im c0) key p9) w = k w) := fun z => by
    have hh := hR.has z (hw z) key
    rcases h2 with ⟨b1, _⟩ | ⟨_, b2, b3, b4⟩ | ⟨_, b2, b3, b4⟩
    · exact absurd (ed.symm.trans z) b1
    · exact Or.inl ⟨fun y => b2 (hh.mpr y), b3, b4⟩
    · refine Or.inr ⟨hh.mp b2, _, b3, b4, ?_⟩
      rw [hR.plc z (hw z) key]
      exact cut_ok (hw z) (fun w hw' => hR.hi z hw') (hh.mp b2)
  rcases h1 with ⟨e, x, ⟨a1, a2⟩, e2⟩ | ⟨e, a, e2⟩
  · subst e
    rcases hx a1 with ⟨y1, y2, y3⟩ | ⟨y1, k, y2, y3, y4, y5⟩
    · rcases a2 with ⟨_, a3, a4⟩ | ⟨a3, _⟩
      · rw [a4]; subst y3
        exact ⟨rfl, fun _ => by rw [e2, pk_uLs, a3, y2], hR.tw 0⟩
      · exact absurd a3 y1
    · rcases a2 with ⟨a3, _⟩ | ⟨_, a3, a4⟩
      · exact absurd y1 a3
      · obtain ⟨z1, z2, _⟩ := sim_sa hR a1 y4 y5 a4 y2
        exact ⟨z1, fun _ => by rw [e2, pk_uLs, a3, y3, if_pos z1], z2⟩
  · subst e
    rcases a with ⟨_, a1, a2⟩ | ⟨_, a1, a2, a3, a4⟩
    · rw [a2]
      rcases h2 with ⟨_, b2⟩ | ⟨b1, _⟩ | ⟨b1, _⟩
      · subst b2; exact ⟨rfl, fun z => absurd z (by decide), hR.th 1⟩
      · exact absurd (ed.trans b1) a1
      · exact absurd (ed.trans b1) a1
    · rcases hx a1 with ⟨y1, _⟩ | ⟨_, k, y2, y3, y4, y5⟩
      · exact absurd a2 y1
      · obtain ⟨z1, z2⟩ := sim_sx hR a1 y4 y5 a3 a4 y2
        exact ⟨z1, fun z => absurd z (by decide), z2⟩
