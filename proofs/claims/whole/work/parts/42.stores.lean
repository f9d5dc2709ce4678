/-! Stores on the way: those of D are done, those of E are to come, then the flushes, the fence and the tail. -/
def SP (cF c1 : CS) (D E : List (Nat × Int64)) (tail : List OP) (r : CS × Bool) (v : Nat → Int64) : Prop :=
  op_run ((E.map (fun q => (0, q.1, q.2)) ++ ((rn_lines (D ++ E)).map (fun k => (1, k, 0)) ++ [(2, 0, 0)])) ++ tail) c1 = r ∧ StA v D (cs_me c1) ∧ SameR cF c1 ∧ (∀ q ∈ D ++ E, q.1 < 112) ∧ ((D ++ E).map Prod.fst).Nodup
theorem StA.lc {v : Nat → Int64} {D : List (Nat × Int64)} {m : AM} (h : StA v D m) : ∀ w, w < 112 → am_lc m w = 0 ∨ am_lc m w = 1 := fun w hw => by
  by_cases hin : w ∈ D.map Prod.fst
  · exact Or.inr (h.2.2.1 w hw hin).1
  · exact Or.inl (h.2.2.2.1 w hw hin)
theorem SP.lc {cF c1 : CS} {D E : List (Nat × Int64)} {tail : List OP} {r : CS × Bool} {v : Nat → Int64} (h : SP cF c1 D E tail r v) : ∀ w, w < 112 → am_lc (cs_me c1) w = 0 ∨ am_lc (cs_me c1) w = 1 := h.2.1.lc
theorem SP.go {cF c1 u : CS} {D E : List (Nat × Int64)} {tail : List OP} {r : CS × Bool} {v : Nat → Int64} {w : Nat} {x : Int64} (h : SP cF c1 D ((w, x) :: E) tail r v) (hz : u = cs_mem (cs_tick c1) (ms_store (cs_me c1) w x)) (hg : ¬ cs_sp c1 = 0) : SP cF u (D ++ [(w, x)]) E tail r v := by
  obtain ⟨h1, h2, h3, h4, h5⟩ := h
  have e : D ++ (w, x) :: E = (D ++ [(w, x)]) ++ E := by rw [List.append_assoc]; rfl
  have hnm := h5
  rw [List.map_append, List.nodup_append] at hnm
  have hq : w ∉ D.map Prod.fst := fun z => hnm.2.2 w z w (by rw [List.map_cons]; exact List.mem_cons_self) rfl
  rw [e] at h1 h4 h5
  rw [List.map_cons, List.cons_append, List.cons_append, op_run_go hg] at h1
  subst hz
  exact ⟨h1, h2.store (q := (w, x)) (h4 (w, x) (List.mem_append_left _ (List.mem_append_right _ List.mem_cons_self))) hq, h3, h4, h5⟩
theorem SP.st {cF c1 : CS} {D E : List (Nat × Int64)} {tail : List OP} {r : CS × Bool} {v : Nat → Int64} {q : Nat × Int64} (h : SP cF c1 D (q :: E) tail r v) (h0 : cs_sp c1 = 0) : r = (cs_halt c1, true) := by
  rw [← h.1, List.map_cons, List.cons_append, List.cons_append, op_run_stop h0]
theorem ffl_lines {uf : Nat → Int32} {p : Nat → Bool} : ∀ (k i : Nat), i + k = 14 → (∀ j, i ≤ j → j < 14 → uf j = if p j = true then 1 else 0) → ffl uf i k = (((List.range' i k).filter p).map (fun k => ((1, k, 0) : OP))) ++ [(2, 0, 0)] := by
  intro k
  induction k with
  | zero => intro i _ _; rfl
  | succ k ih =>
    intro i hi hu
    have hi' := ih (i + 1) (by omega) (fun j h1 h2 => hu j (by omega) h2)
    rw [List.range'_succ, List.filter_cons]
    by_cases hp : p i = true
    · rw [if_pos hp, ffl_s (by rw [hu i (Nat.le_refl i) (by omega), if_pos hp]; decide), hi', List.map_cons, List.cons_append]
    · rw [if_neg hp, ffl_z (by rw [hu i (Nat.le_refl i) (by omega), if_neg hp]), hi']
theorem SP.ff {cF c1 : CS} {D : List (Nat × Int64)} {tail : List OP} {r : CS × Bool} {v : Nat → Int64} (h : SP cF c1 D [] tail r v) : ffl (am_uf (cs_me c1)) 0 14 = (rn_lines D).map (fun k => (1, k, 0)) ++ [(2, 0, 0)] := by
  have := ffl_lines (uf := am_uf (cs_me c1)) (p := fun k => D.any (fun q => q.1 / 8 == k)) 14 0 (by omega) (fun j _ hj => h.2.1.2.2.2.2.1 j hj)
  rw [this]
  unfold rn_lines
  rw [List.range_eq_range']
theorem SP.fr {cF c1 : CS} {D : List (Nat × Int64)} {tail : List OP} {r : CS × Bool} {v : Nat → Int64} (h : SP cF c1 D [] tail r v) : r = if (op_run (ffl (am_uf (cs_me c1)) 0 14) c1).2 = true then ((op_run (ffl (am_uf (cs_me c1)) 0 14) c1).1, true) else op_run tail (op_run (ffl (am_uf (cs_me c1)) 0 14) c1).1 := by
  have h1 := h.1
  rw [List.append_nil] at h1
  rw [← h1, List.map_nil, List.nil_append, ← h.ff, op_run_app]
theorem SP.fgo {cF c1 u : CS} {D : List (Nat × Int64)} {tail : List OP} {r : CS × Bool} {v : Nat → Int64} (h : SP cF c1 D [] tail r v) (hu : op_run (ffl (am_uf (cs_me c1)) 0 14) c1 = (u, false)) : op_run tail u = r ∧ Clean (cs_me u) ∧ (∀ w, w < 112 → am_va (cs_me u) w = wr v D w) ∧ SameR cF u := by
  have hr := h.fr
  rw [hu] at hr
  refine ⟨hr.symm, ?_⟩
  have hb : ∀ q ∈ D, q.1 < 112 := fun q hq => h.2.2.2.1 q (by rw [List.append_nil]; exact hq)
  have hk := rn_flush (c := cF) (rn_lines D) h.2.2.1 h.2.1.flush0 (rn_lines_nodup D) (fun q hq => Or.inr (rn_lines_in hb q hq))
  rw [← h.ff, hu] at hk
  rcases hk with ⟨_, h1, h2, e1, e2, e3, e4, e5, e6, e7, e8⟩ | ⟨h0, _⟩
  · exact ⟨h1, h2, e1, e2, e3, e4, e5, e6, e7, e8⟩
  · cases h0
theorem SP.fst {cF c1 u : CS} {D : List (Nat × Int64)} {tail : List OP} {r : CS × Bool} {v : Nat → Int64} (h : SP cF c1 D [] tail r v) (hu : op_run (ffl (am_uf (cs_me c1)) 0 14) c1 = (u, true)) : r = (u, true) := by
  have hr := h.fr
  rw [hu] at hr
  exact hr
theorem SP.start {cF c1 : CS} {L : List (Nat × Int64)} {tail : List OP} {r : CS × Bool} (h1 : op_run (rnd L ++ tail) c1 = r) (hc : Clean (cs_me c1)) (hs : SameR cF c1) (hb : ∀ q ∈ L, q.1 < 112) (hn : (L.map Prod.fst).Nodup) : SP cF c1 [] L tail r (am_va (cs_me c1)) :=
  ⟨h1, StA.clean hc, hs, hb, hn⟩
theorem SP.one {cF c1 : CS} {w : Nat} {x : Int64} {tail : List OP} {r : CS × Bool} (h1 : op_run (rnd [(w, x)] ++ tail) c1 = r) (hc : Clean (cs_me c1)) (hs : SameR cF c1) (hw : w < 112) : SP cF c1 [] [(w, x)] tail r (am_va (cs_me c1)) :=
  SP.start h1 hc hs (fun q hq => by rw [List.mem_singleton.mp hq]; exact hw) (one_nodup _)
theorem SP.low {cF c1 : CS} {D E : List (Nat × Int64)} {tail : List OP} {r : CS × Bool} {v : Nat → Int64} (h : SP cF c1 D E tail r v) (hD : ∀ q ∈ D, 48 ≤ q.1) {w : Nat} (hw : w < 48) : am_va (cs_me c1) w = v w := by
  rw [h.2.1.2.1 w (by omega)]
  refine wr_out _ _ _ (fun z => ?_)
  obtain ⟨q, hq, e⟩ := List.mem_map.mp z
  have := hD q hq
  omega
/-- the log's stores, e entries done -/
def L1 (cF c1 : CS) (l : List Nat) (v : Nat → Int64) (e : Nat) (tail : List OP) (r : CS × Bool) : Prop := SP cF c1 (lg_l v 0 (l.take e)) (lg_l v e (l.drop e)) tail r v
theorem lg_take (v : Nat → Int64) : ∀ (l : List Nat) (e : Nat), ∀ w, lg_l v e (l ++ [w]) = (lg_l v e l ++ [(48 + 2 * (e + l.length), lN w)]) ++ [(49 + 2 * (e + l.length), v w)] := by
  intro l
  induction l with
  | nil => intro e w; rfl
  | cons a l ih =>
    intro e w
    show (48 + 2 * e, lN a) :: (49 + 2 * e, v a) :: lg_l v (e + 1) (l ++ [w]) = _
    rw [ih (e + 1) w, List.length_cons]
    have e1 : e + 1 + l.length = e + (l.length + 1) := by omega
    rw [e1]; rfl
theorem drop_get {l : List Nat} {e : Nat} (h : e < l.length) : l.drop e = l.getD e 0 :: l.drop (e + 1) := by
  rw [List.drop_eq_getElem_cons h]; simp [List.getD, h]
theorem take_get {l : List Nat} {e : Nat} (h : e < l.length) : l.take (e + 1) = l.take e ++ [l.getD e 0] := by
  rw [List.take_succ_eq_append_getElem h]; simp [List.getD, h]
theorem L1.opn {cF c1 : CS} {l : List Nat} {v : Nat → Int64} {e : Nat} {tail : List OP} {r : CS × Bool} (h : L1 cF c1 l v e tail r) (he : e < l.length) : SP cF c1 (lg_l v 0 (l.take e)) ((48 + 2 * e, lN (l.getD e 0)) :: (49 + 2 * e, v (l.getD e 0)) :: lg_l v (e + 1) (l.drop (e + 1))) tail r v := by
  unfold L1 at h
  rw [drop_get he] at h
  exact h
theorem L1.close {cF c1 : CS} {l : List Nat} {v : Nat → Int64} {e : Nat} {tail : List OP} {r : CS × Bool} (h : SP cF c1 ((lg_l v 0 (l.take e) ++ [(48 + 2 * e, lN (l.getD e 0))]) ++ [(49 + 2 * e, v (l.getD e 0))]) (lg_l v (e + 1) (l.drop (e + 1))) tail r v) (he : e < l.length) : L1 cF c1 l v (e + 1) tail r := by
  unfold L1
  rw [take_get he, lg_take]
  have hl : (l.take e).length = e := by rw [List.length_take]; omega
  rw [hl, Nat.zero_add]
  exact h
theorem L1.fin {cF c1 : CS} {l : List Nat} {v : Nat → Int64} {tail : List OP} {r : CS × Bool} (h : L1 cF c1 l v l.length tail r) : SP cF c1 (lg_l v 0 l) [] tail r v := by
  unfold L1 at h
  rw [List.take_length, List.drop_length] at h
  exact h
theorem lgD_low (v : Nat → Int64) (l : List Nat) (e : Nat) (x : Int64) : ∀ q ∈ lg_l v 0 l ++ [(48 + 2 * e, x)], 48 ≤ q.1 := fun q hq => by
  rcases List.mem_append.mp hq with h | h
  · have := (lg_fst v l 0 q h).1; omega
  · rw [List.mem_singleton.mp h]; dsimp only; omega
/-- the words' stores, e done -/
def L2 (cF c1 : CS) (l : List Nat) (g v : Nat → Int64) (e : Nat) (tail : List OP) (r : CS × Bool) : Prop := SP cF c1 (nw_l g (l.take e)) (nw_l g (l.drop e)) tail r v
theorem L2.opn {cF c1 : CS} {l : List Nat} {g v : Nat → Int64} {e : Nat} {tail : List OP} {r : CS × Bool} (h : L2 cF c1 l g v e tail r) (he : e < l.length) : SP cF c1 (nw_l g (l.take e)) ((l.getD e 0, g (l.getD e 0)) :: nw_l g (l.drop (e + 1))) tail r v := by
  unfold L2 at h
  rw [drop_get he] at h
  exact h
theorem L2.close {cF c1 : CS} {l : List Nat} {g v : Nat → Int64} {e : Nat} {tail : List OP} {r : CS × Bool} (h : SP cF c1 (nw_l g (l.take e) ++ [(l.getD e 0, g (l.getD e 0))]) (nw_l g (l.drop (e + 1))) tail r v) (he : e < l.length) : L2 cF c1 l g v (e + 1) tail r := by
  unfold L2
  rw [take_get he]
  unfold nw_l at h ⊢
  rw [List.map_append]
  exact h
theorem L2.fin {cF c1 : CS} {l : List Nat} {g v : Nat → Int64} {tail : List OP} {r : CS × Bool} (h : L2 cF c1 l g v l.length tail r) : SP cF c1 (nw_l g l) [] tail r v := by
  unfold L2 at h
  rw [List.take_length, List.drop_length] at h
  exact h
theorem chl_mem {g v : Nat → Int64} {n w : Nat} (h : w ∈ chl g v n) : w < n := List.mem_range.mp (List.mem_filter.mp h).1
theorem chl_sorted (g v : Nat → Int64) (n : Nat) : (chl g v n).Pairwise (· < ·) := List.Pairwise.filter _ List.pairwise_lt_range
theorem chl_out {g v : Nat → Int64} {n w : Nat} (hw : w < n) (h : w ∉ chl g v n) : g w = v w := by
  by_cases e : g w = v w
  · exact e
  · exact absurd (List.mem_filter.mpr ⟨List.mem_range.mpr hw, by rw [beq_eq_false_iff_ne.mpr e]; rfl⟩) h
theorem getD_mem {l : List Nat} {e : Nat} (h : e < l.length) : l.getD e 0 ∈ l := by
  rw [show l.getD e 0 = l[e] by simp [List.getD, h]]; exact List.getElem_mem h
