/-! A round: stores of words that are all apart, a flush of each line that was stored in, the fence. -/
def wr (v : Nat → Int64) (L : List (Nat × Int64)) : Nat → Int64 := L.foldl (fun f q => vp_updL f q.1 q.2) v
theorem wr_nil (v : Nat → Int64) : wr v [] = v := rfl
theorem wr_app (v : Nat → Int64) (A B : List (Nat × Int64)) : wr v (A ++ B) = wr (wr v A) B := List.foldl_append
theorem wr_one (v : Nat → Int64) (A : List (Nat × Int64)) (q : Nat × Int64) : wr v (A ++ [q]) = vp_updL (wr v A) q.1 q.2 := by rw [wr_app]; rfl
theorem wr_out (v : Nat → Int64) (A : List (Nat × Int64)) (w : Nat) (h : w ∉ A.map Prod.fst) : wr v A w = v w := by
  induction A generalizing v with
  | nil => rfl
  | cons q A ih =>
    rw [List.map_cons, List.mem_cons, not_or] at h
    show wr (vp_updL v q.1 q.2) A w = v w
    rw [ih _ h.2]
    exact pk_uLn h.1
theorem wr_in (v v' : Nat → Int64) (A : List (Nat × Int64)) (w : Nat) (h : w ∈ A.map Prod.fst) : wr v A w = wr v' A w := by
  induction A generalizing v v' with
  | nil => exact absurd h List.not_mem_nil
  | cons q A ih =>
    show wr (vp_updL v q.1 q.2) A w = wr (vp_updL v' q.1 q.2) A w
    by_cases hA : w ∈ A.map Prod.fst
    · exact ih _ _ hA
    · rw [List.map_cons, List.mem_cons] at h
      rcases h with h | h
      · rw [wr_out _ _ _ hA, wr_out _ _ _ hA, h, pk_uLs, pk_uLs]
      · exact absurd h hA
theorem wr_mid (v : Nat → Int64) (A B : List (Nat × Int64)) (w : Nat) : wr v A w = v w ∨ w ∈ A.map Prod.fst := by
  by_cases h : w ∈ A.map Prod.fst
  · exact Or.inr h
  · exact Or.inl (wr_out v A w h)
/-- each word one of two -/
def Mix (a b x : Nat → Int64) : Prop := ∀ w, w < 112 → x w = a w ∨ x w = b w
def Clean (m : AM) : Prop := (∀ w, w < 112 → am_ke m w = am_va m w ∧ am_lc m w = 0) ∧ ∀ k, k < 14 → am_uf m k = 0 ∧ am_fd m k = 0
def rn_lines (L : List (Nat × Int64)) : List Nat := (List.range 14).filter (fun k => L.any (fun q => q.1 / 8 == k))
def rnd (L : List (Nat × Int64)) : List OP := L.map (fun q => (0, q.1, q.2)) ++ ((rn_lines L).map (fun k => (1, k, 0)) ++ [(2, 0, 0)])
/-- within the stores: those of D are done -/
def StA (v0 : Nat → Int64) (D : List (Nat × Int64)) (m : AM) : Prop :=
  (∀ w, w < 112 → am_ke m w = v0 w) ∧ (∀ w, w < 112 → am_va m w = wr v0 D w) ∧ (∀ w, w < 112 → w ∈ D.map Prod.fst → am_lc m w = 1 ∧ am_lv m w = am_va m w) ∧ (∀ w, w < 112 → w ∉ D.map Prod.fst → am_lc m w = 0) ∧
  (∀ k, k < 14 → am_uf m k = if D.any (fun q => q.1 / 8 == k) = true then 1 else 0) ∧ ∀ k, k < 14 → am_fd m k = 0
/-- within the flushes: those of F are done, those of E are to come -/
def StB (v0 : Nat → Int64) (D : List (Nat × Int64)) (F : Nat → Prop) (E : List Nat) (m : AM) : Prop :=
  (∀ w, w < 112 → am_ke m w = v0 w) ∧ (∀ w, w < 112 → am_va m w = wr v0 D w) ∧ (∀ w, w < 112 → w ∈ D.map Prod.fst → am_lc m w = 1 ∧ am_lv m w = am_va m w) ∧ (∀ w, w < 112 → w ∉ D.map Prod.fst → am_lc m w = 0) ∧
  (∀ k, k < 14 → (k ∈ E → am_uf m k = 1) ∧ (k ∉ E → am_uf m k = 0)) ∧ (∀ k, k < 14 → (F k → am_fd m k = 1) ∧ (¬ F k → am_fd m k = 0)) 
theorem StA.clean {m : AM} (h : Clean m) : StA (am_va m) [] m :=
  ⟨fun w hw => (h.1 w hw).1, fun _ _ => rfl, fun _ _ h => absurd h List.not_mem_nil, fun w hw _ => (h.1 w hw).2, fun k hk => (h.2 k hk).1, fun k hk => (h.2 k hk).2⟩
theorem StA.store {v0 : Nat → Int64} {D : List (Nat × Int64)} {m : AM} (h : StA v0 D m) {q : Nat × Int64} (hq : q.1 < 112) (hn : q.1 ∉ D.map Prod.fst) : StA v0 (D ++ [q]) (op_do m (0, q.1, q.2)) := by
  obtain ⟨h1, h2, h3, h4, h5, h6⟩ := h
  have hz : am_lc m q.1 = 0 := h4 q.1 hq hn
  have hlt : am_lc m q.1 < 1 := by rw [hz]; decide
  show StA v0 (D ++ [q]) (ms_store m q.1 q.2)
  have e : ms_store m q.1 q.2 = (vp_updL (am_va m) q.1 q.2, am_ke m, vp_updL (am_lv m) q.1 q.2, upd (am_lc m) q.1 1, upd (am_uf m) (q.1 / 8) 1, am_fd m, am_st m + 1, am_fl m, am_fe m, am_cr m) := by
    unfold ms_store
    rw [if_pos hlt, if_pos hlt, hz]; rfl
  rw [e]
  refine ⟨h1, fun w hw => ?_, fun w hw hin => ?_, fun w hw hin => ?_, fun k hk => ?_, h6⟩
  · rw [wr_one]
    show vp_updL (am_va m) q.1 q.2 w = vp_updL (wr v0 D) q.1 q.2 w
    unfold vp_updL
    by_cases e : w = q.1
    · rw [if_pos e, if_pos e]
    · rw [if_neg e, if_neg e]; exact h2 w hw
  · show upd (am_lc m) q.1 1 w = 1 ∧ vp_updL (am_lv m) q.1 q.2 w = vp_updL (am_va m) q.1 q.2 w
    by_cases e : w = q.1
    · rw [e, pk_us, pk_uLs, pk_uLs]; exact ⟨rfl, rfl⟩
    · rw [pk_un e, pk_uLn e, pk_uLn e]
      rw [List.map_append, List.mem_append] at hin
      rcases hin with hin | hin
      · exact h3 w hw hin
      · exact absurd (List.mem_singleton.mp hin) e
  · show upd (am_lc m) q.1 1 w = 0
    rw [List.map_append, List.mem_append, not_or] at hin
    have e : w ≠ q.1 := fun e => hin.2 (List.mem_singleton.mpr e)
    rw [pk_un e]
    exact h4 w hw hin.1
  · show upd (am_uf m) (q.1 / 8) 1 k = _
    rw [List.any_append]
    by_cases e : k = q.1 / 8
    · have hq0 : ([q].any fun q => q.1 / 8 == k) = true := by
        show ((q.1 / 8 == k) || false) = true
        rw [e, beq_self_eq_true]; rfl
      rw [hq0, Bool.or_true, if_pos rfl, e, pk_us]
    · have hq0 : ([q].any fun q => q.1 / 8 == k) = false := by
        show ((q.1 / 8 == k) || false) = false
        rw [beq_eq_false_iff_ne.mpr (fun z => e z.symm)]; rfl
      rw [pk_un e, h5 k hk, hq0, Bool.or_false]
theorem StA.flush0 {v0 : Nat → Int64} {D : List (Nat × Int64)} {m : AM} (h : StA v0 D m) : StB v0 D (fun _ => False) (rn_lines D) m := by
  obtain ⟨h1, h2, h3, h4, h5, h6⟩ := h
  refine ⟨h1, h2, h3, h4, fun k hk => ⟨fun hin => ?_, fun hin => ?_⟩, fun k hk => ⟨fun hf => hf.elim, fun _ => h6 k hk⟩⟩
  · rw [h5 k hk, if_pos (List.mem_filter.mp hin).2]
  · rw [h5 k hk, if_neg (fun z => hin (List.mem_filter.mpr ⟨List.mem_range.mpr hk, z⟩))]
theorem StB.flush {v0 : Nat → Int64} {D : List (Nat × Int64)} {F : Nat → Prop} {k : Nat} {E : List Nat} {m : AM} (h : StB v0 D F (k :: E) m) (hk : k ∉ E) : StB v0 D (fun j => F j ∨ j = k) E (op_do m (1, k, 0)) := by
  obtain ⟨h1, h2, h3, h4, h5, h6⟩ := h
  show StB v0 D (fun j => F j ∨ j = k) E (ms_flush m k)
  refine ⟨h1, h2, h3, h4, fun j hj => ⟨fun hin => ?_, fun hin => ?_⟩, fun j hj => ⟨fun hf => ?_, fun hf => ?_⟩⟩
  · show upd (am_uf m) k 0 j = 1
    have e : j ≠ k := fun e => hk (e ▸ hin)
    rw [pk_un e]; exact (h5 j hj).1 (List.mem_cons_of_mem _ hin)
  · show upd (am_uf m) k 0 j = 0
    by_cases e : j = k
    · rw [e, pk_us]
    · rw [pk_un e]; exact (h5 j hj).2 (fun z => (List.mem_cons.mp z).elim e hin)
  · show upd (am_fd m) k 1 j = 1
    by_cases e : j = k
    · rw [e, pk_us]
    · rw [pk_un e]; exact (h6 j hj).1 (hf.resolve_right e)
  · show upd (am_fd m) k 1 j = 0
    have e : j ≠ k := fun e => hf (Or.inr e)
    rw [pk_un e]; exact (h6 j hj).2 (fun z => hf (Or.inl z))
theorem StB.fence {v0 : Nat → Int64} {D : List (Nat × Int64)} {F : Nat → Prop} {m : AM} (h : StB v0 D F [] m) (hF : ∀ q ∈ D, F (q.1 / 8)) : Clean (op_do m (2, 0, 0)) ∧ ∀ w, w < 112 → am_va (op_do m (2, 0, 0)) w = wr v0 D w := by
  obtain ⟨h1, h2, h3, h4, h5, h6⟩ := h
  show Clean (ms_keep m 14) ∧ ∀ w, w < 112 → am_va (ms_keep m 14) w = wr v0 D w
  refine ⟨⟨fun w hw => ?_, fun k hk => ⟨(h5 k hk).2 List.not_mem_nil, ?_⟩⟩, h2⟩
  · show (if w / 8 < 14 ∧ am_fd m (w / 8) ≠ 0 then am_va m w else am_ke m w) = am_va m w ∧ (if w / 8 < 14 ∧ am_fd m (w / 8) ≠ 0 then 0 else am_lc m w) = 0
    have h14 : w / 8 < 14 := by omega
    by_cases hin : w ∈ D.map Prod.fst
    · obtain ⟨q, hq, e⟩ := List.mem_map.mp hin
      have hf : am_fd m (w / 8) = 1 := (h6 _ h14).1 (e ▸ hF q hq)
      have hc : w / 8 < 14 ∧ am_fd m (w / 8) ≠ 0 := ⟨h14, by rw [hf]; decide⟩
      rw [if_pos hc, if_pos hc]; exact ⟨rfl, rfl⟩
    · have hl : am_lc m w = 0 := h4 w hw hin
      have hv : am_va m w = am_ke m w := by rw [h2 w hw, h1 w hw, wr_out _ _ _ hin]
      rw [hl]
      by_cases hc : w / 8 < 14 ∧ am_fd m (w / 8) ≠ 0
      · rw [if_pos hc, if_pos hc]; exact ⟨rfl, rfl⟩
      · rw [if_neg hc, if_neg hc]; exact ⟨hv.symm, rfl⟩
  · show (if k < 14 then 0 else am_fd m k) = 0
    rw [if_pos hk]
/-- a crash of a memory whose loose values are the words' own -/
theorem ms_crash_mix {m : AM} {seed : Int32} {a b : Nat → Int64} (hk : ∀ w, w < 112 → am_ke m w = a w ∨ am_ke m w = b w) (hl : ∀ w, w < 112 → am_lc m w = 0 ∨ (am_lc m w = 1 ∧ (am_lv m w = a w ∨ am_lv m w = b w))) :
    Clean (ms_crash m seed) ∧ Mix a b (am_va (ms_crash m seed)) := by
  refine ⟨⟨fun w hw => ?_, fun k hk => ?_⟩, fun w hw => ?_⟩
  · show (if w < 112 then ms_pick m seed w else am_ke m w) = (if w < 112 then ms_pick m seed w else am_va m w) ∧ (if w < 112 then (0 : Int32) else am_lc m w) = 0
    rw [if_pos hw, if_pos hw, if_pos hw]; exact ⟨rfl, rfl⟩
  · show (if k < 14 then (0 : Int32) else am_uf m k) = 0 ∧ (if k < 14 then (0 : Int32) else am_fd m k) = 0
    rw [if_pos hk, if_pos hk]; exact ⟨rfl, rfl⟩
  · show (if w < 112 then ms_pick m seed w else am_va m w) = a w ∨ (if w < 112 then ms_pick m seed w else am_va m w) = b w
    rw [if_pos hw]
    unfold ms_pick
    rcases hl w hw with h | ⟨h, h'⟩
    · rw [if_neg (by rw [h]; decide)]; exact hk w hw
    · rw [if_pos (by rw [h]; decide)]
      by_cases e : ms_r (am_lc m) seed w = 0
      · rw [if_pos e]; exact hk w hw
      · rw [if_neg e]; exact h'
/-- what a round leaves: all of it, or a stop and a mix -/
def RnOk (c : CS) (a b : Nat → Int64) (r : CS × Bool) : Prop :=
  (r.2 = false ∧ Clean (cs_me r.1) ∧ (∀ w, w < 112 → am_va (cs_me r.1) w = b w) ∧ cs_im r.1 = cs_im c ∧ cs_s0 r.1 = cs_s0 c ∧ cs_s1 r.1 = cs_s1 c ∧ cs_tk r.1 = cs_tk c ∧ cs_ch r.1 = cs_ch c ∧ cs_dn r.1 = cs_dn c ∧ cs_tx r.1 = cs_tx c ∧ cs_sd r.1 = cs_sd c) ∨
  (r.2 = true ∧ Clean (cs_me r.1) ∧ Mix a b (am_va (cs_me r.1)) ∧ cs_im r.1 = cs_im c ∧ cs_s0 r.1 = cs_s0 c ∧ cs_s1 r.1 = cs_s1 c ∧ cs_tk r.1 = (fun k => if k < 2 then 0 else cs_tk c k) ∧ cs_ch r.1 = cs_ch c ∧ cs_dn r.1 = 1 ∧ cs_tx r.1 = 0 ∧ cs_sp r.1 = -1 ∧ cs_sd r.1 = cs_sd c)
/-- the rest of the state is that of c -/
def SameR (c d : CS) : Prop := cs_im d = cs_im c ∧ cs_s0 d = cs_s0 c ∧ cs_s1 d = cs_s1 c ∧ cs_tk d = cs_tk c ∧ cs_ch d = cs_ch c ∧ cs_dn d = cs_dn c ∧ cs_tx d = cs_tx c ∧ cs_sd d = cs_sd c
theorem rn_halt {c d : CS} {a b : Nat → Int64} (hd : SameR c d) (hk : ∀ w, w < 112 → am_ke (cs_me d) w = a w ∨ am_ke (cs_me d) w = b w) (hl : ∀ w, w < 112 → am_lc (cs_me d) w = 0 ∨ (am_lc (cs_me d) w = 1 ∧ (am_lv (cs_me d) w = a w ∨ am_lv (cs_me d) w = b w))) :
    RnOk c a b (cs_halt d, true) := by
  obtain ⟨e1, e2, e3, e4, e5, e6, e7, e8⟩ := hd
  obtain ⟨h1, h2⟩ := ms_crash_mix (seed := cs_sd d) hk hl
  refine Or.inr ⟨rfl, h1, h2, e1, e2, e3, ?_, e5, rfl, rfl, rfl, e8⟩
  show (fun k => if k < 2 then 0 else cs_tk d k) = _
  rw [e4]
theorem rn_step {c d : CS} {m : AM} (hd : SameR c d) : SameR c (cs_mem (cs_tick d) m) := hd
theorem rn_fence {c d : CS} {v0 : Nat → Int64} {D : List (Nat × Int64)} {F : Nat → Prop} (hd : SameR c d) (h : StB v0 D F [] (cs_me d)) (hF : ∀ q ∈ D, F (q.1 / 8)) : RnOk c v0 (wr v0 D) (op_run [(2, 0, 0)] d) := by
  by_cases h0 : cs_sp d = 0
  · rw [op_run_stop h0]
    obtain ⟨h1, h2, h3, h4, h5, h6⟩ := h
    refine rn_halt hd (fun w hw => Or.inl (h1 w hw)) (fun w hw => ?_)
    by_cases hin : w ∈ D.map Prod.fst
    · exact Or.inr ⟨(h3 w hw hin).1, Or.inr (by rw [(h3 w hw hin).2, h2 w hw])⟩
    · exact Or.inl (h4 w hw hin)
  · rw [op_run_go h0, op_run_nil]
    obtain ⟨g1, g2⟩ := h.fence hF
    obtain ⟨e1, e2, e3, e4, e5, e6, e7, e8⟩ := hd
    exact Or.inl ⟨rfl, g1, g2, e1, e2, e3, e4, e5, e6, e7, e8⟩
theorem rn_flush {c : CS} {v0 : Nat → Int64} {D : List (Nat × Int64)} (E : List Nat) : ∀ {d : CS} {F : Nat → Prop}, SameR c d → StB v0 D F E (cs_me d) → E.Nodup → (∀ q ∈ D, F (q.1 / 8) ∨ q.1 / 8 ∈ E) → RnOk c v0 (wr v0 D) (op_run (E.map (fun k => (1, k, 0)) ++ [(2, 0, 0)]) d) := by
  induction E with
  | nil => intro d F hd h _ hF; exact rn_fence hd h (fun q hq => (hF q hq).resolve_right List.not_mem_nil)
  | cons k E ih =>
    intro d F hd h hn hF
    rw [List.map_cons, List.cons_append]
    by_cases h0 : cs_sp d = 0
    · rw [op_run_stop h0]
      obtain ⟨h1, h2, h3, h4, h5, h6⟩ := h
      refine rn_halt hd (fun w hw => Or.inl (h1 w hw)) (fun w hw => ?_)
      by_cases hin : w ∈ D.map Prod.fst
      · exact Or.inr ⟨(h3 w hw hin).1, Or.inr (by rw [(h3 w hw hin).2, h2 w hw])⟩
      · exact Or.inl (h4 w hw hin)
    · rw [op_run_go h0]
      have hn' := List.nodup_cons.mp hn
      refine ih (rn_step hd) (h.flush hn'.1) hn'.2 (fun q hq => ?_)
      rcases hF q hq with z | z
      · exact Or.inl (Or.inl z)
      · rcases List.mem_cons.mp z with z | z
        · exact Or.inl (Or.inr z)
        · exact Or.inr z
theorem rn_lines_nodup (D : List (Nat × Int64)) : (rn_lines D).Nodup := List.Pairwise.filter _ List.nodup_range
theorem rn_lines_in {D : List (Nat × Int64)} (h : ∀ q ∈ D, q.1 < 112) : ∀ q ∈ D, q.1 / 8 ∈ rn_lines D := fun q hq =>
  List.mem_filter.mpr ⟨List.mem_range.mpr (by have := h q hq; omega), List.any_eq_true.mpr ⟨q, hq, beq_self_eq_true _⟩⟩
theorem rn_store {c : CS} {v0 : Nat → Int64} (E : List (Nat × Int64)) : ∀ {d : CS} {D : List (Nat × Int64)}, SameR c d → StA v0 D (cs_me d) → (∀ q ∈ D ++ E, q.1 < 112) → ((D ++ E).map Prod.fst).Nodup →
    RnOk c v0 (wr v0 (D ++ E)) (op_run (E.map (fun q => (0, q.1, q.2)) ++ ((rn_lines (D ++ E)).map (fun k => (1, k, 0)) ++ [(2, 0, 0)])) d) := by
  induction E with
  | nil =>
    intro d D hd h hb hn
    rw [List.append_nil] at hb ⊢
    exact rn_flush (rn_lines D) hd h.flush0 (rn_lines_nodup D) (fun q hq => Or.inr (rn_lines_in hb q hq))
  | cons q E ih =>
    intro d D hd h hb hn
    have hq : q.1 < 112 := hb q (List.mem_append_right _ List.mem_cons_self)
    have hnm := hn
    rw [List.map_append, List.nodup_append] at hnm
    have hqD : q.1 ∉ D.map Prod.fst := fun z => hnm.2.2 q.1 z q.1 (by rw [List.map_cons]; exact List.mem_cons_self) rfl
    rw [List.map_cons, List.cons_append]
    by_cases h0 : cs_sp d = 0
    · rw [op_run_stop h0]
      obtain ⟨h1, h2, h3, h4, h5, h6⟩ := h
      refine rn_halt hd (fun w hw => Or.inl (h1 w hw)) (fun w hw => ?_)
      by_cases hin : w ∈ D.map Prod.fst
      · refine Or.inr ⟨(h3 w hw hin).1, Or.inr ?_⟩
        rw [(h3 w hw hin).2, h2 w hw, wr_app, wr_out _ (q :: E)]
        exact fun z => hnm.2.2 w hin w z rfl
      · exact Or.inl (h4 w hw hin)
    · rw [op_run_go h0]
      have e : D ++ q :: E = (D ++ [q]) ++ E := by rw [List.append_assoc]; rfl
      rw [e] at hb hn ⊢
      exact ih (rn_step hd) (h.store hq hqD) hb hn
/-- THE ROUND -/
theorem rn_round {c : CS} (hc : Clean (cs_me c)) {L : List (Nat × Int64)} (hb : ∀ q ∈ L, q.1 < 112) (hn : (L.map Prod.fst).Nodup) : RnOk c (am_va (cs_me c)) (wr (am_va (cs_me c)) L) (op_run (rnd L) c) :=
  rn_store (c := c) L (D := []) ⟨rfl, rfl, rfl, rfl, rfl, rfl, rfl, rfl⟩ (StA.clean hc) hb hn
