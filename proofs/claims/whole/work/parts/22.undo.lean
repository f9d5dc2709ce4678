/-! The undo log: whatever a stop leaves can be set back. -/
theorem wr_s {v : Nat → Int64} {k : Nat} {x : Int64} : wr v [(k, x)] k = x := by
  show vp_updL v k x k = x
  exact pk_uLs
/-- the shelf's own words are in order -/
def Wf (x : Nat → Int64) : Prop := ∃ f n p : Nat, f < 8 ∧ n ≤ 8 ∧ p ≤ 8 ∧ x 4 = lN f ∧ x 5 = lN n ∧ x 14 = lN p ∧ ∀ i j, i < j → j < p → x (15 + i) < x (15 + j)
theorem Wf.congr {x y : Nat → Int64} (h : Wf y) (e : ∀ w, w < 31 → x w = y w) : Wf x := by
  obtain ⟨f, n, p, h1, h2, h3, h4, h5, h6, h7⟩ := h
  refine ⟨f, n, p, h1, h2, h3, ?_, ?_, ?_, fun i j hi hj => ?_⟩
  · rw [e 4 (by omega)]; exact h4
  · rw [e 5 (by omega)]; exact h5
  · rw [e 14 (by omega)]; exact h6
  · rw [e (15 + i) (by omega), e (15 + j) (by omega)]; exact h7 i j hi hj
/-- n entries of the log, of the words a 0 < a 1 < .., that set the words back to those of y -/
def LogOk (n : Nat) (a : Nat → Nat) (y x : Nat → Int64) : Prop :=
  n ≤ 31 ∧ x 40 = lN n ∧ (∀ e, e < n → a e < 31 ∧ x (48 + 2 * e) = lN (a e) ∧ x (49 + 2 * e) = y (a e)) ∧ (∀ e e', e < e' → e' < n → a e < a e') ∧ ∀ w, w < 31 → (∃ e, e < n ∧ a e = w) ∨ x w = y w
def DownOk (x : Nat → Int64) : Prop := ∃ (n : Nat) (a : Nat → Nat) (y : Nat → Int64), LogOk n a y x ∧ Wf y
def UpOk (x : Nat → Int64) : Prop := x 40 = 0 ∧ Wf x
theorem UpOk.down {x : Nat → Int64} (h : UpOk x) : DownOk x :=
  ⟨0, fun _ => 0, x, ⟨by omega, h.1, fun e he => absurd he (by omega), fun e e' _ h => absurd h (by omega), fun w _ => Or.inr rfl⟩, h.2⟩
/-- the log's entries for the words of l, from entry e on -/
def lg_l (v : Nat → Int64) : Nat → List Nat → List (Nat × Int64)
  | _, [] => []
  | e, w :: r => (48 + 2 * e, lN w) :: (49 + 2 * e, v w) :: lg_l v (e + 1) r
theorem lg_fst (v : Nat → Int64) (l : List Nat) (e : Nat) : ∀ q ∈ lg_l v e l, 48 + 2 * e ≤ q.1 ∧ q.1 < 48 + 2 * (e + l.length) := by
  induction l generalizing e with
  | nil => intro q hq; exact absurd hq List.not_mem_nil
  | cons w r ih =>
    intro q hq
    rw [List.length_cons]
    rcases List.mem_cons.mp hq with h | h
    · subst h; dsimp only; omega
    · rcases List.mem_cons.mp h with h | h
      · subst h; dsimp only; omega
      · have := ih (e + 1) q h
        omega
theorem lg_nodup (v : Nat → Int64) (l : List Nat) (e : Nat) : ((lg_l v e l).map Prod.fst).Nodup := by
  induction l generalizing e with
  | nil => exact List.nodup_nil
  | cons w r ih =>
    show ((48 + 2 * e) :: (49 + 2 * e) :: (lg_l v (e + 1) r).map Prod.fst).Nodup
    have hb : ∀ x ∈ (lg_l v (e + 1) r).map Prod.fst, 48 + 2 * (e + 1) ≤ x := fun x hx => by
      obtain ⟨q, hq, h⟩ := List.mem_map.mp hx
      rw [← h]; exact (lg_fst v r (e + 1) q hq).1
    refine List.nodup_cons.mpr ⟨fun z => ?_, List.nodup_cons.mpr ⟨fun z => ?_, ih (e + 1)⟩⟩
    · rcases List.mem_cons.mp z with z | z
      · omega
      · have := hb _ z; omega
    · have := hb _ z; omega
theorem lg_val (v v0 : Nat → Int64) (l : List Nat) (e : Nat) : ∀ j, (h : j < l.length) → wr v0 (lg_l v e l) (48 + 2 * (e + j)) = lN l[j] ∧ wr v0 (lg_l v e l) (49 + 2 * (e + j)) = v l[j] := by
  induction l generalizing e v0 with
  | nil => intro j h; exact absurd h (Nat.not_lt_zero j)
  | cons w r ih =>
    intro j h
    show wr (vp_updL (vp_updL v0 (48 + 2 * e) (lN w)) (49 + 2 * e) (v w)) (lg_l v (e + 1) r) (48 + 2 * (e + j)) = _ ∧ wr (vp_updL (vp_updL v0 (48 + 2 * e) (lN w)) (49 + 2 * e) (v w)) (lg_l v (e + 1) r) (49 + 2 * (e + j)) = _
    cases j with
    | zero =>
      have hb : ∀ x, x < 48 + 2 * (e + 1) → x ∉ (lg_l v (e + 1) r).map Prod.fst := fun x hx hm => by
        obtain ⟨q, hq, h9⟩ := List.mem_map.mp hm
        have := (lg_fst v r (e + 1) q hq).1
        omega
      rw [wr_out _ _ _ (hb _ (by omega)), wr_out _ _ _ (hb _ (by omega))]
      refine ⟨?_, ?_⟩
      · rw [pk_uLn (by omega)]; exact pk_uLs
      · exact pk_uLs
    | succ j =>
      have e1 : e + (j + 1) = e + 1 + j := by omega
      rw [e1]
      exact ih _ (e + 1) j (by rw [List.length_cons] at h; omega)
theorem lg_low (v v0 : Nat → Int64) (l : List Nat) (e w : Nat) (h : w < 48) : wr v0 (lg_l v e l) w = v0 w :=
  wr_out _ _ _ fun hm => by
    obtain ⟨q, hq, h9⟩ := List.mem_map.mp hm
    have := (lg_fst v l e q hq).1
    omega
theorem mk_log {x v0 : Nat → Int64} {l : List Nat} (hs : l.Pairwise (· < ·)) (hb : ∀ w ∈ l, w < 31) (hn : l.length ≤ 31) (h40 : x 40 = lN l.length)
    (hl : ∀ j, (h : j < l.length) → x (48 + 2 * j) = lN l[j] ∧ x (49 + 2 * j) = v0 l[j]) (ho : ∀ w, w < 31 → w ∉ l → x w = v0 w) (hw : Wf v0) : DownOk x := by
  have hg : ∀ j, (h : j < l.length) → l.getD j 0 = l[j] := fun j h => by simp [List.getD, h]
  refine ⟨l.length, fun e => l.getD e 0, v0, ⟨hn, h40, fun e he => ?_, fun e e' h1 h2 => ?_, fun w hw9 => ?_⟩, hw⟩
  · show l.getD e 0 < 31 ∧ _ = lN (l.getD e 0) ∧ _ = v0 (l.getD e 0)
    rw [hg e he]
    exact ⟨hb _ (List.getElem_mem he), (hl e he).1, (hl e he).2⟩
  · show l.getD e 0 < l.getD e' 0
    rw [hg e (by omega), hg e' h2]
    exact List.pairwise_iff_getElem.mp hs e e' (by omega) h2 h1
  · by_cases h : w ∈ l
    · obtain ⟨j, hj, e⟩ := List.mem_iff_getElem.mp h
      exact Or.inl ⟨j, hj, by show l.getD j 0 = w; rw [hg j hj]; exact e⟩
    · exact Or.inr (ho w hw9 h)
/-- the words of l, new -/
def nw_l (g : Nat → Int64) (l : List Nat) : List (Nat × Int64) := l.map (fun w => (w, g w))
theorem nw_fst (g : Nat → Int64) (l : List Nat) : (nw_l g l).map Prod.fst = l := by
  unfold nw_l
  rw [List.map_map]
  exact List.map_id' l
theorem nw_in (g v : Nat → Int64) (l : List Nat) (w : Nat) (h : w ∈ l) : wr v (nw_l g l) w = g w := by
  induction l generalizing v with
  | nil => exact absurd h List.not_mem_nil
  | cons q r ih =>
    show wr (vp_updL v q (g q)) (nw_l g r) w = g w
    by_cases hr : w ∈ r
    · exact ih _ hr
    · rw [wr_out _ _ _ (by rw [nw_fst]; exact hr)]
      rcases List.mem_cons.mp h with e | e
      · rw [e]; exact pk_uLs
      · exact absurd e hr
theorem nw_out (g v : Nat → Int64) (l : List Nat) (w : Nat) (h : w ∉ l) : wr v (nw_l g l) w = v w := wr_out _ _ _ (by rw [nw_fst]; exact h)
section COMMIT
variable {v0 g : Nat → Int64} {l : List Nat}
/-- the steps of a commit that changes the words l to those of g -/
def cm_ops (v0 g : Nat → Int64) (l : List Nat) : List OP := rnd (lg_l v0 0 l) ++ (rnd [(40, lN l.length)] ++ (rnd (nw_l g l) ++ rnd [(40, 0)]))
theorem cm_1 (hu : UpOk v0) {x : Nat → Int64} (h : Mix v0 (wr v0 (lg_l v0 0 l)) x) : DownOk x := by
  have e : ∀ w, w < 48 → x w = v0 w := fun w hw => by
    rcases h w (by omega) with z | z
    · exact z
    · rw [z]; exact lg_low _ _ _ _ _ hw
  exact UpOk.down ⟨by rw [e 40 (by omega)]; exact hu.1, hu.2.congr (fun w hw => e w (by omega))⟩
theorem cm_log (hs : l.Pairwise (· < ·)) (hb : ∀ w ∈ l, w < 31) (hn : l.length ≤ 31) (hu : UpOk v0) {x : Nat → Int64} (h40 : x 40 = lN l.length)
    (h1 : ∀ w, 48 ≤ w → w < 112 → x w = wr v0 (lg_l v0 0 l) w) (h2 : ∀ w, w < 31 → w ∉ l → x w = v0 w) : DownOk x := by
  refine mk_log hs hb hn h40 (fun j hj => ?_) h2 hu.2
  have := lg_val v0 v0 l 0 j hj
  rw [Nat.zero_add] at this
  rw [h1 _ (by omega) (by omega), h1 _ (by omega) (by omega)]
  exact this
theorem cm_2 (hs : l.Pairwise (· < ·)) (hb : ∀ w ∈ l, w < 31) (hn : l.length ≤ 31) (hu : UpOk v0) {x v1 : Nat → Int64} (e1 : ∀ w, w < 112 → v1 w = wr v0 (lg_l v0 0 l) w) (h : Mix v1 (wr v1 [(40, lN l.length)]) x) : DownOk x := by
  have e : ∀ w, w < 112 → w ≠ 40 → x w = wr v0 (lg_l v0 0 l) w := fun w hw h9 => by
    rcases h w hw with z | z
    · rw [z, e1 w hw]
    · rw [z]
      show vp_updL v1 40 (lN l.length) w = _
      rw [pk_uLn h9, e1 w hw]
  rcases h 40 (by omega) with z | z
  · refine UpOk.down ⟨by rw [z, e1 40 (by omega), lg_low _ _ _ _ _ (by omega)]; exact hu.1, hu.2.congr (fun w hw => ?_)⟩
    rw [e w (by omega) (by omega), lg_low _ _ _ _ _ (by omega)]
  · refine cm_log hs hb hn hu (by rw [z]; exact wr_s) (fun w h1 h2 => e w h2 (by omega)) (fun w hw _ => ?_)
    rw [e w (by omega) (by omega), lg_low _ _ _ _ _ (by omega)]
theorem cm_3 (hs : l.Pairwise (· < ·)) (hb : ∀ w ∈ l, w < 31) (hn : l.length ≤ 31) (hu : UpOk v0) {x v2 : Nat → Int64} (h40 : v2 40 = lN l.length) (e2 : ∀ w, w < 112 → w ≠ 40 → v2 w = wr v0 (lg_l v0 0 l) w) (h : Mix v2 (wr v2 (nw_l g l)) x) : DownOk x := by
  have e : ∀ w, w < 112 → w ∉ l → x w = v2 w := fun w hw h9 => by
    rcases h w hw with z | z
    · exact z
    · rw [z]; exact nw_out _ _ _ _ h9
  have h31 : ∀ w, 31 ≤ w → w ∉ l := fun w hw hm => by have := hb w hm; omega
  refine cm_log hs hb hn hu (by rw [e 40 (by omega) (h31 40 (by omega))]; exact h40) (fun w h1 h2 => ?_) (fun w hw hm => ?_)
  · rw [e w h2 (h31 w (by omega)), e2 w h2 (by omega)]
  · rw [e w (by omega) hm, e2 w (by omega) (by omega), lg_low _ _ _ _ _ (by omega)]
theorem cm_4 (hs : l.Pairwise (· < ·)) (hb : ∀ w ∈ l, w < 31) (hn : l.length ≤ 31) (hu : UpOk v0) (hg : Wf g) (hch : ∀ w, w < 31 → w ∉ l → g w = v0 w) {x v3 : Nat → Int64} (h40 : v3 40 = lN l.length) (e3 : ∀ w, 48 ≤ w → w < 112 → v3 w = wr v0 (lg_l v0 0 l) w) (e4 : ∀ w, w < 31 → v3 w = g w) (h : Mix v3 (wr v3 [(40, 0)]) x) : DownOk x ∧ (x 40 = 0 → UpOk x) := by
  have e : ∀ w, w < 112 → w ≠ 40 → x w = v3 w := fun w hw h9 => by
    rcases h w hw with z | z
    · exact z
    · rw [z]; exact pk_uLn h9
  have hW : Wf x := hg.congr (fun w hw => by rw [e w (by omega) (by omega), e4 w hw])
  refine ⟨?_, fun z => ⟨z, hW⟩⟩
  rcases h 40 (by omega) with z | z
  · refine cm_log hs hb hn hu (by rw [z]; exact h40) (fun w h1 h2 => ?_) (fun w hw hm => ?_)
    · rw [e w h2 (by omega), e3 w h1 h2]
    · rw [e w (by omega) (by omega), e4 w hw, hch w hw hm]
  · exact UpOk.down ⟨by rw [z]; exact wr_s, hW⟩
end COMMIT
/-- the stopped end of a run from c -/
def StopEnd (c : CS) (r : CS × Bool) : Prop := r.2 = true ∧ Clean (cs_me r.1) ∧ DownOk (am_va (cs_me r.1)) ∧ cs_im r.1 = cs_im c ∧ cs_s0 r.1 = cs_s0 c ∧ cs_s1 r.1 = cs_s1 c ∧ cs_tk r.1 = (fun k => if k < 2 then 0 else cs_tk c k) ∧ cs_ch r.1 = cs_ch c ∧ cs_dn r.1 = 1 ∧ cs_tx r.1 = 0 ∧ cs_sp r.1 = -1 ∧ cs_sd r.1 = cs_sd c
/-- one round more: its stop, or the run goes on -/
theorem rn_then {c d : CS} (hd : SameR c d) (hc : Clean (cs_me d)) {L : List (Nat × Int64)} (hb : ∀ q ∈ L, q.1 < 112) (hn : (L.map Prod.fst).Nodup) (hx : ∀ x, Mix (am_va (cs_me d)) (wr (am_va (cs_me d)) L) x → DownOk x) {os : List OP} {P : CS × Bool → Prop}
    (hP : ∀ r, StopEnd c r → P r) (k : ∀ d', SameR c d' → Clean (cs_me d') → (∀ w, w < 112 → am_va (cs_me d') w = wr (am_va (cs_me d)) L w) → P (op_run os d')) : P (op_run (rnd L ++ os) d) := by
  rw [op_run_app]
  obtain ⟨f1, f2, f3, f4, f5, f6, f7, f8⟩ := hd
  rcases rn_round hc hb hn with ⟨h0, h1, h2, e1, e2, e3, e4, e5, e6, e7, e8⟩ | ⟨h0, h1, h2, e1, e2, e3, e4, e5, e6, e7, e8, e9⟩
  · rw [if_neg (by rw [h0]; decide)]
    exact k _ ⟨e1.trans f1, e2.trans f2, e3.trans f3, e4.trans f4, e5.trans f5, e6.trans f6, e7.trans f7, e8.trans f8⟩ h1 h2
  · rw [if_pos h0]
    exact hP _ ⟨rfl, h1, hx _ h2, e1.trans f1, e2.trans f2, e3.trans f3, by rw [e4, f4], e5.trans f5, e6, e7, e8, e9.trans f8⟩
theorem one_nodup (q : Nat × Int64) : (([q] : List (Nat × Int64)).map Prod.fst).Nodup := List.nodup_cons.mpr ⟨List.not_mem_nil, List.nodup_nil⟩
/-- A COMMIT: all, or a stop that can be set back -/
theorem cm_run {c : CS} {v0 g : Nat → Int64} {l : List Nat} (hc : Clean (cs_me c)) (hv : am_va (cs_me c) = v0) (hs : l.Pairwise (· < ·)) (hb : ∀ w ∈ l, w < 31) (hn : l.length ≤ 31) (hu : UpOk v0) (hg : Wf g) (hch : ∀ w, w < 31 → w ∉ l → g w = v0 w) :
    (SameR c (op_run (cm_ops v0 g l) c).1 ∧ (op_run (cm_ops v0 g l) c).2 = false ∧ Clean (cs_me (op_run (cm_ops v0 g l) c).1) ∧ UpOk (am_va (cs_me (op_run (cm_ops v0 g l) c).1)) ∧ ∀ w, w < 31 → am_va (cs_me (op_run (cm_ops v0 g l) c).1) w = g w) ∨ StopEnd c (op_run (cm_ops v0 g l) c) := by
  subst hv
  generalize hv : am_va (cs_me c) = v0 at *
  unfold cm_ops
  have hnd : l.Nodup := hs.imp (fun h => Nat.ne_of_lt h)
  refine rn_then (P := fun r => (SameR c r.1 ∧ r.2 = false ∧ Clean (cs_me r.1) ∧ UpOk (am_va (cs_me r.1)) ∧ ∀ w, w < 31 → am_va (cs_me r.1) w = g w) ∨ StopEnd c r) ⟨rfl, rfl, rfl, rfl, rfl, rfl, rfl, rfl⟩ hc (fun q hq => ?_) (lg_nodup _ _ _) (fun x hx => cm_1 hu (by rw [hv] at hx; exact hx)) (fun r h => Or.inr h) (fun d1 hd1 hc1 e1 => ?_)
  · have := (lg_fst v0 l 0 q hq).2; omega
  rw [hv] at e1
  refine rn_then (P := fun r => (SameR c r.1 ∧ r.2 = false ∧ Clean (cs_me r.1) ∧ UpOk (am_va (cs_me r.1)) ∧ ∀ w, w < 31 → am_va (cs_me r.1) w = g w) ∨ StopEnd c r) hd1 hc1 (fun q hq => by rw [List.mem_singleton.mp hq]; show 40 < 112; decide) (one_nodup _) (fun x hx => cm_2 hs hb hn hu e1 hx) (fun r h => Or.inr h) (fun d2 hd2 hc2 e2 => ?_)
  have e240 : am_va (cs_me d2) 40 = lN l.length := by rw [e2 40 (by omega)]; exact wr_s
  have e2x : ∀ w, w < 112 → w ≠ 40 → am_va (cs_me d2) w = wr v0 (lg_l v0 0 l) w := fun w hw h9 => by
    rw [e2 w hw]
    show vp_updL (am_va (cs_me d1)) 40 (lN l.length) w = _
    rw [pk_uLn h9, e1 w hw]
  refine rn_then (P := fun r => (SameR c r.1 ∧ r.2 = false ∧ Clean (cs_me r.1) ∧ UpOk (am_va (cs_me r.1)) ∧ ∀ w, w < 31 → am_va (cs_me r.1) w = g w) ∨ StopEnd c r) hd2 hc2 (fun q hq => ?_) (by rw [nw_fst]; exact hnd) (fun x hx => cm_3 hs hb hn hu e240 e2x hx) (fun r h => Or.inr h) (fun d3 hd3 hc3 e3 => ?_)
  · obtain ⟨w, hw, e⟩ := List.mem_map.mp hq
    have := hb w hw
    rw [← e]; dsimp only; omega
  have h31 : ∀ w, 31 ≤ w → w ∉ l := fun w hw hm => by have := hb w hm; omega
  have e340 : am_va (cs_me d3) 40 = lN l.length := by rw [e3 40 (by omega), nw_out _ _ _ _ (h31 40 (by omega))]; exact e240
  have e3x : ∀ w, 48 ≤ w → w < 112 → am_va (cs_me d3) w = wr v0 (lg_l v0 0 l) w := fun w h1 h2 => by
    rw [e3 w h2, nw_out _ _ _ _ (h31 w (by omega)), e2x w h2 (by omega)]
  have e3g : ∀ w, w < 31 → am_va (cs_me d3) w = g w := fun w hw => by
    rw [e3 w (by omega)]
    by_cases hm : w ∈ l
    · exact nw_in _ _ _ _ hm
    · rw [nw_out _ _ _ _ hm, e2x w (by omega) (by omega), lg_low _ _ _ _ _ (by omega), hch w hw hm]
  have h4 : ∀ x, Mix (am_va (cs_me d3)) (wr (am_va (cs_me d3)) [(40, 0)]) x → DownOk x ∧ (x 40 = 0 → UpOk x) := fun x hx => cm_4 hs hb hn hu hg hch e340 e3x e3g hx
  have hlast : ∀ d4, SameR c d4 → Clean (cs_me d4) → (∀ w, w < 112 → am_va (cs_me d4) w = wr (am_va (cs_me d3)) [(40, 0)] w) → (SameR c (op_run [] d4).1 ∧ (op_run [] d4).2 = false ∧ Clean (cs_me (op_run [] d4).1) ∧ UpOk (am_va (cs_me (op_run [] d4).1)) ∧ ∀ w, w < 31 → am_va (cs_me (op_run [] d4).1) w = g w) ∨ StopEnd c (op_run [] d4) := fun d4 hd4 hc4 e4 => by
    refine Or.inl ⟨hd4, rfl, hc4, (h4 _ (fun w hw => Or.inr (e4 w hw))).2 ?_, fun w hw => ?_⟩
    · show am_va (cs_me d4) 40 = 0
      rw [e4 40 (by omega)]; exact wr_s
    · show am_va (cs_me d4) w = g w
      rw [e4 w (by omega)]
      show vp_updL (am_va (cs_me d3)) 40 0 w = g w
      rw [pk_uLn (by omega)]; exact e3g w hw
  have hfin := rn_then (P := fun r => (SameR c r.1 ∧ r.2 = false ∧ Clean (cs_me r.1) ∧ UpOk (am_va (cs_me r.1)) ∧ ∀ w, w < 31 → am_va (cs_me r.1) w = g w) ∨ StopEnd c r) (os := []) hd3 hc3 (fun q hq => by rw [List.mem_singleton.mp hq]; decide) (one_nodup _) (fun x hx => (h4 x hx).1) (fun r h => Or.inr h) hlast
  rw [List.append_nil] at hfin
  exact hfin
/-- the log's entries below n, the last first -/
def rc_l (a : Nat → Nat) (v : Nat → Int64) : Nat → List (Nat × Int64)
  | 0 => []
  | n + 1 => (a n, v (49 + 2 * n)) :: rc_l a v n
def rc_ops (a : Nat → Nat) (v : Nat → Int64) (n : Nat) : List OP := rnd (rc_l a v n) ++ rnd [(40, 0)]
theorem rc_fst {a : Nat → Nat} {v : Nat → Int64} {n : Nat} {q : Nat × Int64} (h : q ∈ rc_l a v n) : ∃ e, e < n ∧ q.1 = a e ∧ q.2 = v (49 + 2 * e) := by
  induction n with
  | zero => exact absurd h List.not_mem_nil
  | succ n ih =>
    rcases List.mem_cons.mp h with h | h
    · exact ⟨n, by omega, by rw [h], by rw [h]⟩
    · obtain ⟨e, h1, h2⟩ := ih h
      exact ⟨e, by omega, h2⟩
theorem rc_mem {a : Nat → Nat} {v : Nat → Int64} {n w : Nat} : w ∈ (rc_l a v n).map Prod.fst ↔ ∃ e, e < n ∧ a e = w := by
  refine ⟨fun h => ?_, fun h => ?_⟩
  · obtain ⟨q, hq, e⟩ := List.mem_map.mp h
    obtain ⟨j, h1, h2, -⟩ := rc_fst hq
    exact ⟨j, h1, by rw [← h2]; exact e⟩
  · obtain ⟨e, he, rfl⟩ := h
    induction n with
    | zero => exact absurd he (Nat.not_lt_zero e)
    | succ n ih =>
      show a e ∈ a n :: (rc_l a v n).map Prod.fst
      by_cases h9 : e = n
      · rw [h9]; exact List.mem_cons_self
      · exact List.mem_cons_of_mem _ (ih (by omega))
theorem rc_nodup {a : Nat → Nat} {v : Nat → Int64} {n : Nat} (h : ∀ e e', e < e' → e' < n → a e < a e') : ((rc_l a v n).map Prod.fst).Nodup := by
  induction n with
  | zero => exact List.nodup_nil
  | succ n ih =>
    show (a n :: (rc_l a v n).map Prod.fst).Nodup
    refine List.nodup_cons.mpr ⟨fun z => ?_, ih (fun e e' h1 h2 => h e e' h1 (by omega))⟩
    obtain ⟨e, h1, h2⟩ := rc_mem.mp z
    have := h e n h1 (by omega)
    omega
theorem rc_val {a : Nat → Nat} {v v0 : Nat → Int64} {n : Nat} (h : ∀ e e', e < e' → e' < n → a e < a e') : ∀ e, e < n → wr v0 (rc_l a v n) (a e) = v (49 + 2 * e) := by
  induction n generalizing v0 with
  | zero => intro e he; exact absurd he (Nat.not_lt_zero e)
  | succ n ih =>
    intro e he
    show wr (vp_updL v0 (a n) (v (49 + 2 * n))) (rc_l a v n) (a e) = _
    by_cases h9 : e = n
    · rw [h9, wr_out _ _ _ (fun z => by obtain ⟨j, h1, h2⟩ := rc_mem.mp z; have := h j n h1 (by omega); omega)]
      exact pk_uLs
    · exact ih (fun e e' h1 h2 => h e e' h1 (by omega)) e (by omega)
theorem rc_1 {n : Nat} {a : Nat → Nat} {y v x : Nat → Int64} (h : LogOk n a y v) (hx : Mix v (wr v (rc_l a v n)) x) : LogOk n a y x ∧ ∀ w, 31 ≤ w → w < 112 → x w = v w := by
  obtain ⟨h1, h2, h3, h4, h5⟩ := h
  have e : ∀ w, w < 112 → (∀ e, e < n → a e ≠ w) → x w = v w := fun w hw h9 => by
    rcases hx w hw with z | z
    · exact z
    · rw [z]; exact wr_out _ _ _ (fun z => by obtain ⟨j, q1, q2⟩ := rc_mem.mp z; exact h9 j q1 q2)
  have e31 : ∀ w, 31 ≤ w → w < 112 → x w = v w := fun w h9 hw => e w hw (fun j hj z => by have := (h3 j hj).1; omega)
  refine ⟨⟨h1, by rw [e31 40 (by omega) (by omega)]; exact h2, fun j hj => ⟨(h3 j hj).1, ?_, ?_⟩, h4, fun w hw => ?_⟩, e31⟩
  · rw [e31 _ (by omega) (by omega)]; exact (h3 j hj).2.1
  · rw [e31 _ (by omega) (by omega)]; exact (h3 j hj).2.2
  · by_cases h9 : ∃ j, j < n ∧ a j = w
    · exact Or.inl h9
    · refine Or.inr ?_
      rw [e w (by omega) (fun j hj z => h9 ⟨j, hj, z⟩)]
      exact (h5 w hw).resolve_left h9
/-- A RECOVERY: all set back, or a stop that can be set back again -/
theorem rc_run {c : CS} {v y : Nat → Int64} {n : Nat} {a : Nat → Nat} (hc : Clean (cs_me c)) (hv : am_va (cs_me c) = v) (hl : LogOk n a y v) (hy : Wf y) :
    (SameR c (op_run (rc_ops a v n) c).1 ∧ (op_run (rc_ops a v n) c).2 = false ∧ Clean (cs_me (op_run (rc_ops a v n) c).1) ∧ UpOk (am_va (cs_me (op_run (rc_ops a v n) c).1))) ∨ StopEnd c (op_run (rc_ops a v n) c) := by
  subst hv
  generalize hv : am_va (cs_me c) = v at *
  unfold rc_ops
  refine rn_then (P := fun r => (SameR c r.1 ∧ r.2 = false ∧ Clean (cs_me r.1) ∧ UpOk (am_va (cs_me r.1))) ∨ StopEnd c r) ⟨rfl, rfl, rfl, rfl, rfl, rfl, rfl, rfl⟩ hc (fun q hq => ?_) (rc_nodup hl.2.2.2.1) (fun x hx => ⟨n, a, y, (rc_1 hl (by rw [hv] at hx; exact hx)).1, hy⟩) (fun r h => Or.inr h) (fun d1 hd1 hc1 e1 => ?_)
  · obtain ⟨e, h1, h2, -⟩ := rc_fst hq
    have := (hl.2.2.1 e h1).1
    omega
  rw [hv] at e1
  obtain ⟨hl1, -⟩ := rc_1 (x := am_va (cs_me d1)) hl (fun w hw => Or.inr (e1 w hw))
  have ey : ∀ w, w < 31 → am_va (cs_me d1) w = y w := fun w hw => by
    by_cases h9 : ∃ j, j < n ∧ a j = w
    · obtain ⟨j, hj, rfl⟩ := h9
      rw [e1 _ (by omega), rc_val hl.2.2.2.1 j hj]
      exact (hl.2.2.1 j hj).2.2
    · exact (hl1.2.2.2.2 w hw).resolve_left h9
  have h2 : ∀ x, Mix (am_va (cs_me d1)) (wr (am_va (cs_me d1)) [(40, 0)]) x → DownOk x ∧ (x 40 = 0 → UpOk x) := fun x hx => by
    have e : ∀ w, w < 112 → w ≠ 40 → x w = am_va (cs_me d1) w := fun w hw h9 => by
      rcases hx w hw with z | z
      · exact z
      · rw [z]; exact pk_uLn h9
    have hW : Wf x := hy.congr (fun w hw => by rw [e w (by omega) (by omega), ey w hw])
    refine ⟨?_, fun z => ⟨z, hW⟩⟩
    rcases hx 40 (by omega) with z | z
    · obtain ⟨q1, q2, q3, q4, q5⟩ := hl1
      refine ⟨n, a, y, ⟨q1, by rw [z]; exact q2, fun j hj => ⟨(q3 j hj).1, ?_, ?_⟩, q4, fun w hw => Or.inr (by rw [e w (by omega) (by omega), ey w hw])⟩, hy⟩
      · rw [e _ (by omega) (by omega)]; exact (q3 j hj).2.1
      · rw [e _ (by omega) (by omega)]; exact (q3 j hj).2.2
    · exact UpOk.down ⟨by rw [z]; exact wr_s, hW⟩
  have hfin := rn_then (P := fun r => (SameR c r.1 ∧ r.2 = false ∧ Clean (cs_me r.1) ∧ UpOk (am_va (cs_me r.1))) ∨ StopEnd c r) (os := []) hd1 hc1 (fun q hq => by rw [List.mem_singleton.mp hq]; decide) (one_nodup _) (fun x hx => (h2 x hx).1) (fun r h => Or.inr h) (fun d2 hd2 hc2 e2 => Or.inl ⟨hd2, rfl, hc2, (h2 _ (fun w hw => Or.inr (e2 w hw))).2 (by
    show am_va (cs_me d2) 40 = 0
    rw [e2 40 (by omega)]; exact wr_s)⟩)
  rw [List.append_nil] at hfin
  exact hfin
