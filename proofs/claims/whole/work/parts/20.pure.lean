/-! The pure picture of the memory that forgets, and of the undo log: no word of the machine here. -/
/-- memory: values, kept, loose values, loose counts, unflushed, flushed, stores, flushes, fences, crashes -/
abbrev AM : Type := (Nat → Int64) × (Nat → Int64) × (Nat → Int64) × (Nat → Int32) × (Nat → Int32) × (Nat → Int32) × Int32 × Int32 × Int32 × Int32
abbrev am_va (m : AM) : Nat → Int64 := m.1
abbrev am_ke (m : AM) : Nat → Int64 := m.2.1
abbrev am_lv (m : AM) : Nat → Int64 := m.2.2.1
abbrev am_lc (m : AM) : Nat → Int32 := m.2.2.2.1
abbrev am_uf (m : AM) : Nat → Int32 := m.2.2.2.2.1
abbrev am_fd (m : AM) : Nat → Int32 := m.2.2.2.2.2.1
abbrev am_st (m : AM) : Int32 := m.2.2.2.2.2.2.1
abbrev am_fl (m : AM) : Int32 := m.2.2.2.2.2.2.2.1
abbrev am_fe (m : AM) : Int32 := m.2.2.2.2.2.2.2.2.1
abbrev am_cr (m : AM) : Int32 := m.2.2.2.2.2.2.2.2.2
/-- one store -/
def ms_store (m : AM) (w : Nat) (v : Int64) : AM :=
  (vp_updL (am_va m) w v, am_ke m, (if am_lc m w < 1 then vp_updL (am_lv m) w v else am_lv m), (if am_lc m w < 1 then upd (am_lc m) w (am_lc m w + 1) else am_lc m), upd (am_uf m) (w / 8) 1, am_fd m, am_st m + 1, am_fl m, am_fe m, am_cr m)
/-- one line flushed -/
def ms_flush (m : AM) (k : Nat) : AM :=
  (am_va m, am_ke m, am_lv m, am_lc m, upd (am_uf m) k 0, upd (am_fd m) k 1, am_st m, am_fl m + 1, am_fe m, am_cr m)
/-- the fence, after the lines below n -/
def ms_keep (m : AM) (n : Nat) : AM :=
  (am_va m, (fun w => if w / 8 < n ∧ am_fd m (w / 8) ≠ 0 then am_va m w else am_ke m w), am_lv m, (fun w => if w / 8 < n ∧ am_fd m (w / 8) ≠ 0 then 0 else am_lc m w), am_uf m, (fun k => if k < n then 0 else am_fd m k), am_st m, am_fl m, am_fe m + 1, am_cr m)
def ms_fence (m : AM) : AM := ms_keep m 14
/-- the crash's number before word n -/
def ms_x (lc : Nat → Int32) (seed : Int32) : Nat → Int32
  | 0 => seed
  | n + 1 => if 0 < lc n then ms_x lc seed n * 1103515245 + 12345 else ms_x lc seed n
def ms_r (lc : Nat → Int32) (seed : Int32) (w : Nat) : Int32 :=
  let y := ((ms_x lc seed (w + 1)).toUInt32 >>> ((16 : Int32).toUInt32 &&& Int32.toUInt32 31)).toInt32
  y - y / (lc w + 1) * (lc w + 1)
/-- what a word keeps in a crash -/
def ms_pick (m : AM) (seed : Int32) (w : Nat) : Int64 :=
  if 0 < am_lc m w then (if ms_r (am_lc m) seed w = 0 then am_ke m w else am_lv m w) else am_ke m w
/-- the crash, after the words below n -/
def ms_lose (m : AM) (seed : Int32) (n : Nat) : AM :=
  ((fun w => if w < n then ms_pick m seed w else am_va m w), (fun w => if w < n then ms_pick m seed w else am_ke m w), am_lv m, (fun w => if w < n then 0 else am_lc m w), am_uf m, am_fd m, am_st m, am_fl m, am_fe m, am_cr m + 1)
def ms_crash (m : AM) (seed : Int32) : AM :=
  ((fun w => if w < 112 then ms_pick m seed w else am_va m w), (fun w => if w < 112 then ms_pick m seed w else am_ke m w), am_lv m, (fun w => if w < 112 then 0 else am_lc m w), (fun k => if k < 14 then 0 else am_uf m k), (fun k => if k < 14 then 0 else am_fd m k), am_st m, am_fl m, am_fe m, am_cr m + 1)
/-- the shelf: memory; image; two snapshots; taken; changed; down, in a transaction, steps to the stop, its seed -/
abbrev CS : Type := AM × (Nat → Int64) × (Nat → Int64) × (Nat → Int64) × (Nat → Int32) × (Nat → Int32) × Int32 × Int32 × Int32 × Int32
abbrev cs_me (c : CS) : AM := c.1
abbrev cs_im (c : CS) : Nat → Int64 := c.2.1
abbrev cs_s0 (c : CS) : Nat → Int64 := c.2.2.1
abbrev cs_s1 (c : CS) : Nat → Int64 := c.2.2.2.1
abbrev cs_tk (c : CS) : Nat → Int32 := c.2.2.2.2.1
abbrev cs_ch (c : CS) : Nat → Int32 := c.2.2.2.2.2.1
abbrev cs_dn (c : CS) : Int32 := c.2.2.2.2.2.2.1
abbrev cs_tx (c : CS) : Int32 := c.2.2.2.2.2.2.2.1
abbrev cs_sp (c : CS) : Int32 := c.2.2.2.2.2.2.2.2.1
abbrev cs_sd (c : CS) : Int32 := c.2.2.2.2.2.2.2.2.2
def cs_mem (c : CS) (m : AM) : CS := (m, c.2)
def cs_img (c : CS) (g : Nat → Int64) : CS := (c.1, g, c.2.2)
/-- fallDown -/
def cs_fall (c : CS) (seed : Int32) : CS := (ms_crash (cs_me c) seed, cs_im c, cs_s0 c, cs_s1 c, (fun k => if k < 2 then 0 else cs_tk c k), cs_ch c, 1, 0, cs_sp c, cs_sd c)
/-- a stop that has come: the stop is gone, the crash is there -/
def cs_halt (c : CS) : CS := cs_fall (cs_me c, cs_im c, cs_s0 c, cs_s1 c, cs_tk c, cs_ch c, cs_dn c, cs_tx c, -1, cs_sd c) (cs_sd c)
/-- one step fewer to the stop -/
def cs_tick (c : CS) : CS := (cs_me c, cs_im c, cs_s0 c, cs_s1 c, cs_tk c, cs_ch c, cs_dn c, cs_tx c, (if 0 < cs_sp c then cs_sp c - 1 else cs_sp c), cs_sd c)
/-- a step: (0, w, v) stores v in w; (1, line, _) flushes; (2, _, _) is the fence -/
abbrev OP : Type := Nat × Nat × Int64
def op_do (m : AM) (o : OP) : AM := if o.1 = 0 then ms_store m o.2.1 o.2.2 else if o.1 = 1 then ms_flush m o.2.1 else ms_fence m
/-- steps, till the stop comes; whether it came -/
def op_run : List OP → CS → CS × Bool
  | [], c => (c, false)
  | o :: os, c => if cs_sp c = 0 then (cs_halt c, true) else op_run os (cs_mem (cs_tick c) (op_do (cs_me c) o))
theorem op_run_nil (c : CS) : op_run [] c = (c, false) := rfl
theorem op_run_stop {o : OP} {os : List OP} {c : CS} (h : cs_sp c = 0) : op_run (o :: os) c = (cs_halt c, true) := by
  show (if cs_sp c = 0 then (cs_halt c, true) else op_run os (cs_mem (cs_tick c) (op_do (cs_me c) o))) = _
  rw [if_pos h]
theorem op_run_go {o : OP} {os : List OP} {c : CS} (h : ¬ cs_sp c = 0) : op_run (o :: os) c = op_run os (cs_mem (cs_tick c) (op_do (cs_me c) o)) := by
  show (if cs_sp c = 0 then (cs_halt c, true) else op_run os (cs_mem (cs_tick c) (op_do (cs_me c) o))) = _
  rw [if_neg h]
theorem op_run_app (a b : List OP) (c : CS) : op_run (a ++ b) c = if (op_run a c).2 = true then ((op_run a c).1, true) else op_run b (op_run a c).1 := by
  induction a generalizing c with
  | nil => rfl
  | cons o os ih =>
    by_cases h : cs_sp c = 0
    · rw [List.cons_append, op_run_stop h, op_run_stop h]; rfl
    · rw [List.cons_append, op_run_go h, op_run_go h]; exact ih _
