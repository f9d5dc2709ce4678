/-! ===== Int32 by its bits: bt x i ===== -/
def bt (x : Int32) (i : Nat) : Bool := x.toBitVec.getLsbD i
theorem b_ext {x y : Int32} (h : ∀ i, i < 32 → bt x i = bt y i) : x = y := Int32.toBitVec_inj.mp (BitVec.eq_of_getLsbD_eq (fun i hi => h i hi))
theorem b_or (x y : Int32) (i : Nat) : bt (x ||| y) i = (bt x i || bt y i) := by unfold bt; rw [Int32.toBitVec_or, BitVec.getLsbD_or]
theorem b_and (x y : Int32) (i : Nat) : bt (x &&& y) i = (bt x i && bt y i) := by unfold bt; rw [Int32.toBitVec_and, BitVec.getLsbD_and]
theorem b_xor (x y : Int32) (i : Nat) : bt (x ^^^ y) i = (bt x i ^^ bt y i) := by unfold bt; rw [Int32.toBitVec_xor, BitVec.getLsbD_xor]
theorem b_big {x : Int32} {i : Nat} (h : 32 ≤ i) : bt x i = false := BitVec.getLsbD_of_ge _ _ h
theorem b_255 (i : Nat) : bt 255 i = decide (i < 8) := by
  rcases Nat.lt_or_ge i 32 with h | h
  · exact (by decide +kernel : ∀ i, i < 32 → bt 255 i = decide (i < 8)) i h
  · rw [b_big h, decide_eq_false (by omega)]
theorem b_65535 (i : Nat) : bt 65535 i = decide (i < 16) := by
  rcases Nat.lt_or_ge i 32 with h | h
  · exact (by decide +kernel : ∀ i, i < 32 → bt 65535 i = decide (i < 16)) i h
  · rw [b_big h, decide_eq_false (by omega)]
theorem b_m1 : ∀ i, i < 32 → bt (-1) i = true := by decide +kernel
theorem b_0 (i : Nat) : bt 0 i = false := BitVec.getLsbD_zero
theorem s_l : ∀ n, n < 32 → ((nI n &&& 31).toBitVec.smod 32).toNat = n := by decide +kernel
theorem s_u : ∀ n, n < 32 → (((nI n).toUInt32 &&& Int32.toUInt32 31).toBitVec % 32).toNat = n := by decide +kernel
theorem b_shl (n : Nat) (hn : n < 32) (x : Int32) {i : Nat} (hi : i < 32) : bt (x <<< (nI n &&& 31)) i = (decide (n ≤ i) && bt x (i - n)) := by
  unfold bt
  rw [Int32.toBitVec_shiftLeft]
  show (x.toBitVec <<< ((nI n &&& 31).toBitVec.smod 32).toNat).getLsbD i = _
  rw [s_l n hn, BitVec.getLsbD_shiftLeft]
  rcases Nat.lt_or_ge i n with h | h
  · simp [h, Nat.not_le.mpr h]
  · simp [hi, h, Nat.not_lt.mpr h]
theorem b_ushr (n : Nat) (hn : n < 32) (x : Int32) (i : Nat) : bt ((x.toUInt32 >>> ((nI n).toUInt32 &&& Int32.toUInt32 31)).toInt32) i = bt x (n + i) := by
  show (x.toUInt32 >>> ((nI n).toUInt32 &&& Int32.toUInt32 31)).toBitVec.getLsbD i = x.toUInt32.toBitVec.getLsbD (n + i)
  rw [UInt32.toBitVec_shiftRight]
  show (x.toUInt32.toBitVec >>> (((nI n).toUInt32 &&& Int32.toUInt32 31).toBitVec % 32).toNat).getLsbD i = _
  rw [s_u n hn, BitVec.getLsbD_ushiftRight]
theorem b_sshr (n : Nat) (hn : n < 32) (x : Int32) {i : Nat} (hi : i < 32) : bt (x >>> (nI n &&& 31)) i = if n + i < 32 then bt x (n + i) else bt x 31 := by
  unfold bt
  rw [Int32.toBitVec_shiftRight]
  show (x.toBitVec.sshiftRight ((nI n &&& 31).toBitVec.smod 32).toNat).getLsbD i = _
  rw [s_l n hn, BitVec.getLsbD_sshiftRight, BitVec.msb_eq_getLsbD_last]
  simp [hi]
theorem b_shl8 (x : Int32) {i : Nat} (hi : i < 32) : bt (x <<< ((8 : Int32) &&& 31)) i = (decide (8 ≤ i) && bt x (i - 8)) := b_shl 8 (by omega) x hi
theorem b_shl16 (x : Int32) {i : Nat} (hi : i < 32) : bt (x <<< ((16 : Int32) &&& 31)) i = (decide (16 ≤ i) && bt x (i - 16)) := b_shl 16 (by omega) x hi
theorem b_shl24 (x : Int32) {i : Nat} (hi : i < 32) : bt (x <<< ((24 : Int32) &&& 31)) i = (decide (24 ≤ i) && bt x (i - 24)) := b_shl 24 (by omega) x hi
theorem b_sshr8 (x : Int32) {i : Nat} (hi : i < 32) : bt (x >>> ((8 : Int32) &&& 31)) i = if 8 + i < 32 then bt x (8 + i) else bt x 31 := b_sshr 8 (by omega) x hi

/-! The reference's bit set, and its steps as a list -/
theorem b_1s : ∀ w, w < 32 → ∀ i, i < 32 → bt ((1 : Int32) <<< (nI w &&& 31)) i = decide (i = w) := by decide +kernel
def sbf (s : Int32) (S : List Nat) : Int32 := S.foldl (fun s w => s ||| ((1 : Int32) <<< (nI w &&& 31))) s
def sb (S : List Nat) : Int32 := sbf 0 S
theorem sb_s (S : List Nat) (w : Nat) : sb S ||| ((1 : Int32) <<< (nI w &&& 31)) = sb (S ++ [w]) := by
  unfold sb sbf
  rw [List.foldl_append]; rfl
theorem sbf_bt (S : List Nat) : ∀ (s : Int32) (i : Nat), i < 32 → (∀ w ∈ S, w < 31) → bt (sbf s S) i = (bt s i || decide (i ∈ S)) := by
  induction S with
  | nil => intro s i _ _; show bt s i = _; simp
  | cons a S ih =>
    intro s i hi hS
    show bt (sbf (s ||| ((1 : Int32) <<< (nI a &&& 31))) S) i = _
    rw [ih _ i hi (fun w hw => hS w (List.mem_cons_of_mem _ hw)), b_or, b_1s a (by have := hS a List.mem_cons_self; omega) i hi]
    by_cases e : i = a
    · simp [e]
    · simp [e]
theorem sb_bt {S : List Nat} {i : Nat} (hi : i < 32) (hS : ∀ w ∈ S, w < 31) : bt (sb S) i = decide (i ∈ S) := by
  unfold sb
  rw [sbf_bt S 0 i hi hS, b_0, Bool.false_or]
theorem b_1 (i : Nat) : bt 1 i = decide (i = 0) := by
  rcases Nat.lt_or_ge i 32 with h | h
  · exact (by decide +kernel : ∀ i, i < 32 → bt 1 i = decide (i = 0)) i h
  · rw [b_big h, decide_eq_false (by omega)]
theorem b_low (x : Int32) : (x &&& 1) = 1 ↔ bt x 0 = true := by
  constructor
  · intro h
    have := congrArg (fun z => bt z 0) h
    have this : bt (x &&& 1) 0 = bt 1 0 := this
    rw [b_and, b_1, decide_eq_true rfl, Bool.and_true] at this
    exact this
  · intro h
    apply b_ext
    intro i _
    rw [b_and, b_1]
    by_cases e : i = 0
    · rw [e, h]; rfl
    · rw [decide_eq_false e, Bool.and_false]
theorem sb_in {S : List Nat} {w : Nat} (hw : w < 31) (hS : ∀ w ∈ S, w < 31) : ((sb S >>> (nI w &&& 31)) &&& 1) = nI 1 ↔ w ∈ S := by
  show ((sb S >>> (nI w &&& 31)) &&& 1) = 1 ↔ w ∈ S
  rw [b_low, b_sshr w (by omega) _ (by decide), if_pos (by omega), Nat.add_zero, sb_bt (by omega) hS, decide_eq_true_iff]
theorem sb_line {S : List Nat} {k : Nat} (hk : k < 4) (hS : ∀ w ∈ S, w < 31) : ((sb S >>> (nI (8 * k) &&& 31)) &&& 255) = 0 ↔ ∀ w ∈ S, ¬ w / 8 = k := by
  have key : ∀ i, i < 32 → bt ((sb S >>> (nI (8 * k) &&& 31)) &&& 255) i = (decide (8 * k + i ∈ S) && decide (i < 8)) := by
    intro i hi
    rw [b_and, b_255, b_sshr (8 * k) (by omega) _ hi]
    by_cases h8 : i < 8
    · rw [if_pos (by omega), sb_bt (by omega) hS]
    · rw [decide_eq_false h8, Bool.and_false, Bool.and_false]
  constructor
  · intro h w hw e
    have h1 := key (w - 8 * k) (by have := hS w hw; omega)
    rw [h, b_0, decide_eq_true (show w - 8 * k < 8 by omega), show 8 * k + (w - 8 * k) = w by omega, decide_eq_true hw] at h1
    exact absurd h1 (by decide)
  · intro h
    apply b_ext
    intro i hi
    rw [key i hi, b_0]
    by_cases h8 : i < 8
    · rw [decide_eq_false (fun z => h _ z (by omega))]; rfl
    · rw [decide_eq_false h8, Bool.and_false]
theorem sb_zero {S : List Nat} (hS : ∀ w ∈ S, w < 31) : sb S = 0 ↔ S = [] := by
  constructor
  · intro h
    cases S with
    | nil => rfl
    | cons a S =>
      have h1 := sb_bt (S := a :: S) (i := a) (by have := hS a List.mem_cons_self; omega) hS
      rw [h, b_0, decide_eq_true List.mem_cons_self] at h1
      exact absurd h1 (by decide)
  · intro h; rw [h]; rfl
/-! the reference's steps -/
def rs_do (m : MS) (o : OP) : MS := if o.1 = 0 then rs_sto m o.2.1 o.2.2 else if o.1 = 1 then rs_flu m o.2.1 else rs_fen m
def ro_step (m : MS) (o : OP) : MS := rg m (fun z => rs_do z o)
def ro_run : List OP → MS → MS
  | [], m => m
  | o :: os, m => ro_run os (ro_step m o)
theorem ro_app (a b : List OP) (m : MS) : ro_run (a ++ b) m = ro_run b (ro_run a m) := by
  induction a generalizing m with
  | nil => rfl
  | cons o os ih => exact ih _
abbrev LS01 (m : MS) : Prop := ∀ w, w < 112 → rs_ls m w = 0 ∨ rs_ls m w = 1
/-- every step finds its word without a loose value -/
def rGd : List OP → MS → Prop
  | [], m => LS01 m
  | o :: os, m => LS01 m ∧ (o.1 = 0 → o.2.1 < 112 ∧ rs_ls m o.2.1 = 0) ∧ (o.1 = 1 → o.2.1 < 14) ∧ rGd os (ro_step m o)
theorem rGd.lc : ∀ {os : List OP} {m : MS}, rGd os m → LS01 m
  | [], _, h => h
  | _ :: _, _, h => h.1
theorem rGd.app : ∀ {a b : List OP} {m : MS}, rGd (a ++ b) m → rGd b (ro_run a m)
  | [], _, _, h => h
  | _ :: os, b, _, h => rGd.app (a := os) (b := b) h.2.2.2
theorem ro_sto (m : MS) (k : Nat) (x : Int64) : rg m (fun z => rs_sto z k x) = ro_step m (0, k, x) := rfl
theorem ro_flu (m : MS) (k : Nat) : rg m (fun z => rs_flu z k) = ro_step m (1, k, 0) := rfl
theorem ro_fen (m : MS) : rg m rs_fen = ro_step m (2, 0, 0) := rfl
theorem rg_stop {m : MS} (h : ¬ rs_so m = 0) (f : MS → MS) : rg m f = m := if_neg h
theorem ro_stop : ∀ (os : List OP) {m : MS}, ¬ rs_so m = 0 → ro_run os m = m
  | [], _, _ => rfl
  | o :: os, m, h => by
    show ro_run os (rg m _) = m
    rw [rg_stop h]
    exact ro_stop os h
theorem rg_go {m : MS} {f : MS → MS} (h : rs_so (rg m f) = 0) : rs_so m = 0 ∧ ¬ rs_sp m = 0 ∧ rg m f = f (rs_tick m) := by
  by_cases h1 : rs_so m = 0
  · by_cases h2 : rs_sp m = 0
    · exfalso
      unfold rg at h
      rw [if_pos h1, if_pos h2] at h
      exact absurd (show (1 : Int32) = 0 from h) (by decide)
    · refine ⟨h1, h2, ?_⟩
      unfold rg
      rw [if_pos h1, if_neg h2]
  · rw [rg_stop h1] at h
    exact absurd h h1
theorem rg_wk {m : MS} {f : MS → MS} (h : rs_wk (f (rs_tick m)) = rs_wk m) : rs_wk (rg m f) = rs_wk m := by
  unfold rg
  by_cases h1 : rs_so m = 0
  · rw [if_pos h1]
    by_cases h2 : rs_sp m = 0
    · rw [if_pos h2]; rfl
    · rw [if_neg h2]; exact h
  · rw [if_neg h1]
theorem rs_do_wk (m : MS) (o : OP) : rs_wk (rs_do m o) = rs_wk m := by
  unfold rs_do
  by_cases h1 : o.1 = 0
  · rw [if_pos h1]; rfl
  · rw [if_neg h1]
    by_cases h2 : o.1 = 1
    · rw [if_pos h2]; rfl
    · rw [if_neg h2]; rfl
theorem ro_step_wk (m : MS) (o : OP) : rs_wk (ro_step m o) = rs_wk m := rg_wk (rs_do_wk _ _)
theorem ro_wk : ∀ (os : List OP) (m : MS), rs_wk (ro_run os m) = rs_wk m
  | [], _ => rfl
  | o :: os, m => (ro_wk os _).trans (ro_step_wk m o)
theorem rn_40 (x : Int64) : rn_lines [(40, x)] = [5] := by
  unfold rn_lines
  have e : (fun k => ([(40, x)] : List (Nat × Int64)).any (fun q => q.1 / 8 == k)) = (fun k => 5 == k) := funext fun k => by rw [List.any_cons, List.any_nil, Bool.or_false]; show (40 / 8 == k) = (5 == k); rfl
  rw [e]; rfl
theorem ro_cnt (m : MS) (x : Int64) : rs_cnt m x = ro_run (rnd [(40, x)]) m := by
  unfold rnd
  rw [rn_40]; rfl
/-- before the stop the words below 48 are those of v -/
def rLow (v : Nat → Int64) (m : MS) : Prop := rs_so m = 0 → ∀ w, w < 48 → rs_va m w = v w
theorem rLow.sto {v : Nat → Int64} {m : MS} {k : Nat} {x : Int64} (h : rLow v m) (hk : 48 ≤ k) : rLow v (ro_step m (0, k, x)) := fun hs w hw => by
  obtain ⟨h1, _, e⟩ := rg_go hs
  have e2 : ro_step m (0, k, x) = rs_sto (rs_tick m) k x := e
  rw [e2]
  show vp_updL (rs_va m) k x w = v w
  rw [pk_uLn (by omega)]
  exact h h1 w hw
theorem rLow.val {v : Nat → Int64} {m : MS} {k w : Nat} (h : rLow v m) (hw : w < 48) : rg m (fun z => rs_sto z k (rs_va m w)) = ro_step m (0, k, v w) := by
  by_cases h1 : rs_so m = 0
  · rw [h h1 w hw]; rfl
  · rw [rg_stop h1]; exact (rg_stop h1 _).symm
