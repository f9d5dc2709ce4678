/-- begin() of the reference -/
def PR_begin (r0 : MS) : MS → Prop := fun u => (¬ (rs_dn r0 = 0 ∧ rs_wi r0 = 0) ∧ u = rs_thr r0 1) ∨ (rs_dn r0 = 0 ∧ rs_wi r0 = 0 ∧ u = (rs_th (rs_tak (rs_thr r0 0)), rs_va (rs_tak (rs_thr r0 0)), rs_ke (rs_tak (rs_thr r0 0)), rs_lo (rs_tak (rs_thr r0 0)), rs_ls (rs_tak (rs_thr r0 0)), rs_fd (rs_tak (rs_thr r0 0)), rs_dn (rs_tak (rs_thr r0 0)), 1, rs_wk (rs_tak (rs_thr r0 0)), rs_st (rs_tak (rs_thr r0 0)), rs_fl (rs_tak (rs_thr r0 0)), rs_fe (rs_tak (rs_thr r0 0)), rs_cr (rs_tak (rs_thr r0 0)), rs_sp (rs_tak (rs_thr r0 0)), rs_sd (rs_tak (rs_thr r0 0)), rs_so (rs_tak (rs_thr r0 0)), rs_tk (rs_tak (rs_thr r0 0)), rs_co (rs_tak (rs_thr r0 0)), rs_pr (rs_tak (rs_thr r0 0)), rs_ky (rs_tak (rs_thr r0 0)), rs_nu (rs_tak (rs_thr r0 0))))
/-- commit() of the reference -/
def PR_commit (r0 : MS) : Int32 → MS → Prop := fun r u => (¬ (rs_dn r0 = 0 ∧ ¬ rs_wi r0 = 0) ∧ u = rs_thr r0 1) ∨ (rs_dn r0 = 0 ∧ ¬ rs_wi r0 = 0 ∧ CmQ (rs_thr r0 0) r u)
/-- abort() of the reference -/
def PR_abort (r0 : MS) : MS → Prop := fun u => (¬ (rs_dn r0 = 0 ∧ ¬ rs_wi r0 = 0) ∧ ((rs_wi r0 = 0 ∧ u = (1, rs_va r0, rs_ke r0, rs_lo r0, rs_ls r0, rs_fd r0, rs_dn r0, 0, rs_wk r0, rs_st r0, rs_fl r0, rs_fe r0, rs_cr r0, rs_sp r0, rs_sd r0, rs_so r0, rs_tk r0, rs_co r0, rs_pr r0, rs_ky r0, rs_nu r0)) ∨ (¬ rs_wi r0 = 0 ∧ u = (1, rs_va r0, rs_ke r0, rs_lo r0, rs_ls r0, rs_fd r0, rs_dn r0, 1, rs_wk r0, rs_st r0, rs_fl r0, rs_fe r0, rs_cr r0, rs_sp r0, rs_sd r0, rs_so r0, rs_tk r0, rs_co r0, rs_pr r0, rs_ky r0, rs_nu r0)))) ∨ (rs_dn r0 = 0 ∧ ¬ rs_wi r0 = 0 ∧ u = (0, rs_va r0, rs_ke r0, rs_lo r0, rs_ls r0, rs_fd r0, rs_dn r0, 0, rs_wk r0, rs_st r0, rs_fl r0, rs_fe r0, rs_cr r0, rs_sp r0, rs_sd r0, rs_so r0, rs_tk r0, rs_co r0, rs_pr r0, rs_ky r0, rs_nu r0))
/-- add() of the reference -/
def PR_add (r0 : MS) (x9 : Int32) (y9 : Int64) : Int64 → MS → Prop := fun r u => (¬ rs_dn r0 = 0 ∧ u = rs_thr r0 1) ∨ (rs_dn r0 = 0 ∧ ¬ (0 ≤ x9.toInt64 ∧ x9.toInt64 ≤ (nI 3).toInt64) ∧ u = rs_thr r0 2) ∨ (rs_dn r0 = 0 ∧ ∃ k9, k9 ≤ 3 ∧ x9 = nI k9 ∧ DnQ (rs_tw r0 0 (vp_updL (WK r0) k9 (WK r0 k9 + y9))) u ∧ r = if 0 < rs_th u then 0 else WK r0 k9 + y9)
/-- push() of the reference -/
def PR_push (r0 : MS) (f9 n9 p9 : Nat) (x9 : Int64) : Int32 → MS → Prop := fun r u => (¬ rs_dn r0 = 0 ∧ u = rs_thr r0 1) ∨ (rs_dn r0 = 0 ∧ ¬ n9 < 8 ∧ u = rs_tw r0 2 (WK r0)) ∨ (rs_dn r0 = 0 ∧ n9 < 8 ∧ DnQ (rs_tw r0 0 (vp_updL (vp_updL (WK r0) (6 + (f9 + n9) % 8) x9) 5 (lN (n9 + 1)))) u ∧ r = if 0 < rs_th u then 0 else nI (n9 + 1))
/-- pop() of the reference -/
def PR_pop (r0 : MS) (f9 n9 p9 : Nat) : Int64 → MS → Prop := fun r u => (¬ rs_dn r0 = 0 ∧ u = rs_thr r0 1) ∨ (rs_dn r0 = 0 ∧ n9 = 0 ∧ u = rs_tw r0 2 (WK r0)) ∨ (rs_dn r0 = 0 ∧ 0 < n9 ∧ DnQ (rs_tw r0 0 (vp_updL (vp_updL (WK r0) 4 (lN ((f9 + 1) % 8))) 5 (lN (n9 - 1)))) u ∧ r = if 0 < rs_th u then 0 else WK r0 (6 + f9))
/-- put() of the reference -/
def PR_put (r0 : MS) (f9 n9 p9 : Nat) (key num : Int64) : Int32 → MS → Prop := fun r u => (¬ rs_dn r0 = 0 ∧ u = rs_thr r0 1) ∨ (rs_dn r0 = 0 ∧ ¬ ((cbl (fun i => WK r0 (15 + i)) key p9) < p9 ∧ WK r0 (15 + (cbl (fun i => WK r0 (15 + i)) key p9)) = key) ∧ p9 = 8 ∧ u = rs_tw r0 2 (WK r0)) ∨ (rs_dn r0 = 0 ∧ ((cbl (fun i => WK r0 (15 + i)) key p9) < p9 ∧ WK r0 (15 + (cbl (fun i => WK r0 (15 + i)) key p9)) = key) ∧ DnQ (rs_tw r0 0 (vp_updL (stpr (WK r0) key num (cbl (fun i => WK r0 (15 + i)) key p9)) 14 (lN p9))) u ∧ r = if 0 < rs_th u then 0 else nI p9) ∨ (rs_dn r0 = 0 ∧ ¬ ((cbl (fun i => WK r0 (15 + i)) key p9) < p9 ∧ WK r0 (15 + (cbl (fun i => WK r0 (15 + i)) key p9)) = key) ∧ p9 < 8 ∧ DnQ (rs_tw r0 0 (vp_updL (stpr (shu (WK r0) (cbl (fun i => WK r0 (15 + i)) key p9) p9) key num (cbl (fun i => WK r0 (15 + i)) key p9)) 14 (lN (p9 + 1)))) u ∧ r = if 0 < rs_th u then 0 else nI (p9 + 1))
/-- cut() of the reference -/
def PR_cut (r0 : MS) (f9 n9 p9 : Nat) (key : Int64) : Int32 → MS → Prop := fun r u => (¬ rs_dn r0 = 0 ∧ u = rs_thr r0 1) ∨ (rs_dn r0 = 0 ∧ ¬ ((cbl (fun i => WK r0 (15 + i)) key p9) < p9 ∧ WK r0 (15 + (cbl (fun i => WK r0 (15 + i)) key p9)) = key) ∧ r = 0 ∧ u = rs_tw r0 0 (WK r0)) ∨ (rs_dn r0 = 0 ∧ ((cbl (fun i => WK r0 (15 + i)) key p9) < p9 ∧ WK r0 (15 + (cbl (fun i => WK r0 (15 + i)) key p9)) = key) ∧ DnQ (rs_tw r0 0 (vp_updL (shd (WK r0) (cbl (fun i => WK r0 (15 + i)) key p9) (p9 - 1)) 14 (lN (p9 - 1)))) u ∧ r = if rs_th u = 0 then 1 else 0)
/-- next() of the reference -/
def PR_next (r0 : MS) (f9 n9 p9 : Nat) (key : Int64) (b9 : Int32) : Int64 → MS → Prop := fun r u => (¬ rs_dn r0 = 0 ∧ u = rs_thr r0 1) ∨ (rs_dn r0 = 0 ∧ ¬ (cbl (fun i => WK r0 (15 + i)) key p9) < p9 ∧ u = rs_tw r0 2 (WK r0)) ∨ (rs_dn r0 = 0 ∧ (cbl (fun i => WK r0 (15 + i)) key p9) < p9 ∧ u = rs_tw r0 0 (WK r0) ∧ ((¬ b9 = 0 ∧ r = WK r0 (15 + (cbl (fun i => WK r0 (15 + i)) key p9))) ∨ (b9 = 0 ∧ r = WK r0 (23 + (cbl (fun i => WK r0 (15 + i)) key p9)))))
/-- counter() of the reference -/
def PR_counter (r0 : MS) (x9 : Int32) : Int64 → MS → Prop := fun r u => (¬ rs_dn r0 = 0 ∧ u = rs_thr r0 1) ∨ (rs_dn r0 = 0 ∧ ¬ (0 ≤ x9.toInt64 ∧ x9.toInt64 ≤ (nI 3).toInt64) ∧ u = rs_thr r0 2) ∨ (rs_dn r0 = 0 ∧ ∃ k9, k9 ≤ 3 ∧ x9 = nI k9 ∧ u = rs_tw r0 0 (WK r0) ∧ r = WK r0 k9)
/-- queued() of the reference -/
def PR_queued (r0 : MS) (f9 n9 p9 : Nat) (x9 : Int32) : Int64 → MS → Prop := fun r u => (¬ rs_dn r0 = 0 ∧ u = rs_thr r0 1) ∨ (rs_dn r0 = 0 ∧ x9 < 0 ∧ u = rs_thr r0 2) ∨ (rs_dn r0 = 0 ∧ ∃ k9, k9 < 2 ^ 31 ∧ x9 = nI k9 ∧ ((¬ k9 < n9 ∧ u = rs_tw r0 2 (WK r0)) ∨ (k9 < n9 ∧ u = rs_tw r0 0 (WK r0) ∧ r = WK r0 (6 + (f9 + k9) % 8))))
/-- freeze() of the reference -/
def PR_freeze (r0 : MS) (f9 n9 p9 : Nat) (x9 : Int32) : MS → Prop := fun u => (¬ rs_dn r0 = 0 ∧ u = rs_thr r0 1) ∨ (rs_dn r0 = 0 ∧ ¬ (0 ≤ x9 ∧ x9 ≤ nI 1) ∧ u = rs_thr r0 2) ∨ (rs_dn r0 = 0 ∧ ∃ s9, s9 ≤ 1 ∧ x9 = nI s9 ∧ u = rs_frz r0 s9 p9)
/-- frozen() of the reference -/
def PR_frozen (r0 : MS) (q9 : Nat → Nat) (x9 b9 : Int32) (y9 : Int64) : Int64 → MS → Prop := fun r u => (¬ (0 ≤ x9 ∧ x9 ≤ nI 1) ∧ u = rs_thr r0 1) ∨ (∃ s9, s9 ≤ 1 ∧ x9 = nI s9 ∧ RFz r0 s9 (q9 s9) b9 y9 r u)
/-- crash() of the reference -/
def PR_crash (r0 : MS) (x9 : Int32) : MS → Prop := fun u => (¬ rs_dn r0 = 0 ∧ u = rs_thr r0 1) ∨ (rs_dn r0 = 0 ∧ u = rs_crash (rs_thr r0 0) x9)
/-- recover() of the reference -/
def PR_recover (r0 : MS) (n9 : Nat) (a9 : Nat → Nat) (y9 : Nat → Int64) : Int32 → MS → Prop := fun r u => (rs_dn r0 = 0 ∧ u = rs_thr r0 1) ∨ (¬ rs_dn r0 = 0 ∧ n9 = 0 ∧ r = 0 ∧ u = (0, rs_va r0, rs_ke r0, rs_lo r0, rs_ls r0, rs_fd r0, 0, rs_wi r0, rs_wk r0, rs_st r0, rs_fl r0, rs_fe r0, rs_cr r0, rs_sp r0, rs_sd r0, 0, rs_tk r0, rs_co r0, rs_pr r0, rs_ky r0, rs_nu r0)) ∨ (¬ rs_dn r0 = 0 ∧ n9 ≠ 0 ∧ u = rs_rfin (ro_run (rc_ops a9 (rs_va r0) n9) (rs_rc r0)) ∧ r = if rs_so (ro_run (rc_ops a9 (rs_va r0) n9) (rs_rc r0)) = 0 then nI n9 else 0)
/-- word() of the reference -/
def PR_word (r0 : MS) (x9 b9 : Int32) : Int64 → MS → Prop := fun r u => (¬ (0 ≤ x9 ∧ x9 < nI 112) ∧ u = rs_thr r0 1) ∨ (∃ k9, k9 < 112 ∧ x9 = nI k9 ∧ u = rs_thr r0 0 ∧ ((¬ b9 = 0 ∧ r = rs_ke r0 k9) ∨ (b9 = 0 ∧ r = rs_va r0 k9)))
/-- stop() of the reference -/
def PR_stop (r0 : MS) (x9 y9 : Int32) : Int32 → MS → Prop := fun r u => (x9 < 0 ∧ r = 0 ∧ u = rs_thr r0 0) ∨ (¬ x9 < 0 ∧ r = 1 ∧ u = (0, rs_va r0, rs_ke r0, rs_lo r0, rs_ls r0, rs_fd r0, rs_dn r0, rs_wi r0, rs_wk r0, rs_st r0, rs_fl r0, rs_fe r0, rs_cr r0, x9, y9, rs_so r0, rs_tk r0, rs_co r0, rs_pr r0, rs_ky r0, rs_nu r0))
/-- loose() of the reference -/
def PR_loose (r0 : MS) (x9 : Int32) : Int32 → MS → Prop := fun r u => u = rs_thr r0 0 ∧ ((¬ (0 ≤ x9 ∧ x9 < nI 112) ∧ r = -1) ∨ ∃ k9, k9 < 112 ∧ x9 = nI k9 ∧ r = rs_ls r0 k9)
/-- look() of the reference -/
def PR_look (r0 : MS) (f9 n9 p9 : Nat) (x9 : Int32) : Int32 → MS → Prop := fun r u => u = rs_thr r0 0 ∧ RLk r0 n9 p9 x9 r
/-- audit() of the reference -/
def PR_audit (r0 : MS) : Int32 → MS → Prop := fun r u => u = rs_thr r0 0 ∧ AudQ (rs_va r0) r
/-- thrown() of the reference -/
def PR_thrown (r0 : MS) : Int32 → MS → Prop := fun r u => u = r0 ∧ ( r = rs_th r0)
/-- stop() of the shelf -/
def PS_stop (c0 : CS) (x9 y9 : Int32) : Int32 → CS → Prop := fun r u => (x9 < 0 ∧ r = 0 ∧ u = c0) ∨ (¬ x9 < 0 ∧ r = 1 ∧ u = (cs_me c0, cs_im c0, cs_s0 c0, cs_s1 c0, cs_tk c0, cs_ch c0, cs_dn c0, cs_tx c0, x9, y9))
/-- loose() of the shelf -/
def PS_loose (c0 : CS) (x9 : Int32) : Int32 → CS → Prop := fun r u => u = c0 ∧ ( (¬ (0 ≤ x9.toInt64 ∧ x9.toInt64 ≤ 111) ∧ r = -1) ∨ ∃ k9, k9 ≤ 111 ∧ x9 = nI k9 ∧ r = am_lc (cs_me c0) k9)
/-- look() of the shelf -/
def PS_look (c0 : CS) (f9 n9 p9 : Nat) (x9 : Int32) : Int32 → CS → Prop := fun r u => u = c0 ∧ ( LkQ c0 n9 p9 x9 r)
/-- audit() of the shelf -/
def PS_audit (c0 : CS) : Int32 → CS → Prop := fun r u => u = c0 ∧ ( AudQ (am_va (cs_me c0)) r)
