/-! the class itself: its writers -/
def psM (M : Mm) : Mm := k_up (k_up (puM M) 4 1 (fmI ((puM M).1 4 1 + 1) 4)) 4 0 (if (4 : Int32) < (k_up (puM M) 4 1 (fmI ((puM M).1 4 1 + 1) 4)).1 4 0 + 1 then 4 else (k_up (puM M) 4 1 (fmI ((puM M).1 4 1 + 1) 4)).1 4 0 + 1)
theorem f_push_eq (M : Mm) : f_push M = some (.inl (none, psM M)) := rfl
theorem psM_0 (M : Mm) : (psM M).1 0 = M.1 0 := by
  show (puM M).1 0 = M.1 0
  unfold puM
  split <;> rfl
def joC (c : Ce) (x b p : Int32) : Ce := aoC (tiC c x b p)
def f_join (x b p : Int32) (M : Mm) : Option Rs := if bM x = true then some (.inr (k_IOE, M)) else if bR b 0 8 = true then some (.inr (k_IAE, M)) else if bR p 0 3 = true then some (.inr (k_IAE, M)) else if jnC (M.1 0) x = true then some (.inr (k_ISE, M)) else some (.inl (some (.int (csC (joC (M.1 0) x b p) x)), k_r0 (psM M) (joC (M.1 0) x b p)))
theorem p_join (ad : Nat → Nat) (x0 x1 x2 : Int32) (M : Mm) (r : Rs) (h : f_join x0 x1 x2 M = some r) : T_X3_join_0 ad r (sp_V f_attachOrphans) (sp_III f_takeIn) (sp_R2 ad f_push) (sp_I f_connectedStripes) (sp_I f_isJoined) (sp_I f_requireMember) (sp_III f_requireRange) [some (.ref (ad 0)), some (.int x0), some (.int x1), some (.int x2)] [] M := by
  simp only [T_X3_join_0, tt_c, tt_lc, tt_il, tt_ll, tt_al, tt_is, tt_lsv, tt_as, tt_inc, tt_add, tt_sub, tt_mul, tt_and, tt_ladd, tt_lmul, tt_i2l, tt_lcmp, tt_dupr, tt_dup2, tt_eq0, tt_lt0, tt_le0, tt_ge0, tt_gt0, tt_eq2, tt_lt2, tt_ge2, tt_gt2, tt_le2, tt_gr, tt_gi, tt_pi, tt_gl, tt_pl, tt_ia, tt_st, tt_ir, tt_zr, tt_lr, tt_vr, tt_cv, tt_cs, tt_max, tt_min, tt_rem, tt_xor, tt_len, tt_cp, tt_thr, tt_xv, tt_xs, k_sv, k_cl, k_kz, List.getElem?_cons_zero, List.getElem?_cons_succ, List.drop_succ_cons, List.drop_zero, List.take_succ_cons, List.take_zero, List.reverse_cons, List.reverse_nil, List.nil_append, List.cons_append, List.length_cons, List.length_nil, Option.toList_some, Option.toList_none, Nat.reduceAdd, Nat.reduceLeDiff, true_and, and_true, sp_I, sp_II, sp_III, sp_JI, sp_JJ, sp_R2, sp_R5I, sp_V, f_attachOrphans, f_takeIn, f_push_eq, f_connectedStripes, f_isJoined, f_requireMember, f_requireRange, bI_0, k_r0_0, k_r0_r, psM_0, if_true]
  by_cases c1 : bM x0 = true <;> by_cases c2 : bR x1 0 8 = true <;> by_cases c3 : bR x2 0 3 = true <;> by_cases c4 : jnC (M.1 0) x0 = true <;> simp [f_join, c1, c2, c3, c4] at h ⊢ <;> simp [← h, joC]
def leC (c : Ce) (x : Int32) : Ce := aoC (toC c x)
def f_leave (x : Int32) (M : Mm) : Option Rs := if bM x = true then some (.inr (k_IOE, M)) else if jnC (M.1 0) x = true then some (.inl (some (.int (vC (M.1 0) x 5)), k_r0 (psM M) (leC (M.1 0) x))) else some (.inr (k_ISE, M))
theorem p_leave (ad : Nat → Nat) (x0 : Int32) (M : Mm) (r : Rs) (h : f_leave x0 M = some r) : T_X3_leave_0 ad r (sp_II f_value) (sp_V f_attachOrphans) (sp_I f_takeOut) (sp_R2 ad f_push) (sp_I f_requireJoined) (sp_I f_requireMember) [some (.ref (ad 0)), some (.int x0), none] [] M := by
  simp only [T_X3_leave_0, tt_c, tt_lc, tt_il, tt_ll, tt_al, tt_is, tt_lsv, tt_as, tt_inc, tt_add, tt_sub, tt_mul, tt_and, tt_ladd, tt_lmul, tt_i2l, tt_lcmp, tt_dupr, tt_dup2, tt_eq0, tt_lt0, tt_le0, tt_ge0, tt_gt0, tt_eq2, tt_lt2, tt_ge2, tt_gt2, tt_le2, tt_gr, tt_gi, tt_pi, tt_gl, tt_pl, tt_ia, tt_st, tt_ir, tt_zr, tt_lr, tt_vr, tt_cv, tt_cs, tt_max, tt_min, tt_rem, tt_xor, tt_len, tt_cp, tt_thr, tt_xv, tt_xs, k_sv, k_cl, k_kz, List.getElem?_cons_zero, List.getElem?_cons_succ, List.drop_succ_cons, List.drop_zero, List.take_succ_cons, List.take_zero, List.reverse_cons, List.reverse_nil, List.nil_append, List.cons_append, List.length_cons, List.length_nil, Option.toList_some, Option.toList_none, Nat.reduceAdd, Nat.reduceLeDiff, true_and, and_true, sp_I, sp_II, sp_III, sp_JI, sp_JJ, sp_R2, sp_R5I, sp_V, f_attachOrphans, f_takeOut, f_value, f_push_eq, f_requireJoined, f_requireMember, k_r0_0, k_r0_r, psM_0, if_true]
  by_cases c1 : bM x0 = true <;> by_cases c4 : jnC (M.1 0) x0 = true <;> simp [f_leave, c1, c4, psM_0] at h ⊢ <;> simp [← h, leC, k_r0_0]
def faC (c : Ce) (x : Int32) : Ce := svC (svC c x 3 1) x 4 (figC c 8 + figC c 10)
def f_fail (x : Int32) (M : Mm) : Option Rs := if bM x = true then some (.inr (k_IOE, M)) else if ¬ jnC (M.1 0) x = true then some (.inr (k_ISE, M)) else if flC (M.1 0) x = true then some (.inr (k_ISE, M)) else some (.inl (some (.int (figC (M.1 0) 8 + figC (M.1 0) 10)), k_r0 (psM M) (faC (M.1 0) x)))
theorem p_fail (ad : Nat → Nat) (x0 : Int32) (M : Mm) (r : Rs) (h : f_fail x0 M = some r) : T_X3_fail_0 ad r (sp_I f_figure) (sp_III f_setValue) (sp_R2 ad f_push) (sp_I f_hasFailed) (sp_I f_requireJoined) (sp_I f_requireMember) [some (.ref (ad 0)), some (.int x0), none] [] M := by
  simp only [T_X3_fail_0, tt_c, tt_lc, tt_il, tt_ll, tt_al, tt_is, tt_lsv, tt_as, tt_inc, tt_add, tt_sub, tt_mul, tt_and, tt_ladd, tt_lmul, tt_i2l, tt_lcmp, tt_dupr, tt_dup2, tt_eq0, tt_lt0, tt_le0, tt_ge0, tt_gt0, tt_eq2, tt_lt2, tt_ge2, tt_gt2, tt_le2, tt_gr, tt_gi, tt_pi, tt_gl, tt_pl, tt_ia, tt_st, tt_ir, tt_zr, tt_lr, tt_vr, tt_cv, tt_cs, tt_max, tt_min, tt_rem, tt_xor, tt_len, tt_cp, tt_thr, tt_xv, tt_xs, k_sv, k_cl, k_kz, List.getElem?_cons_zero, List.getElem?_cons_succ, List.drop_succ_cons, List.drop_zero, List.take_succ_cons, List.take_zero, List.reverse_cons, List.reverse_nil, List.nil_append, List.cons_append, List.length_cons, List.length_nil, Option.toList_some, Option.toList_none, Nat.reduceAdd, Nat.reduceLeDiff, true_and, and_true, sp_I, sp_II, sp_III, sp_JI, sp_JJ, sp_R2, sp_R5I, sp_V, f_figure, f_setValue, f_push_eq, f_hasFailed, f_requireJoined, f_requireMember, bI_0, k_r0_0, k_r0_r, psM_0, if_true]
  by_cases c1 : bM x0 = true <;> by_cases c4 : jnC (M.1 0) x0 = true <;> by_cases c5 : flC (M.1 0) x0 = true <;> simp [f_fail, c1, c4, c5, psM_0] at h ⊢ <;> simp [← h, faC, k_r0_0, k_r0_r]
def sbdC (c : Ce) (x b : Int32) : Ce := aoC (cutC (svC c x 1 b) x (vC (svC c x 1 b) x 6) b)
def f_setBound (x b : Int32) (M : Mm) : Option Rs := if bM x = true then some (.inr (k_IOE, M)) else if bR b 0 8 = true then some (.inr (k_IAE, M)) else if ¬ jnC (M.1 0) x = true then some (.inr (k_ISE, M)) else some (.inl (some (.int (vC (M.1 0) x 1)), k_r0 (psM M) (sbdC (M.1 0) x b)))
theorem p_setBound (ad : Nat → Nat) (x0 x1 : Int32) (M : Mm) (r : Rs) (h : f_setBound x0 x1 M = some r) : T_X3_setBound_0 ad r (sp_III f_setValue) (sp_II f_value) (sp_V f_attachOrphans) (sp_III f_cutChildren) (sp_R2 ad f_push) (sp_I f_requireJoined) (sp_I f_requireMember) (sp_III f_requireRange) [some (.ref (ad 0)), some (.int x0), some (.int x1), none] [] M := by
  simp only [T_X3_setBound_0, tt_c, tt_lc, tt_il, tt_ll, tt_al, tt_is, tt_lsv, tt_as, tt_inc, tt_add, tt_sub, tt_mul, tt_and, tt_ladd, tt_lmul, tt_i2l, tt_lcmp, tt_dupr, tt_dup2, tt_eq0, tt_lt0, tt_le0, tt_ge0, tt_gt0, tt_eq2, tt_lt2, tt_ge2, tt_gt2, tt_le2, tt_gr, tt_gi, tt_pi, tt_gl, tt_pl, tt_ia, tt_st, tt_ir, tt_zr, tt_lr, tt_vr, tt_cv, tt_cs, tt_max, tt_min, tt_rem, tt_xor, tt_len, tt_cp, tt_thr, tt_xv, tt_xs, k_sv, k_cl, k_kz, List.getElem?_cons_zero, List.getElem?_cons_succ, List.drop_succ_cons, List.drop_zero, List.take_succ_cons, List.take_zero, List.reverse_cons, List.reverse_nil, List.nil_append, List.cons_append, List.length_cons, List.length_nil, Option.toList_some, Option.toList_none, Nat.reduceAdd, Nat.reduceLeDiff, true_and, and_true, sp_I, sp_II, sp_III, sp_JI, sp_JJ, sp_R2, sp_R5I, sp_V, f_setValue, f_value, f_attachOrphans, f_cutChildren, f_push_eq, f_requireRange, f_requireJoined, f_requireMember, k_r0_0, k_r0_r, psM_0, if_true]
  by_cases c1 : bM x0 = true <;> by_cases c4 : jnC (M.1 0) x0 = true <;> by_cases c5 : bR x1 0 8 = true <;> simp [f_setBound, c1, c4, c5, psM_0] at h ⊢ <;> simp [← h, sbdC, k_r0_0, k_r0_r]
def ssF (b : Int32) (s : Nat) (c : Ce) : Ce := cutC c 100 (nI s) b
def ssC (c : Ce) (b : Int32) : Ce := aoC (fold2 (ssF b) (sfC c 9 b) 4)
def f_setSource (b : Int32) (M : Mm) : Option Rs := if bR b 1 8 = true then some (.inr (k_IAE, M)) else some (.inl (some (.int (figC (M.1 0) 9)), k_r0 (psM M) (ssC (M.1 0) b)))
theorem p_setSource (ad : Nat → Nat) (x0 : Int32) (M : Mm) (r : Rs) (h : f_setSource x0 M = some r) : T_X3_setSource_0 ad r (sp_I f_figure) (sp_II f_setFigure) (sp_V f_attachOrphans) (sp_III f_cutChildren) (sp_R2 ad f_push) (sp_III f_requireRange) [some (.ref (ad 0)), some (.int x0), none, none] [] M := by
  simp only [T_X3_setSource_0, tt_c, tt_lc, tt_il, tt_ll, tt_al, tt_is, tt_lsv, tt_as, tt_inc, tt_add, tt_sub, tt_mul, tt_and, tt_ladd, tt_lmul, tt_i2l, tt_lcmp, tt_dupr, tt_dup2, tt_eq0, tt_lt0, tt_le0, tt_ge0, tt_gt0, tt_eq2, tt_lt2, tt_ge2, tt_gt2, tt_le2, tt_gr, tt_gi, tt_pi, tt_gl, tt_pl, tt_ia, tt_st, tt_ir, tt_zr, tt_lr, tt_vr, tt_cv, tt_cs, tt_max, tt_min, tt_rem, tt_xor, tt_len, tt_cp, tt_thr, tt_xv, tt_xs, k_sv, k_cl, k_kz, List.getElem?_cons_zero, List.getElem?_cons_succ, List.drop_succ_cons, List.drop_zero, List.take_succ_cons, List.take_zero, List.reverse_cons, List.reverse_nil, List.nil_append, List.cons_append, List.length_cons, List.length_nil, Option.toList_some, Option.toList_none, Nat.reduceAdd, Nat.reduceLeDiff, true_and, and_true, sp_I, sp_II, sp_III, sp_JI, sp_JJ, sp_R2, sp_R5I, sp_V, f_figure, f_setFigure, f_push_eq, f_requireRange, k_r0_0, k_r0_r, psM_0, if_true]
  by_cases c1 : bR x0 1 8 = true
  · simp [f_setSource, c1] at h ⊢
    simp [h]
  · simp only [f_setSource, c1, if_false, Bool.false_eq_true, Option.some.injEq] at h
    subst h
    simp only [c1, if_false, Bool.false_eq_true, tt_c, tt_lc, tt_il, tt_ll, tt_al, tt_is, tt_lsv, tt_as, tt_inc, tt_add, tt_sub, tt_mul, tt_and, tt_ladd, tt_lmul, tt_i2l, tt_lcmp, tt_dupr, tt_dup2, tt_eq0, tt_lt0, tt_le0, tt_ge0, tt_gt0, tt_eq2, tt_lt2, tt_ge2, tt_gt2, tt_le2, tt_gr, tt_gi, tt_pi, tt_gl, tt_pl, tt_ia, tt_st, tt_ir, tt_zr, tt_lr, tt_vr, tt_cv, tt_cs, tt_max, tt_min, tt_rem, tt_xor, tt_len, tt_cp, tt_thr, tt_xv, tt_xs, k_sv, k_cl, k_kz, List.getElem?_cons_zero, List.getElem?_cons_succ, List.drop_succ_cons, List.drop_zero, List.take_succ_cons, List.take_zero, List.reverse_cons, List.reverse_nil, List.nil_append, List.cons_append, List.length_cons, List.length_nil, Option.toList_some, Option.toList_none, Nat.reduceAdd, Nat.reduceLeDiff, true_and, and_true, sp_I, sp_II, sp_III, sp_JI, sp_JJ, sp_R2, sp_R5I, sp_V, psM_0, k_r0_0]
    refine k_eqM (M1 := k_r0 (psM M) (fold2 (ssF x0) (sfC (M.1 0) 9 x0) 0)) (by rw [fold2_0]) (lp_of (σ := Nat) (fun j => j ≤ 4) (fun j => [some (.ref (ad 0)), some (.int x0), some (.int (figC (M.1 0) 9)), some (.int (nI j))]) (fun j => k_r0 (psM M) (fold2 (ssF x0) (sfC (M.1 0) 9 x0) j)) (fun j => 4 - j) ?_ 0 (by omega))
    intro k j hj hk
    simp only [T_X3_setSource_40, T_X3_setSource_0, tt_c, tt_lc, tt_il, tt_ll, tt_al, tt_is, tt_lsv, tt_as, tt_inc, tt_add, tt_sub, tt_mul, tt_and, tt_ladd, tt_lmul, tt_i2l, tt_lcmp, tt_dupr, tt_dup2, tt_eq0, tt_lt0, tt_le0, tt_ge0, tt_gt0, tt_eq2, tt_lt2, tt_ge2, tt_gt2, tt_le2, tt_gr, tt_gi, tt_pi, tt_gl, tt_pl, tt_ia, tt_st, tt_ir, tt_zr, tt_lr, tt_vr, tt_cv, tt_cs, tt_max, tt_min, tt_rem, tt_xor, tt_len, tt_cp, tt_thr, tt_xv, tt_xs, k_sv, k_cl, k_kz, List.getElem?_cons_zero, List.getElem?_cons_succ, List.drop_succ_cons, List.drop_zero, List.take_succ_cons, List.take_zero, List.reverse_cons, List.reverse_nil, List.nil_append, List.cons_append, List.length_cons, List.length_nil, Option.toList_some, Option.toList_none, Nat.reduceAdd, Nat.reduceLeDiff, true_and, and_true, sp_I, sp_II, sp_III, sp_JI, sp_JJ, sp_R2, sp_R5I, sp_V, f_cutChildren, f_attachOrphans, k_r0_0, k_r0_r, ge4 hj]
    refine ⟨fun c2 => ?_, fun c2 => ?_⟩
    · subst c2
      rfl
    · simpa [nI_succ, fold2, ssF] using hk (j + 1) (by omega) (by omega)
def f_setDelay (b : Int32) (M : Mm) : Option Rs := if bR b 1 20 = true then some (.inr (k_IAE, M)) else some (.inl (some (.int (figC (M.1 0) 10)), k_r0 (psM M) (sfC (M.1 0) 10 b)))
theorem p_setDelay (ad : Nat → Nat) (x0 : Int32) (M : Mm) (r : Rs) (h : f_setDelay x0 M = some r) : T_X3_setDelay_0 ad r (sp_I f_figure) (sp_II f_setFigure) (sp_R2 ad f_push) (sp_III f_requireRange) [some (.ref (ad 0)), some (.int x0), none] [] M := by
  simp only [T_X3_setDelay_0, tt_c, tt_lc, tt_il, tt_ll, tt_al, tt_is, tt_lsv, tt_as, tt_inc, tt_add, tt_sub, tt_mul, tt_and, tt_ladd, tt_lmul, tt_i2l, tt_lcmp, tt_dupr, tt_dup2, tt_eq0, tt_lt0, tt_le0, tt_ge0, tt_gt0, tt_eq2, tt_lt2, tt_ge2, tt_gt2, tt_le2, tt_gr, tt_gi, tt_pi, tt_gl, tt_pl, tt_ia, tt_st, tt_ir, tt_zr, tt_lr, tt_vr, tt_cv, tt_cs, tt_max, tt_min, tt_rem, tt_xor, tt_len, tt_cp, tt_thr, tt_xv, tt_xs, k_sv, k_cl, k_kz, List.getElem?_cons_zero, List.getElem?_cons_succ, List.drop_succ_cons, List.drop_zero, List.take_succ_cons, List.take_zero, List.reverse_cons, List.reverse_nil, List.nil_append, List.cons_append, List.length_cons, List.length_nil, Option.toList_some, Option.toList_none, Nat.reduceAdd, Nat.reduceLeDiff, true_and, and_true, sp_I, sp_II, sp_III, sp_JI, sp_JJ, sp_R2, sp_R5I, sp_V, f_figure, f_setFigure, f_push_eq, f_requireRange, k_r0_0, k_r0_r, psM_0, if_true]
  by_cases c1 : bR x0 1 20 = true <;> simp [f_setDelay, c1, psM_0] at h ⊢ <;> simp [← h]
def reC (c : Ce) : Int32 := sumTo (fun s => oC c (nI s)) 4
def f_repair (M : Mm) : Option Rs := some (.inl (some (.int (reC (aoC (M.1 0)))), k_r0 (psM M) (aoC (M.1 0))))
theorem p_repair (ad : Nat → Nat) (M : Mm) (r : Rs) (h : f_repair M = some r) : T_X3_repair_0 ad r (sp_V f_attachOrphans) (sp_I f_orphans) (sp_R2 ad f_push) [some (.ref (ad 0)), none, none] [] M := by
  cases h
  simp only [T_X3_repair_0, tt_c, tt_lc, tt_il, tt_ll, tt_al, tt_is, tt_lsv, tt_as, tt_inc, tt_add, tt_sub, tt_mul, tt_and, tt_ladd, tt_lmul, tt_i2l, tt_lcmp, tt_dupr, tt_dup2, tt_eq0, tt_lt0, tt_le0, tt_ge0, tt_gt0, tt_eq2, tt_lt2, tt_ge2, tt_gt2, tt_le2, tt_gr, tt_gi, tt_pi, tt_gl, tt_pl, tt_ia, tt_st, tt_ir, tt_zr, tt_lr, tt_vr, tt_cv, tt_cs, tt_max, tt_min, tt_rem, tt_xor, tt_len, tt_cp, tt_thr, tt_xv, tt_xs, k_sv, k_cl, k_kz, List.getElem?_cons_zero, List.getElem?_cons_succ, List.drop_succ_cons, List.drop_zero, List.take_succ_cons, List.take_zero, List.reverse_cons, List.reverse_nil, List.nil_append, List.cons_append, List.length_cons, List.length_nil, Option.toList_some, Option.toList_none, Nat.reduceAdd, Nat.reduceLeDiff, true_and, and_true, sp_I, sp_II, sp_III, sp_JI, sp_JJ, sp_R2, sp_R5I, sp_V, f_attachOrphans, f_push_eq, psM_0, if_true]
  refine lp_of (σ := Nat) (fun j => j ≤ 4) (fun j => [some (.ref (ad 0)), some (.int (sumTo (fun s => oC (aoC (M.1 0)) (nI s)) j)), some (.int (nI j))]) (fun j => k_r0 (psM M) (aoC (M.1 0))) (fun j => 4 - j) ?_ 0 (by omega)
  intro k j hj hk
  simp only [T_X3_repair_22, T_X3_repair_0, tt_c, tt_lc, tt_il, tt_ll, tt_al, tt_is, tt_lsv, tt_as, tt_inc, tt_add, tt_sub, tt_mul, tt_and, tt_ladd, tt_lmul, tt_i2l, tt_lcmp, tt_dupr, tt_dup2, tt_eq0, tt_lt0, tt_le0, tt_ge0, tt_gt0, tt_eq2, tt_lt2, tt_ge2, tt_gt2, tt_le2, tt_gr, tt_gi, tt_pi, tt_gl, tt_pl, tt_ia, tt_st, tt_ir, tt_zr, tt_lr, tt_vr, tt_cv, tt_cs, tt_max, tt_min, tt_rem, tt_xor, tt_len, tt_cp, tt_thr, tt_xv, tt_xs, k_sv, k_cl, k_kz, List.getElem?_cons_zero, List.getElem?_cons_succ, List.drop_succ_cons, List.drop_zero, List.take_succ_cons, List.take_zero, List.reverse_cons, List.reverse_nil, List.nil_append, List.cons_append, List.length_cons, List.length_nil, Option.toList_some, Option.toList_none, Nat.reduceAdd, Nat.reduceLeDiff, true_and, and_true, sp_I, sp_II, sp_III, sp_JI, sp_JJ, sp_R2, sp_R5I, sp_V, f_orphans, k_r0_0, k_r0_r, ge4 hj]
  refine ⟨fun c2 => ?_, fun c2 => ?_⟩
  · subst c2
    rfl
  · simpa [nI_succ, sumTo] using hk (j + 1) (by omega) (by omega)
def rjC (c : Ce) (x s : Int32) : Ce := atC (mvC c x s (-1)) x s
def f_rejoin (x s : Int32) (M : Mm) : Option Rs := if bM x = true then some (.inr (k_IOE, M)) else if bS s = true then some (.inr (k_IOE, M)) else if jnC (M.1 0) x = true then some (.inl (some (.int (pC (rjC (M.1 0) x s) x s)), k_r0 (psM M) (rjC (M.1 0) x s))) else some (.inr (k_ISE, M))
theorem p_rejoin (ad : Nat → Nat) (x0 x1 : Int32) (M : Mm) (r : Rs) (h : f_rejoin x0 x1 M = some r) : T_X3_rejoin_0 ad r (sp_III f_moveTo) (sp_II f_parentOf) (sp_II f_attach) (sp_R2 ad f_push) (sp_I f_requireJoined) (sp_I f_requireMember) (sp_I f_requireStripe) [some (.ref (ad 0)), some (.int x0), some (.int x1)] [] M := by
  simp only [T_X3_rejoin_0, tt_c, tt_lc, tt_il, tt_ll, tt_al, tt_is, tt_lsv, tt_as, tt_inc, tt_add, tt_sub, tt_mul, tt_and, tt_ladd, tt_lmul, tt_i2l, tt_lcmp, tt_dupr, tt_dup2, tt_eq0, tt_lt0, tt_le0, tt_ge0, tt_gt0, tt_eq2, tt_lt2, tt_ge2, tt_gt2, tt_le2, tt_gr, tt_gi, tt_pi, tt_gl, tt_pl, tt_ia, tt_st, tt_ir, tt_zr, tt_lr, tt_vr, tt_cv, tt_cs, tt_max, tt_min, tt_rem, tt_xor, tt_len, tt_cp, tt_thr, tt_xv, tt_xs, k_sv, k_cl, k_kz, List.getElem?_cons_zero, List.getElem?_cons_succ, List.drop_succ_cons, List.drop_zero, List.take_succ_cons, List.take_zero, List.reverse_cons, List.reverse_nil, List.nil_append, List.cons_append, List.length_cons, List.length_nil, Option.toList_some, Option.toList_none, Nat.reduceAdd, Nat.reduceLeDiff, true_and, and_true, sp_I, sp_II, sp_III, sp_JI, sp_JJ, sp_R2, sp_R5I, sp_V, f_moveTo, f_parentOf, f_attach, f_push_eq, f_requireJoined, f_requireMember, f_requireStripe, k_r0_0, k_r0_r, psM_0, if_true]
  by_cases c1 : bM x0 = true <;> by_cases c2 : bS x1 = true <;> by_cases c3 : jnC (M.1 0) x0 = true <;> simp [f_rejoin, c1, c2, c3, psM_0] at h ⊢ <;> simp [← h, rjC, k_r0_0, k_r0_r]
def f_undo (M : Mm) : Option Rs := if M.1 4 0 = 0 then some (.inr (k_ISE, M)) else some (.inl (some (.int ((poM M).1 4 0)), poM M))
theorem p_undo (ad : Nat → Nat) (M : Mm) (r : Rs) (h : f_undo M = some r) : T_X3_undo_0 ad r (sp_R2 ad f_popInto) (sp_V f_size) [some (.ref (ad 0))] [] M := by
  simp only [T_X3_undo_0, tt_c, tt_lc, tt_il, tt_ll, tt_al, tt_is, tt_lsv, tt_as, tt_inc, tt_add, tt_sub, tt_mul, tt_and, tt_ladd, tt_lmul, tt_i2l, tt_lcmp, tt_dupr, tt_dup2, tt_eq0, tt_lt0, tt_le0, tt_ge0, tt_gt0, tt_eq2, tt_lt2, tt_ge2, tt_gt2, tt_le2, tt_gr, tt_gi, tt_pi, tt_gl, tt_pl, tt_ia, tt_st, tt_ir, tt_zr, tt_lr, tt_vr, tt_cv, tt_cs, tt_max, tt_min, tt_rem, tt_xor, tt_len, tt_cp, tt_thr, tt_xv, tt_xs, k_sv, k_cl, k_kz, List.getElem?_cons_zero, List.getElem?_cons_succ, List.drop_succ_cons, List.drop_zero, List.take_succ_cons, List.take_zero, List.reverse_cons, List.reverse_nil, List.nil_append, List.cons_append, List.length_cons, List.length_nil, Option.toList_some, Option.toList_none, Nat.reduceAdd, Nat.reduceLeDiff, true_and, and_true, sp_I, sp_II, sp_III, sp_JI, sp_JJ, sp_R2, sp_R5I, sp_V, f_popInto, f_size, if_true]
  by_cases c1 : M.1 4 0 = 0 <;> simp [f_undo, c1] at h ⊢ <;> simp [← h]
def nfF (x : Nat) (c : Ce) : Ce := if flC c (nI x) = true then (if vC c (nI x) 4 = figC c 8 then afC (aoC (toC c (nI x))) 5 1 else c) else c
def nfC (c : Ce) : Ce := fold2 nfF c 32
def f_noticeFailures (M : Mm) : Option Rs := some (.inl (none, k_r0 M (nfC (M.1 0))))
theorem p_noticeFailures (ad : Nat → Nat) (M : Mm) (r : Rs) (h : f_noticeFailures M = some r) : T_X3_noticeFailures_0 ad r (sp_II f_addToFigure) (sp_I f_figure) (sp_II f_value) (sp_V f_attachOrphans) (sp_I f_takeOut) (sp_I f_hasFailed) [some (.ref (ad 0)), none] [] M := by
  cases h
  simp only [T_X3_noticeFailures_0, tt_c, tt_lc, tt_il, tt_ll, tt_al, tt_is, tt_lsv, tt_as, tt_inc, tt_add, tt_sub, tt_mul, tt_and, tt_ladd, tt_lmul, tt_i2l, tt_lcmp, tt_dupr, tt_dup2, tt_eq0, tt_lt0, tt_le0, tt_ge0, tt_gt0, tt_eq2, tt_lt2, tt_ge2, tt_gt2, tt_le2, tt_gr, tt_gi, tt_pi, tt_gl, tt_pl, tt_ia, tt_st, tt_ir, tt_zr, tt_lr, tt_vr, tt_cv, tt_cs, tt_max, tt_min, tt_rem, tt_xor, tt_len, tt_cp, tt_thr, tt_xv, tt_xs, k_sv, k_cl, k_kz, List.getElem?_cons_zero, List.getElem?_cons_succ, List.drop_succ_cons, List.drop_zero, List.take_succ_cons, List.take_zero, List.reverse_cons, List.reverse_nil, List.nil_append, List.cons_append, List.length_cons, List.length_nil, Option.toList_some, Option.toList_none, Nat.reduceAdd, Nat.reduceLeDiff, true_and, and_true, sp_I, sp_II, sp_III, sp_JI, sp_JJ, sp_R2, sp_R5I, sp_V]
  refine k_eqM (k_r0_s M) (lp_of (σ := Nat) (fun j => j ≤ 32) (fun j => [some (.ref (ad 0)), some (.int (nI j))]) (fun j => k_r0 M (fold2 nfF (M.1 0) j)) (fun j => 32 - j) ?_ 0 (by omega))
  intro k j hj hk
  simp only [T_X3_noticeFailures_61, T_X3_noticeFailures_2, T_X3_noticeFailures_0, tt_c, tt_lc, tt_il, tt_ll, tt_al, tt_is, tt_lsv, tt_as, tt_inc, tt_add, tt_sub, tt_mul, tt_and, tt_ladd, tt_lmul, tt_i2l, tt_lcmp, tt_dupr, tt_dup2, tt_eq0, tt_lt0, tt_le0, tt_ge0, tt_gt0, tt_eq2, tt_lt2, tt_ge2, tt_gt2, tt_le2, tt_gr, tt_gi, tt_pi, tt_gl, tt_pl, tt_ia, tt_st, tt_ir, tt_zr, tt_lr, tt_vr, tt_cv, tt_cs, tt_max, tt_min, tt_rem, tt_xor, tt_len, tt_cp, tt_thr, tt_xv, tt_xs, k_sv, k_cl, k_kz, List.getElem?_cons_zero, List.getElem?_cons_succ, List.drop_succ_cons, List.drop_zero, List.take_succ_cons, List.take_zero, List.reverse_cons, List.reverse_nil, List.nil_append, List.cons_append, List.length_cons, List.length_nil, Option.toList_some, Option.toList_none, Nat.reduceAdd, Nat.reduceLeDiff, true_and, and_true, sp_I, sp_II, sp_III, sp_JI, sp_JJ, sp_R2, sp_R5I, sp_V, f_addToFigure, f_figure, f_value, f_attachOrphans, f_takeOut, f_hasFailed, bI_0, k_r0_0, k_r0_r, ge32 hj]
  refine ⟨fun c1 => ?_, fun c1 => ?_⟩
  · subst c1
    rfl
  · have hk1 := hk (j + 1) (by omega) (by omega)
    simp only [fold2, nI_succ] at hk1
    generalize fold2 nfF (M.1 0) j = c at hk1 ⊢
    simp only [nfF] at hk1
    refine ⟨fun c2 => ?_, fun c2 => ⟨fun c3 => ?_, fun c3 => ?_⟩⟩ <;> simpa [*] using hk1
def qtF (c : Ce) (x : Nat) (q : Int32) : Int32 := if flC c (nI x) = false then q else if vC c (nI x) 4 - figC c 8 - 1 < q then vC c (nI x) 4 - figC c 8 - 1 else q
def qtC (c : Ce) : Int32 := foldTo (qtF c) 200 32
def f_quietTicks (M : Mm) : Option Rs := some (.inl (some (.int (qtC (M.1 0))), M))
theorem p_quietTicks (ad : Nat → Nat) (M : Mm) (r : Rs) (h : f_quietTicks M = some r) : T_X3_quietTicks_0 ad r (sp_I f_figure) (sp_II f_value) (sp_I f_hasFailed) [some (.ref (ad 0)), none, none] [] M := by
  cases h
  simp only [T_X3_quietTicks_0, tt_c, tt_lc, tt_il, tt_ll, tt_al, tt_is, tt_lsv, tt_as, tt_inc, tt_add, tt_sub, tt_mul, tt_and, tt_ladd, tt_lmul, tt_i2l, tt_lcmp, tt_dupr, tt_dup2, tt_eq0, tt_lt0, tt_le0, tt_ge0, tt_gt0, tt_eq2, tt_lt2, tt_ge2, tt_gt2, tt_le2, tt_gr, tt_gi, tt_pi, tt_gl, tt_pl, tt_ia, tt_st, tt_ir, tt_zr, tt_lr, tt_vr, tt_cv, tt_cs, tt_max, tt_min, tt_rem, tt_xor, tt_len, tt_cp, tt_thr, tt_xv, tt_xs, k_sv, k_cl, k_kz, List.getElem?_cons_zero, List.getElem?_cons_succ, List.drop_succ_cons, List.drop_zero, List.take_succ_cons, List.take_zero, List.reverse_cons, List.reverse_nil, List.nil_append, List.cons_append, List.length_cons, List.length_nil, Option.toList_some, Option.toList_none, Nat.reduceAdd, Nat.reduceLeDiff, true_and, and_true, sp_I, sp_II, sp_III, sp_JI, sp_JJ, sp_R2, sp_R5I, sp_V]
  refine lp_of (σ := Nat) (fun j => j ≤ 32) (fun j => [some (.ref (ad 0)), some (.int (foldTo (qtF (M.1 0)) 200 j)), some (.int (nI j))]) (fun j => M) (fun j => 32 - j) ?_ 0 (by omega)
  intro k j hj hk
  simp only [T_X3_quietTicks_46, T_X3_quietTicks_6, T_X3_quietTicks_0, tt_c, tt_lc, tt_il, tt_ll, tt_al, tt_is, tt_lsv, tt_as, tt_inc, tt_add, tt_sub, tt_mul, tt_and, tt_ladd, tt_lmul, tt_i2l, tt_lcmp, tt_dupr, tt_dup2, tt_eq0, tt_lt0, tt_le0, tt_ge0, tt_gt0, tt_eq2, tt_lt2, tt_ge2, tt_gt2, tt_le2, tt_gr, tt_gi, tt_pi, tt_gl, tt_pl, tt_ia, tt_st, tt_ir, tt_zr, tt_lr, tt_vr, tt_cv, tt_cs, tt_max, tt_min, tt_rem, tt_xor, tt_len, tt_cp, tt_thr, tt_xv, tt_xs, k_sv, k_cl, k_kz, List.getElem?_cons_zero, List.getElem?_cons_succ, List.drop_succ_cons, List.drop_zero, List.take_succ_cons, List.take_zero, List.reverse_cons, List.reverse_nil, List.nil_append, List.cons_append, List.length_cons, List.length_nil, Option.toList_some, Option.toList_none, Nat.reduceAdd, Nat.reduceLeDiff, true_and, and_true, sp_I, sp_II, sp_III, sp_JI, sp_JJ, sp_R2, sp_R5I, sp_V, f_figure, f_value, f_hasFailed, bI_0, ge32 hj]
  refine ⟨fun c1 => ?_, fun c1 => ?_⟩
  · subst c1
    rfl
  · have hk1 := hk (j + 1) (by omega) (by omega)
    simp only [foldTo, nI_succ] at hk1
    generalize foldTo (qtF (M.1 0)) 200 j = q at hk1 ⊢
    simp only [qtF] at hk1
    refine ⟨fun c2 => ?_, fun c2 => ?_⟩ <;> simpa [c2] using hk1
def rb1 (c : Ce) (x b : Int32) : Ce := afC (svC c x 7 (vC c x 7 + pcC c x * b)) 2 (pcC c x * b)
def rbC (c : Ce) (x b : Int32) : Ce := if pcC c x < 3 then (if flC (rb1 c x b) x = true then rb1 c x b else afC (svC (rb1 c x b) x 9 (vC (rb1 c x b) x 9 + b)) 4 b) else afC (svC (rb1 c x b) x 8 (vC (rb1 c x b) x 8 + b)) 3 b
def rbI (c : Ce) (x b : Int32) : Int32 := if pcC c x < 3 then (if flC (rb1 c x b) x = true then 0 else b) else 0
def f_receiveBlocks (x b : Int32) (M : Mm) : Option Rs := some (.inl (some (.int (rbI (M.1 0) x b)), k_r0 M (rbC (M.1 0) x b)))
theorem p_receiveBlocks (ad : Nat → Nat) (x0 x1 : Int32) (M : Mm) (r : Rs) (h : f_receiveBlocks x0 x1 M = some r) : T_X3_receiveBlocks_0 ad r (sp_II f_addToFigure) (sp_III f_addToValue) (sp_I f_piecesOf) (sp_I f_hasFailed) [some (.ref (ad 0)), some (.int x0), some (.int x1), none] [] M := by
  cases h
  simp only [T_X3_receiveBlocks_0, tt_c, tt_lc, tt_il, tt_ll, tt_al, tt_is, tt_lsv, tt_as, tt_inc, tt_add, tt_sub, tt_mul, tt_and, tt_ladd, tt_lmul, tt_i2l, tt_lcmp, tt_dupr, tt_dup2, tt_eq0, tt_lt0, tt_le0, tt_ge0, tt_gt0, tt_eq2, tt_lt2, tt_ge2, tt_gt2, tt_le2, tt_gr, tt_gi, tt_pi, tt_gl, tt_pl, tt_ia, tt_st, tt_ir, tt_zr, tt_lr, tt_vr, tt_cv, tt_cs, tt_max, tt_min, tt_rem, tt_xor, tt_len, tt_cp, tt_thr, tt_xv, tt_xs, k_sv, k_cl, k_kz, List.getElem?_cons_zero, List.getElem?_cons_succ, List.drop_succ_cons, List.drop_zero, List.take_succ_cons, List.take_zero, List.reverse_cons, List.reverse_nil, List.nil_append, List.cons_append, List.length_cons, List.length_nil, Option.toList_some, Option.toList_none, Nat.reduceAdd, Nat.reduceLeDiff, true_and, and_true, sp_I, sp_II, sp_III, sp_JI, sp_JJ, sp_R2, sp_R5I, sp_V, f_addToFigure, f_addToValue, f_piecesOf, f_hasFailed, bI_0, k_r0_0, k_r0_r]
  refine ⟨fun c1 => ⟨fun c2 => ?_, fun c2 => ?_⟩, fun c1 => ?_⟩
  · change flC (rb1 (M.1 0) x0 x1) x0 = false at c2
    simp only [rbI, rbC, c1, c2, if_true, if_false, Bool.false_eq_true]
    rfl
  · change ¬ flC (rb1 (M.1 0) x0 x1) x0 = false at c2
    simp only [Bool.not_eq_false] at c2
    simp only [rbI, rbC, c1, c2, if_true]
    rfl
  · simp only [rbI, rbC, c1, if_false]
    rfl
/-- (missed, cells) -/
def sbF (b : Int32) (x : Nat) (q : Int32 × Ce) : Int32 × Ce := if jnC q.2 (nI x) = true then (q.1 + rbI q.2 (nI x) b, rbC q.2 (nI x) b) else q
def sbC (c : Ce) (b : Int32) : Int32 × Ce := fold2 (sbF b) (0, afC c 1 b) 32
def f_sendBlocks (b : Int32) (M : Mm) : Option Rs := some (.inl (some (.int (sbC (M.1 0) b).1), k_r0 M (sbC (M.1 0) b).2))
theorem p_sendBlocks (ad : Nat → Nat) (x0 : Int32) (M : Mm) (r : Rs) (h : f_sendBlocks x0 M = some r) : T_X3_sendBlocks_0 ad r (sp_II f_addToFigure) (sp_I f_isJoined) (sp_II f_receiveBlocks) [some (.ref (ad 0)), some (.int x0), none, none] [] M := by
  cases h
  simp only [T_X3_sendBlocks_0, tt_c, tt_lc, tt_il, tt_ll, tt_al, tt_is, tt_lsv, tt_as, tt_inc, tt_add, tt_sub, tt_mul, tt_and, tt_ladd, tt_lmul, tt_i2l, tt_lcmp, tt_dupr, tt_dup2, tt_eq0, tt_lt0, tt_le0, tt_ge0, tt_gt0, tt_eq2, tt_lt2, tt_ge2, tt_gt2, tt_le2, tt_gr, tt_gi, tt_pi, tt_gl, tt_pl, tt_ia, tt_st, tt_ir, tt_zr, tt_lr, tt_vr, tt_cv, tt_cs, tt_max, tt_min, tt_rem, tt_xor, tt_len, tt_cp, tt_thr, tt_xv, tt_xs, k_sv, k_cl, k_kz, List.getElem?_cons_zero, List.getElem?_cons_succ, List.drop_succ_cons, List.drop_zero, List.take_succ_cons, List.take_zero, List.reverse_cons, List.reverse_nil, List.nil_append, List.cons_append, List.length_cons, List.length_nil, Option.toList_some, Option.toList_none, Nat.reduceAdd, Nat.reduceLeDiff, true_and, and_true, sp_I, sp_II, sp_III, sp_JI, sp_JJ, sp_R2, sp_R5I, sp_V, f_addToFigure]
  refine lp_of (σ := Nat) (fun j => j ≤ 32) (fun j => [some (.ref (ad 0)), some (.int x0), some (.int (fold2 (sbF x0) (0, afC (M.1 0) 1 x0) j).1), some (.int (nI j))]) (fun j => k_r0 M (fold2 (sbF x0) (0, afC (M.1 0) 1 x0) j).2) (fun j => 32 - j) ?_ 0 (by omega)
  intro k j hj hk
  simp only [T_X3_sendBlocks_36, T_X3_sendBlocks_13, T_X3_sendBlocks_0, tt_c, tt_lc, tt_il, tt_ll, tt_al, tt_is, tt_lsv, tt_as, tt_inc, tt_add, tt_sub, tt_mul, tt_and, tt_ladd, tt_lmul, tt_i2l, tt_lcmp, tt_dupr, tt_dup2, tt_eq0, tt_lt0, tt_le0, tt_ge0, tt_gt0, tt_eq2, tt_lt2, tt_ge2, tt_gt2, tt_le2, tt_gr, tt_gi, tt_pi, tt_gl, tt_pl, tt_ia, tt_st, tt_ir, tt_zr, tt_lr, tt_vr, tt_cv, tt_cs, tt_max, tt_min, tt_rem, tt_xor, tt_len, tt_cp, tt_thr, tt_xv, tt_xs, k_sv, k_cl, k_kz, List.getElem?_cons_zero, List.getElem?_cons_succ, List.drop_succ_cons, List.drop_zero, List.take_succ_cons, List.take_zero, List.reverse_cons, List.reverse_nil, List.nil_append, List.cons_append, List.length_cons, List.length_nil, Option.toList_some, Option.toList_none, Nat.reduceAdd, Nat.reduceLeDiff, true_and, and_true, sp_I, sp_II, sp_III, sp_JI, sp_JJ, sp_R2, sp_R5I, sp_V, f_isJoined, f_receiveBlocks, bI_0, k_r0_0, k_r0_r, ge32 hj]
  refine ⟨fun c1 => ?_, fun c1 => ?_⟩
  · subst c1
    rfl
  · have hk1 := hk (j + 1) (by omega) (by omega)
    simp only [fold2, nI_succ] at hk1
    generalize fold2 (sbF x0) (0, afC (M.1 0) 1 x0) j = q at hk1 ⊢
    simp only [sbF] at hk1
    refine ⟨fun c2 => ?_, fun c2 => ?_⟩ <;> simpa [*] using hk1
/-- how many blocks go at once: at cells c, with so many ticks left -/
def alC (c : Ce) (l : Int32) : Int32 := if 1 < (if 1 + qtC c < l then 1 + qtC c else l) then (if 1 + qtC c < l then 1 + qtC c else l) else 1
def tkGo : Nat → Int32 → Int32 → Ce → Int32 × Ce
  | 0, _, m, c => (m, c)
  | n + 1, l, m, c => if l ≤ 0 then (m, c) else
    tkGo n (l - alC (nfC (afC c 8 1)) l) (m + (sbC (nfC (afC c 8 1)) (alC (nfC (afC c 8 1)) l)).1) (afC (sbC (nfC (afC c 8 1)) (alC (nfC (afC c 8 1)) l)).2 8 (alC (nfC (afC c 8 1)) l - 1))
def tkC (c : Ce) (n : Int32) : Int32 × Ce := tkGo 200 n 0 c
theorem alC_le {c : Ce} {l : Int32} (h : ¬ l ≤ 0) : 1 ≤ (alC c l).toInt ∧ (alC c l).toInt ≤ l.toInt := by
  have h0 : (0 : Int32).toInt < l.toInt := Int32.lt_iff_toInt_lt.mp (Int32.not_le.mp h)
  rw [Int32.toInt_zero] at h0
  have e1 : (1 : Int32).toInt = 1 := rfl
  unfold alC
  generalize 1 + qtC c = y
  by_cases c1 : y < l
  · rw [if_pos c1]
    have c1' := Int32.lt_iff_toInt_lt.mp c1
    by_cases c2 : 1 < y
    · rw [if_pos c2]
      have c2' := Int32.lt_iff_toInt_lt.mp c2
      omega
    · rw [if_neg c2]
      omega
  · rw [if_neg c1]
    by_cases c2 : 1 < l
    · rw [if_pos c2]
      have c2' := Int32.lt_iff_toInt_lt.mp c2
      omega
    · rw [if_neg c2]
      omega
theorem k_subI {a b : Int32} (h1 : 1 ≤ b.toInt) (h2 : b.toInt ≤ a.toInt) : (a - b).toInt = a.toInt - b.toInt := by
  have h3 := Int32.toInt_lt a
  rw [Int32.toInt_sub]
  exact Int.bmod_eq_of_le (by omega) (by omega)
def f_tick (n : Int32) (M : Mm) : Option Rs := if bR n 1 200 = true then some (.inr (k_IAE, M)) else some (.inl (some (.int (tkC (M.1 0) n).1), k_r0 (psM M) (tkC (M.1 0) n).2))
theorem p_tick (ad : Nat → Nat) (x0 : Int32) (M : Mm) (r : Rs) (h : f_tick x0 M = some r) : T_X3_tick_0 ad r (sp_II f_addToFigure) (sp_R2 ad f_push) (sp_V f_noticeFailures) (sp_V f_quietTicks) (sp_III f_requireRange) (sp_I f_sendBlocks) [some (.ref (ad 0)), some (.int x0), none, none, none] [] M := by
  simp only [T_X3_tick_0, tt_c, tt_lc, tt_il, tt_ll, tt_al, tt_is, tt_lsv, tt_as, tt_inc, tt_add, tt_sub, tt_mul, tt_and, tt_ladd, tt_lmul, tt_i2l, tt_lcmp, tt_dupr, tt_dup2, tt_eq0, tt_lt0, tt_le0, tt_ge0, tt_gt0, tt_eq2, tt_lt2, tt_ge2, tt_gt2, tt_le2, tt_gr, tt_gi, tt_pi, tt_gl, tt_pl, tt_ia, tt_st, tt_ir, tt_zr, tt_lr, tt_vr, tt_cv, tt_cs, tt_max, tt_min, tt_rem, tt_xor, tt_len, tt_cp, tt_thr, tt_xv, tt_xs, k_sv, k_cl, k_kz, List.getElem?_cons_zero, List.getElem?_cons_succ, List.drop_succ_cons, List.drop_zero, List.take_succ_cons, List.take_zero, List.reverse_cons, List.reverse_nil, List.nil_append, List.cons_append, List.length_cons, List.length_nil, Option.toList_some, Option.toList_none, Nat.reduceAdd, Nat.reduceLeDiff, true_and, and_true, sp_I, sp_II, sp_III, sp_JI, sp_JJ, sp_R2, sp_R5I, sp_V, f_push_eq, f_requireRange, if_true]
  by_cases c1 : bR x0 1 200 = true
  · simp [f_tick, c1] at h ⊢
    simp [h]
  · have c1' := c1
    simp only [bR, Bool.or_eq_true, decide_eq_true_eq, not_or, Decidable.not_not] at c1'
    have hx := Int32.le_iff_toInt_le.mp c1'.2
    have e200 : (200 : Int32).toInt = 200 := rfl
    simp only [f_tick, c1, if_false, Bool.false_eq_true, Option.some.injEq] at h
    subst h
    simp only [c1, if_false, Bool.false_eq_true, tt_c, tt_lc, tt_il, tt_ll, tt_al, tt_is, tt_lsv, tt_as, tt_inc, tt_add, tt_sub, tt_mul, tt_and, tt_ladd, tt_lmul, tt_i2l, tt_lcmp, tt_dupr, tt_dup2, tt_eq0, tt_lt0, tt_le0, tt_ge0, tt_gt0, tt_eq2, tt_lt2, tt_ge2, tt_gt2, tt_le2, tt_gr, tt_gi, tt_pi, tt_gl, tt_pl, tt_ia, tt_st, tt_ir, tt_zr, tt_lr, tt_vr, tt_cv, tt_cs, tt_max, tt_min, tt_rem, tt_xor, tt_len, tt_cp, tt_thr, tt_xv, tt_xs, k_sv, k_cl, k_kz, List.getElem?_cons_zero, List.getElem?_cons_succ, List.drop_succ_cons, List.drop_zero, List.take_succ_cons, List.take_zero, List.reverse_cons, List.reverse_nil, List.nil_append, List.cons_append, List.length_cons, List.length_nil, Option.toList_some, Option.toList_none, Nat.reduceAdd, Nat.reduceLeDiff, true_and, and_true, sp_I, sp_II, sp_III, sp_JI, sp_JJ, sp_R2, sp_R5I, sp_V]
    refine k_eqM (M1 := k_r0 (psM M) (M.1 0)) (by rw [← psM_0, k_r0_s]) (lp_of (σ := Nat × Int32 × Int32 × Int32 × Ce) (fun q => q.2.2.1.toInt.toNat ≤ q.1 ∧ tkGo q.1 q.2.2.1 q.2.2.2.1 q.2.2.2.2 = tkC (M.1 0) x0) (fun q => [some (.ref (ad 0)), some (.int x0), some (.int q.2.2.2.1), some (.int q.2.1), some (.int q.2.2.1)]) (fun q => k_r0 (psM M) q.2.2.2.2) (fun q => q.2.2.1.toInt.toNat) ?_ (200, 1, x0, 0, M.1 0) ⟨by dsimp only; omega, rfl⟩)
    rintro k ⟨n, a, l, m, c⟩ ⟨hn, hd⟩ hk
    dsimp only at hn hd
    simp only [tt_c, tt_lc, tt_il, tt_ll, tt_al, tt_is, tt_lsv, tt_as, tt_inc, tt_add, tt_sub, tt_mul, tt_and, tt_ladd, tt_lmul, tt_i2l, tt_lcmp, tt_dupr, tt_dup2, tt_eq0, tt_lt0, tt_le0, tt_ge0, tt_gt0, tt_eq2, tt_lt2, tt_ge2, tt_gt2, tt_le2, tt_gr, tt_gi, tt_pi, tt_gl, tt_pl, tt_ia, tt_st, tt_ir, tt_zr, tt_lr, tt_vr, tt_cv, tt_cs, tt_max, tt_min, tt_rem, tt_xor, tt_len, tt_cp, tt_thr, tt_xv, tt_xs, k_sv, k_cl, k_kz, List.getElem?_cons_zero, List.getElem?_cons_succ, List.drop_succ_cons, List.drop_zero, List.take_succ_cons, List.take_zero, List.reverse_cons, List.reverse_nil, List.nil_append, List.cons_append, List.length_cons, List.length_nil, Option.toList_some, Option.toList_none, Nat.reduceAdd, Nat.reduceLeDiff, true_and, and_true, sp_I, sp_II, sp_III, sp_JI, sp_JJ, sp_R2, sp_R5I, sp_V, f_addToFigure, f_noticeFailures, f_quietTicks, f_sendBlocks, k_r0_0, k_r0_r]
    refine ⟨fun c2 => ?_, fun c2 => ?_⟩
    · have : tkGo n l m c = (m, c) := by
        cases n with
        | zero => rfl
        | succ n => rw [tkGo, if_pos c2]
      rw [← hd, this]
    · have h0 : (0 : Int32).toInt < l.toInt := Int32.lt_iff_toInt_lt.mp (Int32.not_le.mp c2)
      rw [Int32.toInt_zero] at h0
      obtain ⟨n, rfl⟩ : ∃ n', n = n' + 1 := ⟨n - 1, by omega⟩
      rw [tkGo, if_neg c2] at hd
      obtain ⟨h1, h2⟩ := alC_le (c := nfC (afC c 8 1)) c2
      have h3 := k_subI h1 h2
      have := hk (n, alC (nfC (afC c 8 1)) l, l - alC (nfC (afC c 8 1)) l, _, _) ⟨by dsimp only; omega, hd⟩ (by dsimp only; omega)
      simp only [alC] at this
      exact this
